/-! TOTALITY of the reference, by program (wip/gen/totm.py) -/
set_option maxHeartbeats 4000000 in
set_option maxRecDepth 100000 in
theorem t_X11_in {μs : Mm} {l0 : Int} {l1 : Int} {l2 : Int}  (hp_l0 : -2147483648 ≤ l0 ∧ l0 ≤ 2147483647) (hp_l1 : -2147483648 ≤ l1 ∧ l1 ≤ 2147483647) (hp_l2 : -2147483648 ≤ l2 ∧ l2 ≤ 2147483647) {μ : Mm} (hS : Sm μs μ) : wp (X11_in l0 l1 l2 μ) (fun r μ' => μ' = μ ∧ (0 ≤ r ∧ r ≤ 1) ∧ ((r = 0 ∧ (l0 < l1 ∨ l2 < l0)) ∨ (r = 1 ∧ l1 ≤ l0 ∧ l0 ≤ l2))) := by
  have hFU := FU_v
  unfold X11_in
  refine wp_if (fun g1 => ?_) (fun g1 => ?_)
  · exact ⟨rfl, (by omega), (by show ((0 = 0 ∧ (l0 < l1 ∨ l2 < l0)) ∨ (0 = 1 ∧ l1 ≤ l0 ∧ l0 ≤ l2)); exact (by omega))⟩
  · refine wp_if (fun g2 => ?_) (fun g2 => ?_)
    · exact ⟨rfl, (by omega), (by show ((0 = 0 ∧ (l0 < l1 ∨ l2 < l0)) ∨ (0 = 1 ∧ l1 ≤ l0 ∧ l0 ≤ l2)); exact (by omega))⟩
    · exact ⟨rfl, (by omega), (by show ((1 = 0 ∧ (l0 < l1 ∨ l2 < l0)) ∨ (1 = 1 ∧ l1 ≤ l0 ∧ l0 ≤ l2)); exact (by omega))⟩
set_option maxHeartbeats 4000000 in
set_option maxRecDepth 100000 in
theorem t_X11_has {μs : Mm} {l0 : Int} {l1 : Int}  (hp_l0 : -2147483648 ≤ l0 ∧ l0 ≤ 2147483647) (hp_l1 : -2147483648 ≤ l1 ∧ l1 ≤ 2147483647) {μ : Mm} (hS : Sm μs μ) : wp (X11_has l0 l1 μ) (fun r μ' => μ' = μ ∧ (0 ≤ r ∧ r ≤ 1) ∧ (r = 0 ∨ bA (bR l0 l1) 1 = 1)) := by
  have hFU := FU_v
  unfold X11_has
  refine wp_if (fun g1 => ?_) (fun g1 => ?_)
  · exact ⟨rfl, (by have := bR_r l0 l1; have := bA_r (bR l0 l1) 1; omega), (by show (1 = 0 ∨ bA (bR l0 l1) 1 = 1); exact (by have := bR_r l0 l1; have := bA_r (bR l0 l1) 1; omega))⟩
  · exact ⟨rfl, (by have := bR_r l0 l1; have := bA_r (bR l0 l1) 1; omega), (by show (0 = 0 ∨ bA (bR l0 l1) 1 = 1); exact (by have := bR_r l0 l1; have := bA_r (bR l0 l1) 1; omega))⟩
set_option maxHeartbeats 4000000 in
set_option maxRecDepth 100000 in
theorem t_X11_isPlace {μs : Mm} {l1 : Int}  (hp_l1 : -2147483648 ≤ l1 ∧ l1 ≤ 2147483647) {μ : Mm} (hS : Sm μs μ) : wp (X11_isPlace l1 μ) (fun r μ' => μ' = μ ∧ (0 ≤ r ∧ r ≤ 1) ∧ (r = 0 ∨ (0 ≤ l1 ∧ l1 ≤ 59))) := by
  have hFU := FU_v
  unfold X11_isPlace
  refine wp_if (fun g1 => ?_) (fun g1 => ?_)
  · exact ⟨rfl, (by omega), (by show (0 = 0 ∨ (0 ≤ l1 ∧ l1 ≤ 59)); exact (by omega))⟩
  · refine wp_if (fun g2 => ?_) (fun g2 => ?_)
    · exact ⟨rfl, (by have := gO_11_23 hS; have := eqS hS (j := 23) (k := 70) (by unfold scrM; omega); have := iD_10 l1 (by omega); omega), (by show (0 = 0 ∨ (0 ≤ l1 ∧ l1 ≤ 59)); exact (by have := gO_11_23 hS; have := eqS hS (j := 23) (k := 70) (by unfold scrM; omega); have := iD_10 l1 (by omega); omega))⟩
    · refine wp_if (fun g3 => ?_) (fun g3 => ?_)
      · exact ⟨rfl, (by have := gO_11_23 hS; have := eqS hS (j := 23) (k := 70) (by unfold scrM; omega); have := gO_11_24 hS; have := eqS hS (j := 24) (k := 70) (by unfold scrM; omega); have := iD_10 l1 (by omega); have := iR_10 l1 (by omega); omega), (by show (0 = 0 ∨ (0 ≤ l1 ∧ l1 ≤ 59)); exact (by have := gO_11_23 hS; have := eqS hS (j := 23) (k := 70) (by unfold scrM; omega); have := gO_11_24 hS; have := eqS hS (j := 24) (k := 70) (by unfold scrM; omega); have := iD_10 l1 (by omega); have := iR_10 l1 (by omega); omega))⟩
      · exact ⟨rfl, (by have := gO_11_23 hS; have := eqS hS (j := 23) (k := 70) (by unfold scrM; omega); have := gO_11_24 hS; have := eqS hS (j := 24) (k := 70) (by unfold scrM; omega); have := iD_10 l1 (by omega); have := iR_10 l1 (by omega); omega), (by show (1 = 0 ∨ (0 ≤ l1 ∧ l1 ≤ 59)); exact (by have := gO_11_23 hS; have := eqS hS (j := 23) (k := 70) (by unfold scrM; omega); have := gO_11_24 hS; have := eqS hS (j := 24) (k := 70) (by unfold scrM; omega); have := iD_10 l1 (by omega); have := iR_10 l1 (by omega); omega))⟩
set_option maxHeartbeats 4000000 in
set_option maxRecDepth 100000 in
theorem t_X11_placeOf_L4 {μs : Mm} {l1 : Int}  (hp_l1 : -2147483648 ≤ l1 ∧ l1 ≤ 2147483647) {μ : Mm} (hS : Sm μs μ) {Q : Int → Mm → Prop} (hQ : ∀ r, (-1 ≤ r ∧ r ≤ 59) → True → Q r μ) : ∀ (n : Nat) {l2 l3 : Int} , (-1 ≤ l2 ∧ l2 ≤ 59) → (0 ≤ l3 ∧ l3 ≤ 60) → True → 60 - l3 + 1 ≤ ((n : Nat) : Int) → wp (X11_placeOf_L4 l1 n l2 l3 μ) Q := by
  have hFU := FU_v
  intro n
  induction n with
  | zero => intro l2 l3 hv_l2 hv_l3 hi hm; exact absurd hm (by  have : ((0 : Nat) : Int) = 0 := rfl; omega)
  | succ n ih =>
    intro l2 l3 hv_l2 hv_l3 hi hm
    have hn1 : ((n + 1 : Nat) : Int) = ((n : Nat) : Int) + 1 := rfl
    rw [X11_placeOf_L4]
    refine wp_if (fun g7 => ?_) (fun g7 => ?_)
    · exact hQ _ (by omega) trivial
    · refine wp_calls (t_X11_isPlace (l1 := l3)  (by omega) hS) (fun v8 hh => ?_)
      obtain ⟨hr9, hp9⟩ := hh
      refine wp_if (fun g11 => ?_) (fun g11 => ?_)
      · exact ih  (by omega) (by have := iA_c l3 1; omega) trivial (by have := iA_c l3 1; omega)
      · refine wp_ldv (by have na0 : ((aN 82 : Nat) : Int) = 60 := rfl; omega) (fun v12 q13 => ?_)
        have hrv12 := gA_11_12 hS (l3).toNat
        replace hrv12 : 0 ≤ v12 ∧ v12 ≤ 10 := by rw [q13]; exact hrv12
        refine wp_if (fun g14 => ?_) (fun g14 => ?_)
        · exact ih  (by omega) (by have := iA_c l3 1; omega) trivial (by have := iA_c l3 1; omega)
        · exact ih  (by omega) (by have := iA_c l3 1; omega) trivial (by have := iA_c l3 1; omega)
set_option maxHeartbeats 4000000 in
set_option maxRecDepth 100000 in
theorem t_X11_placeOf {μs : Mm} {l1 : Int}  (hp_l1 : -2147483648 ≤ l1 ∧ l1 ≤ 2147483647) {μ : Mm} (hS : Sm μs μ) : wp (X11_placeOf l1 μ) (fun r μ' => μ' = μ ∧ (-1 ≤ r ∧ r ≤ 59) ∧ True) := by
  have hFU := FU_v
  unfold X11_placeOf
  exact t_X11_placeOf_L4 (l1 := l1) (l2 := (-1)) (l3 := 0)  (by omega) hS (fun r_ hr_ hp_ => by exact ⟨rfl, (by omega), trivial⟩) FU  (by omega) (by omega) trivial (by omega)
set_option maxHeartbeats 4000000 in
set_option maxRecDepth 100000 in
theorem t_X11_isCrank {μs : Mm} {l1 : Int}  (hp_l1 : -2147483648 ≤ l1 ∧ l1 ≤ 2147483647) {μ : Mm} (hS : Sm μs μ) : wp (X11_isCrank l1 μ) (fun r μ' => μ' = μ ∧ (0 ≤ r ∧ r ≤ 1) ∧ (r = 0 ∨ (0 ≤ l1 ∧ l1 ≤ 7))) := by
  have hFU := FU_v
  unfold X11_isCrank
  refine wp_calls (t_X11_in (l0 := l1) (l1 := 0) (l2 := 7)  (by omega) (by omega) (by omega) hS) (fun v5 hh => ?_)
  obtain ⟨hr6, hp6⟩ := hh
  refine wp_if (fun g9 => ?_) (fun g9 => ?_)
  · exact ⟨rfl, (by omega), (by show (0 = 0 ∨ (0 ≤ l1 ∧ l1 ≤ 7)); exact (by omega))⟩
  · refine wp_calls (t_X11_placeOf (l1 := (iA 3 l1))  (by have := iA_c 3 l1; omega) hS) (fun v10 hh => ?_)
    obtain ⟨hr11, hp11⟩ := hh
    refine wp_if (fun g12 => ?_) (fun g12 => ?_)
    · exact ⟨rfl, (by omega), (by show (0 = 0 ∨ (0 ≤ l1 ∧ l1 ≤ 7)); exact (by omega))⟩
    · exact ⟨rfl, (by omega), (by show (1 = 0 ∨ (0 ≤ l1 ∧ l1 ≤ 7)); exact (by omega))⟩
set_option maxHeartbeats 4000000 in
set_option maxRecDepth 100000 in
theorem t_X11_at {μs : Mm} {l1 : Int}  (hp_l1 : -2147483648 ≤ l1 ∧ l1 ≤ 2147483647) {μ : Mm} (hS : Sm μs μ) : wp (X11_at l1 μ) (fun r μ' => μ' = μ ∧ (-2147483648 ≤ r ∧ r ≤ 2147483647) ∧ True) := by
  have hFU := FU_v
  unfold X11_at
  refine wp_calls (t_X11_isPlace (l1 := l1)  (by omega) hS) (fun v4 hh => ?_)
  obtain ⟨hr5, hp5⟩ := hh
  refine wp_if (fun g7 => ?_) (fun g7 => ?_)
  · exact ⟨rfl, (by omega), trivial⟩
  · refine wp_ldv (by have na0 : ((aN 82 : Nat) : Int) = 60 := rfl; omega) (fun v8 q9 => ?_)
    have hrv8 := gA_11_12 hS (l1).toNat
    replace hrv8 : 0 ≤ v8 ∧ v8 ≤ 10 := by rw [q9]; exact hrv8
    exact ⟨rfl, (by omega), trivial⟩
set_option maxHeartbeats 4000000 in
set_option maxRecDepth 100000 in
theorem t_X11_isOpen {μs : Mm} {l1 : Int}  (hp_l1 : -2147483648 ≤ l1 ∧ l1 ≤ 2147483647) {μ : Mm} (hS : Sm μs μ) : wp (X11_isOpen l1 μ) (fun r μ' => μ' = μ ∧ (0 ≤ r ∧ r ≤ 1) ∧ (r = 0 ∨ (0 ≤ l1 ∧ l1 ≤ 59))) := by
  have hFU := FU_v
  unfold X11_isOpen
  refine wp_calls (t_X11_isPlace (l1 := l1)  (by omega) hS) (fun v4 hh => ?_)
  obtain ⟨hr5, hp5⟩ := hh
  refine wp_if (fun g7 => ?_) (fun g7 => ?_)
  · exact ⟨rfl, (by omega), (by show (0 = 0 ∨ (0 ≤ l1 ∧ l1 ≤ 59)); exact (by omega))⟩
  · refine wp_ldv (by have na0 : ((aN 82 : Nat) : Int) = 60 := rfl; omega) (fun v8 q9 => ?_)
    have hrv8 := gA_11_12 hS (l1).toNat
    replace hrv8 : 0 ≤ v8 ∧ v8 ≤ 10 := by rw [q9]; exact hrv8
    refine wp_if (fun g10 => ?_) (fun g10 => ?_)
    · exact ⟨rfl, (by omega), (by show (0 = 0 ∨ (0 ≤ l1 ∧ l1 ≤ 59)); exact (by omega))⟩
    · exact ⟨rfl, (by omega), (by show (1 = 0 ∨ (0 ≤ l1 ∧ l1 ≤ 59)); exact (by omega))⟩
set_option maxHeartbeats 4000000 in
set_option maxRecDepth 100000 in
theorem t_X11_isPlay {μs : Mm} {l1 : Int}  (hp_l1 : -2147483648 ≤ l1 ∧ l1 ≤ 2147483647) {μ : Mm} (hS : Sm μs μ) : wp (X11_isPlay l1 μ) (fun r μ' => μ' = μ ∧ (0 ≤ r ∧ r ≤ 1) ∧ (r = 0 ∨ (0 ≤ l1 ∧ l1 ≤ 4 ∧ l1 < μs 70 28))) := by
  have hFU := FU_v
  unfold X11_isPlay
  refine wp_calls (t_X11_in (l0 := l1) (l1 := 0) (l2 := (iS (μ 70 28) 1))  (by omega) (by omega) (by have := gO_11_28 hS; have := eqS hS (j := 28) (k := 70) (by unfold scrM; omega); have := iS_c (μ 70 28) 1; omega) hS) (fun v3 hh => ?_)
  obtain ⟨hr4, hp4⟩ := hh
  refine wp_rZv (by have := gO_11_28 hS; have := eqS hS (j := 28) (k := 70) (by unfold scrM; omega); have := iS_c (μ 70 28) 1; omega) ?_
  exact ⟨rfl, (by have := gO_11_28 hS; have := eqS hS (j := 28) (k := 70) (by unfold scrM; omega); have := iS_c (μ 70 28) 1; omega), (by show (v3 = 0 ∨ (0 ≤ l1 ∧ l1 ≤ 4 ∧ l1 < μs 70 28)); exact (by have := gO_11_28 hS; have := eqS hS (j := 28) (k := 70) (by unfold scrM; omega); have := iS_c (μ 70 28) 1; omega))⟩
