/-! TOTALITY of the class, by program (wip/gen/tot.py) -/
set_option maxHeartbeats 4000000 in
set_option maxRecDepth 100000 in
theorem t_X2_term_L10 {W : Nat → Nat → Prop} {μs : Mm} {l1 : Int} (hW : ∀ k j, scr k j → W k j) {N : Int} {rec : Int → Mm → Rs} (hrec : ∀ (l1 : Int) (μ : Mm), St W μs μ → (0 ≤ l1 ∧ l1 ≤ 6) → 7 ≤ l1 + N → wp (rec l1 μ) (fun r μ' => St W μs μ' ∧ (-2147483648 ≤ r ∧ r ≤ 2147483647) ∧ True))  (hp_l1 : 0 ≤ l1 ∧ l1 ≤ 6) (hl : 6 ≤ l1 + N) {Q : Int → Mm → Prop} (hQ : ∀ r μ, St W μs μ → (-2147483648 ≤ r ∧ r ≤ 2147483647) → True → Q r μ) : ∀ (n : Nat) {l2 l4 : Int} {μ : Mm}, St W μs μ → (-2147483648 ≤ l2 ∧ l2 ≤ 2147483647) → (0 ≤ l4 ∧ l4 ≤ 160) → True → 160 - l4 + 1 ≤ ((n : Nat) : Int) → wp (X2_term_L10 rec l1 n l2 l4 μ) Q := by
  have hFU := FU_v
  intro n
  induction n with
  | zero => intro l2 l4 μ hS hv_l2 hv_l4 hi hm; exact absurd hm (by  have : ((0 : Nat) : Int) = 0 := rfl; omega)
  | succ n ih =>
    intro l2 l4 μ hS hv_l2 hv_l4 hi hm
    have hn1 : ((n + 1 : Nat) : Int) = ((n : Nat) : Int) + 1 := rfl
    rw [X2_term_L10]
    refine wp_if (fun g25 => ?_) (fun g25 => ?_)
    · exact hQ _ _ hS (by have := wI_c l2; omega) trivial
    · refine wp_call (t_X4_take (l1 := 42) hW (by omega) hS) (fun v26 m27 hh => ?_)
      obtain ⟨h27, hr27, hp27⟩ := hh
      refine wp_if (fun g38 => ?_) (fun g38 => ?_)
      · refine wp_call (t_X4_take (l1 := 47) hW (by omega) h27) (fun v39 m40 hh => ?_)
        obtain ⟨h40, hr40, hp40⟩ := hh
        refine wp_if (fun g45 => ?_) (fun g45 => ?_)
        · exact hQ _ _ h40 (by have := wI_c l2; omega) trivial
        · refine wp_call (t_X2_atom_o (l1 := l1) hW hrec (by omega) h40 (by omega)) (fun v46 m47 hh => ?_)
          obtain ⟨h47, hr47, hp47⟩ := hh
          refine wp_if (fun g50 => ?_) (fun g50 => ?_)
          · exact ih h47 (by omega) (by have := iA_c l4 1; omega) trivial (by have := iA_c l4 1; omega)
          · refine wp_dZv (by omega) ?_
            refine wp_calls (t_X2_held (l0 := (lD l2 v46))  (by have := lD_r l2 v46; omega) h47) (fun v51 hh => ?_)
            obtain ⟨hr52, hp52⟩ := hh
            exact ih h47 (by omega) (by have := iA_c l4 1; omega) trivial (by have := iA_c l4 1; omega)
      · refine wp_call (t_X2_atom_o (l1 := l1) hW hrec (by omega) h27 (by omega)) (fun v53 m54 hh => ?_)
        obtain ⟨h54, hr54, hp54⟩ := hh
        refine wp_calls (t_X2_held (l0 := (lM l2 v53))  (by have := lM_r l2 v53; omega) h54) (fun v57 hh => ?_)
        obtain ⟨hr58, hp58⟩ := hh
        exact ih h54 (by omega) (by have := iA_c l4 1; omega) trivial (by have := iA_c l4 1; omega)
set_option maxHeartbeats 4000000 in
set_option maxRecDepth 100000 in
theorem t_X2_term_o {W : Nat → Nat → Prop} {μs : Mm} {l1 : Int} (hW : ∀ k j, scr k j → W k j) {N : Int} {rec : Int → Mm → Rs} (hrec : ∀ (l1 : Int) (μ : Mm), St W μs μ → (0 ≤ l1 ∧ l1 ≤ 6) → 7 ≤ l1 + N → wp (rec l1 μ) (fun r μ' => St W μs μ' ∧ (-2147483648 ≤ r ∧ r ≤ 2147483647) ∧ True))  (hp_l1 : 0 ≤ l1 ∧ l1 ≤ 6) {μ : Mm} (hS : St W μs μ) (hl : 6 ≤ l1 + N) : wp (X2_term_o rec l1 μ) (fun r μ' => St W μs μ' ∧ (-2147483648 ≤ r ∧ r ≤ 2147483647) ∧ True) := by
  have hFU := FU_v
  unfold X2_term_o
  refine wp_call (t_X2_atom_o (l1 := l1) hW hrec (by omega) hS (by omega)) (fun v3 m4 hh => ?_)
  obtain ⟨h4, hr4, hp4⟩ := hh
  exact t_X2_term_L10 (l1 := l1) (l2 := v3) (l4 := 0) hW hrec (by omega) (by omega) (fun r_ m_ h_ hr_ hp_ => by exact ⟨h_, (by omega), trivial⟩) FU h4 (by omega) (by omega) trivial (by omega)
set_option maxHeartbeats 4000000 in
set_option maxRecDepth 100000 in
theorem t_X2_sum_L10 {W : Nat → Nat → Prop} {μs : Mm} {l1 : Int} (hW : ∀ k j, scr k j → W k j) {N : Int} {rec : Int → Mm → Rs} (hrec : ∀ (l1 : Int) (μ : Mm), St W μs μ → (0 ≤ l1 ∧ l1 ≤ 6) → 7 ≤ l1 + N → wp (rec l1 μ) (fun r μ' => St W μs μ' ∧ (-2147483648 ≤ r ∧ r ≤ 2147483647) ∧ True))  (hp_l1 : 0 ≤ l1 ∧ l1 ≤ 6) (hl : 6 ≤ l1 + N) {Q : Int → Mm → Prop} (hQ : ∀ r μ, St W μs μ → (-2147483648 ≤ r ∧ r ≤ 2147483647) → True → Q r μ) : ∀ (n : Nat) {l2 l4 : Int} {μ : Mm}, St W μs μ → (-2147483648 ≤ l2 ∧ l2 ≤ 2147483647) → (0 ≤ l4 ∧ l4 ≤ 160) → True → 160 - l4 + 1 ≤ ((n : Nat) : Int) → wp (X2_sum_L10 rec l1 n l2 l4 μ) Q := by
  have hFU := FU_v
  intro n
  induction n with
  | zero => intro l2 l4 μ hS hv_l2 hv_l4 hi hm; exact absurd hm (by  have : ((0 : Nat) : Int) = 0 := rfl; omega)
  | succ n ih =>
    intro l2 l4 μ hS hv_l2 hv_l4 hi hm
    have hn1 : ((n + 1 : Nat) : Int) = ((n : Nat) : Int) + 1 := rfl
    rw [X2_sum_L10]
    refine wp_if (fun g25 => ?_) (fun g25 => ?_)
    · exact hQ _ _ hS (by have := wI_c l2; omega) trivial
    · refine wp_call (t_X4_take (l1 := 43) hW (by omega) hS) (fun v26 m27 hh => ?_)
      obtain ⟨h27, hr27, hp27⟩ := hh
      refine wp_if (fun g38 => ?_) (fun g38 => ?_)
      · refine wp_call (t_X4_take (l1 := 45) hW (by omega) h27) (fun v39 m40 hh => ?_)
        obtain ⟨h40, hr40, hp40⟩ := hh
        refine wp_if (fun g45 => ?_) (fun g45 => ?_)
        · exact hQ _ _ h40 (by have := wI_c l2; omega) trivial
        · refine wp_call (t_X2_term_o (l1 := l1) hW hrec (by omega) h40 (by omega)) (fun v46 m47 hh => ?_)
          obtain ⟨h47, hr47, hp47⟩ := hh
          refine wp_calls (t_X2_held (l0 := (lS l2 v46))  (by have := lS_r l2 v46; omega) h47) (fun v50 hh => ?_)
          obtain ⟨hr51, hp51⟩ := hh
          exact ih h47 (by omega) (by have := iA_c l4 1; omega) trivial (by have := iA_c l4 1; omega)
      · refine wp_call (t_X2_term_o (l1 := l1) hW hrec (by omega) h27 (by omega)) (fun v52 m53 hh => ?_)
        obtain ⟨h53, hr53, hp53⟩ := hh
        refine wp_calls (t_X2_held (l0 := (lA l2 v52))  (by have := lA_r l2 v52; omega) h53) (fun v56 hh => ?_)
        obtain ⟨hr57, hp57⟩ := hh
        exact ih h53 (by omega) (by have := iA_c l4 1; omega) trivial (by have := iA_c l4 1; omega)
set_option maxHeartbeats 4000000 in
set_option maxRecDepth 100000 in
theorem t_X2_sum {W : Nat → Nat → Prop} {μs : Mm} (hW : ∀ k j, scr k j → W k j) : ∀ (n : Nat) {l1 : Int} {μ : Mm}, St W μs μ → (0 ≤ l1 ∧ l1 ≤ 6) → 7 ≤ l1 + ((n : Nat) : Int) → wp (X2_sum n l1 μ) (fun r μ' => St W μs μ' ∧ (-2147483648 ≤ r ∧ r ≤ 2147483647) ∧ True) := by
  have hFU := FU_v
  intro n
  induction n with
  | zero => intro l1 μ hS hv_l1 hl; exact absurd hl (by have : ((0 : Nat) : Int) = 0 := rfl; omega)
  | succ n ih =>
    intro l1 μ hS hv_l1 hl
    have hn1 : ((n + 1 : Nat) : Int) = ((n : Nat) : Int) + 1 := rfl
    have hrec : ∀ (l1 : Int) (μ : Mm), St W μs μ → (0 ≤ l1 ∧ l1 ≤ 6) → 7 ≤ l1 + ((n : Nat) : Int) → wp (X2_sum n l1 μ) (fun r μ' => St W μs μ' ∧ (-2147483648 ≤ r ∧ r ≤ 2147483647) ∧ True) := fun l1 μ hS hv_l1 hl => ih hS hv_l1 (by omega)
    rw [X2_sum]
    refine wp_call (t_X2_term_o (l1 := l1) hW hrec (by omega) hS (by omega)) (fun v7 m8 hh => ?_)
    obtain ⟨h8, hr8, hp8⟩ := hh
    exact t_X2_sum_L10 (l1 := l1) (l2 := v7) (l4 := 0) hW hrec (by omega) (by omega) (fun r_ m_ h_ hr_ hp_ => by exact ⟨h_, (by omega), trivial⟩) FU h8 (by omega) (by omega) trivial (by omega)
set_option maxHeartbeats 4000000 in
set_option maxRecDepth 100000 in
theorem t_X2_isComparison {W : Nat → Nat → Prop} {μs : Mm} {l0 : Int}  (hp_l0 : -2147483648 ≤ l0 ∧ l0 ≤ 2147483647) {μ : Mm} (hS : St W μs μ) : wp (X2_isComparison l0 μ) (fun r μ' => μ' = μ ∧ (0 ≤ r ∧ r ≤ 1) ∧ True) := by
  have hFU := FU_v
  unfold X2_isComparison
  refine wp_if (fun g1 => ?_) (fun g1 => ?_)
  · exact ⟨rfl, (by omega), trivial⟩
  · refine wp_if (fun g2 => ?_) (fun g2 => ?_)
    · exact ⟨rfl, (by omega), trivial⟩
    · refine wp_if (fun g3 => ?_) (fun g3 => ?_)
      · exact ⟨rfl, (by omega), trivial⟩
      · exact ⟨rfl, (by omega), trivial⟩
set_option maxHeartbeats 4000000 in
set_option maxRecDepth 100000 in
theorem t_X2_startsCondition {W : Nat → Nat → Prop} {μs : Mm}  (hW : ∀ k j, scr k j → W k j)   {μ : Mm} (hS : St W μs μ) : wp (X2_startsCondition μ) (fun r μ' => St W μs μ' ∧ (0 ≤ r ∧ r ≤ 1) ∧ True) := by
  have hFU := FU_v
  unfold X2_startsCondition
  refine wp_call (t_X4_peek hW  hS) (fun v10 m11 hh => ?_)
  obtain ⟨h11, hr11, hp11⟩ := hh
  refine wp_if (fun g19 => ?_) (fun g19 => ?_)
  · exact ⟨h11, (by omega), trivial⟩
  · refine wp_if (fun g20 => ?_) (fun g20 => ?_)
    · exact ⟨h11, (by omega), trivial⟩
    · refine wp_call (t_X2_sum hW RD h11 (by omega) (by rw [RD_v]; omega)) (fun v21 m22 hh => ?_)
      obtain ⟨h22, hr22, hp22⟩ := hh
      refine wp_call (t_X4_peek hW  h22) (fun v28 m29 hh => ?_)
      obtain ⟨h29, hr29, hp29⟩ := hh
      refine wp_calls (t_X2_isComparison (l0 := v28)  (by omega) h29) (fun v33 hh => ?_)
      obtain ⟨hr34, hp34⟩ := hh
      refine wp_sFv (P := St W μs) (pO_4_1 (rfl : kD 3 = (14, 3)) h29 (hW _ _ (by unfold scr; omega)) (by have := gO_4_1 (rfl : kD 3 = (14, 3)) (by decide) h11; omega)) (fun m36 h36 he36 => ?_)
      refine wp_rZv (by omega) ?_
      exact ⟨h36, (by omega), trivial⟩
set_option maxHeartbeats 4000000 in
set_option maxRecDepth 100000 in
theorem t_X2_comparison {W : Nat → Nat → Prop} {μs : Mm} {l1 : Int} (hW : ∀ k j, scr k j → W k j)  (hp_l1 : 0 ≤ l1 ∧ l1 ≤ 6) {μ : Mm} (hS : St W μs μ) : wp (X2_comparison l1 μ) (fun r μ' => St W μs μ' ∧ (0 ≤ r ∧ r ≤ 1) ∧ True) := by
  have hFU := FU_v
  unfold X2_comparison
  refine wp_call (t_X2_sum hW RD hS (by omega) (by rw [RD_v]; omega)) (fun v13 m14 hh => ?_)
  obtain ⟨h14, hr14, hp14⟩ := hh
  refine wp_call (t_X4_peek hW  h14) (fun v25 m26 hh => ?_)
  obtain ⟨h26, hr26, hp26⟩ := hh
  refine wp_calls (t_X2_isComparison (l0 := v25)  (by omega) h26) (fun v35 hh => ?_)
  obtain ⟨hr36, hp36⟩ := hh
  refine wp_if (fun g43 => ?_) (fun g43 => ?_)
  · refine wp_call (t_X4_refuseAt (l1 := (m26 3 1)) hW (by have := gO_4_1 (rfl : kD 3 = (14, 3)) (by decide) h26; omega) h26) (fun v44 m45 hh => ?_)
    obtain ⟨h45, hr45, hp45⟩ := hh
    exact ⟨h45, (by omega), trivial⟩
  · refine wp_call (t_X4_pass hW  h26) (fun v46 m47 hh => ?_)
    obtain ⟨h47, hr47, hp47⟩ := hh
    refine wp_call (t_X2_sum hW RD h47 (by omega) (by rw [RD_v]; omega)) (fun v50 m51 hh => ?_)
    obtain ⟨h51, hr51, hp51⟩ := hh
    refine wp_if (fun g52 => ?_) (fun g52 => ?_)
    · refine wp_if (fun g53 => ?_) (fun g53 => ?_)
      · exact ⟨h51, (by omega), trivial⟩
      · exact ⟨h51, (by omega), trivial⟩
    · refine wp_if (fun g54 => ?_) (fun g54 => ?_)
      · refine wp_if (fun g55 => ?_) (fun g55 => ?_)
        · exact ⟨h51, (by omega), trivial⟩
        · exact ⟨h51, (by omega), trivial⟩
      · refine wp_if (fun g56 => ?_) (fun g56 => ?_)
        · exact ⟨h51, (by omega), trivial⟩
        · exact ⟨h51, (by omega), trivial⟩
set_option maxHeartbeats 4000000 in
set_option maxRecDepth 100000 in
theorem t_X2_truth_L8 {W : Nat → Nat → Prop} {μs : Mm} {l1 : Int} (hW : ∀ k j, scr k j → W k j) {N : Int} {rec : Int → Mm → Rs} (hrec : ∀ (l1 : Int) (μ : Mm), St W μs μ → (0 ≤ l1 ∧ l1 ≤ 6) → 7 ≤ l1 + N → wp (rec l1 μ) (fun r μ' => St W μs μ' ∧ (0 ≤ r ∧ r ≤ 1) ∧ True))  (hp_l1 : 0 ≤ l1 ∧ l1 ≤ 6) (hl : 7 ≤ l1 + N) {Q : Int → Mm → Prop} (hQ : ∀ r μ, St W μs μ → (0 ≤ r ∧ r ≤ 1) → True → Q r μ) : ∀ (n : Nat) {l2 l3 : Int} {μ : Mm}, St W μs μ → (0 ≤ l2 ∧ l2 ≤ 1) → (0 ≤ l3 ∧ l3 ≤ 160) → True → 160 - l3 + 1 ≤ ((n : Nat) : Int) → wp (X2_truth_L8 rec l1 n l2 l3 μ) Q := by
  have hFU := FU_v
  intro n
  induction n with
  | zero => intro l2 l3 μ hS hv_l2 hv_l3 hi hm; exact absurd hm (by  have : ((0 : Nat) : Int) = 0 := rfl; omega)
  | succ n ih =>
    intro l2 l3 μ hS hv_l2 hv_l3 hi hm
    have hn1 : ((n + 1 : Nat) : Int) = ((n : Nat) : Int) + 1 := rfl
    rw [X2_truth_L8]
    refine wp_if (fun g9 => ?_) (fun g9 => ?_)
    · refine wp_rZv (by omega) ?_
      exact hQ _ _ hS (by omega) trivial
    · refine wp_call (t_X4_take (l1 := 38) hW (by omega) hS) (fun v10 m11 hh => ?_)
      obtain ⟨h11, hr11, hp11⟩ := hh
      refine wp_if (fun g14 => ?_) (fun g14 => ?_)
      · refine wp_rZv (by omega) ?_
        exact hQ _ _ h11 (by omega) trivial
      · refine wp_call (hrec l1 m11 h11 (by omega) (by omega)) (fun v15 m16 hh => ?_)
        obtain ⟨h16, hr16, hp16⟩ := hh
        refine wp_if (fun g17 => ?_) (fun g17 => ?_)
        · exact ih h16 (by omega) (by have := iA_c l3 1; omega) trivial (by have := iA_c l3 1; omega)
        · refine wp_if (fun g18 => ?_) (fun g18 => ?_)
          · exact ih h16 (by omega) (by have := iA_c l3 1; omega) trivial (by have := iA_c l3 1; omega)
          · exact ih h16 (by omega) (by have := iA_c l3 1; omega) trivial (by have := iA_c l3 1; omega)
set_option maxHeartbeats 4000000 in
set_option maxRecDepth 100000 in
theorem t_X2_truth_o {W : Nat → Nat → Prop} {μs : Mm} {l1 : Int} (hW : ∀ k j, scr k j → W k j) {N : Int} {rec : Int → Mm → Rs} (hrec : ∀ (l1 : Int) (μ : Mm), St W μs μ → (0 ≤ l1 ∧ l1 ≤ 6) → 7 ≤ l1 + N → wp (rec l1 μ) (fun r μ' => St W μs μ' ∧ (0 ≤ r ∧ r ≤ 1) ∧ True))  (hp_l1 : 0 ≤ l1 ∧ l1 ≤ 6) {μ : Mm} (hS : St W μs μ) (hl : 7 ≤ l1 + N) : wp (X2_truth_o rec l1 μ) (fun r μ' => St W μs μ' ∧ (0 ≤ r ∧ r ≤ 1) ∧ True) := by
  have hFU := FU_v
  unfold X2_truth_o
  refine wp_call (hrec l1 μ hS (by omega) (by omega)) (fun v3 m4 hh => ?_)
  obtain ⟨h4, hr4, hp4⟩ := hh
  exact t_X2_truth_L8 (l1 := l1) (l2 := v3) (l3 := 0) hW hrec (by omega) (by omega) (fun r_ m_ h_ hr_ hp_ => by exact ⟨h_, (by omega), trivial⟩) FU h4 (by omega) (by omega) trivial (by omega)
set_option maxHeartbeats 4000000 in
set_option maxRecDepth 100000 in
theorem t_X2_condition_L8 {W : Nat → Nat → Prop} {μs : Mm} {l1 : Int} (hW : ∀ k j, scr k j → W k j) {N : Int} {rec : Int → Mm → Rs} (hrec : ∀ (l1 : Int) (μ : Mm), St W μs μ → (0 ≤ l1 ∧ l1 ≤ 6) → 7 ≤ l1 + N → wp (rec l1 μ) (fun r μ' => St W μs μ' ∧ (0 ≤ r ∧ r ≤ 1) ∧ True))  (hp_l1 : 0 ≤ l1 ∧ l1 ≤ 6) (hl : 7 ≤ l1 + N) {Q : Int → Mm → Prop} (hQ : ∀ r μ, St W μs μ → (0 ≤ r ∧ r ≤ 1) → True → Q r μ) : ∀ (n : Nat) {l2 l3 : Int} {μ : Mm}, St W μs μ → (0 ≤ l2 ∧ l2 ≤ 1) → (0 ≤ l3 ∧ l3 ≤ 160) → True → 160 - l3 + 1 ≤ ((n : Nat) : Int) → wp (X2_condition_L8 rec l1 n l2 l3 μ) Q := by
  have hFU := FU_v
  intro n
  induction n with
  | zero => intro l2 l3 μ hS hv_l2 hv_l3 hi hm; exact absurd hm (by  have : ((0 : Nat) : Int) = 0 := rfl; omega)
  | succ n ih =>
    intro l2 l3 μ hS hv_l2 hv_l3 hi hm
    have hn1 : ((n + 1 : Nat) : Int) = ((n : Nat) : Int) + 1 := rfl
    rw [X2_condition_L8]
    refine wp_if (fun g9 => ?_) (fun g9 => ?_)
    · refine wp_rZv (by omega) ?_
      exact hQ _ _ hS (by omega) trivial
    · refine wp_call (t_X4_take (l1 := 124) hW (by omega) hS) (fun v10 m11 hh => ?_)
      obtain ⟨h11, hr11, hp11⟩ := hh
      refine wp_if (fun g14 => ?_) (fun g14 => ?_)
      · refine wp_rZv (by omega) ?_
        exact hQ _ _ h11 (by omega) trivial
      · refine wp_call (t_X2_truth_o (l1 := l1) hW hrec (by omega) h11 (by omega)) (fun v15 m16 hh => ?_)
        obtain ⟨h16, hr16, hp16⟩ := hh
        refine wp_if (fun g17 => ?_) (fun g17 => ?_)
        · refine wp_if (fun g18 => ?_) (fun g18 => ?_)
          · exact ih h16 (by omega) (by have := iA_c l3 1; omega) trivial (by have := iA_c l3 1; omega)
          · exact ih h16 (by omega) (by have := iA_c l3 1; omega) trivial (by have := iA_c l3 1; omega)
        · exact ih h16 (by omega) (by have := iA_c l3 1; omega) trivial (by have := iA_c l3 1; omega)
set_option maxHeartbeats 4000000 in
set_option maxRecDepth 100000 in
theorem t_X2_condition_o {W : Nat → Nat → Prop} {μs : Mm} {l1 : Int} (hW : ∀ k j, scr k j → W k j) {N : Int} {rec : Int → Mm → Rs} (hrec : ∀ (l1 : Int) (μ : Mm), St W μs μ → (0 ≤ l1 ∧ l1 ≤ 6) → 7 ≤ l1 + N → wp (rec l1 μ) (fun r μ' => St W μs μ' ∧ (0 ≤ r ∧ r ≤ 1) ∧ True))  (hp_l1 : 0 ≤ l1 ∧ l1 ≤ 6) {μ : Mm} (hS : St W μs μ) (hl : 7 ≤ l1 + N) : wp (X2_condition_o rec l1 μ) (fun r μ' => St W μs μ' ∧ (0 ≤ r ∧ r ≤ 1) ∧ True) := by
  have hFU := FU_v
  unfold X2_condition_o
  refine wp_call (t_X2_truth_o (l1 := l1) hW hrec (by omega) hS (by omega)) (fun v3 m4 hh => ?_)
  obtain ⟨h4, hr4, hp4⟩ := hh
  exact t_X2_condition_L8 (l1 := l1) (l2 := v3) (l3 := 0) hW hrec (by omega) (by omega) (fun r_ m_ h_ hr_ hp_ => by exact ⟨h_, (by omega), trivial⟩) FU h4 (by omega) (by omega) trivial (by omega)
set_option maxHeartbeats 4000000 in
set_option maxRecDepth 100000 in
theorem t_X2_enclosed_o {W : Nat → Nat → Prop} {μs : Mm} {l1 : Int} (hW : ∀ k j, scr k j → W k j) {N : Int} {rec : Int → Mm → Rs} (hrec : ∀ (l1 : Int) (μ : Mm), St W μs μ → (0 ≤ l1 ∧ l1 ≤ 6) → 7 ≤ l1 + N → wp (rec l1 μ) (fun r μ' => St W μs μ' ∧ (0 ≤ r ∧ r ≤ 1) ∧ True))  (hp_l1 : 0 ≤ l1 ∧ l1 ≤ 6) {μ : Mm} (hS : St W μs μ) (hl : 7 ≤ l1 + N) : wp (X2_enclosed_o rec l1 μ) (fun r μ' => St W μs μ' ∧ (0 ≤ r ∧ r ≤ 1) ∧ True) := by
  have hFU := FU_v
  unfold X2_enclosed_o
  refine wp_call (t_X2_condition_o (l1 := l1) hW hrec (by omega) hS (by omega)) (fun v5 m6 hh => ?_)
  obtain ⟨h6, hr6, hp6⟩ := hh
  refine wp_call (t_X4_need (l1 := 41) hW (by omega) h6) (fun v9 m10 hh => ?_)
  obtain ⟨h10, hr10, hp10⟩ := hh
  refine wp_rZv (by omega) ?_
  exact ⟨h10, (by omega), trivial⟩
set_option maxHeartbeats 4000000 in
set_option maxRecDepth 100000 in
theorem t_X2_denied_o {W : Nat → Nat → Prop} {μs : Mm} {l1 : Int} (hW : ∀ k j, scr k j → W k j) {N : Int} {rec : Int → Mm → Rs} (hrec : ∀ (l1 : Int) (μ : Mm), St W μs μ → (0 ≤ l1 ∧ l1 ≤ 6) → 7 ≤ l1 + N → wp (rec l1 μ) (fun r μ' => St W μs μ' ∧ (0 ≤ r ∧ r ≤ 1) ∧ True))  (hp_l1 : 0 ≤ l1 ∧ l1 ≤ 6) {μ : Mm} (hS : St W μs μ) (hl : 7 ≤ l1 + N) : wp (X2_denied_o rec l1 μ) (fun r μ' => St W μs μ' ∧ (0 ≤ r ∧ r ≤ 1) ∧ True) := by
  have hFU := FU_v
  unfold X2_denied_o
  refine wp_call (hrec l1 μ hS (by omega) (by omega)) (fun v3 m4 hh => ?_)
  obtain ⟨h4, hr4, hp4⟩ := hh
  refine wp_if (fun g5 => ?_) (fun g5 => ?_)
  · exact ⟨h4, (by omega), trivial⟩
  · exact ⟨h4, (by omega), trivial⟩
set_option maxHeartbeats 4000000 in
set_option maxRecDepth 100000 in
theorem t_X2_unit {W : Nat → Nat → Prop} {μs : Mm} (hW : ∀ k j, scr k j → W k j) : ∀ (n : Nat) {l1 : Int} {μ : Mm}, St W μs μ → (0 ≤ l1 ∧ l1 ≤ 6) → 7 ≤ l1 + ((n : Nat) : Int) → wp (X2_unit n l1 μ) (fun r μ' => St W μs μ' ∧ (0 ≤ r ∧ r ≤ 1) ∧ True) := by
  have hFU := FU_v
  intro n
  induction n with
  | zero => intro l1 μ hS hv_l1 hl; exact absurd hl (by have : ((0 : Nat) : Int) = 0 := rfl; omega)
  | succ n ih =>
    intro l1 μ hS hv_l1 hl
    have hn1 : ((n + 1 : Nat) : Int) = ((n : Nat) : Int) + 1 := rfl
    have hrec : ∀ (l1 : Int) (μ : Mm), St W μs μ → (0 ≤ l1 ∧ l1 ≤ 6) → 7 ≤ l1 + ((n : Nat) : Int) → wp (X2_unit n l1 μ) (fun r μ' => St W μs μ' ∧ (0 ≤ r ∧ r ≤ 1) ∧ True) := fun l1 μ hS hv_l1 hl => ih hS hv_l1 (by omega)
    rw [X2_unit]
    refine wp_call (t_X4_peek hW  hS) (fun v9 m10 hh => ?_)
    obtain ⟨h10, hr10, hp10⟩ := hh
    refine wp_if (fun g17 => ?_) (fun g17 => ?_)
    · unfold X2_unit_J26
      try dsimp only
      refine wp_if (fun g26 => ?_) (fun g26 => ?_)
      · refine wp_call (t_X4_pass hW  h10) (fun v27 m28 hh => ?_)
        obtain ⟨h28, hr28, hp28⟩ := hh
        refine wp_if (fun g37 => ?_) (fun g37 => ?_)
        · refine wp_call (t_X2_denied_o (l1 := (iA l1 1)) hW hrec (by have := iA_c l1 1; omega) h28 (by have := iA_c l1 1; omega)) (fun v38 m39 hh => ?_)
          obtain ⟨h39, hr39, hp39⟩ := hh
          refine wp_rZv (by omega) ?_
          exact ⟨h39, (by omega), trivial⟩
        · refine wp_call (t_X2_enclosed_o (l1 := (iA l1 1)) hW hrec (by have := iA_c l1 1; omega) h28 (by have := iA_c l1 1; omega)) (fun v40 m41 hh => ?_)
          obtain ⟨h41, hr41, hp41⟩ := hh
          refine wp_rZv (by omega) ?_
          exact ⟨h41, (by omega), trivial⟩
      · refine wp_call (t_X4_refuseAt (l1 := (m10 3 1)) hW (by have := gO_4_1 (rfl : kD 3 = (14, 3)) (by decide) h10; omega) h10) (fun v42 m43 hh => ?_)
        obtain ⟨h43, hr43, hp43⟩ := hh
        exact ⟨h43, (by omega), trivial⟩
    · refine wp_if (fun g44 => ?_) (fun g44 => ?_)
      · unfold X2_unit_J26
        try dsimp only
        refine wp_if (fun g53 => ?_) (fun g53 => ?_)
        · refine wp_call (t_X4_pass hW  h10) (fun v54 m55 hh => ?_)
          obtain ⟨h55, hr55, hp55⟩ := hh
          refine wp_if (fun g64 => ?_) (fun g64 => ?_)
          · refine wp_call (t_X2_denied_o (l1 := (iA l1 1)) hW hrec (by have := iA_c l1 1; omega) h55 (by have := iA_c l1 1; omega)) (fun v65 m66 hh => ?_)
            obtain ⟨h66, hr66, hp66⟩ := hh
            refine wp_rZv (by omega) ?_
            exact ⟨h66, (by omega), trivial⟩
          · refine wp_call (t_X2_enclosed_o (l1 := (iA l1 1)) hW hrec (by have := iA_c l1 1; omega) h55 (by have := iA_c l1 1; omega)) (fun v67 m68 hh => ?_)
            obtain ⟨h68, hr68, hp68⟩ := hh
            refine wp_rZv (by omega) ?_
            exact ⟨h68, (by omega), trivial⟩
        · refine wp_call (t_X4_refuseAt (l1 := (m10 3 1)) hW (by have := gO_4_1 (rfl : kD 3 = (14, 3)) (by decide) h10; omega) h10) (fun v69 m70 hh => ?_)
          obtain ⟨h70, hr70, hp70⟩ := hh
          exact ⟨h70, (by omega), trivial⟩
      · refine wp_call (t_X2_comparison (l1 := l1) hW (by omega) h10) (fun v71 m72 hh => ?_)
        obtain ⟨h72, hr72, hp72⟩ := hh
        refine wp_rZv (by omega) ?_
        exact ⟨h72, (by omega), trivial⟩
set_option maxHeartbeats 4000000 in
set_option maxRecDepth 100000 in
theorem t_X2_worth_L6 {W : Nat → Nat → Prop} {μs : Mm}  (hW : ∀ k j, scr k j → W k j)   {k99 : Int → Mm → Rs} {k90 : Int → Mm → Rs} {Q : Int → Mm → Prop} (hk_k99 : ∀ (a0 : Int) (μ : Mm), St W μs μ → (-2147483648 ≤ a0 ∧ a0 ≤ 2147483647) → True → wp (k99 a0 μ) Q) (hk_k90 : ∀ (a0 : Int) (μ : Mm), St W μs μ → (-2147483648 ≤ a0 ∧ a0 ≤ 2147483647) → True → wp (k90 a0 μ) Q) : ∀ (n : Nat) {l1 l2 l3 : Int} {μ : Mm}, St W μs μ → (-2147483648 ≤ l1 ∧ l1 ≤ 2147483647) → (-2147483648 ≤ l2 ∧ l2 ≤ 2147483647) → (0 ≤ l3 ∧ l3 ≤ 160) → True → 160 - l3 + 1 ≤ ((n : Nat) : Int) → wp (X2_worth_L6 k99 k90 n l1 l2 l3 μ) Q := by
  have hFU := FU_v
  intro n
  induction n with
  | zero => intro l1 l2 l3 μ hS hv_l1 hv_l2 hv_l3 hi hm; exact absurd hm (by  have : ((0 : Nat) : Int) = 0 := rfl; omega)
  | succ n ih =>
    intro l1 l2 l3 μ hS hv_l1 hv_l2 hv_l3 hi hm
    have hn1 : ((n + 1 : Nat) : Int) = ((n : Nat) : Int) + 1 := rfl
    rw [X2_worth_L6]
    refine wp_if (fun g61 => ?_) (fun g61 => ?_)
    · exact hk_k99 l1 μ hS (by omega) trivial
    · refine wp_call (t_X4_need (l1 := 121) hW (by omega) hS) (fun v62 m63 hh => ?_)
      obtain ⟨h63, hr63, hp63⟩ := hh
      refine wp_call (t_X4_need (l1 := 58) hW (by omega) h63) (fun v84 m85 hh => ?_)
      obtain ⟨h85, hr85, hp85⟩ := hh
      refine wp_call (t_X2_startsCondition hW  h85) (fun v104 m105 hh => ?_)
      obtain ⟨h105, hr105, hp105⟩ := hh
      refine wp_if (fun g122 => ?_) (fun g122 => ?_)
      · unfold X2_worth_J57
        try dsimp only
        refine wp_call (t_X2_sum hW RD h105 (by omega) (by rw [RD_v]; omega)) (fun v131 m132 hh => ?_)
        obtain ⟨h132, hr132, hp132⟩ := hh
        refine wp_if (fun g139 => ?_) (fun g139 => ?_)
        · refine wp_call (t_X4_take (l1 := 59) hW (by omega) h132) (fun v140 m141 hh => ?_)
          obtain ⟨h141, hr141, hp141⟩ := hh
          refine wp_if (fun g142 => ?_) (fun g142 => ?_)
          · exact hk_k90 l1 m141 h141 (by omega) trivial
          · exact ih h141 (by omega) (by omega) (by have := iA_c l3 1; omega) trivial (by have := iA_c l3 1; omega)
        · refine wp_if (fun g143 => ?_) (fun g143 => ?_)
          · refine wp_call (t_X4_take (l1 := 59) hW (by omega) h132) (fun v144 m145 hh => ?_)
            obtain ⟨h145, hr145, hp145⟩ := hh
            refine wp_if (fun g146 => ?_) (fun g146 => ?_)
            · exact hk_k90 v131 m145 h145 (by omega) trivial
            · exact ih h145 (by omega) (by omega) (by have := iA_c l3 1; omega) trivial (by have := iA_c l3 1; omega)
          · refine wp_call (t_X4_take (l1 := 59) hW (by omega) h132) (fun v147 m148 hh => ?_)
            obtain ⟨h148, hr148, hp148⟩ := hh
            refine wp_if (fun g149 => ?_) (fun g149 => ?_)
            · exact hk_k90 l1 m148 h148 (by omega) trivial
            · exact ih h148 (by omega) (by omega) (by have := iA_c l3 1; omega) trivial (by have := iA_c l3 1; omega)
      · refine wp_call (t_X2_condition_o (l1 := 0) hW (N := 12) (fun w_ m_ h_ hr_ hl_ => t_X2_unit hW RD h_ hr_ (by rw [RD_v]; exact hl_)) (by omega) h105 (by omega)) (fun v150 m151 hh => ?_)
        obtain ⟨h151, hr151, hp151⟩ := hh
        refine wp_call (t_X4_need (l1 := 63) hW (by omega) h151) (fun v160 m161 hh => ?_)
        obtain ⟨h161, hr161, hp161⟩ := hh
        unfold X2_worth_J57
        try dsimp only
        refine wp_call (t_X2_sum hW RD h161 (by omega) (by rw [RD_v]; omega)) (fun v176 m177 hh => ?_)
        obtain ⟨h177, hr177, hp177⟩ := hh
        refine wp_if (fun g184 => ?_) (fun g184 => ?_)
        · refine wp_call (t_X4_take (l1 := 59) hW (by omega) h177) (fun v185 m186 hh => ?_)
          obtain ⟨h186, hr186, hp186⟩ := hh
          refine wp_if (fun g187 => ?_) (fun g187 => ?_)
          · exact hk_k90 l1 m186 h186 (by omega) trivial
          · exact ih h186 (by omega) (by omega) (by have := iA_c l3 1; omega) trivial (by have := iA_c l3 1; omega)
        · refine wp_if (fun g188 => ?_) (fun g188 => ?_)
          · refine wp_call (t_X4_take (l1 := 59) hW (by omega) h177) (fun v189 m190 hh => ?_)
            obtain ⟨h190, hr190, hp190⟩ := hh
            refine wp_if (fun g191 => ?_) (fun g191 => ?_)
            · exact hk_k90 v176 m190 h190 (by omega) trivial
            · exact ih h190 (by omega) (by omega) (by have := iA_c l3 1; omega) trivial (by have := iA_c l3 1; omega)
          · refine wp_call (t_X4_take (l1 := 59) hW (by omega) h177) (fun v192 m193 hh => ?_)
            obtain ⟨h193, hr193, hp193⟩ := hh
            refine wp_if (fun g194 => ?_) (fun g194 => ?_)
            · exact hk_k90 l1 m193 h193 (by omega) trivial
            · exact ih h193 (by omega) (by omega) (by have := iA_c l3 1; omega) trivial (by have := iA_c l3 1; omega)
set_option maxHeartbeats 4000000 in
set_option maxRecDepth 100000 in
theorem t_X2_worth {W : Nat → Nat → Prop} {μs : Mm}  (hW : ∀ k j, scr k j → W k j)   {μ : Mm} (hS : St W μs μ) : wp (X2_worth μ) (fun r μ' => St W μs μ' ∧ (-2147483648 ≤ r ∧ r ≤ 2147483647) ∧ True) := by
  have hFU := FU_v
  unfold X2_worth
  refine t_X2_worth_L6 (l1 := 0) (l2 := 0) (l3 := 0) hW  (fun v9 m10 h10 hrv9 hp10 => ?_) (fun v13 m14 h14 hrv13 hp14 => ?_) FU hS (by omega) (by omega) (by omega) trivial (by omega)
  · refine wp_call (t_X4_needEnd hW  h10) (fun v17 m18 hh => ?_)
    obtain ⟨h18, hr18, hp18⟩ := hh
    exact ⟨h18, (by omega), trivial⟩
  · refine wp_call (t_X4_needEnd hW  h14) (fun v19 m20 hh => ?_)
    obtain ⟨h20, hr20, hp20⟩ := hh
    exact ⟨h20, (by omega), trivial⟩
set_option maxHeartbeats 4000000 in
set_option maxRecDepth 100000 in
theorem t_X2_check {W : Nat → Nat → Prop} {μs : Mm}  (hW : ∀ k j, scr k j → W k j)   {μ : Mm} (hS : St W μs μ) : wp (X2_check μ) (fun r μ' => St W μs μ' ∧ (-2147483648 ≤ r ∧ r ≤ 2147483647) ∧ True) := by
  have hFU := FU_v
  unfold X2_check
  refine wp_call (t_X2_worth hW  hS) (fun v3 m4 hh => ?_)
  obtain ⟨h4, hr4, hp4⟩ := hh
  exact ⟨h4, (by have := gO_4_2 (rfl : kD 3 = (14, 3)) (by decide) h4; omega), trivial⟩
set_option maxHeartbeats 4000000 in
set_option maxRecDepth 100000 in
theorem t_X4_open {W : Nat → Nat → Prop} {μs : Mm} {l1 : Nat} (hW : ∀ k j, scr k j → W k j)  (hk_l1 : kD l1 = (17, 2)) {μ : Mm} (hS : St W μs μ) : wp (X4_open l1 μ) (fun r μ' => St W μs μ' ∧ (-2147483648 ≤ r ∧ r ≤ 2147483647) ∧ True) := by
  have hb_l1 := kTr' hk_l1
  have hFU := FU_v
  unfold X4_open
  refine wp_sFv (P := St W μs) (pM_4 hS (hW _ _ (by unfold scr; omega)) (show kD (((l1 : Nat) : Int)).toNat = _ by rw [Int.toNat_natCast]; exact hk_l1)) (fun m4 h4 he4 => ?_)
  refine wp_sFv (P := St W μs) (pO_4_1 (rfl : kD 3 = (14, 3)) h4 (hW _ _ (by unfold scr; omega)) (by omega)) (fun m7 h7 he7 => ?_)
  refine wp_sFv (P := St W μs) (pO_4_2 (rfl : kD 3 = (14, 3)) h7 (hW _ _ (by unfold scr; omega)) (by omega)) (fun m9 h9 he9 => ?_)
  exact ⟨h9, (by omega), trivial⟩
set_option maxHeartbeats 4000000 in
set_option maxRecDepth 100000 in
theorem t_X2_fillTimes_L19 {W : Nat → Nat → Prop} {μs : Mm} {l1 : Nat} {l2 : Int} (hW : ∀ k j, scr k j → W k j)  (hk_l1 : kD l1 = (13, 3)) (hn_l2 : l2 = -1 ∨ kD l2.toNat = (17, 2)) {Q : Int → Mm → Prop} (hQ : ∀ r μ, St W μs μ → (-2147483648 ≤ r ∧ r ≤ 2147483647) → True → Q r μ) : ∀ (n : Nat) {l5 l6 : Int} {μ : Mm}, St W μs μ → (-2147483648 ≤ l5 ∧ l5 ≤ 2147483647) → (0 ≤ l6 ∧ l6 ≤ 8) → True → 8 - l6 + 1 ≤ ((n : Nat) : Int) → wp (X2_fillTimes_L19 l1 l2 50 n l5 l6 μ) Q := by
  have hb_l1 := kPr' hk_l1
  have hFU := FU_v
  intro n
  induction n with
  | zero => intro l5 l6 μ hS hv_l5 hv_l6 hi hm; exact absurd hm (by  have : ((0 : Nat) : Int) = 0 := rfl; omega)
  | succ n ih =>
    intro l5 l6 μ hS hv_l5 hv_l6 hi hm
    have hn1 : ((n + 1 : Nat) : Int) = ((n : Nat) : Int) + 1 := rfl
    rw [X2_fillTimes_L19]
    refine wp_if (fun g33 => ?_) (fun g33 => ?_)
    · exact hQ _ _ hS (by have := gO_3_2 hk_l1 (by omega) hS; omega) trivial
    · refine wp_if (fun g34 => ?_) (fun g34 => ?_)
      · exact hQ _ _ hS (by have := gO_3_2 hk_l1 (by omega) hS; have na1 : ((aN 50 : Nat) : Int) = 8 := rfl; omega) trivial
      · refine wp_ldv (by have na0 : ((aN (l1 + 2) : Nat) : Int) = 8 := (by rw [(bA_3_2 hk_l1 (by omega) 0).2.2]; rfl); have := gO_3_2 hk_l1 (by omega) hS; have na2 : ((aN 50 : Nat) : Int) = 8 := rfl; omega) (fun v35 q36 => ?_)
        have hrv35 := gA_3_2 hk_l1 (by omega) hS (l6).toNat
        rw [← q36] at hrv35
        refine wp_sFv (P := St W μs) (pO_2_1 (rfl : kD 4 = (12, 6)) hS (hW _ _ (by unfold scr; omega)) (by have := gO_3_2 hk_l1 (by omega) hS; have na1 : ((aN 50 : Nat) : Int) = 8 := rfl; omega)) (fun m52 h52 he52 => ?_)
        refine wp_sFv (P := St W μs) (pO_2_2 (rfl : kD 4 = (12, 6)) h52 (hW _ _ (by unfold scr; omega)) (by have := gO_3_2 hk_l1 (by omega) hS; have na1 : ((aN 50 : Nat) : Int) = 8 := rfl; omega)) (fun m67 h67 he67 => ?_)
        refine wp_ldv (by have na0 : ((aN (l1 + 1) : Nat) : Int) = 8 := (by rw [(bA_3_1 hk_l1 (by omega) 0).2.2]; rfl); have := gO_3_2 hk_l1 (by omega) hS; have na2 : ((aN 50 : Nat) : Int) = 8 := rfl; omega) (fun v81 q82 => ?_)
        have hrv81 := gA_3_1 hk_l1 (by omega) h67 (l6).toNat
        rw [← q82] at hrv81
        refine wp_sFv (P := St W μs) (pO_2_4 (rfl : kD 4 = (12, 6)) h67 (hW _ _ (by unfold scr; omega)) (by have := gO_3_2 hk_l1 (by omega) hS; have na1 : ((aN 50 : Nat) : Int) = 8 := rfl; omega)) (fun m95 h95 he95 => ?_)
        refine wp_if (fun g107 => ?_) (fun g107 => ?_)
        · unfold X2_fillTimes_J101
          try dsimp only
          refine wp_stv (P := St W μs) (by have na0 : ((aN 50 : Nat) : Int) = 8 := rfl; have := gO_3_2 hk_l1 (by omega) hS; omega) (pA_1_2 (rfl : kD 48 = (11, 7)) (by decide) h95 (hW _ _ (by unfold scr; omega)) (by have := gO_2_1 (rfl : kD 4 = (12, 6)) (by decide) h95; have : m95 4 1 = m67 4 1 := (by rw [he95, sM_j (by decide)]); have := gO_2_1 (rfl : kD 4 = (12, 6)) (by decide) h67; have : m67 4 1 = m52 4 1 := (by rw [he67, sM_j (by decide)]); have := gO_2_1 (rfl : kD 4 = (12, 6)) (by decide) h52; have : m52 4 1 = v35 := (by rw [he52, sM_s]); have := mX_c l5 (m95 4 1); have := gO_3_2 hk_l1 (by omega) hS; have na8 : ((aN 50 : Nat) : Int) = 8 := rfl; omega)) (fun m109 h109 he109 => ?_)
          exact ih h109 (by have := gO_2_1 (rfl : kD 4 = (12, 6)) (by decide) h95; have : m95 4 1 = m67 4 1 := (by rw [he95, sM_j (by decide)]); have := gO_2_1 (rfl : kD 4 = (12, 6)) (by decide) h67; have : m67 4 1 = m52 4 1 := (by rw [he67, sM_j (by decide)]); have := gO_2_1 (rfl : kD 4 = (12, 6)) (by decide) h52; have : m52 4 1 = v35 := (by rw [he52, sM_s]); have := mX_c l5 (m95 4 1); have := gO_3_2 hk_l1 (by omega) hS; have na8 : ((aN 50 : Nat) : Int) = 8 := rfl; omega) (by have := iA_c l6 1; have := gO_3_2 hk_l1 (by omega) hS; have na2 : ((aN 50 : Nat) : Int) = 8 := rfl; omega) trivial (by have := gO_2_1 (rfl : kD 4 = (12, 6)) (by decide) h95; have : m95 4 1 = m67 4 1 := (by rw [he95, sM_j (by decide)]); have := gO_2_1 (rfl : kD 4 = (12, 6)) (by decide) h67; have : m67 4 1 = m52 4 1 := (by rw [he67, sM_j (by decide)]); have := gO_2_1 (rfl : kD 4 = (12, 6)) (by decide) h52; have : m52 4 1 = v35 := (by rw [he52, sM_s]); have := mX_c l5 (m95 4 1); have := iA_c l6 1; have := gO_3_2 hk_l1 (by omega) hS; have na9 : ((aN 50 : Nat) : Int) = 8 := rfl; omega)
        · have hkc110 : kD l2.toNat = (17, 2) := hn_l2.resolve_left g107
          refine wp_kCv hkc110 (fun _ _ => ?_)
          have hbhkc110 := kTr' hkc110
          refine wp_call (t_X4_open (l1 := l2.toNat) hW hkc110 h95) (fun v111 m112 hh => ?_)
          obtain ⟨h112, hr112, hp112⟩ := hh
          refine wp_call (t_X2_worth hW  h112) (fun v119 m120 hh => ?_)
          obtain ⟨h120, hr120, hp120⟩ := hh
          refine wp_ltv (fun v125 q126 => ?_)
          unfold X2_fillTimes_J101
          try dsimp only
          refine wp_stv (P := St W μs) (by have na0 : ((aN 50 : Nat) : Int) = 8 := rfl; have := gO_3_2 hk_l1 (by omega) hS; have := gO_2_1 (rfl : kD 4 = (12, 6)) (by decide) h95; have : m95 4 1 = m67 4 1 := (by rw [he95, sM_j (by decide)]); have := gO_2_1 (rfl : kD 4 = (12, 6)) (by decide) h67; have : m67 4 1 = m52 4 1 := (by rw [he67, sM_j (by decide)]); have := gO_2_1 (rfl : kD 4 = (12, 6)) (by decide) h52; have : m52 4 1 = v35 := (by rw [he52, sM_s]); have := mN_c 99 v119; have := mX_c (-99) (mN 99 v119); have := iA_c (m95 4 1) (mX (-99) (mN 99 v119)); omega) (pA_1_2 (rfl : kD 48 = (11, 7)) (by decide) h120 (hW _ _ (by unfold scr; omega)) (by have := mX_c l5 v125; have := gO_3_2 hk_l1 (by omega) hS; have na2 : ((aN 50 : Nat) : Int) = 8 := rfl; have := gO_2_1 (rfl : kD 4 = (12, 6)) (by decide) h95; have : m95 4 1 = m67 4 1 := (by rw [he95, sM_j (by decide)]); have := gO_2_1 (rfl : kD 4 = (12, 6)) (by decide) h67; have : m67 4 1 = m52 4 1 := (by rw [he67, sM_j (by decide)]); have := gO_2_1 (rfl : kD 4 = (12, 6)) (by decide) h52; have : m52 4 1 = v35 := (by rw [he52, sM_s]); have := mN_c 99 v119; have := mX_c (-99) (mN 99 v119); have := iA_c (m95 4 1) (mX (-99) (mN 99 v119)); omega)) (fun m131 h131 he131 => ?_)
          exact ih h131 (by have := mX_c l5 v125; have := gO_3_2 hk_l1 (by omega) hS; have na2 : ((aN 50 : Nat) : Int) = 8 := rfl; have := gO_2_1 (rfl : kD 4 = (12, 6)) (by decide) h95; have : m95 4 1 = m67 4 1 := (by rw [he95, sM_j (by decide)]); have := gO_2_1 (rfl : kD 4 = (12, 6)) (by decide) h67; have : m67 4 1 = m52 4 1 := (by rw [he67, sM_j (by decide)]); have := gO_2_1 (rfl : kD 4 = (12, 6)) (by decide) h52; have : m52 4 1 = v35 := (by rw [he52, sM_s]); have := mN_c 99 v119; have := mX_c (-99) (mN 99 v119); have := iA_c (m95 4 1) (mX (-99) (mN 99 v119)); omega) (by have := iA_c l6 1; have := gO_3_2 hk_l1 (by omega) hS; have na2 : ((aN 50 : Nat) : Int) = 8 := rfl; have := gO_2_1 (rfl : kD 4 = (12, 6)) (by decide) h95; have : m95 4 1 = m67 4 1 := (by rw [he95, sM_j (by decide)]); have := gO_2_1 (rfl : kD 4 = (12, 6)) (by decide) h67; have : m67 4 1 = m52 4 1 := (by rw [he67, sM_j (by decide)]); have := gO_2_1 (rfl : kD 4 = (12, 6)) (by decide) h52; have : m52 4 1 = v35 := (by rw [he52, sM_s]); have := mN_c 99 v119; have := mX_c (-99) (mN 99 v119); have := iA_c (m95 4 1) (mX (-99) (mN 99 v119)); omega) trivial (by have := mX_c l5 v125; have := iA_c l6 1; have := gO_3_2 hk_l1 (by omega) hS; have na3 : ((aN 50 : Nat) : Int) = 8 := rfl; have := gO_2_1 (rfl : kD 4 = (12, 6)) (by decide) h95; have : m95 4 1 = m67 4 1 := (by rw [he95, sM_j (by decide)]); have := gO_2_1 (rfl : kD 4 = (12, 6)) (by decide) h67; have : m67 4 1 = m52 4 1 := (by rw [he67, sM_j (by decide)]); have := gO_2_1 (rfl : kD 4 = (12, 6)) (by decide) h52; have : m52 4 1 = v35 := (by rw [he52, sM_s]); have := mN_c 99 v119; have := mX_c (-99) (mN 99 v119); have := iA_c (m95 4 1) (mX (-99) (mN 99 v119)); omega)
set_option maxHeartbeats 4000000 in
set_option maxRecDepth 100000 in
theorem t_X2_fillTimes {W : Nat → Nat → Prop} {μs : Mm} {l1 : Nat} {l2 : Int} {l3 : Int} (hW : ∀ k j, scr k j → W k j)  (hk_l1 : kD l1 = (13, 3)) (hn_l2 : l2 = -1 ∨ kD l2.toNat = (17, 2)) (hp_l3 : -2147483648 ≤ l3 ∧ l3 ≤ 2147483647) {μ : Mm} (hS : St W μs μ) : wp (X2_fillTimes l1 l2 l3 50 μ) (fun r μ' => St W μs μ' ∧ (-2147483648 ≤ r ∧ r ≤ 2147483647) ∧ True) := by
  have hb_l1 := kPr' hk_l1
  have hFU := FU_v
  unfold X2_fillTimes
  refine wp_sFv (P := St W μs) (pO_2_3 (rfl : kD 4 = (12, 6)) hS (hW _ _ (by unfold scr; omega)) (by omega)) (fun m3 h3 he3 => ?_)
  refine wp_sFv (P := St W μs) (pO_2_5 (rfl : kD 4 = (12, 6)) h3 (hW _ _ (by unfold scr; omega)) (by have := gO_3_2 hk_l1 (by omega) h3; have : m3 l1 2 = μ l1 2 := (by rw [he3, sM_a (by omega)]); have := gO_3_2 hk_l1 (by omega) hS; omega)) (fun m5 h5 he5 => ?_)
  exact t_X2_fillTimes_L19 (l1 := l1) (l2 := l2) (l5 := 0) (l6 := 0) hW hk_l1 hn_l2 (fun r_ m_ h_ hr_ hp_ => by exact ⟨h_, (by omega), trivial⟩) FU h5 (by omega) (by omega) trivial (by omega)
set_option maxHeartbeats 4000000 in
set_option maxRecDepth 100000 in
theorem t_X3_readCue {W : Nat → Nat → Prop} {μs : Mm} {l0 : Nat} {l2 : Int} (hW : ∀ k j, scr k j → W k j) (hwP : ∀ k j, l0 ≤ k → k ≤ l0 + 2 → W k j)  (hk_l0 : kD l0 = (13, 3)) (hp_l2 : 0 ≤ l2 ∧ l2 ≤ 7) {μ : Mm} (hS : St W μs μ) : wp (X3_readCue l0 l2 μ) (fun r μ' => St W μs μ' ∧ (-2147483648 ≤ r ∧ r ≤ 2147483647) ∧ True) := by
  have hb_l0 := kPr' hk_l0
  have hFU := FU_v
  unfold X3_readCue
  refine wp_call (t_X4_peek hW  hS) (fun v14 m15 hh => ?_)
  obtain ⟨h15, hr15, hp15⟩ := hh
  refine wp_if (fun g27 => ?_) (fun g27 => ?_)
  · refine wp_call (t_X4_refuseAt (l1 := (m15 3 1)) hW (by have := gO_4_1 (rfl : kD 3 = (14, 3)) (by decide) h15; omega) h15) (fun v28 m29 hh => ?_)
    obtain ⟨h29, hr29, hp29⟩ := hh
    exact ⟨h29, (by omega), trivial⟩
  · refine wp_if (fun g30 => ?_) (fun g30 => ?_)
    · refine wp_call (t_X4_pass hW  h15) (fun v31 m32 hh => ?_)
      obtain ⟨h32, hr32, hp32⟩ := hh
      refine wp_call (t_X4_number (l1 := 3) hW (by omega) h32) (fun v38 m39 hh => ?_)
      obtain ⟨h39, hr39, hp39⟩ := hh
      refine wp_if (fun g43 => ?_) (fun g43 => ?_)
      · unfold X3_readCue_J64
        try dsimp only
        refine wp_stv (P := St W μs) (by have na0 : ((aN (l0 + 1) : Nat) : Int) = 8 := (by rw [(bA_3_1 hk_l0 (by omega) 0).2.2]; rfl); omega) (pA_3_1 hk_l0 (by omega) h39 (hwP _ _ (by omega) (by omega)) (by have := iS_c v14 65; omega)) (fun m47 h47 he47 => ?_)
        refine wp_stv (P := St W μs) (by have na0 : ((aN (l0 + 2) : Nat) : Int) = 8 := (by rw [(bA_3_2 hk_l0 (by omega) 0).2.2]; rfl); omega) (pA_3_2 hk_l0 (by omega) h47 (hwP _ _ (by omega) (by omega)) (by omega)) (fun m50 h50 he50 => ?_)
        refine wp_sFv (P := St W μs) (pO_3_2 hk_l0 h50 (hwP _ _ (by omega) (by omega)) (by have := iA_c l2 1; omega)) (fun m52 h52 he52 => ?_)
        exact ⟨h52, (by omega), trivial⟩
      · refine wp_ldv (by have := iS_c l2 1; have na1 : ((aN (l0 + 2) : Nat) : Int) = 8 := (by rw [(bA_3_2 hk_l0 (by omega) 0).2.2]; rfl); omega) (fun v53 q54 => ?_)
        have hrv53 := gA_3_2 hk_l0 (by omega) h39 ((iS l2 1)).toNat
        rw [← q54] at hrv53
        refine wp_if (fun g57 => ?_) (fun g57 => ?_)
        · unfold X3_readCue_J64
          try dsimp only
          refine wp_stv (P := St W μs) (by have na0 : ((aN (l0 + 1) : Nat) : Int) = 8 := (by rw [(bA_3_1 hk_l0 (by omega) 0).2.2]; rfl); omega) (pA_3_1 hk_l0 (by omega) h39 (hwP _ _ (by omega) (by omega)) (by have := iS_c v14 65; omega)) (fun m61 h61 he61 => ?_)
          refine wp_stv (P := St W μs) (by have na0 : ((aN (l0 + 2) : Nat) : Int) = 8 := (by rw [(bA_3_2 hk_l0 (by omega) 0).2.2]; rfl); omega) (pA_3_2 hk_l0 (by omega) h61 (hwP _ _ (by omega) (by omega)) (by omega)) (fun m64 h64 he64 => ?_)
          refine wp_sFv (P := St W μs) (pO_3_2 hk_l0 h64 (hwP _ _ (by omega) (by omega)) (by have := iA_c l2 1; omega)) (fun m66 h66 he66 => ?_)
          exact ⟨h66, (by omega), trivial⟩
        · refine wp_call (t_X4_refuseAt (l1 := (iS (m39 3 1) 1)) hW (by have := gO_4_1 (rfl : kD 3 = (14, 3)) (by decide) h39; have := iS_c (m39 3 1) 1; omega) h39) (fun v67 m68 hh => ?_)
          obtain ⟨h68, hr68, hp68⟩ := hh
          unfold X3_readCue_J64
          try dsimp only
          refine wp_stv (P := St W μs) (by have na0 : ((aN (l0 + 1) : Nat) : Int) = 8 := (by rw [(bA_3_1 hk_l0 (by omega) 0).2.2]; rfl); omega) (pA_3_1 hk_l0 (by omega) h68 (hwP _ _ (by omega) (by omega)) (by have := iS_c v14 65; omega)) (fun m72 h72 he72 => ?_)
          refine wp_stv (P := St W μs) (by have na0 : ((aN (l0 + 2) : Nat) : Int) = 8 := (by rw [(bA_3_2 hk_l0 (by omega) 0).2.2]; rfl); omega) (pA_3_2 hk_l0 (by omega) h72 (hwP _ _ (by omega) (by omega)) (by omega)) (fun m75 h75 he75 => ?_)
          refine wp_sFv (P := St W μs) (pO_3_2 hk_l0 h75 (hwP _ _ (by omega) (by omega)) (by have := iA_c l2 1; omega)) (fun m77 h77 he77 => ?_)
          exact ⟨h77, (by omega), trivial⟩
    · refine wp_call (t_X4_refuseAt (l1 := (m15 3 1)) hW (by have := gO_4_1 (rfl : kD 3 = (14, 3)) (by decide) h15; omega) h15) (fun v78 m79 hh => ?_)
      obtain ⟨h79, hr79, hp79⟩ := hh
      exact ⟨h79, (by omega), trivial⟩
set_option maxHeartbeats 4000000 in
set_option maxRecDepth 100000 in
theorem t_X3_read_L13 {W : Nat → Nat → Prop} {μs : Mm} {l0 : Nat} (hW : ∀ k j, scr k j → W k j) (hwP : ∀ k j, l0 ≤ k → k ≤ l0 + 2 → W k j)  (hk_l0 : kD l0 = (13, 3)) {k40 : Mm → Rs} {Q : Int → Mm → Prop} (hk_k40 : ∀ (μ : Mm), St W μs μ → True → wp (k40 μ) Q) : ∀ (n : Nat) {l2 : Int} {μ : Mm}, St W μs μ → (1 ≤ l2 ∧ l2 ≤ 8) → True → 8 - l2 + 1 ≤ ((n : Nat) : Int) → wp (X3_read_L13 l0 k40 n l2 μ) Q := by
  have hb_l0 := kPr' hk_l0
  have hFU := FU_v
  intro n
  induction n with
  | zero => intro l2 μ hS hv_l2 hi hm; exact absurd hm (by  have : ((0 : Nat) : Int) = 0 := rfl; omega)
  | succ n ih =>
    intro l2 μ hS hv_l2 hi hm
    have hn1 : ((n + 1 : Nat) : Int) = ((n : Nat) : Int) + 1 := rfl
    rw [X3_read_L13]
    refine wp_if (fun g9 => ?_) (fun g9 => ?_)
    · exact hk_k40  μ hS  trivial
    · refine wp_call (t_X4_take (l1 := 44) hW (by omega) hS) (fun v10 m11 hh => ?_)
      obtain ⟨h11, hr11, hp11⟩ := hh
      refine wp_if (fun g14 => ?_) (fun g14 => ?_)
      · exact hk_k40  m11 h11  trivial
      · refine wp_call (t_X3_readCue (l0 := l0) (l2 := l2) hW hwP hk_l0 (by omega) h11) (fun v15 m16 hh => ?_)
        obtain ⟨h16, hr16, hp16⟩ := hh
        exact ih h16 (by have := iA_c l2 1; omega) trivial (by have := iA_c l2 1; omega)
set_option maxHeartbeats 4000000 in
set_option maxRecDepth 100000 in
theorem t_X3_read {W : Nat → Nat → Prop} {μs : Mm} {l0 : Nat} (hW : ∀ k j, scr k j → W k j) (hwP : ∀ k j, l0 ≤ k → k ≤ l0 + 2 → W k j)  (hk_l0 : kD l0 = (13, 3)) {μ : Mm} (hS : St W μs μ) : wp (X3_read l0 μ) (fun r μ' => St W μs μ' ∧ (-2147483648 ≤ r ∧ r ≤ 2147483647) ∧ True) := by
  have hb_l0 := kPr' hk_l0
  have hFU := FU_v
  unfold X3_read
  refine wp_sFv (P := St W μs) (pO_3_2 hk_l0 hS (hwP _ _ (by omega) (by omega)) (by omega)) (fun m7 h7 he7 => ?_)
  refine wp_call (t_X3_readCue (l0 := l0) (l2 := 0) hW hwP hk_l0 (by omega) h7) (fun v13 m14 hh => ?_)
  obtain ⟨h14, hr14, hp14⟩ := hh
  refine t_X3_read_L13 (l0 := l0) (l2 := 1) hW hwP hk_l0 (fun m18 h18  hp18 => ?_) FU h14 (by omega) trivial (by omega)
  refine wp_call (t_X4_needEnd hW  h18) (fun v21 m22 hh => ?_)
  obtain ⟨h22, hr22, hp22⟩ := hh
  exact ⟨h22, (by have := gO_4_2 (rfl : kD 3 = (14, 3)) (by decide) h22; omega), trivial⟩
set_option maxHeartbeats 4000000 in
set_option maxRecDepth 100000 in
theorem t_X5_takeOrder_L15 {W : Nat → Nat → Prop} {μs : Mm} {l2 : Int} (hW : ∀ k j, scr k j → W k j)  (hp_l2 : 0 ≤ l2 ∧ l2 ≤ 8) {k86 : Int → Mm → Rs} {Q : Int → Mm → Prop} (hk_k86 : ∀ (a0 : Int) (μ : Mm), St W μs μ → (-2147483648 ≤ a0 ∧ a0 ≤ 2147483647) → True → wp (k86 a0 μ) Q) (hQ : ∀ r μ, St W μs μ → (0 ≤ r ∧ r ≤ 1) → True → Q r μ) : ∀ (n : Nat) {l3 l4 l5 : Int} {μ : Mm}, St W μs μ → (-2147483648 ≤ l3 ∧ l3 ≤ 2147483647) → (-2147483648 ≤ l4 ∧ l4 ≤ 2147483647) → (-1 ≤ l5 ∧ l5 ≤ 7) → True → l5 + 1 + 1 ≤ ((n : Nat) : Int) → wp (X5_takeOrder_L15 l2 k86 n l3 l4 l5 μ) Q := by
  have hFU := FU_v
  intro n
  induction n with
  | zero => intro l3 l4 l5 μ hS hv_l3 hv_l4 hv_l5 hi hm; exact absurd hm (by  have : ((0 : Nat) : Int) = 0 := rfl; omega)
  | succ n ih =>
    intro l3 l4 l5 μ hS hv_l3 hv_l4 hv_l5 hi hm
    have hn1 : ((n + 1 : Nat) : Int) = ((n : Nat) : Int) + 1 := rfl
    rw [X5_takeOrder_L15]
    refine wp_if (fun g5 => ?_) (fun g5 => ?_)
    · exact hk_k86 l3 μ hS (by omega) trivial
    · refine wp_if (fun g6 => ?_) (fun g6 => ?_)
      · exact hk_k86 l3 μ hS (by omega) trivial
      · refine wp_if (fun g7 => ?_) (fun g7 => ?_)
        · exact hQ _ _ hS (by have := iR_10 l3 (by omega); omega) trivial
        · refine wp_if (fun g8 => ?_) (fun g8 => ?_)
          · exact hQ _ _ hS (by have := iR_10 l3 (by omega); omega) trivial
          · refine wp_if (fun g9 => ?_) (fun g9 => ?_)
            · exact hQ _ _ hS (by have := iR_10 l3 (by omega); have := bR_r l4 (iR l3 10); have := bA_r (bR l4 (iR l3 10)) 1; omega) trivial
            · refine wp_ltv (fun v10 q11 => ?_)
              refine wp_stv (P := St W μs) (by have na0 : ((aN 59 : Nat) : Int) = 8 := rfl; have := iR_10 l3 (by omega); have := bR_r l4 (iR l3 10); have := bA_r (bR l4 (iR l3 10)) 1; have := bL_r 1 (iR l3 10); have := bO_r l4 (bL 1 (iR l3 10)); omega) (pA_5_1 (rfl : kD 58 = (15, 10)) (by decide) hS (hW _ _ (by unfold scr; omega)) (by have := iR_10 l3 (by omega); have := bR_r l4 (iR l3 10); have := bA_r (bR l4 (iR l3 10)) 1; have := bL_r 1 (iR l3 10); have := bO_r l4 (bL 1 (iR l3 10)); omega)) (fun m13 h13 he13 => ?_)
              exact ih h13 (by have := iD_10 l3 (by omega); have := iR_10 l3 (by omega); have := bR_r l4 (iR l3 10); have := bA_r (bR l4 (iR l3 10)) 1; have := bL_r 1 (iR l3 10); have := bO_r l4 (bL 1 (iR l3 10)); omega) (by have := iR_10 l3 (by omega); have := bR_r l4 (iR l3 10); have := bA_r (bR l4 (iR l3 10)) 1; have := bL_r 1 (iR l3 10); have := bO_r l4 (bL 1 (iR l3 10)); omega) (by have := iA_c l5 (-1); have := iR_10 l3 (by omega); have := bR_r l4 (iR l3 10); have := bA_r (bR l4 (iR l3 10)) 1; have := bL_r 1 (iR l3 10); have := bO_r l4 (bL 1 (iR l3 10)); omega) trivial (by have := iD_10 l3 (by omega); have := iA_c l5 (-1); have := iR_10 l3 (by omega); have := bR_r l4 (iR l3 10); have := bA_r (bR l4 (iR l3 10)) 1; have := bL_r 1 (iR l3 10); have := bO_r l4 (bL 1 (iR l3 10)); omega)
/-! TOTALITY of the class, by program (wip/gen/tot.py) -/
set_option maxHeartbeats 4000000 in
set_option maxRecDepth 100000 in
theorem t_X5_takeOrder {W : Nat → Nat → Prop} {μs : Mm} {l1 : Int} {l2 : Int} (hW : ∀ k j, scr k j → W k j)  (hp_l1 : -2147483648 ≤ l1 ∧ l1 ≤ 2147483647) (hp_l2 : 0 ≤ l2 ∧ l2 ≤ 8) {μ : Mm} (hS : St W μs μ) : wp (X5_takeOrder l1 l2 μ) (fun r μ' => St W μs μ' ∧ (0 ≤ r ∧ r ≤ 1) ∧ True) := by
  have hFU := FU_v
  unfold X5_takeOrder
  refine wp_sFv (P := St W μs) (pO_5_3 (rfl : kD 58 = (15, 10)) hS (hW _ _ (by unfold scr; omega)) (by omega)) (fun m4 h4 he4 => ?_)
  refine t_X5_takeOrder_L15 (l2 := l2) (l3 := l1) (l4 := 0) (l5 := (iS l2 1)) hW (by omega) (fun v7 m8 h8 hrv7 hp8 => ?_) (fun r_ m_ h_ hr_ hp_ => by exact ⟨h_, (by omega), trivial⟩) FU h4 (by omega) (by omega) (by have := iS_c l2 1; omega) trivial (by have := iS_c l2 1; omega)
  refine wp_if (fun g9 => ?_) (fun g9 => ?_)
  · exact ⟨h8, (by omega), trivial⟩
  · exact ⟨h8, (by omega), trivial⟩
set_option maxHeartbeats 4000000 in
set_option maxRecDepth 100000 in
theorem t_X5_takeBook_L7 {W : Nat → Nat → Prop} {μs : Mm} {l1 : Int} {l2 : Int} (hW : ∀ k j, scr k j → W k j)  (hp_l1 : -2147483648 ≤ l1 ∧ l1 ≤ 2147483647) (hp_l2 : 0 ≤ l2 ∧ l2 ≤ 8) {Q : Int → Mm → Prop} (hQ : ∀ r μ, St W μs μ → (-2147483648 ≤ r ∧ r ≤ 2147483647) → True → Q r μ) : ∀ (n : Nat) {l3 : Int} {μ : Mm}, St W μs μ → (0 ≤ l3 ∧ l3 ≤ 8) → True → 8 - l3 + 1 ≤ ((n : Nat) : Int) → wp (X5_takeBook_L7 l1 l2 n l3 μ) Q := by
  have hFU := FU_v
  intro n
  induction n with
  | zero => intro l3 μ hS hv_l3 hi hm; exact absurd hm (by  have : ((0 : Nat) : Int) = 0 := rfl; omega)
  | succ n ih =>
    intro l3 μ hS hv_l3 hi hm
    have hn1 : ((n + 1 : Nat) : Int) = ((n : Nat) : Int) + 1 := rfl
    rw [X5_takeBook_L7]
    refine wp_if (fun g5 => ?_) (fun g5 => ?_)
    · exact hQ _ _ hS (by omega) trivial
    · refine wp_if (fun g6 => ?_) (fun g6 => ?_)
      · exact hQ _ _ hS (by omega) trivial
      · refine wp_if (fun g7 => ?_) (fun g7 => ?_)
        · refine wp_if (fun g8 => ?_) (fun g8 => ?_)
          · exact ih hS (by have := iA_c l3 1; have := gO_5_3 (rfl : kD 58 = (15, 10)) (by decide) hS; have := bR_r l1 l3; have := bA_r (bR l1 l3) 1; omega) trivial (by have := iA_c l3 1; have := gO_5_3 (rfl : kD 58 = (15, 10)) (by decide) hS; have := bR_r l1 l3; have := bA_r (bR l1 l3) 1; omega)
          · refine wp_stv (P := St W μs) (by have := gO_5_3 (rfl : kD 58 = (15, 10)) (by decide) hS; have na1 : ((aN 59 : Nat) : Int) = 8 := rfl; have := bR_r l1 l3; have := bA_r (bR l1 l3) 1; omega) (pA_5_1 (rfl : kD 58 = (15, 10)) (by decide) hS (hW _ _ (by unfold scr; omega)) (by have := gO_5_3 (rfl : kD 58 = (15, 10)) (by decide) hS; have := bR_r l1 l3; have := bA_r (bR l1 l3) 1; omega)) (fun m9 h9 he9 => ?_)
            refine wp_sFv (P := St W μs) (pO_5_3 (rfl : kD 58 = (15, 10)) h9 (hW _ _ (by unfold scr; omega)) (by have := gO_5_3 (rfl : kD 58 = (15, 10)) (by decide) h9; have : m9 58 3 = μ 58 3 := (by rw [he9, sM_a (by decide)]); have := gO_5_3 (rfl : kD 58 = (15, 10)) (by decide) hS; have := iA_c (m9 58 3) 1; have := bR_r l1 l3; have := bA_r (bR l1 l3) 1; omega)) (fun m11 h11 he11 => ?_)
            exact ih h11 (by have := iA_c l3 1; have := gO_5_3 (rfl : kD 58 = (15, 10)) (by decide) hS; have := bR_r l1 l3; have := bA_r (bR l1 l3) 1; omega) trivial (by have := iA_c l3 1; have := gO_5_3 (rfl : kD 58 = (15, 10)) (by decide) hS; have := bR_r l1 l3; have := bA_r (bR l1 l3) 1; omega)
        · exact ih hS (by have := iA_c l3 1; have := bR_r l1 l3; have := bA_r (bR l1 l3) 1; omega) trivial (by have := iA_c l3 1; have := bR_r l1 l3; have := bA_r (bR l1 l3) 1; omega)
set_option maxHeartbeats 4000000 in
set_option maxRecDepth 100000 in
theorem t_X5_takeBook {W : Nat → Nat → Prop} {μs : Mm} {l1 : Int} {l2 : Int} (hW : ∀ k j, scr k j → W k j)  (hp_l1 : -2147483648 ≤ l1 ∧ l1 ≤ 2147483647) (hp_l2 : 0 ≤ l2 ∧ l2 ≤ 8) {μ : Mm} (hS : St W μs μ) : wp (X5_takeBook l1 l2 μ) (fun r μ' => St W μs μ' ∧ (-2147483648 ≤ r ∧ r ≤ 2147483647) ∧ True) := by
  have hFU := FU_v
  unfold X5_takeBook
  refine wp_sFv (P := St W μs) (pO_5_3 (rfl : kD 58 = (15, 10)) hS (hW _ _ (by unfold scr; omega)) (by omega)) (fun m2 h2 he2 => ?_)
  exact t_X5_takeBook_L7 (l1 := l1) (l2 := l2) (l3 := 0) hW (by omega) (by omega) (fun r_ m_ h_ hr_ hp_ => by exact ⟨h_, (by omega), trivial⟩) FU h2 (by omega) trivial (by omega)
set_option maxHeartbeats 4000000 in
set_option maxRecDepth 100000 in
theorem t_X5_addLate {W : Nat → Nat → Prop} {μs : Mm} {l1 : Int} (hW : ∀ k j, scr k j → W k j)  (hp_l1 : -2147483648 ≤ l1 ∧ l1 ≤ 2147483647) {μ : Mm} (hS : St W μs μ) : wp (X5_addLate l1 μ) (fun r μ' => St W μs μ' ∧ (-2147483648 ≤ r ∧ r ≤ 2147483647) ∧ True) := by
  have hFU := FU_v
  unfold X5_addLate
  refine wp_sFv (P := St W μs) (pO_5_4 (rfl : kD 58 = (15, 10)) hS (hW _ _ (by unfold scr; omega)) (by have := gO_5_4 (rfl : kD 58 = (15, 10)) (by decide) hS; have := iA_c (μ 58 4) l1; omega)) (fun m4 h4 he4 => ?_)
  refine wp_sFv (P := St W μs) (pO_5_5 (rfl : kD 58 = (15, 10)) h4 (hW _ _ (by unfold scr; omega)) (by have := gO_5_5 (rfl : kD 58 = (15, 10)) (by decide) h4; have : m4 58 5 = μ 58 5 := (by rw [he4, sM_j (by decide)]); have := gO_5_5 (rfl : kD 58 = (15, 10)) (by decide) hS; have := mX_c (m4 58 5) l1; omega)) (fun m7 h7 he7 => ?_)
  refine wp_if (fun g9 => ?_) (fun g9 => ?_)
  · exact ⟨h7, (by omega), trivial⟩
  · refine wp_sFv (P := St W μs) (pO_5_6 (rfl : kD 58 = (15, 10)) h7 (hW _ _ (by unfold scr; omega)) (by have := gO_5_6 (rfl : kD 58 = (15, 10)) (by decide) h7; have : m7 58 6 = m4 58 6 := (by rw [he7, sM_j (by decide)]); have := gO_5_6 (rfl : kD 58 = (15, 10)) (by decide) h4; have : m4 58 6 = μ 58 6 := (by rw [he4, sM_j (by decide)]); have := gO_5_6 (rfl : kD 58 = (15, 10)) (by decide) hS; have := iA_c (m7 58 6) 1; omega)) (fun m10 h10 he10 => ?_)
    exact ⟨h10, (by omega), trivial⟩
set_option maxHeartbeats 4000000 in
set_option maxRecDepth 100000 in
theorem t_X5_go_L35 {W : Nat → Nat → Prop} {μs : Mm} {l1 : Nat} (hW : ∀ k j, scr k j → W k j)  (hk_l1 : kD l1 = (11, 7)) {Q : Int → Mm → Prop} (hQ : ∀ r μ, St W μs μ → (0 ≤ r ∧ r ≤ 1) → True → Q r μ) : ∀ (n : Nat) {l2 l3 : Int} {μ : Mm}, St W μs μ → (0 ≤ l2 ∧ l2 ≤ 8) → (0 ≤ l3 ∧ l3 ≤ 8) → True → 8 - l3 + 1 ≤ ((n : Nat) : Int) → wp (X5_go_L35 l1 n l2 l3 μ) Q := by
  have hb_l1 := kJr' hk_l1
  have hFU := FU_v
  intro n
  induction n with
  | zero => intro l2 l3 μ hS hv_l2 hv_l3 hi hm; exact absurd hm (by  have : ((0 : Nat) : Int) = 0 := rfl; omega)
  | succ n ih =>
    intro l2 l3 μ hS hv_l2 hv_l3 hi hm
    have hn1 : ((n + 1 : Nat) : Int) = ((n : Nat) : Int) + 1 := rfl
    rw [X5_go_L35]
    refine wp_if (fun g35 => ?_) (fun g35 => ?_)
    · exact hQ _ _ hS (by have := gO_5_3 (rfl : kD 58 = (15, 10)) (by decide) hS; omega) trivial
    · refine wp_if (fun g36 => ?_) (fun g36 => ?_)
      · exact hQ _ _ hS (by have := gO_5_3 (rfl : kD 58 = (15, 10)) (by decide) hS; omega) trivial
      · refine wp_ldv (by have na0 : ((aN 59 : Nat) : Int) = 8 := rfl; have := gO_5_3 (rfl : kD 58 = (15, 10)) (by decide) hS; omega) (fun v37 q38 => ?_)
        have hrv37 := gA_5_1 (rfl : kD 58 = (15, 10)) (by decide) hS (l3).toNat
        replace hrv37 : 0 ≤ v37 ∧ v37 ≤ 7 := by rw [q38]; exact hrv37
        refine wp_calls (t_X1_comes (l0 := l1) (l1 := (μ 58 7)) (l2 := l2) (l3 := v37)  hk_l1 (by have := gO_5_7 (rfl : kD 58 = (15, 10)) (by decide) hS; have := gO_5_3 (rfl : kD 58 = (15, 10)) (by decide) hS; omega) (by have := gO_5_3 (rfl : kD 58 = (15, 10)) (by decide) hS; omega) (by have := gO_5_3 (rfl : kD 58 = (15, 10)) (by decide) hS; omega) hS) (fun v55 hh => ?_)
        obtain ⟨hr56, hp56⟩ := hh
        refine wp_if (fun g71 => ?_) (fun g71 => ?_)
        · exact hQ _ _ hS (by have := gO_5_3 (rfl : kD 58 = (15, 10)) (by decide) hS; omega) trivial
        · refine wp_calls (t_X1_stepsBetween (l0 := l1) (l1 := l2) (l2 := v37)  hk_l1 (by have := gO_5_3 (rfl : kD 58 = (15, 10)) (by decide) hS; omega) (by have := gO_5_3 (rfl : kD 58 = (15, 10)) (by decide) hS; omega) hS) (fun v72 hh => ?_)
          obtain ⟨hr73, hp73⟩ := hh
          refine wp_sFv (P := St W μs) (pO_5_8 (rfl : kD 58 = (15, 10)) hS (hW _ _ (by unfold scr; omega)) (by have := gO_5_8 (rfl : kD 58 = (15, 10)) (by decide) hS; have := iA_c (μ 58 8) v72; have := gO_5_3 (rfl : kD 58 = (15, 10)) (by decide) hS; omega)) (fun m86 h86 he86 => ?_)
          refine wp_calls (t_X1_dones (l0 := l1) (l1 := v55) (l2 := v37)  hk_l1 (by have := gO_5_3 (rfl : kD 58 = (15, 10)) (by decide) hS; omega) (by have := gO_5_3 (rfl : kD 58 = (15, 10)) (by decide) hS; omega) h86) (fun v98 hh => ?_)
          obtain ⟨hr99, hp99⟩ := hh
          refine wp_sFv (P := St W μs) (pO_5_7 (rfl : kD 58 = (15, 10)) h86 (hW _ _ (by unfold scr; omega)) (by have := gO_5_3 (rfl : kD 58 = (15, 10)) (by decide) hS; omega)) (fun m109 h109 he109 => ?_)
          refine wp_calls (t_X1_wound (l0 := l1) (l1 := v55) (l2 := v37)  hk_l1 (by have := gO_5_3 (rfl : kD 58 = (15, 10)) (by decide) hS; omega) (by have := gO_5_3 (rfl : kD 58 = (15, 10)) (by decide) hS; omega) h109) (fun v118 hh => ?_)
          obtain ⟨hr119, hp119⟩ := hh
          refine wp_sFv (P := St W μs) (pO_5_9 (rfl : kD 58 = (15, 10)) h109 (hW _ _ (by unfold scr; omega)) (by have := gO_5_9 (rfl : kD 58 = (15, 10)) (by decide) h109; have : m109 58 9 = m86 58 9 := (by rw [he109, sM_j (by decide)]); have := gO_5_9 (rfl : kD 58 = (15, 10)) (by decide) h86; have : m86 58 9 = μ 58 9 := (by rw [he86, sM_j (by decide)]); have := gO_5_9 (rfl : kD 58 = (15, 10)) (by decide) hS; have := gO_5_7 (rfl : kD 58 = (15, 10)) (by decide) h109; have : m109 58 7 = v98 := (by rw [he109, sM_s]); have := iS_c (m109 58 7) v118; have := iA_c (m109 58 9) (iS (m109 58 7) v118); have := gO_5_3 (rfl : kD 58 = (15, 10)) (by decide) hS; omega)) (fun m126 h126 he126 => ?_)
          refine wp_stv (P := St W μs) (by have na0 : ((aN 60 : Nat) : Int) = 8 := rfl; have := gO_5_3 (rfl : kD 58 = (15, 10)) (by decide) hS; omega) (pA_5_2 (rfl : kD 58 = (15, 10)) (by decide) h126 (hW _ _ (by unfold scr; omega)) (by have := gO_5_3 (rfl : kD 58 = (15, 10)) (by decide) hS; omega)) (fun m132 h132 he132 => ?_)
          refine wp_stv (P := St W μs) (by have na0 : ((aN 61 : Nat) : Int) = 8 := rfl; have := gO_5_3 (rfl : kD 58 = (15, 10)) (by decide) hS; omega) (pA_5_3 (rfl : kD 58 = (15, 10)) (by decide) h132 (hW _ _ (by unfold scr; omega)) (by have := gO_5_7 (rfl : kD 58 = (15, 10)) (by decide) h132; have : m132 58 7 = m126 58 7 := (by rw [he132, sM_a (by decide)]); have := gO_5_7 (rfl : kD 58 = (15, 10)) (by decide) h126; have : m126 58 7 = m109 58 7 := (by rw [he126, sM_j (by decide)]); have := gO_5_7 (rfl : kD 58 = (15, 10)) (by decide) h109; have : m109 58 7 = v98 := (by rw [he109, sM_s]); have := gO_5_3 (rfl : kD 58 = (15, 10)) (by decide) hS; omega)) (fun m137 h137 he137 => ?_)
          refine wp_ldv (by have na0 : ((aN (l1 + 2) : Nat) : Int) = 8 := (by rw [(bA_1_2 hk_l1 (by omega) 0).2.2]; rfl); have := gO_5_3 (rfl : kD 58 = (15, 10)) (by decide) hS; omega) (fun v141 q142 => ?_)
          have hrv141 := gA_1_2 hk_l1 (by omega) h137 (v37).toNat
          rw [← q142] at hrv141
          refine wp_call (t_X5_addLate (l1 := (iS (m137 58 7) v141)) hW (by have := gO_5_7 (rfl : kD 58 = (15, 10)) (by decide) h137; have : m137 58 7 = m132 58 7 := (by rw [he137, sM_a (by decide)]); have := gO_5_7 (rfl : kD 58 = (15, 10)) (by decide) h132; have : m132 58 7 = m126 58 7 := (by rw [he132, sM_a (by decide)]); have := gO_5_7 (rfl : kD 58 = (15, 10)) (by decide) h126; have : m126 58 7 = m109 58 7 := (by rw [he126, sM_j (by decide)]); have := gO_5_7 (rfl : kD 58 = (15, 10)) (by decide) h109; have : m109 58 7 = v98 := (by rw [he109, sM_s]); have := iS_c (m137 58 7) v141; have := gO_5_3 (rfl : kD 58 = (15, 10)) (by decide) hS; omega) h137) (fun v145 m146 hh => ?_)
          obtain ⟨h146, hr146, hp146⟩ := hh
          exact ih h146 (by have := gO_5_3 (rfl : kD 58 = (15, 10)) (by decide) hS; omega) (by have := iA_c l3 1; have := gO_5_3 (rfl : kD 58 = (15, 10)) (by decide) hS; omega) trivial (by have := iA_c l3 1; have := gO_5_3 (rfl : kD 58 = (15, 10)) (by decide) hS; omega)
set_option maxHeartbeats 4000000 in
set_option maxRecDepth 100000 in
theorem t_X5_go {W : Nat → Nat → Prop} {μs : Mm} {l1 : Nat} (hW : ∀ k j, scr k j → W k j)  (hk_l1 : kD l1 = (11, 7)) {μ : Mm} (hS : St W μs μ) : wp (X5_go l1 μ) (fun r μ' => St W μs μ' ∧ (0 ≤ r ∧ r ≤ 1) ∧ True) := by
  have hb_l1 := kJr' hk_l1
  have hFU := FU_v
  unfold X5_go
  refine wp_sFv (P := St W μs) (pO_5_4 (rfl : kD 58 = (15, 10)) hS (hW _ _ (by unfold scr; omega)) (by omega)) (fun m7 h7 he7 => ?_)
  refine wp_sFv (P := St W μs) (pO_5_5 (rfl : kD 58 = (15, 10)) h7 (hW _ _ (by unfold scr; omega)) (by omega)) (fun m13 h13 he13 => ?_)
  refine wp_sFv (P := St W μs) (pO_5_6 (rfl : kD 58 = (15, 10)) h13 (hW _ _ (by unfold scr; omega)) (by omega)) (fun m18 h18 he18 => ?_)
  refine wp_sFv (P := St W μs) (pO_5_7 (rfl : kD 58 = (15, 10)) h18 (hW _ _ (by unfold scr; omega)) (by omega)) (fun m22 h22 he22 => ?_)
  refine wp_sFv (P := St W μs) (pO_5_8 (rfl : kD 58 = (15, 10)) h22 (hW _ _ (by unfold scr; omega)) (by omega)) (fun m25 h25 he25 => ?_)
  refine wp_sFv (P := St W μs) (pO_5_9 (rfl : kD 58 = (15, 10)) h25 (hW _ _ (by unfold scr; omega)) (by omega)) (fun m27 h27 he27 => ?_)
  exact t_X5_go_L35 (l1 := l1) (l2 := 8) (l3 := 0) hW hk_l1 (fun r_ m_ h_ hr_ hp_ => by exact ⟨h_, (by omega), trivial⟩) FU h27 (by omega) (by omega) trivial (by omega)
set_option maxHeartbeats 4000000 in
set_option maxRecDepth 100000 in
theorem t_X5_crankAt_L2 {W : Nat → Nat → Prop} {μs : Mm} {l1 : Nat} {l2 : Int}  (hk_l1 : kD l1 = (11, 7)) (hp_l2 : -2147483648 ≤ l2 ∧ l2 ≤ 2147483647) {μ : Mm} (hS : St W μs μ) {k60 : Mm → Rs} {Q : Int → Mm → Prop} (hk_k60 : True → wp (k60 μ) Q) (hQ : ∀ r, (0 ≤ r ∧ r ≤ 9) → True → Q r μ) : ∀ (n : Nat) {l3 : Int} , (0 ≤ l3 ∧ l3 ≤ 8) → True → 8 - l3 + 1 ≤ ((n : Nat) : Int) → wp (X5_crankAt_L2 l1 l2 k60 n l3 μ) Q := by
  have hb_l1 := kJr' hk_l1
  have hFU := FU_v
  intro n
  induction n with
  | zero => intro l3 hv_l3 hi hm; exact absurd hm (by  have : ((0 : Nat) : Int) = 0 := rfl; omega)
  | succ n ih =>
    intro l3 hv_l3 hi hm
    have hn1 : ((n + 1 : Nat) : Int) = ((n : Nat) : Int) + 1 := rfl
    rw [X5_crankAt_L2]
    refine wp_if (fun g9 => ?_) (fun g9 => ?_)
    · exact hk_k60    trivial
    · refine wp_if (fun g10 => ?_) (fun g10 => ?_)
      · exact hk_k60    trivial
      · refine wp_ldv (by have na0 : ((aN 59 : Nat) : Int) = 8 := rfl; have := gO_5_3 (rfl : kD 58 = (15, 10)) (by decide) hS; omega) (fun v11 q12 => ?_)
        have hrv11 := gA_5_1 (rfl : kD 58 = (15, 10)) (by decide) hS (l3).toNat
        replace hrv11 : 0 ≤ v11 ∧ v11 ≤ 7 := by rw [q12]; exact hrv11
        refine wp_ldv (by have na0 : ((aN 60 : Nat) : Int) = 8 := rfl; have := gO_5_3 (rfl : kD 58 = (15, 10)) (by decide) hS; omega) (fun v16 q17 => ?_)
        have hrv16 := gA_5_2 (rfl : kD 58 = (15, 10)) (by decide) hS (v11).toNat
        replace hrv16 : -2147483648 ≤ v16 ∧ v16 ≤ 2147483647 := by rw [q17]; exact hrv16
        refine wp_if (fun g20 => ?_) (fun g20 => ?_)
        · exact ih  (by have := iA_c l3 1; have := gO_5_3 (rfl : kD 58 = (15, 10)) (by decide) hS; omega) trivial (by have := iA_c l3 1; have := gO_5_3 (rfl : kD 58 = (15, 10)) (by decide) hS; omega)
        · refine wp_ldv (by have na0 : ((aN 61 : Nat) : Int) = 8 := rfl; have := gO_5_3 (rfl : kD 58 = (15, 10)) (by decide) hS; omega) (fun v21 q22 => ?_)
          have hrv21 := gA_5_3 (rfl : kD 58 = (15, 10)) (by decide) hS (v11).toNat
          replace hrv21 : -2147483648 ≤ v21 ∧ v21 ≤ 2147483647 := by rw [q22]; exact hrv21
          refine wp_if (fun g24 => ?_) (fun g24 => ?_)
          · exact ih  (by have := iA_c l3 1; have := gO_5_3 (rfl : kD 58 = (15, 10)) (by decide) hS; omega) trivial (by have := iA_c l3 1; have := gO_5_3 (rfl : kD 58 = (15, 10)) (by decide) hS; omega)
          · refine wp_ldv (by have na0 : ((aN (l1 + 1) : Nat) : Int) = 8 := (by rw [(bA_1_1 hk_l1 (by omega) 0).2.2]; rfl); have := gO_5_3 (rfl : kD 58 = (15, 10)) (by decide) hS; omega) (fun v25 q26 => ?_)
            have hrv25 := gA_1_1 hk_l1 (by omega) hS (v11).toNat
            rw [← q26] at hrv25
            exact hQ _ (by have := gO_5_3 (rfl : kD 58 = (15, 10)) (by decide) hS; omega) trivial
set_option maxHeartbeats 4000000 in
set_option maxRecDepth 100000 in
theorem t_X5_crankAt {W : Nat → Nat → Prop} {μs : Mm} {l1 : Nat} {l2 : Int}  (hk_l1 : kD l1 = (11, 7)) (hp_l2 : -2147483648 ≤ l2 ∧ l2 ≤ 2147483647) {μ : Mm} (hS : St W μs μ) : wp (X5_crankAt l1 l2 μ) (fun r μ' => μ' = μ ∧ (0 ≤ r ∧ r ≤ 9) ∧ True) := by
  have hb_l1 := kJr' hk_l1
  have hFU := FU_v
  unfold X5_crankAt
  refine t_X5_crankAt_L2 (l1 := l1) (l2 := l2) (l3 := 0)  hk_l1 (by omega) hS (fun hp2 => ?_) (fun r_ hr_ hp_ => by exact ⟨rfl, (by omega), trivial⟩) FU  (by omega) trivial (by omega)
  refine wp_if (fun g3 => ?_) (fun g3 => ?_)
  · exact ⟨rfl, (by have := gO_5_7 (rfl : kD 58 = (15, 10)) (by decide) hS; omega), trivial⟩
  · exact ⟨rfl, (by have := gO_5_7 (rfl : kD 58 = (15, 10)) (by decide) hS; omega), trivial⟩
set_option maxHeartbeats 4000000 in
set_option maxRecDepth 100000 in
theorem t_X6_forget_L15 {W : Nat → Nat → Prop} {μs : Mm} {l1 : Int} (hW : ∀ k j, scr k j → W k j)  (hp_l1 : -2147483648 ≤ l1 ∧ l1 ≤ 2147483647) {Q : Int → Mm → Prop} (hQ : ∀ r μ, St W μs μ → (-2147483648 ≤ r ∧ r ≤ 2147483647) → True → Q r μ) : ∀ (n : Nat) {l2 : Int} {μ : Mm}, St W μs μ → (0 ≤ l2 ∧ l2 ≤ 2048) → True → 2048 - l2 + 1 ≤ ((n : Nat) : Int) → wp (X6_forget_L15 l1 n l2 μ) Q := by
  have hFU := FU_v
  intro n
  induction n with
  | zero => intro l2 μ hS hv_l2 hi hm; exact absurd hm (by  have : ((0 : Nat) : Int) = 0 := rfl; omega)
  | succ n ih =>
    intro l2 μ hS hv_l2 hi hm
    have hn1 : ((n + 1 : Nat) : Int) = ((n : Nat) : Int) + 1 := rfl
    rw [X6_forget_L15]
    refine wp_if (fun g5 => ?_) (fun g5 => ?_)
    · exact hQ _ _ hS (by omega) trivial
    · refine wp_if (fun g6 => ?_) (fun g6 => ?_)
      · exact hQ _ _ hS (by have na0 : ((aN 63 : Nat) : Int) = 2048 := rfl; omega) trivial
      · refine wp_stv (P := St W μs) (by have na0 : ((aN 63 : Nat) : Int) = 2048 := rfl; omega) (pA_6_1 (rfl : kD 62 = (16, 9)) (by decide) hS (hW _ _ (by unfold scr; omega)) (by have na0 : ((aN 63 : Nat) : Int) = 2048 := rfl; omega)) (fun m7 h7 he7 => ?_)
        refine wp_stv (P := St W μs) (by have na0 : ((aN 64 : Nat) : Int) = 2048 := rfl; have na1 : ((aN 63 : Nat) : Int) = 2048 := rfl; omega) (pA_6_2 (rfl : kD 62 = (16, 9)) (by decide) h7 (hW _ _ (by unfold scr; omega)) (by have na0 : ((aN 63 : Nat) : Int) = 2048 := rfl; omega)) (fun m9 h9 he9 => ?_)
        exact ih h9 (by have := iA_c l2 1; have na1 : ((aN 63 : Nat) : Int) = 2048 := rfl; omega) trivial (by have := iA_c l2 1; have na1 : ((aN 63 : Nat) : Int) = 2048 := rfl; omega)
set_option maxHeartbeats 4000000 in
set_option maxRecDepth 100000 in
theorem t_X6_forget {W : Nat → Nat → Prop} {μs : Mm}  (hW : ∀ k j, scr k j → W k j)   {μ : Mm} (hS : St W μs μ) : wp (X6_forget μ) (fun r μ' => St W μs μ' ∧ (-2147483648 ≤ r ∧ r ≤ 2147483647) ∧ True) := by
  have hFU := FU_v
  unfold X6_forget
  refine wp_mRv hS.1.2.2.1 (fun v4 hkv4 e5 => ?_)
  have hbv4 := kJr' hkv4
  refine wp_calls (t_X1_allCues (l0 := v4)  hkv4 hS) (fun v8 hh => ?_)
  obtain ⟨hr9, hp9⟩ := hh
  exact t_X6_forget_L15 (l1 := (iM (iA v8 1) 8)) (l2 := 0) hW (by have := iA_c v8 1; have := iM_c (iA v8 1) 8; omega) (fun r_ m_ h_ hr_ hp_ => by exact ⟨h_, (by omega), trivial⟩) FU hS (by omega) trivial (by omega)
set_option maxHeartbeats 4000000 in
set_option maxRecDepth 100000 in
theorem t_X6_withLate {W : Nat → Nat → Prop} {μs : Mm} {l1 : Int} {l2 : Int}  (hp_l1 : -2147483648 ≤ l1 ∧ l1 ≤ 2147483647) (hp_l2 : -2147483648 ≤ l2 ∧ l2 ≤ 2147483647) {μ : Mm} (hS : St W μs μ) : wp (X6_withLate l1 l2 μ) (fun r μ' => μ' = μ ∧ (-2147483648 ≤ r ∧ r ≤ 2147483647) ∧ True) := by
  have hFU := FU_v
  unfold X6_withLate
  refine wp_if (fun g1 => ?_) (fun g1 => ?_)
  · exact ⟨rfl, (by have := iA_c l1 l2; have := gO_6_5 (rfl : kD 62 = (16, 9)) (by decide) hS; omega), trivial⟩
  · refine wp_if (fun g2 => ?_) (fun g2 => ?_)
    · exact ⟨rfl, (by have := mX_c l1 l2; have := gO_6_5 (rfl : kD 62 = (16, 9)) (by decide) hS; omega), trivial⟩
    · refine wp_if (fun g3 => ?_) (fun g3 => ?_)
      · exact ⟨rfl, (by have := gO_6_5 (rfl : kD 62 = (16, 9)) (by decide) hS; omega), trivial⟩
      · exact ⟨rfl, (by have := iA_c l1 1; have := gO_6_5 (rfl : kD 62 = (16, 9)) (by decide) hS; omega), trivial⟩
set_option maxHeartbeats 4000000 in
set_option maxRecDepth 100000 in
theorem t_X6_isNew {W : Nat → Nat → Prop} {μs : Mm} {l1 : Int} {l2 : Int} {l3 : Int} {l4 : Int} (hW : ∀ k j, scr k j → W k j)  (hp_l1 : -2147483648 ≤ l1 ∧ l1 ≤ 2147483647) (hp_l2 : -2147483648 ≤ l2 ∧ l2 ≤ 2147483647) (hp_l3 : -2147483648 ≤ l3 ∧ l3 ≤ 2147483647) (hp_l4 : -2147483648 ≤ l4 ∧ l4 ≤ 2147483647) {μ : Mm} (hS : St W μs μ) : wp (X6_isNew l1 l2 l3 l4 μ) (fun r μ' => St W μs μ' ∧ (0 ≤ r ∧ r ≤ 1) ∧ True) := by
  have hFU := FU_v
  unfold X6_isNew
  refine wp_ltv (fun v4 q5 => ?_)
  refine wp_if (fun g8 => ?_) (fun g8 => ?_)
  · exact ⟨hS, (by have := iM_c l1 8; have := iA_c (iM l1 8) l2; omega), trivial⟩
  · refine wp_if (fun g9 => ?_) (fun g9 => ?_)
    · refine wp_ldv (by have na0 : ((aN 63 : Nat) : Int) = 2048 := rfl; have := iM_c l1 8; have := iA_c (iM l1 8) l2; omega) (fun v10 q11 => ?_)
      have hrv10 := gA_6_1 (rfl : kD 62 = (16, 9)) (by decide) hS (v4).toNat
      replace hrv10 : -2147483648 ≤ v10 ∧ v10 ≤ 2147483647 := by rw [q11]; exact hrv10
      refine wp_if (fun g13 => ?_) (fun g13 => ?_)
      · unfold X6_isNew_J50
        try dsimp only
        refine wp_stv (P := St W μs) (by have na0 : ((aN 63 : Nat) : Int) = 2048 := rfl; have := iM_c l1 8; have := iA_c (iM l1 8) l2; omega) (pA_6_1 (rfl : kD 62 = (16, 9)) (by decide) hS (hW _ _ (by unfold scr; omega)) (by have na0 : ((aN 63 : Nat) : Int) = 2048 := rfl; have := iM_c l1 8; have := iA_c (iM l1 8) l2; omega)) (fun m16 h16 he16 => ?_)
        refine wp_stv (P := St W μs) (by have na0 : ((aN 64 : Nat) : Int) = 2048 := rfl; have na1 : ((aN 63 : Nat) : Int) = 2048 := rfl; have := iM_c l1 8; have := iA_c (iM l1 8) l2; omega) (pA_6_2 (rfl : kD 62 = (16, 9)) (by decide) h16 (hW _ _ (by unfold scr; omega)) (by have na0 : ((aN 63 : Nat) : Int) = 2048 := rfl; have := iM_c l1 8; have := iA_c (iM l1 8) l2; omega)) (fun m18 h18 he18 => ?_)
        exact ⟨h18, (by have na0 : ((aN 63 : Nat) : Int) = 2048 := rfl; have := iM_c l1 8; have := iA_c (iM l1 8) l2; omega), trivial⟩
      · refine wp_ldv (by have na0 : ((aN 64 : Nat) : Int) = 2048 := rfl; have na1 : ((aN 63 : Nat) : Int) = 2048 := rfl; have := iM_c l1 8; have := iA_c (iM l1 8) l2; omega) (fun v19 q20 => ?_)
        have hrv19 := gA_6_2 (rfl : kD 62 = (16, 9)) (by decide) hS (v4).toNat
        replace hrv19 : -2147483648 ≤ v19 ∧ v19 ≤ 2147483647 := by rw [q20]; exact hrv19
        refine wp_if (fun g21 => ?_) (fun g21 => ?_)
        · unfold X6_isNew_J50
          try dsimp only
          refine wp_stv (P := St W μs) (by have na0 : ((aN 63 : Nat) : Int) = 2048 := rfl; have := iM_c l1 8; have := iA_c (iM l1 8) l2; omega) (pA_6_1 (rfl : kD 62 = (16, 9)) (by decide) hS (hW _ _ (by unfold scr; omega)) (by have na0 : ((aN 63 : Nat) : Int) = 2048 := rfl; have := iM_c l1 8; have := iA_c (iM l1 8) l2; omega)) (fun m24 h24 he24 => ?_)
          refine wp_stv (P := St W μs) (by have na0 : ((aN 64 : Nat) : Int) = 2048 := rfl; have na1 : ((aN 63 : Nat) : Int) = 2048 := rfl; have := iM_c l1 8; have := iA_c (iM l1 8) l2; omega) (pA_6_2 (rfl : kD 62 = (16, 9)) (by decide) h24 (hW _ _ (by unfold scr; omega)) (by have na0 : ((aN 63 : Nat) : Int) = 2048 := rfl; have := iM_c l1 8; have := iA_c (iM l1 8) l2; omega)) (fun m26 h26 he26 => ?_)
          exact ⟨h26, (by have na0 : ((aN 63 : Nat) : Int) = 2048 := rfl; have := iM_c l1 8; have := iA_c (iM l1 8) l2; omega), trivial⟩
        · exact ⟨hS, (by have na0 : ((aN 63 : Nat) : Int) = 2048 := rfl; have := iM_c l1 8; have := iA_c (iM l1 8) l2; omega), trivial⟩
    · exact ⟨hS, (by have na0 : ((aN 63 : Nat) : Int) = 2048 := rfl; have := iM_c l1 8; have := iA_c (iM l1 8) l2; omega), trivial⟩
set_option maxHeartbeats 4000000 in
set_option maxRecDepth 100000 in
theorem t_X6_follow_o {W : Nat → Nat → Prop} {μs : Mm} {l1 : Int} {l2 : Int} {l3 : Int} {l4 : Int} {l5 : Int} {l6 : Int} (hW : ∀ k j, scr k j → W k j) {N : Int} {rec : Int → Int → Int → Int → Int → Int → Mm → Rs} (hrec : ∀ (l1 : Int) (l2 : Int) (l3 : Int) (l4 : Int) (l5 : Int) (l6 : Int) (μ : Mm), St W μs μ → (0 ≤ l1 ∧ l1 ≤ 8) → (-2147483648 ≤ l2 ∧ l2 ≤ 2147483647) → (0 ≤ l3 ∧ l3 ≤ 8) → (-2147483648 ≤ l4 ∧ l4 ≤ 2147483647) → (-2147483648 ≤ l5 ∧ l5 ≤ 2147483647) → (-2147483648 ≤ l6 ∧ l6 ≤ 2147483647) → 9 ≤ l1 + N → wp (rec l1 l2 l3 l4 l5 l6 μ) (fun r μ' => St W μs μ' ∧ (-2147483648 ≤ r ∧ r ≤ 2147483647) ∧ True))  (hp_l1 : 0 ≤ l1 ∧ l1 ≤ 7) (hp_l2 : -2147483648 ≤ l2 ∧ l2 ≤ 2147483647) (hp_l3 : 0 ≤ l3 ∧ l3 ≤ 7) (hp_l4 : -2147483648 ≤ l4 ∧ l4 ≤ 2147483647) (hp_l5 : -2147483648 ≤ l5 ∧ l5 ≤ 2147483647) (hp_l6 : -2147483648 ≤ l6 ∧ l6 ≤ 2147483647) {μ : Mm} (hS : St W μs μ) (hl : 8 ≤ l1 + N) : wp (X6_follow_o rec l1 l2 l3 l4 l5 l6 μ) (fun r μ' => St W μs μ' ∧ (-2147483648 ≤ r ∧ r ≤ 2147483647) ∧ True) := by
  have hFU := FU_v
  unfold X6_follow_o
  refine wp_mRv hS.1.2.2.1 (fun v12 hkv12 e13 => ?_)
  have hbv12 := kJr' hkv12
  refine wp_calls (t_X1_dones (l0 := v12) (l1 := l4) (l2 := l3)  hkv12 (by omega) (by omega) hS) (fun v24 hh => ?_)
  obtain ⟨hr25, hp25⟩ := hh
  refine wp_mRe hkv12 e13 ?_
  refine wp_ldv (by have na0 : ((aN (v12 + 2) : Nat) : Int) = 8 := (by rw [(bA_1_2 hkv12 (by omega) 0).2.2]; rfl); omega) (fun v42 q43 => ?_)
  have hrv42 := gA_1_2 hkv12 (by omega) hS (l3).toNat
  rw [← q43] at hrv42
  refine wp_calls (t_X6_withLate (l1 := l5) (l2 := (iS v24 v42))  (by omega) (by have := iS_c v24 v42; omega) hS) (fun v50 hh => ?_)
  obtain ⟨hr51, hp51⟩ := hh
  refine wp_if (fun g56 => ?_) (fun g56 => ?_)
  · exact ⟨hS, (by have := gO_6_7 (rfl : kD 62 = (16, 9)) (by decide) hS; omega), trivial⟩
  · refine wp_call (t_X6_isNew (l1 := l2) (l2 := l3) (l3 := v24) (l4 := v50) hW (by have := gO_6_7 (rfl : kD 62 = (16, 9)) (by decide) hS; omega) (by have := gO_6_7 (rfl : kD 62 = (16, 9)) (by decide) hS; omega) (by have := gO_6_7 (rfl : kD 62 = (16, 9)) (by decide) hS; omega) (by have := gO_6_7 (rfl : kD 62 = (16, 9)) (by decide) hS; omega) hS) (fun v57 m58 hh => ?_)
    obtain ⟨h58, hr58, hp58⟩ := hh
    refine wp_if (fun g61 => ?_) (fun g61 => ?_)
    · exact ⟨h58, (by have := gO_6_7 (rfl : kD 62 = (16, 9)) (by decide) hS; omega), trivial⟩
    · refine wp_call (hrec (iA l1 1) l2 l3 v24 v50 l6 m58 h58 (by have := iA_c l1 1; have := gO_6_7 (rfl : kD 62 = (16, 9)) (by decide) hS; omega) (by have := gO_6_7 (rfl : kD 62 = (16, 9)) (by decide) hS; omega) (by have := gO_6_7 (rfl : kD 62 = (16, 9)) (by decide) hS; omega) (by have := gO_6_7 (rfl : kD 62 = (16, 9)) (by decide) hS; omega) (by have := gO_6_7 (rfl : kD 62 = (16, 9)) (by decide) hS; omega) (by have := gO_6_7 (rfl : kD 62 = (16, 9)) (by decide) hS; omega) (by have := iA_c l1 1; have := gO_6_7 (rfl : kD 62 = (16, 9)) (by decide) hS; omega)) (fun v62 m63 hh => ?_)
      obtain ⟨h63, hr63, hp63⟩ := hh
      exact ⟨h63, (by have := gO_6_7 (rfl : kD 62 = (16, 9)) (by decide) hS; omega), trivial⟩
set_option maxHeartbeats 4000000 in
set_option maxRecDepth 100000 in
theorem t_X6_visit_L66 {W : Nat → Nat → Prop} {μs : Mm} {l1 : Int} {l2 : Int} {l3 : Int} {l4 : Int} {l5 : Int} {l6 : Int} {l8 : Int} (hW : ∀ k j, scr k j → W k j) {N : Int} {rec : Int → Int → Int → Int → Int → Int → Mm → Rs} (hrec : ∀ (l1 : Int) (l2 : Int) (l3 : Int) (l4 : Int) (l5 : Int) (l6 : Int) (μ : Mm), St W μs μ → (0 ≤ l1 ∧ l1 ≤ 8) → (-2147483648 ≤ l2 ∧ l2 ≤ 2147483647) → (0 ≤ l3 ∧ l3 ≤ 8) → (-2147483648 ≤ l4 ∧ l4 ≤ 2147483647) → (-2147483648 ≤ l5 ∧ l5 ≤ 2147483647) → (-2147483648 ≤ l6 ∧ l6 ≤ 2147483647) → 9 ≤ l1 + N → wp (rec l1 l2 l3 l4 l5 l6 μ) (fun r μ' => St W μs μ' ∧ (-2147483648 ≤ r ∧ r ≤ 2147483647) ∧ True))  (hp_l1 : 0 ≤ l1 ∧ l1 ≤ 7) (hp_l2 : -2147483648 ≤ l2 ∧ l2 ≤ 2147483647) (hp_l3 : 0 ≤ l3 ∧ l3 ≤ 8) (hp_l4 : -2147483648 ≤ l4 ∧ l4 ≤ 2147483647) (hp_l5 : -2147483648 ≤ l5 ∧ l5 ≤ 2147483647) (hp_l6 : -2147483648 ≤ l6 ∧ l6 ≤ 2147483647) (hp_l8 : 0 ≤ l8 ∧ l8 ≤ 8) (hl : 8 ≤ l1 + N) {Q : Int → Mm → Prop} (hQ : ∀ r μ, St W μs μ → (-2147483648 ≤ r ∧ r ≤ 2147483647) → True → Q r μ) : ∀ (n : Nat) {l9 : Int} {μ : Mm}, St W μs μ → (0 ≤ l9 ∧ l9 ≤ 8) → True → 8 - l9 + 1 ≤ ((n : Nat) : Int) → wp (X6_visit_L66 rec l1 l2 l3 l4 l5 l6 l8 n l9 μ) Q := by
  have hFU := FU_v
  intro n
  induction n with
  | zero => intro l9 μ hS hv_l9 hi hm; exact absurd hm (by  have : ((0 : Nat) : Int) = 0 := rfl; omega)
  | succ n ih =>
    intro l9 μ hS hv_l9 hi hm
    have hn1 : ((n + 1 : Nat) : Int) = ((n : Nat) : Int) + 1 := rfl
    rw [X6_visit_L66]
    refine wp_if (fun g15 => ?_) (fun g15 => ?_)
    · exact hQ _ _ hS (by omega) trivial
    · refine wp_if (fun g16 => ?_) (fun g16 => ?_)
      · unfold X6_visit_J99
        try dsimp only
        refine wp_if (fun g19 => ?_) (fun g19 => ?_)
        · exact ih hS (by have := iA_c l9 1; have := bR_r l2 l9; have := bA_r (bR l2 l9) 1; omega) trivial (by have := iA_c l9 1; have := bR_r l2 l9; have := bA_r (bR l2 l9) 1; omega)
        · refine wp_call (t_X6_follow_o (l1 := l1) (l2 := (bO l2 (bL 1 l9))) (l3 := l9) (l4 := (-1)) (l5 := l5) (l6 := (iA (iM 10 l6) l9)) hW hrec (by have := bR_r l2 l9; have := bA_r (bR l2 l9) 1; omega) (by have := bL_r 1 l9; have := bO_r l2 (bL 1 l9); have := bR_r l2 l9; have := bA_r (bR l2 l9) 1; omega) (by have := bR_r l2 l9; have := bA_r (bR l2 l9) 1; omega) (by have := bR_r l2 l9; have := bA_r (bR l2 l9) 1; omega) (by have := bR_r l2 l9; have := bA_r (bR l2 l9) 1; omega) (by have := iM_c 10 l6; have := iA_c (iM 10 l6) l9; have := bR_r l2 l9; have := bA_r (bR l2 l9) 1; omega) hS (by have := bL_r 1 l9; have := bO_r l2 (bL 1 l9); have := iM_c 10 l6; have := iA_c (iM 10 l6) l9; have := bR_r l2 l9; have := bA_r (bR l2 l9) 1; omega)) (fun v20 m21 hh => ?_)
          obtain ⟨h21, hr21, hp21⟩ := hh
          exact ih h21 (by have := iA_c l9 1; have := bR_r l2 l9; have := bA_r (bR l2 l9) 1; omega) trivial (by have := iA_c l9 1; have := bR_r l2 l9; have := bA_r (bR l2 l9) 1; omega)
      · refine wp_mRv hS.1.2.2.1 (fun v22 hkv22 e23 => ?_)
        have hbv22 := kJr' hkv22
        refine wp_calls (t_X1_comes (l0 := v22) (l1 := l4) (l2 := l3) (l3 := l9)  hkv22 (by have := bR_r l2 l9; have := bA_r (bR l2 l9) 1; omega) (by have := bR_r l2 l9; have := bA_r (bR l2 l9) 1; omega) (by have := bR_r l2 l9; have := bA_r (bR l2 l9) 1; omega) hS) (fun v28 hh => ?_)
        obtain ⟨hr29, hp29⟩ := hh
        unfold X6_visit_J99
        try dsimp only
        refine wp_if (fun g34 => ?_) (fun g34 => ?_)
        · exact ih hS (by have := iA_c l9 1; have := bR_r l2 l9; have := bA_r (bR l2 l9) 1; omega) trivial (by have := iA_c l9 1; have := bR_r l2 l9; have := bA_r (bR l2 l9) 1; omega)
        · refine wp_call (t_X6_follow_o (l1 := l1) (l2 := (bO l2 (bL 1 l9))) (l3 := l9) (l4 := v28) (l5 := l5) (l6 := (iA (iM 10 l6) l9)) hW hrec (by have := bR_r l2 l9; have := bA_r (bR l2 l9) 1; omega) (by have := bL_r 1 l9; have := bO_r l2 (bL 1 l9); have := bR_r l2 l9; have := bA_r (bR l2 l9) 1; omega) (by have := bR_r l2 l9; have := bA_r (bR l2 l9) 1; omega) (by have := bR_r l2 l9; have := bA_r (bR l2 l9) 1; omega) (by have := bR_r l2 l9; have := bA_r (bR l2 l9) 1; omega) (by have := iM_c 10 l6; have := iA_c (iM 10 l6) l9; have := bR_r l2 l9; have := bA_r (bR l2 l9) 1; omega) hS (by have := bL_r 1 l9; have := bO_r l2 (bL 1 l9); have := iM_c 10 l6; have := iA_c (iM 10 l6) l9; have := bR_r l2 l9; have := bA_r (bR l2 l9) 1; omega)) (fun v35 m36 hh => ?_)
          obtain ⟨h36, hr36, hp36⟩ := hh
          exact ih h36 (by have := iA_c l9 1; have := bR_r l2 l9; have := bA_r (bR l2 l9) 1; omega) trivial (by have := iA_c l9 1; have := bR_r l2 l9; have := bA_r (bR l2 l9) 1; omega)
set_option maxHeartbeats 4000000 in
set_option maxRecDepth 100000 in
theorem t_X6_visit {W : Nat → Nat → Prop} {μs : Mm} (hW : ∀ k j, scr k j → W k j) : ∀ (n : Nat) {l1 l2 l3 l4 l5 l6 : Int} {μ : Mm}, St W μs μ → (0 ≤ l1 ∧ l1 ≤ 8) → (-2147483648 ≤ l2 ∧ l2 ≤ 2147483647) → (0 ≤ l3 ∧ l3 ≤ 8) → (-2147483648 ≤ l4 ∧ l4 ≤ 2147483647) → (-2147483648 ≤ l5 ∧ l5 ≤ 2147483647) → (-2147483648 ≤ l6 ∧ l6 ≤ 2147483647) → 9 ≤ l1 + ((n : Nat) : Int) → wp (X6_visit n l1 l2 l3 l4 l5 l6 μ) (fun r μ' => St W μs μ' ∧ (-2147483648 ≤ r ∧ r ≤ 2147483647) ∧ True) := by
  have hFU := FU_v
  intro n
  induction n with
  | zero => intro l1 l2 l3 l4 l5 l6 μ hS hv_l1 hv_l2 hv_l3 hv_l4 hv_l5 hv_l6 hl; exact absurd hl (by have : ((0 : Nat) : Int) = 0 := rfl; omega)
  | succ n ih =>
    intro l1 l2 l3 l4 l5 l6 μ hS hv_l1 hv_l2 hv_l3 hv_l4 hv_l5 hv_l6 hl
    have hn1 : ((n + 1 : Nat) : Int) = ((n : Nat) : Int) + 1 := rfl
    have hrec : ∀ (l1 : Int) (l2 : Int) (l3 : Int) (l4 : Int) (l5 : Int) (l6 : Int) (μ : Mm), St W μs μ → (0 ≤ l1 ∧ l1 ≤ 8) → (-2147483648 ≤ l2 ∧ l2 ≤ 2147483647) → (0 ≤ l3 ∧ l3 ≤ 8) → (-2147483648 ≤ l4 ∧ l4 ≤ 2147483647) → (-2147483648 ≤ l5 ∧ l5 ≤ 2147483647) → (-2147483648 ≤ l6 ∧ l6 ≤ 2147483647) → 9 ≤ l1 + ((n : Nat) : Int) → wp (X6_visit n l1 l2 l3 l4 l5 l6 μ) (fun r μ' => St W μs μ' ∧ (-2147483648 ≤ r ∧ r ≤ 2147483647) ∧ True) := fun l1 l2 l3 l4 l5 l6 μ hS hv_l1 hv_l2 hv_l3 hv_l4 hv_l5 hv_l6 hl => ih hS hv_l1 hv_l2 hv_l3 hv_l4 hv_l5 hv_l6 (by omega)
    rw [X6_visit]
    refine wp_mRv hS.1.2.2.1 (fun v18 hkv18 e19 => ?_)
    have hbv18 := kJr' hkv18
    refine wp_if (fun g36 => ?_) (fun g36 => ?_)
    · refine wp_if (fun g37 => ?_) (fun g37 => ?_)
      · unfold X6_visit_J37
        try dsimp only
        refine wp_if (fun g39 => ?_) (fun g39 => ?_)
        · refine wp_mRe hkv18 e19 ?_
          unfold X6_visit_J60
          try dsimp only
          exact t_X6_visit_L66 (l1 := l1) (l2 := l2) (l3 := l3) (l4 := l4) (l5 := l5) (l6 := l6) (l8 := (μ v18 5)) (l9 := 0) hW hrec (by have := gO_1_5 hkv18 (by omega) hS; have := gO_6_6 (rfl : kD 62 = (16, 9)) (by decide) hS; omega) (by have := gO_1_5 hkv18 (by omega) hS; have := gO_6_6 (rfl : kD 62 = (16, 9)) (by decide) hS; omega) (by have := gO_1_5 hkv18 (by omega) hS; have := gO_6_6 (rfl : kD 62 = (16, 9)) (by decide) hS; omega) (by have := gO_1_5 hkv18 (by omega) hS; have := gO_6_6 (rfl : kD 62 = (16, 9)) (by decide) hS; omega) (by have := gO_1_5 hkv18 (by omega) hS; have := gO_6_6 (rfl : kD 62 = (16, 9)) (by decide) hS; omega) (by have := gO_1_5 hkv18 (by omega) hS; have := gO_6_6 (rfl : kD 62 = (16, 9)) (by decide) hS; omega) (by have := gO_1_5 hkv18 (by omega) hS; have := gO_6_6 (rfl : kD 62 = (16, 9)) (by decide) hS; omega) (by have := gO_1_5 hkv18 (by omega) hS; have := gO_6_6 (rfl : kD 62 = (16, 9)) (by decide) hS; omega) (fun r_ m_ h_ hr_ hp_ => by exact ⟨h_, (by have := gO_1_5 hkv18 (by omega) hS; have := gO_6_6 (rfl : kD 62 = (16, 9)) (by decide) hS; omega), trivial⟩) FU hS (by have := gO_1_5 hkv18 (by omega) hS; have := gO_6_6 (rfl : kD 62 = (16, 9)) (by decide) hS; omega) trivial (by have := gO_1_5 hkv18 (by omega) hS; have := gO_6_6 (rfl : kD 62 = (16, 9)) (by decide) hS; omega)
        · unfold X6_visit_J60
          try dsimp only
          exact t_X6_visit_L66 (l1 := l1) (l2 := l2) (l3 := l3) (l4 := l4) (l5 := l5) (l6 := l6) (l8 := (iA l1 1)) (l9 := 0) hW hrec (by have := gO_1_5 hkv18 (by omega) hS; have := gO_6_6 (rfl : kD 62 = (16, 9)) (by decide) hS; omega) (by have := gO_1_5 hkv18 (by omega) hS; have := gO_6_6 (rfl : kD 62 = (16, 9)) (by decide) hS; omega) (by have := gO_1_5 hkv18 (by omega) hS; have := gO_6_6 (rfl : kD 62 = (16, 9)) (by decide) hS; omega) (by have := gO_1_5 hkv18 (by omega) hS; have := gO_6_6 (rfl : kD 62 = (16, 9)) (by decide) hS; omega) (by have := gO_1_5 hkv18 (by omega) hS; have := gO_6_6 (rfl : kD 62 = (16, 9)) (by decide) hS; omega) (by have := gO_1_5 hkv18 (by omega) hS; have := gO_6_6 (rfl : kD 62 = (16, 9)) (by decide) hS; omega) (by have := iA_c l1 1; have := gO_1_5 hkv18 (by omega) hS; have := gO_6_6 (rfl : kD 62 = (16, 9)) (by decide) hS; omega) (by have := iA_c l1 1; have := gO_1_5 hkv18 (by omega) hS; have := gO_6_6 (rfl : kD 62 = (16, 9)) (by decide) hS; omega) (fun r_ m_ h_ hr_ hp_ => by exact ⟨h_, (by have := gO_1_5 hkv18 (by omega) hS; have := gO_6_6 (rfl : kD 62 = (16, 9)) (by decide) hS; omega), trivial⟩) FU hS (by have := gO_1_5 hkv18 (by omega) hS; have := gO_6_6 (rfl : kD 62 = (16, 9)) (by decide) hS; omega) trivial (by have := gO_1_5 hkv18 (by omega) hS; have := gO_6_6 (rfl : kD 62 = (16, 9)) (by decide) hS; omega)
      · unfold X6_visit_J37
        try dsimp only
        refine wp_if (fun g49 => ?_) (fun g49 => ?_)
        · refine wp_mRe hkv18 e19 ?_
          unfold X6_visit_J60
          try dsimp only
          exact t_X6_visit_L66 (l1 := l1) (l2 := l2) (l3 := l3) (l4 := l4) (l5 := l5) (l6 := l6) (l8 := (μ v18 5)) (l9 := l1) hW hrec (by have := gO_1_5 hkv18 (by omega) hS; have := gO_6_6 (rfl : kD 62 = (16, 9)) (by decide) hS; omega) (by have := gO_1_5 hkv18 (by omega) hS; have := gO_6_6 (rfl : kD 62 = (16, 9)) (by decide) hS; omega) (by have := gO_1_5 hkv18 (by omega) hS; have := gO_6_6 (rfl : kD 62 = (16, 9)) (by decide) hS; omega) (by have := gO_1_5 hkv18 (by omega) hS; have := gO_6_6 (rfl : kD 62 = (16, 9)) (by decide) hS; omega) (by have := gO_1_5 hkv18 (by omega) hS; have := gO_6_6 (rfl : kD 62 = (16, 9)) (by decide) hS; omega) (by have := gO_1_5 hkv18 (by omega) hS; have := gO_6_6 (rfl : kD 62 = (16, 9)) (by decide) hS; omega) (by have := gO_1_5 hkv18 (by omega) hS; have := gO_6_6 (rfl : kD 62 = (16, 9)) (by decide) hS; omega) (by have := gO_1_5 hkv18 (by omega) hS; have := gO_6_6 (rfl : kD 62 = (16, 9)) (by decide) hS; omega) (fun r_ m_ h_ hr_ hp_ => by exact ⟨h_, (by have := gO_1_5 hkv18 (by omega) hS; have := gO_6_6 (rfl : kD 62 = (16, 9)) (by decide) hS; omega), trivial⟩) FU hS (by have := gO_1_5 hkv18 (by omega) hS; have := gO_6_6 (rfl : kD 62 = (16, 9)) (by decide) hS; omega) trivial (by have := gO_1_5 hkv18 (by omega) hS; have := gO_6_6 (rfl : kD 62 = (16, 9)) (by decide) hS; omega)
        · unfold X6_visit_J60
          try dsimp only
          exact t_X6_visit_L66 (l1 := l1) (l2 := l2) (l3 := l3) (l4 := l4) (l5 := l5) (l6 := l6) (l8 := (iA l1 1)) (l9 := l1) hW hrec (by have := gO_1_5 hkv18 (by omega) hS; have := gO_6_6 (rfl : kD 62 = (16, 9)) (by decide) hS; omega) (by have := gO_1_5 hkv18 (by omega) hS; have := gO_6_6 (rfl : kD 62 = (16, 9)) (by decide) hS; omega) (by have := gO_1_5 hkv18 (by omega) hS; have := gO_6_6 (rfl : kD 62 = (16, 9)) (by decide) hS; omega) (by have := gO_1_5 hkv18 (by omega) hS; have := gO_6_6 (rfl : kD 62 = (16, 9)) (by decide) hS; omega) (by have := gO_1_5 hkv18 (by omega) hS; have := gO_6_6 (rfl : kD 62 = (16, 9)) (by decide) hS; omega) (by have := gO_1_5 hkv18 (by omega) hS; have := gO_6_6 (rfl : kD 62 = (16, 9)) (by decide) hS; omega) (by have := iA_c l1 1; have := gO_1_5 hkv18 (by omega) hS; have := gO_6_6 (rfl : kD 62 = (16, 9)) (by decide) hS; omega) (by have := iA_c l1 1; have := gO_1_5 hkv18 (by omega) hS; have := gO_6_6 (rfl : kD 62 = (16, 9)) (by decide) hS; omega) (fun r_ m_ h_ hr_ hp_ => by exact ⟨h_, (by have := gO_1_5 hkv18 (by omega) hS; have := gO_6_6 (rfl : kD 62 = (16, 9)) (by decide) hS; omega), trivial⟩) FU hS (by have := gO_1_5 hkv18 (by omega) hS; have := gO_6_6 (rfl : kD 62 = (16, 9)) (by decide) hS; omega) trivial (by have := gO_1_5 hkv18 (by omega) hS; have := gO_6_6 (rfl : kD 62 = (16, 9)) (by decide) hS; omega)
    · refine wp_sFv (P := St W μs) (pO_6_7 (rfl : kD 62 = (16, 9)) hS (hW _ _ (by unfold scr; omega)) (by have := gO_1_5 hkv18 (by omega) hS; omega)) (fun m58 h58 he58 => ?_)
      refine wp_sFv (P := St W μs) (pO_6_8 (rfl : kD 62 = (16, 9)) h58 (hW _ _ (by unfold scr; omega)) (by have := gO_1_5 hkv18 (by omega) hS; omega)) (fun m60 h60 he60 => ?_)
      exact ⟨h60, (by have := gO_1_5 hkv18 (by omega) hS; omega), trivial⟩
set_option maxHeartbeats 4000000 in
set_option maxRecDepth 100000 in
theorem t_X6_seek {W : Nat → Nat → Prop} {μs : Mm} {l1 : Nat} {l2 : Int} {l3 : Int} (hW : ∀ k j, scr k j → W k j)  (hk_l1 : kD l1 = (11, 7)) (hp_l2 : -2147483648 ≤ l2 ∧ l2 ≤ 2147483647) (hp_l3 : -2147483648 ≤ l3 ∧ l3 ≤ 2147483647) {μ : Mm} (hS : St W μs μ) : wp (X6_seek l1 l2 l3 μ) (fun r μ' => St W μs μ' ∧ (0 ≤ r ∧ r ≤ 1) ∧ True) := by
  have hb_l1 := kJr' hk_l1
  have hFU := FU_v
  unfold X6_seek
  refine wp_sFv (P := St W μs) (pM_6 hS (hW _ _ (by unfold scr; omega)) (show kD (((l1 : Nat) : Int)).toNat = _ by rw [Int.toNat_natCast]; exact hk_l1)) (fun m13 h13 he13 => ?_)
  refine wp_sFv (P := St W μs) (pO_6_5 (rfl : kD 62 = (16, 9)) h13 (hW _ _ (by unfold scr; omega)) (by omega)) (fun m25 h25 he25 => ?_)
  refine wp_sFv (P := St W μs) (pO_6_6 (rfl : kD 62 = (16, 9)) h25 (hW _ _ (by unfold scr; omega)) (by omega)) (fun m36 h36 he36 => ?_)
  refine wp_sFv (P := St W μs) (pO_6_7 (rfl : kD 62 = (16, 9)) h36 (hW _ _ (by unfold scr; omega)) (by omega)) (fun m46 h46 he46 => ?_)
  refine wp_sFv (P := St W μs) (pO_6_8 (rfl : kD 62 = (16, 9)) h46 (hW _ _ (by unfold scr; omega)) (by omega)) (fun m55 h55 he55 => ?_)
  refine wp_mRv h55.1.2.2.1 (fun v63 hkv63 e64 => ?_)
  have hbv63 := kJr' hkv63
  refine wp_calls (t_X1_canBe (l0 := v63)  hkv63 h55) (fun v71 hh => ?_)
  obtain ⟨hr72, hp72⟩ := hh
  refine wp_if (fun g77 => ?_) (fun g77 => ?_)
  · exact ⟨h55, (by omega), trivial⟩
  · refine wp_call (t_X6_forget hW  h55) (fun v78 m79 hh => ?_)
    obtain ⟨h79, hr79, hp79⟩ := hh
    refine wp_call (t_X6_visit hW RD h79 (by omega) (by omega) (by omega) (by omega) (by omega) (by omega) (by rw [RD_v]; omega)) (fun v82 m83 hh => ?_)
    obtain ⟨h83, hr83, hp83⟩ := hh
    refine wp_if (fun g84 => ?_) (fun g84 => ?_)
    · exact ⟨h83, (by have := gO_6_7 (rfl : kD 62 = (16, 9)) (by decide) h83; omega), trivial⟩
    · exact ⟨h83, (by have := gO_6_7 (rfl : kD 62 = (16, 9)) (by decide) h83; omega), trivial⟩
set_option maxHeartbeats 4000000 in
set_option maxRecDepth 100000 in
theorem t_X6_gatherBehind_o_65 {W : Nat → Nat → Prop} {μs : Mm} {l1 : Int} {l2 : Int} {l3 : Int} {l4 : Int} {l5 : Int} (hW : ∀ k j, scr k j → W k j) {N : Int} {rec : Int → Int → Int → Int → Int → Nat → Mm → Rs} (hrec : ∀ (l1 : Int) (l2 : Int) (l3 : Int) (l4 : Int) (l5 : Int) (μ : Mm), St W μs μ → (0 ≤ l1 ∧ l1 ≤ 9) → (-2147483648 ≤ l2 ∧ l2 ≤ 2147483647) → (0 ≤ l3 ∧ l3 ≤ 8) → (-2147483648 ≤ l4 ∧ l4 ≤ 2147483647) → (-2147483648 ≤ l5 ∧ l5 ≤ 2147483647) → 10 ≤ l1 + N → wp (rec l1 l2 l3 l4 l5 65 μ) (fun r μ' => St W μs μ' ∧ (-2147483648 ≤ r ∧ r ≤ 2147483647) ∧ True))  (hp_l1 : 0 ≤ l1 ∧ l1 ≤ 8) (hp_l2 : -2147483648 ≤ l2 ∧ l2 ≤ 2147483647) (hp_l3 : 0 ≤ l3 ∧ l3 ≤ 7) (hp_l4 : -2147483648 ≤ l4 ∧ l4 ≤ 2147483647) (hp_l5 : -2147483648 ≤ l5 ∧ l5 ≤ 2147483647) {μ : Mm} (hS : St W μs μ) (hl : 9 ≤ l1 + N) : wp (X6_gatherBehind_o rec l1 l2 l3 l4 l5 65 μ) (fun r μ' => St W μs μ' ∧ (-2147483648 ≤ r ∧ r ≤ 2147483647) ∧ True) := by
  have hFU := FU_v
  unfold X6_gatherBehind_o
  refine wp_mRv hS.1.2.2.1 (fun v11 hkv11 e12 => ?_)
  have hbv11 := kJr' hkv11
  refine wp_calls (t_X1_dones (l0 := v11) (l1 := l4) (l2 := l3)  hkv11 (by omega) (by omega) hS) (fun v22 hh => ?_)
  obtain ⟨hr23, hp23⟩ := hh
  refine wp_mRe hkv11 e12 ?_
  refine wp_ldv (by have na0 : ((aN (v11 + 2) : Nat) : Int) = 8 := (by rw [(bA_1_2 hkv11 (by omega) 0).2.2]; rfl); omega) (fun v38 q39 => ?_)
  have hrv38 := gA_1_2 hkv11 (by omega) hS (l3).toNat
  rw [← q39] at hrv38
  refine wp_ltv (fun v45 q46 => ?_)
  refine wp_call (t_X6_isNew (l1 := l2) (l2 := l3) (l3 := v22) (l4 := v45) hW (by have := iA_c l5 v22; have := iS_c (iA l5 v22) v38; omega) (by have := iA_c l5 v22; have := iS_c (iA l5 v22) v38; omega) (by have := iA_c l5 v22; have := iS_c (iA l5 v22) v38; omega) (by have := iA_c l5 v22; have := iS_c (iA l5 v22) v38; omega) hS) (fun v51 m52 hh => ?_)
  obtain ⟨h52, hr52, hp52⟩ := hh
  refine wp_if (fun g55 => ?_) (fun g55 => ?_)
  · exact ⟨h52, (by have := iA_c l5 v22; have := iS_c (iA l5 v22) v38; omega), trivial⟩
  · refine wp_call (hrec (iA l1 1) l2 l3 v22 v45 m52 h52 (by have := iA_c l1 1; have := iA_c l5 v22; have := iS_c (iA l5 v22) v38; omega) (by have := iA_c l5 v22; have := iS_c (iA l5 v22) v38; omega) (by have := iA_c l5 v22; have := iS_c (iA l5 v22) v38; omega) (by have := iA_c l5 v22; have := iS_c (iA l5 v22) v38; omega) (by have := iA_c l5 v22; have := iS_c (iA l5 v22) v38; omega) (by have := iA_c l1 1; have := iA_c l5 v22; have := iS_c (iA l5 v22) v38; omega)) (fun v56 m57 hh => ?_)
    obtain ⟨h57, hr57, hp57⟩ := hh
    exact ⟨h57, (by have := iA_c l5 v22; have := iS_c (iA l5 v22) v38; omega), trivial⟩
set_option maxHeartbeats 4000000 in
set_option maxRecDepth 100000 in
theorem t_X6_gatherBehind_o_66 {W : Nat → Nat → Prop} {μs : Mm} {l1 : Int} {l2 : Int} {l3 : Int} {l4 : Int} {l5 : Int} (hW : ∀ k j, scr k j → W k j) {N : Int} {rec : Int → Int → Int → Int → Int → Nat → Mm → Rs} (hrec : ∀ (l1 : Int) (l2 : Int) (l3 : Int) (l4 : Int) (l5 : Int) (μ : Mm), St W μs μ → (0 ≤ l1 ∧ l1 ≤ 9) → (-2147483648 ≤ l2 ∧ l2 ≤ 2147483647) → (0 ≤ l3 ∧ l3 ≤ 8) → (-2147483648 ≤ l4 ∧ l4 ≤ 2147483647) → (-2147483648 ≤ l5 ∧ l5 ≤ 2147483647) → 10 ≤ l1 + N → wp (rec l1 l2 l3 l4 l5 66 μ) (fun r μ' => St W μs μ' ∧ (-2147483648 ≤ r ∧ r ≤ 2147483647) ∧ True))  (hp_l1 : 0 ≤ l1 ∧ l1 ≤ 8) (hp_l2 : -2147483648 ≤ l2 ∧ l2 ≤ 2147483647) (hp_l3 : 0 ≤ l3 ∧ l3 ≤ 7) (hp_l4 : -2147483648 ≤ l4 ∧ l4 ≤ 2147483647) (hp_l5 : -2147483648 ≤ l5 ∧ l5 ≤ 2147483647) {μ : Mm} (hS : St W μs μ) (hl : 9 ≤ l1 + N) : wp (X6_gatherBehind_o rec l1 l2 l3 l4 l5 66 μ) (fun r μ' => St W μs μ' ∧ (-2147483648 ≤ r ∧ r ≤ 2147483647) ∧ True) := by
  have hFU := FU_v
  unfold X6_gatherBehind_o
  refine wp_mRv hS.1.2.2.1 (fun v11 hkv11 e12 => ?_)
  have hbv11 := kJr' hkv11
  refine wp_calls (t_X1_dones (l0 := v11) (l1 := l4) (l2 := l3)  hkv11 (by omega) (by omega) hS) (fun v22 hh => ?_)
  obtain ⟨hr23, hp23⟩ := hh
  refine wp_mRe hkv11 e12 ?_
  refine wp_ldv (by have na0 : ((aN (v11 + 2) : Nat) : Int) = 8 := (by rw [(bA_1_2 hkv11 (by omega) 0).2.2]; rfl); omega) (fun v38 q39 => ?_)
  have hrv38 := gA_1_2 hkv11 (by omega) hS (l3).toNat
  rw [← q39] at hrv38
  refine wp_ltv (fun v45 q46 => ?_)
  refine wp_call (t_X6_isNew (l1 := l2) (l2 := l3) (l3 := v22) (l4 := v45) hW (by have := iA_c l5 v22; have := iS_c (iA l5 v22) v38; omega) (by have := iA_c l5 v22; have := iS_c (iA l5 v22) v38; omega) (by have := iA_c l5 v22; have := iS_c (iA l5 v22) v38; omega) (by have := iA_c l5 v22; have := iS_c (iA l5 v22) v38; omega) hS) (fun v51 m52 hh => ?_)
  obtain ⟨h52, hr52, hp52⟩ := hh
  refine wp_if (fun g55 => ?_) (fun g55 => ?_)
  · exact ⟨h52, (by have := iA_c l5 v22; have := iS_c (iA l5 v22) v38; omega), trivial⟩
  · refine wp_call (hrec (iA l1 1) l2 l3 v22 v45 m52 h52 (by have := iA_c l1 1; have := iA_c l5 v22; have := iS_c (iA l5 v22) v38; omega) (by have := iA_c l5 v22; have := iS_c (iA l5 v22) v38; omega) (by have := iA_c l5 v22; have := iS_c (iA l5 v22) v38; omega) (by have := iA_c l5 v22; have := iS_c (iA l5 v22) v38; omega) (by have := iA_c l5 v22; have := iS_c (iA l5 v22) v38; omega) (by have := iA_c l1 1; have := iA_c l5 v22; have := iS_c (iA l5 v22) v38; omega)) (fun v56 m57 hh => ?_)
    obtain ⟨h57, hr57, hp57⟩ := hh
    exact ⟨h57, (by have := iA_c l5 v22; have := iS_c (iA l5 v22) v38; omega), trivial⟩
