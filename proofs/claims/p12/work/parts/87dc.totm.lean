/-! TOTALITY of the reference, by program (wip/gen/totm.py) -/
set_option maxHeartbeats 4000000 in
set_option maxRecDepth 100000 in
theorem t_X11_search {μs : Mm} (hI : Ir μs) : ∀ (n : Nat) {l1 l2 l3 l4 l5 l6 : Int} {μ : Mm}, Sm μs μ → (-2147483648 ≤ l1 ∧ l1 ≤ 2147483647) → (0 ≤ l2 ∧ l2 ≤ 255) → (0 ≤ l3 ∧ l3 ≤ 8) → (-2147483648 ≤ l4 ∧ l4 ≤ 2147483647) → (-2147483648 ≤ l5 ∧ l5 ≤ 2147483647) → (-2147483648 ≤ l6 ∧ l6 ≤ 2147483647) → pc l2 + 1 ≤ ((n : Nat) : Int) → wp (X11_search n l1 l2 l3 l4 l5 l6 μ) (fun r μ' => Sm μs μ' ∧ (-2147483648 ≤ r ∧ r ≤ 2147483647) ∧ μ' 70 37 = μ 70 37) := by
  have hFU := FU_v
  intro n
  induction n with
  | zero => intro l1 l2 l3 l4 l5 l6 μ hS hv_l1 hv_l2 hv_l3 hv_l4 hv_l5 hv_l6 hl; exact absurd hl (by have : ((0 : Nat) : Int) = 0 := rfl; have := pc_r hv_l2; omega)
  | succ n ih =>
    intro l1 l2 l3 l4 l5 l6 μ hS hv_l1 hv_l2 hv_l3 hv_l4 hv_l5 hv_l6 hl
    have hn1 : ((n + 1 : Nat) : Int) = ((n : Nat) : Int) + 1 := rfl
    have hrec : ∀ (l1 : Int) (l2 : Int) (l3 : Int) (l4 : Int) (l5 : Int) (l6 : Int) (μ : Mm), Sm μs μ → (-2147483648 ≤ l1 ∧ l1 ≤ 2147483647) → (0 ≤ l2 ∧ l2 ≤ 255) → (0 ≤ l3 ∧ l3 ≤ 8) → (-2147483648 ≤ l4 ∧ l4 ≤ 2147483647) → (-2147483648 ≤ l5 ∧ l5 ≤ 2147483647) → (-2147483648 ≤ l6 ∧ l6 ≤ 2147483647) → pc l2 + 1 ≤ ((n : Nat) : Int) → wp (X11_search n l1 l2 l3 l4 l5 l6 μ) (fun r μ' => Sm μs μ' ∧ (-2147483648 ≤ r ∧ r ≤ 2147483647) ∧ μ' 70 37 = μ 70 37) := fun l1 l2 l3 l4 l5 l6 μ hS hv_l1 hv_l2 hv_l3 hv_l4 hv_l5 hv_l6 hl => ih hS hv_l1 hv_l2 hv_l3 hv_l4 hv_l5 hv_l6 (by omega)
    rw [X11_search]
    refine wp_if (fun g15 => ?_) (fun g15 => ?_)
    · unfold X11_search_J18
      try dsimp only
      refine wp_if (fun g18 => ?_) (fun g18 => ?_)
      · refine wp_sFv (P := Sm μs) (pO_11_41  hS (by unfold scrM; omega) (by have := gO_11_41 hS; omega)) (fun m19 h19 he19 => ?_)
        refine wp_sFv (P := Sm μs) (pO_11_42  h19 (by unfold scrM; omega) (by have := gO_11_41 hS; omega)) (fun m21 h21 he21 => ?_)
        exact ⟨h21, (by have := gO_11_41 hS; omega), (by show m21 70 37 = μ 70 37; exact (by have := gO_11_41 hS; have := gO_11_37 h21; have : m21 70 37 = m19 70 37 := (by rw [he21, sM_j (by decide)]); have := gO_11_37 h19; have : m19 70 37 = μ 70 37 := (by rw [he19, sM_j (by decide)]); have := gO_11_37 hS; omega))⟩
      · exact t_X11_search_L38 (l1 := l1) (l2 := l2) (l3 := l3) (l4 := l4) (l5 := l5) (l6 := l6) (l7 := 0) (mm := μ 70 37) hI hrec (by have := gO_11_41 hS; omega) (by have := gO_11_41 hS; omega) (by have := gO_11_41 hS; omega) (by have := gO_11_41 hS; omega) (by have := gO_11_41 hS; omega) (by have := gO_11_41 hS; omega) (by have := gO_11_41 hS; omega) (fun r_ m_ h_ hr_ hp_ => by exact ⟨h_, (by have := gO_11_41 hS; omega), (by show m_ 70 37 = μ 70 37; exact (by have := gO_11_41 hS; have := gO_11_37 h_; have := gO_11_37 hS; omega))⟩) FU hS (by have := gO_11_41 hS; omega) (by have := gO_11_41 hS; have := gO_11_37 hS; omega) (by have := gO_11_41 hS; omega)
    · refine wp_if (fun g22 => ?_) (fun g22 => ?_)
      · unfold X11_search_J18
        try dsimp only
        refine wp_if (fun g25 => ?_) (fun g25 => ?_)
        · refine wp_sFv (P := Sm μs) (pO_11_41  hS (by unfold scrM; omega) (by have := gO_11_41 hS; have := gO_11_42 hS; omega)) (fun m26 h26 he26 => ?_)
          refine wp_sFv (P := Sm μs) (pO_11_42  h26 (by unfold scrM; omega) (by have := gO_11_41 hS; have := gO_11_42 hS; omega)) (fun m28 h28 he28 => ?_)
          exact ⟨h28, (by have := gO_11_41 hS; have := gO_11_42 hS; omega), (by show m28 70 37 = μ 70 37; exact (by have := gO_11_41 hS; have := gO_11_42 hS; have := gO_11_37 h28; have : m28 70 37 = m26 70 37 := (by rw [he28, sM_j (by decide)]); have := gO_11_37 h26; have : m26 70 37 = μ 70 37 := (by rw [he26, sM_j (by decide)]); have := gO_11_37 hS; omega))⟩
        · exact t_X11_search_L38 (l1 := l1) (l2 := l2) (l3 := l3) (l4 := l4) (l5 := l5) (l6 := l6) (l7 := 0) (mm := μ 70 37) hI hrec (by have := gO_11_41 hS; have := gO_11_42 hS; omega) (by have := gO_11_41 hS; have := gO_11_42 hS; omega) (by have := gO_11_41 hS; have := gO_11_42 hS; omega) (by have := gO_11_41 hS; have := gO_11_42 hS; omega) (by have := gO_11_41 hS; have := gO_11_42 hS; omega) (by have := gO_11_41 hS; have := gO_11_42 hS; omega) (by have := gO_11_41 hS; have := gO_11_42 hS; omega) (fun r_ m_ h_ hr_ hp_ => by exact ⟨h_, (by have := gO_11_41 hS; have := gO_11_42 hS; omega), (by show m_ 70 37 = μ 70 37; exact (by have := gO_11_41 hS; have := gO_11_42 hS; have := gO_11_37 h_; have := gO_11_37 hS; omega))⟩) FU hS (by have := gO_11_41 hS; have := gO_11_42 hS; omega) (by have := gO_11_41 hS; have := gO_11_42 hS; have := gO_11_37 hS; omega) (by have := gO_11_41 hS; have := gO_11_42 hS; omega)
      · exact ⟨hS, (by have := gO_11_41 hS; have := gO_11_42 hS; omega), (by show μ 70 37 = μ 70 37; exact (by have := gO_11_41 hS; have := gO_11_42 hS; have := gO_11_37 hS; omega))⟩
set_option maxHeartbeats 4000000 in
set_option maxRecDepth 100000 in
theorem t_X11_all {μs : Mm}    {μ : Mm} (hS : Sm μs μ) : wp (X11_all μ) (fun r μ' => μ' = μ ∧ (0 ≤ r ∧ r ≤ 255) ∧ True) := by
  have hFU := FU_v
  unfold X11_all
  exact ⟨rfl, (by have := gO_11_37 hS; have := bL_r 1 (μ 70 37); have := bL_1 (s := (μ 70 37)) (by omega); have := iS_c (bL 1 (μ 70 37)) 1; omega), trivial⟩
set_option maxHeartbeats 4000000 in
set_option maxRecDepth 100000 in
theorem t_X11_leastOf {μs : Mm} {l1 : Int} {l2 : Int} (hI : Ir μs)  (hp_l1 : -2147483648 ≤ l1 ∧ l1 ≤ 2147483647) (hp_l2 : 0 ≤ l2 ∧ l2 ≤ 255) {μ : Mm} (hS : Sm μs μ) : wp (X11_leastOf l1 l2 μ) (fun r μ' => Sm μs μ' ∧ (-2147483648 ≤ r ∧ r ≤ 2147483647) ∧ μ' 70 37 = μ 70 37) := by
  have hFU := FU_v
  unfold X11_leastOf
  refine wp_sFv (P := Sm μs) (pO_11_41  hS (by unfold scrM; omega) (by omega)) (fun m5 h5 he5 => ?_)
  refine wp_sFv (P := Sm μs) (pO_11_42  h5 (by unfold scrM; omega) (by omega)) (fun m9 h9 he9 => ?_)
  refine wp_call (t_X11_search hI RD h9 (by omega) (by omega) (by have := gO_11_37 h9; have : m9 70 37 = m5 70 37 := (by rw [he9, sM_j (by decide)]); have := gO_11_37 h5; have : m5 70 37 = μ 70 37 := (by rw [he5, sM_j (by decide)]); have := gO_11_37 hS; omega) (by omega) (by omega) (by omega) (by rw [RD_v]; have := pc_r (x := l2) (by omega); omega)) (fun v12 m13 hh => ?_)
  obtain ⟨h13, hr13, hp13⟩ := hh
  exact ⟨h13, (by have := gO_11_42 h13; omega), (by show m13 70 37 = μ 70 37; exact (by have := gO_11_42 h13; have := gO_11_37 h13; have := gO_11_37 h9; have : m9 70 37 = m5 70 37 := (by rw [he9, sM_j (by decide)]); have := gO_11_37 h5; have : m5 70 37 = μ 70 37 := (by rw [he5, sM_j (by decide)]); have := gO_11_37 hS; omega))⟩
set_option maxHeartbeats 4000000 in
set_option maxRecDepth 100000 in
theorem t_X11_best {μs : Mm} {l1 : Int} {l2 : Int} {l3 : Int} (hI : Ir μs)  (hp_l1 : -2147483648 ≤ l1 ∧ l1 ≤ 2147483647) (hp_l2 : -2147483648 ≤ l2 ∧ l2 ≤ 2147483647) (hp_l3 : -2147483648 ≤ l3 ∧ l3 ≤ 2147483647) {μ : Mm} (hS : Sm μs μ) : wp (X11_best l1 l2 l3 μ) (fun r μ' => Sm μs μ' ∧ (-2147483648 ≤ r ∧ r ≤ 2147483647) ∧ True) := by
  have hFU := FU_v
  unfold X11_best
  refine wp_call (t_X11_isReady (l1 := l1) hI (by omega) hS) (fun v11 m12 hh => ?_)
  obtain ⟨h12, hr12, hp12⟩ := hh
  refine wp_if (fun g21 => ?_) (fun g21 => ?_)
  · exact ⟨h12, (by omega), trivial⟩
  · refine wp_calls (t_X11_in (l0 := l2) (l1 := 0) (l2 := 2)  (by omega) (by omega) (by omega) h12) (fun v22 hh => ?_)
    obtain ⟨hr23, hp23⟩ := hh
    refine wp_if (fun g30 => ?_) (fun g30 => ?_)
    · exact ⟨h12, (by omega), trivial⟩
    · refine wp_calls (t_X11_in (l0 := l3) (l1 := 0) (l2 := 1)  (by omega) (by omega) (by omega) h12) (fun v31 hh => ?_)
      obtain ⟨hr32, hp32⟩ := hh
      refine wp_if (fun g37 => ?_) (fun g37 => ?_)
      · exact ⟨h12, (by omega), trivial⟩
      · refine wp_calls (t_X11_all   h12) (fun v38 hh => ?_)
        obtain ⟨hr39, hp39⟩ := hh
        refine wp_call (t_X11_leastOf (l1 := l2) (l2 := v38) hI (by omega) (by omega) h12) (fun v42 m43 hh => ?_)
        obtain ⟨h43, hr43, hp43⟩ := hh
        refine wp_if (fun g44 => ?_) (fun g44 => ?_)
        · exact ⟨h43, (by have := gO_11_41 h43; omega), trivial⟩
        · exact ⟨h43, (by have := gO_11_42 h43; omega), trivial⟩
set_option maxHeartbeats 4000000 in
set_option maxRecDepth 100000 in
theorem t_X11_met {μs : Mm} {l1 : Int} {l2 : Int} (hI : Ir μs)  (hp_l1 : -2147483648 ≤ l1 ∧ l1 ≤ 2147483647) (hp_l2 : -2147483648 ≤ l2 ∧ l2 ≤ 2147483647) {μ : Mm} (hS : Sm μs μ) : wp (X11_met l1 l2 μ) (fun r μ' => Sm μs μ' ∧ (-2147483648 ≤ r ∧ r ≤ 2147483647) ∧ True) := by
  have hFU := FU_v
  unfold X11_met
  refine wp_call (t_X11_isReady (l1 := l1) hI (by omega) hS) (fun v9 m10 hh => ?_)
  obtain ⟨h10, hr10, hp10⟩ := hh
  refine wp_if (fun g17 => ?_) (fun g17 => ?_)
  · exact ⟨h10, (by omega), trivial⟩
  · refine wp_calls (t_X11_all   h10) (fun v18 hh => ?_)
    obtain ⟨hr19, hp19⟩ := hh
    refine wp_calls (t_X11_in (l0 := l2) (l1 := 1) (l2 := v18)  (by omega) (by omega) (by omega) h10) (fun v24 hh => ?_)
    obtain ⟨hr25, hp25⟩ := hh
    refine wp_if (fun g28 => ?_) (fun g28 => ?_)
    · exact ⟨h10, (by omega), trivial⟩
    · refine wp_call (t_X11_leastOf (l1 := 2) (l2 := l2) hI (by omega) (by omega) h10) (fun v29 m30 hh => ?_)
      obtain ⟨h30, hr30, hp30⟩ := hh
      refine wp_if (fun g31 => ?_) (fun g31 => ?_)
      · exact ⟨h30, (by omega), trivial⟩
      · exact ⟨h30, (by omega), trivial⟩
set_option maxHeartbeats 4000000 in
set_option maxRecDepth 100000 in
theorem tm_J6_bitCount_0f7a4 {μs : Mm} {l0 : Int}  (hp_l0 : -2147483648 ≤ l0 ∧ l0 ≤ 2147483647) {μ : Mm} (hS : Sm μs μ) : wp (J6_bitCount_0f7a4 l0 μ) (fun r μ' => μ' = μ ∧ (-2147483648 ≤ r ∧ r ≤ 2147483647) ∧ True) := by
  have hFU := FU_v
  unfold J6_bitCount_0f7a4
  refine wp_ltv (fun v6 q7 => ?_)
  refine wp_ltv (fun v12 q13 => ?_)
  refine wp_ltv (fun v17 q18 => ?_)
  refine wp_ltv (fun v21 q22 => ?_)
  refine wp_ltv (fun v24 q25 => ?_)
  exact ⟨rfl, (by have := bA_r v24 63; have := bU_r l0 1; have := bA_r (bU l0 1) 1431655765; have := iS_c l0 (bA (bU l0 1) 1431655765); have := bA_r v6 858993459; have := bU_r v6 2; have := bA_r (bU v6 2) 858993459; have := iA_c (bA v6 858993459) (bA (bU v6 2) 858993459); have := bU_r v12 4; have := iA_c v12 (bU v12 4); have := bA_r (iA v12 (bU v12 4)) 252645135; have := bU_r v17 8; have := iA_c v17 (bU v17 8); have := bU_r v21 16; have := iA_c v21 (bU v21 16); omega), trivial⟩
set_option maxHeartbeats 4000000 in
set_option maxRecDepth 100000 in
theorem t_X11_knot_L14 {μs : Mm}  (hI : Ir μs)   {Q : Int → Mm → Prop} (hQ : ∀ r μ, Sm μs μ → (-2147483648 ≤ r ∧ r ≤ 2147483647) → True → Q r μ) : ∀ (n : Nat) {l2 l3 : Int} {μ : Mm}, Sm μs μ → (-2147483648 ≤ l2 ∧ l2 ≤ 2147483647) → (1 ≤ l3 ∧ l3 ≤ 256) → True → 256 - l3 + 1 ≤ ((n : Nat) : Int) → wp (X11_knot_L14 n l2 l3 μ) Q := by
  have hFU := FU_v
  intro n
  induction n with
  | zero => intro l2 l3 μ hS hv_l2 hv_l3 hi hm; exact absurd hm (by  have : ((0 : Nat) : Int) = 0 := rfl; omega)
  | succ n ih =>
    intro l2 l3 μ hS hv_l2 hv_l3 hi hm
    have hn1 : ((n + 1 : Nat) : Int) = ((n : Nat) : Int) + 1 := rfl
    rw [X11_knot_L14]
    refine wp_calls (t_X11_all   hS) (fun v25 hh => ?_)
    obtain ⟨hr26, hp26⟩ := hh
    refine wp_if (fun g37 => ?_) (fun g37 => ?_)
    · exact hQ _ _ hS (by omega) trivial
    · refine wp_if (fun g38 => ?_) (fun g38 => ?_)
      · unfold X11_knot_J38
        try dsimp only
        refine wp_call (t_X11_leastOf (l1 := 2) (l2 := l3) hI (by omega) (by omega) hS) (fun v41 m42 hh => ?_)
        obtain ⟨h42, hr42, hp42⟩ := hh
        refine wp_if (fun g43 => ?_) (fun g43 => ?_)
        · exact ih h42 (by omega) (by have := iA_c l3 1; omega) trivial (by have := iA_c l3 1; omega)
        · exact ih h42 (by omega) (by have := iA_c l3 1; omega) trivial (by have := iA_c l3 1; omega)
      · refine wp_calls (tm_J6_bitCount_0f7a4 (l0 := l3)  (by omega) hS) (fun v44 hh => ?_)
        obtain ⟨hr45, hp45⟩ := hh
        refine wp_calls (tm_J6_bitCount_0f7a4 (l0 := l2)  (by omega) hS) (fun v51 hh => ?_)
        obtain ⟨hr52, hp52⟩ := hh
        refine wp_if (fun g56 => ?_) (fun g56 => ?_)
        · exact ih hS (by omega) (by have := iA_c l3 1; omega) trivial (by have := iA_c l3 1; omega)
        · unfold X11_knot_J38
          try dsimp only
          refine wp_call (t_X11_leastOf (l1 := 2) (l2 := l3) hI (by omega) (by omega) hS) (fun v59 m60 hh => ?_)
          obtain ⟨h60, hr60, hp60⟩ := hh
          refine wp_if (fun g61 => ?_) (fun g61 => ?_)
          · exact ih h60 (by omega) (by have := iA_c l3 1; omega) trivial (by have := iA_c l3 1; omega)
          · exact ih h60 (by omega) (by have := iA_c l3 1; omega) trivial (by have := iA_c l3 1; omega)
set_option maxHeartbeats 4000000 in
set_option maxRecDepth 100000 in
theorem t_X11_knot {μs : Mm} {l1 : Int} (hI : Ir μs)  (hp_l1 : -2147483648 ≤ l1 ∧ l1 ≤ 2147483647) {μ : Mm} (hS : Sm μs μ) : wp (X11_knot l1 μ) (fun r μ' => Sm μs μ' ∧ (-2147483648 ≤ r ∧ r ≤ 2147483647) ∧ True) := by
  have hFU := FU_v
  unfold X11_knot
  refine wp_call (t_X11_isReady (l1 := l1) hI (by omega) hS) (fun v3 m4 hh => ?_)
  obtain ⟨h4, hr4, hp4⟩ := hh
  refine wp_if (fun g5 => ?_) (fun g5 => ?_)
  · exact ⟨h4, (by omega), trivial⟩
  · exact t_X11_knot_L14 (l2 := (-1)) (l3 := 1) hI  (fun r_ m_ h_ hr_ hp_ => by exact ⟨h_, (by omega), trivial⟩) FU h4 (by omega) (by omega) trivial (by omega)
set_option maxHeartbeats 4000000 in
set_option maxRecDepth 100000 in
theorem t_X11_ageOf_L3 {μs : Mm} {l1 : Int} (hI : Ir μs)  (hp_l1 : 0 ≤ l1 ∧ l1 ≤ 4) (hl2 : 0 ≤ l1 ∧ l1 < μs 70 28) {Q : Int → Mm → Prop} (hQ : ∀ r μ, Sm μs μ → (-2147483648 ≤ r ∧ r ≤ 2147483647) → True → Q r μ) : ∀ (n : Nat) {l2 : Int} {μ : Mm}, Sm μs μ → (0 ≤ l2 ∧ l2 ≤ 9) → True → l2 + 1 ≤ ((n : Nat) : Int) → wp (X11_ageOf_L3 l1 n l2 μ) Q := by
  have hFU := FU_v
  intro n
  induction n with
  | zero => intro l2 μ hS hv_l2 hi hm; exact absurd hm (by  have : ((0 : Nat) : Int) = 0 := rfl; omega)
  | succ n ih =>
    intro l2 μ hS hv_l2 hi hm
    have hn1 : ((n + 1 : Nat) : Int) = ((n : Nat) : Int) + 1 := rfl
    rw [X11_ageOf_L3]
    refine wp_if (fun g17 => ?_) (fun g17 => ?_)
    · exact hQ _ _ hS (by omega) trivial
    · refine wp_calls (t_X11_placeOf (l1 := 2)  (by omega) hS) (fun v18 hh => ?_)
      obtain ⟨hr19, hp19⟩ := hh
      refine wp_call (t_X11_lay (l1 := l1) (l2 := v18) (l3 := l2) hI (by omega) (by omega) (by omega) hS (by omega)) (fun v26 m27 hh => ?_)
      obtain ⟨h27, hr27, hp27⟩ := hh
      refine wp_calls (t_X11_all   h27) (fun v32 hh => ?_)
      obtain ⟨hr33, hp33⟩ := hh
      refine wp_call (t_X11_leastOf (l1 := 2) (l2 := v32) hI (by omega) (by omega) h27) (fun v36 m37 hh => ?_)
      obtain ⟨h37, hr37, hp37⟩ := hh
      refine wp_if (fun g38 => ?_) (fun g38 => ?_)
      · exact hQ _ _ h37 (by omega) trivial
      · exact ih h37 (by have := iA_c l2 (-1); omega) trivial (by have := iA_c l2 (-1); omega)
set_option maxHeartbeats 4000000 in
set_option maxRecDepth 100000 in
theorem t_X11_ageOf {μs : Mm} {l1 : Int} (hI : Ir μs)  (hp_l1 : 0 ≤ l1 ∧ l1 ≤ 4) {μ : Mm} (hS : Sm μs μ) (hq : 0 ≤ l1 ∧ l1 < μs 70 28) : wp (X11_ageOf l1 μ) (fun r μ' => Sm μs μ' ∧ (-2147483648 ≤ r ∧ r ≤ 2147483647) ∧ True) := by
  have hFU := FU_v
  unfold X11_ageOf
  exact t_X11_ageOf_L3 (l1 := l1) (l2 := 9) hI (by omega) (by have := gO_11_37 hS; omega) (fun r_ m_ h_ hr_ hp_ => by exact ⟨h_, (by omega), trivial⟩) FU hS (by omega) trivial (by omega)
set_option maxHeartbeats 4000000 in
set_option maxRecDepth 100000 in
theorem t_X11_age {μs : Mm} {l1 : Int} (hI : Ir μs)  (hp_l1 : -2147483648 ≤ l1 ∧ l1 ≤ 2147483647) {μ : Mm} (hS : Sm μs μ) : wp (X11_age l1 μ) (fun r μ' => Sm μs μ' ∧ (-2147483648 ≤ r ∧ r ≤ 2147483647) ∧ True) := by
  have hFU := FU_v
  unfold X11_age
  refine wp_call (t_X11_isReady (l1 := l1) hI (by omega) hS) (fun v5 m6 hh => ?_)
  obtain ⟨h6, hr6, hp6⟩ := hh
  refine wp_if (fun g9 => ?_) (fun g9 => ?_)
  · exact ⟨h6, (by omega), trivial⟩
  · refine wp_call (t_X11_ageOf (l1 := l1) hI (by omega) h6 (by omega)) (fun v10 m11 hh => ?_)
    obtain ⟨h11, hr11, hp11⟩ := hh
    exact ⟨h11, (by omega), trivial⟩
set_option maxHeartbeats 4000000 in
set_option maxRecDepth 100000 in
theorem t_X11_first_L6 {μs : Mm}  (hI : Ir μs)   {Q : Int → Mm → Prop} (hQ : ∀ r μ, Sm μs μ → (-2147483648 ≤ r ∧ r ≤ 2147483647) → True → Q r μ) : ∀ (n : Nat) {l1 l2 l3 : Int} {μ : Mm}, Sm μs μ → (-2147483648 ≤ l1 ∧ l1 ≤ 2147483647) → (-2147483648 ≤ l2 ∧ l2 ≤ 2147483647) → (0 ≤ l3 ∧ l3 ≤ 5) → True → 5 - l3 + 1 ≤ ((n : Nat) : Int) → wp (X11_first_L6 n l1 l2 l3 μ) Q := by
  have hFU := FU_v
  intro n
  induction n with
  | zero => intro l1 l2 l3 μ hS hv_l1 hv_l2 hv_l3 hi hm; exact absurd hm (by  have : ((0 : Nat) : Int) = 0 := rfl; omega)
  | succ n ih =>
    intro l1 l2 l3 μ hS hv_l1 hv_l2 hv_l3 hi hm
    have hn1 : ((n + 1 : Nat) : Int) = ((n : Nat) : Int) + 1 := rfl
    rw [X11_first_L6]
    refine wp_if (fun g9 => ?_) (fun g9 => ?_)
    · exact hQ _ _ hS (by have := gO_11_28 hS; have := eqS hS (j := 28) (k := 70) (by unfold scrM; omega); omega) trivial
    · refine wp_if (fun g10 => ?_) (fun g10 => ?_)
      · exact hQ _ _ hS (by have := gO_11_28 hS; have := eqS hS (j := 28) (k := 70) (by unfold scrM; omega); have := gO_11_23 hS; have := eqS hS (j := 23) (k := 70) (by unfold scrM; omega); omega) trivial
      · refine wp_call (t_X11_isReady (l1 := l3) hI (by have := gO_11_28 hS; have := eqS hS (j := 28) (k := 70) (by unfold scrM; omega); have := gO_11_23 hS; have := eqS hS (j := 23) (k := 70) (by unfold scrM; omega); omega) hS) (fun v11 m12 hh => ?_)
        obtain ⟨h12, hr12, hp12⟩ := hh
        refine wp_call (t_X11_ageOf (l1 := l3) hI (by have := gO_11_28 hS; have := eqS hS (j := 28) (k := 70) (by unfold scrM; omega); have := gO_11_23 hS; have := eqS hS (j := 23) (k := 70) (by unfold scrM; omega); omega) h12 (by have := gO_11_28 hS; have := eqS hS (j := 28) (k := 70) (by unfold scrM; omega); have := gO_11_23 hS; have := eqS hS (j := 23) (k := 70) (by unfold scrM; omega); omega)) (fun v15 m16 hh => ?_)
        obtain ⟨h16, hr16, hp16⟩ := hh
        refine wp_if (fun g17 => ?_) (fun g17 => ?_)
        · exact ih h16 (by have := gO_11_28 hS; have := eqS hS (j := 28) (k := 70) (by unfold scrM; omega); have := gO_11_23 hS; have := eqS hS (j := 23) (k := 70) (by unfold scrM; omega); omega) (by have := gO_11_28 hS; have := eqS hS (j := 28) (k := 70) (by unfold scrM; omega); have := gO_11_23 hS; have := eqS hS (j := 23) (k := 70) (by unfold scrM; omega); omega) (by have := gO_11_28 hS; have := eqS hS (j := 28) (k := 70) (by unfold scrM; omega); have := gO_11_23 hS; have := eqS hS (j := 23) (k := 70) (by unfold scrM; omega); have := iA_c l3 1; omega) trivial (by have := gO_11_28 hS; have := eqS hS (j := 28) (k := 70) (by unfold scrM; omega); have := gO_11_23 hS; have := eqS hS (j := 23) (k := 70) (by unfold scrM; omega); have := iA_c l3 1; omega)
        · refine wp_if (fun g18 => ?_) (fun g18 => ?_)
          · exact ih h16 (by have := gO_11_28 hS; have := eqS hS (j := 28) (k := 70) (by unfold scrM; omega); have := gO_11_23 hS; have := eqS hS (j := 23) (k := 70) (by unfold scrM; omega); omega) (by have := gO_11_28 hS; have := eqS hS (j := 28) (k := 70) (by unfold scrM; omega); have := gO_11_23 hS; have := eqS hS (j := 23) (k := 70) (by unfold scrM; omega); omega) (by have := gO_11_28 hS; have := eqS hS (j := 28) (k := 70) (by unfold scrM; omega); have := gO_11_23 hS; have := eqS hS (j := 23) (k := 70) (by unfold scrM; omega); have := iA_c l3 1; omega) trivial (by have := gO_11_28 hS; have := eqS hS (j := 28) (k := 70) (by unfold scrM; omega); have := gO_11_23 hS; have := eqS hS (j := 23) (k := 70) (by unfold scrM; omega); have := iA_c l3 1; omega)
          · exact ih h16 (by have := gO_11_28 hS; have := eqS hS (j := 28) (k := 70) (by unfold scrM; omega); have := gO_11_23 hS; have := eqS hS (j := 23) (k := 70) (by unfold scrM; omega); omega) (by have := gO_11_28 hS; have := eqS hS (j := 28) (k := 70) (by unfold scrM; omega); have := gO_11_23 hS; have := eqS hS (j := 23) (k := 70) (by unfold scrM; omega); omega) (by have := gO_11_28 hS; have := eqS hS (j := 28) (k := 70) (by unfold scrM; omega); have := gO_11_23 hS; have := eqS hS (j := 23) (k := 70) (by unfold scrM; omega); have := iA_c l3 1; omega) trivial (by have := gO_11_28 hS; have := eqS hS (j := 28) (k := 70) (by unfold scrM; omega); have := gO_11_23 hS; have := eqS hS (j := 23) (k := 70) (by unfold scrM; omega); have := iA_c l3 1; omega)
set_option maxHeartbeats 4000000 in
set_option maxRecDepth 100000 in
theorem t_X11_first {μs : Mm}  (hI : Ir μs)   {μ : Mm} (hS : Sm μs μ) : wp (X11_first μ) (fun r μ' => Sm μs μ' ∧ (-2147483648 ≤ r ∧ r ≤ 2147483647) ∧ True) := by
  have hFU := FU_v
  unfold X11_first
  exact t_X11_first_L6 (l1 := (-1)) (l2 := 0) (l3 := 0) hI  (fun r_ m_ h_ hr_ hp_ => by exact ⟨h_, (by omega), trivial⟩) FU hS (by omega) (by omega) (by omega) trivial (by omega)
set_option maxHeartbeats 4000000 in
set_option maxRecDepth 100000 in
theorem t_X11_leastNow {μs : Mm} {l1 : Int} (hI : Ir μs)  (hp_l1 : -2147483648 ≤ l1 ∧ l1 ≤ 2147483647) {μ : Mm} (hS : Sm μs μ) : wp (X11_leastNow l1 μ) (fun r μ' => Sm μs μ' ∧ (-2147483648 ≤ r ∧ r ≤ 2147483647) ∧ True) := by
  have hFU := FU_v
  unfold X11_leastNow
  refine wp_call (t_X11_isReady (l1 := l1) hI (by omega) hS) (fun v7 m8 hh => ?_)
  obtain ⟨h8, hr8, hp8⟩ := hh
  refine wp_calls (t_X11_all   h8) (fun v13 hh => ?_)
  obtain ⟨hr14, hp14⟩ := hh
  refine wp_call (t_X11_leastOf (l1 := 0) (l2 := v13) hI (by omega) (by omega) h8) (fun v17 m18 hh => ?_)
  obtain ⟨h18, hr18, hp18⟩ := hh
  exact ⟨h18, (by omega), trivial⟩
set_option maxHeartbeats 4000000 in
set_option maxRecDepth 100000 in
theorem t_X11_bothNow {μs : Mm} {l1 : Int} {l2 : Int} (hI : Ir μs)  (hp_l1 : -2147483648 ≤ l1 ∧ l1 ≤ 2147483647) (hp_l2 : -2147483648 ≤ l2 ∧ l2 ≤ 2147483647) {μ : Mm} (hS : Sm μs μ) : wp (X11_bothNow l1 l2 μ) (fun r μ' => Sm μs μ' ∧ (-2147483648 ≤ r ∧ r ≤ 2147483647) ∧ True) := by
  have hFU := FU_v
  unfold X11_bothNow
  refine wp_call (t_X11_leastNow (l1 := l1) hI (by omega) hS) (fun v5 m6 hh => ?_)
  obtain ⟨h6, hr6, hp6⟩ := hh
  refine wp_call (t_X11_leastNow (l1 := l2) hI (by omega) h6) (fun v9 m10 hh => ?_)
  obtain ⟨h10, hr10, hp10⟩ := hh
  refine wp_if (fun g11 => ?_) (fun g11 => ?_)
  · exact ⟨h10, (by omega), trivial⟩
  · refine wp_if (fun g12 => ?_) (fun g12 => ?_)
    · exact ⟨h10, (by omega), trivial⟩
    · exact ⟨h10, (by have := iA_c v5 v9; omega), trivial⟩
set_option maxHeartbeats 4000000 in
set_option maxRecDepth 100000 in
theorem t_X11_skip_L70 {μs : Mm} {l2 : Int} {l3 : Int} {l4 : Int}  (hp_l2 : 1 ≤ l2 ∧ l2 ≤ 8) (hp_l3 : 0 ≤ l3 ∧ l3 ≤ 8) (hp_l4 : -2147483648 ≤ l4 ∧ l4 ≤ 2147483647) {μ : Mm} (hS : Sm μs μ) {Q : Int → Mm → Prop} (hQ : ∀ r, (-2147483648 ≤ r ∧ r ≤ 2147483647) → True → Q r μ) : ∀ (n : Nat) {l5 l6 l7 l8 : Int} , (0 ≤ l5 ∧ l5 ≤ 8) → (-2147483648 ≤ l6 ∧ l6 ≤ 2147483647) → (-2147483648 ≤ l7 ∧ l7 ≤ 2147483647) → (0 ≤ l8 ∧ l8 ≤ 8) → True → 8 - l8 + 1 ≤ ((n : Nat) : Int) → wp (X11_skip_L70 l2 l3 l4 n l5 l6 l7 l8 μ) Q := by
  have hFU := FU_v
  intro n
  induction n with
  | zero => intro l5 l6 l7 l8 hv_l5 hv_l6 hv_l7 hv_l8 hi hm; exact absurd hm (by  have : ((0 : Nat) : Int) = 0 := rfl; omega)
  | succ n ih =>
    intro l5 l6 l7 l8 hv_l5 hv_l6 hv_l7 hv_l8 hi hm
    have hn1 : ((n + 1 : Nat) : Int) = ((n : Nat) : Int) + 1 := rfl
    rw [X11_skip_L70]
    refine wp_if (fun g21 => ?_) (fun g21 => ?_)
    · exact hQ _ (by have := gO_11_37 hS; omega) trivial
    · refine wp_if (fun g22 => ?_) (fun g22 => ?_)
      · unfold X11_skip_J91
        try dsimp only
        refine wp_ldv (by have := gO_11_37 hS; have := iM_c 8 l5; have := iA_c (iM 8 l5) l8; have na3 : ((aN 89 : Nat) : Int) = 72 := rfl; omega) (fun v36 q37 => ?_)
        have hrv36 := gA_11_19 hS ((iA (iM 8 l5) l8)).toNat
        replace hrv36 : -2147483648 ≤ v36 ∧ v36 ≤ 2147483647 := by rw [q37]; exact hrv36
        refine wp_if (fun g50 => ?_) (fun g50 => ?_)
        · exact hQ _ (by have := gO_11_37 hS; omega) trivial
        · refine wp_if (fun g51 => ?_) (fun g51 => ?_)
          · refine wp_ldv (by have := gO_11_37 hS; have na1 : ((aN 88 : Nat) : Int) = 8 := rfl; omega) (fun v52 q53 => ?_)
            have hrv52 := gA_11_18 hS (l8).toNat
            replace hrv52 : -2147483648 ≤ v52 ∧ v52 ≤ 2147483647 := by rw [q53]; exact hrv52
            unfold X11_skip_J136
            try dsimp only
            refine wp_ldv (by have := gO_11_37 hS; have := iM_c 8 l5; have := iA_c (iM 8 l5) l8; have na3 : ((aN 89 : Nat) : Int) = 72 := rfl; omega) (fun v63 q64 => ?_)
            have hrv63 := gA_11_19 hS ((iA (iM 8 l5) l8)).toNat
            replace hrv63 : -2147483648 ≤ v63 ∧ v63 ≤ 2147483647 := by rw [q64]; exact hrv63
            refine wp_ldv (by have := gO_11_37 hS; have na1 : ((aN 90 : Nat) : Int) = 8 := rfl; omega) (fun v68 q69 => ?_)
            have hrv68 := gA_11_20 hS (l8).toNat
            replace hrv68 : -2147483648 ≤ v68 ∧ v68 ≤ 2147483647 := by rw [q69]; exact hrv68
            refine wp_ltv (fun v72 q73 => ?_)
            refine wp_ltv (fun v75 q76 => ?_)
            exact ih  (by have := gO_11_37 hS; omega) (by have := gO_11_37 hS; have := gO_11_38 hS; have := iM_r v63 (μ 70 38); have := iA_c l6 (iM v63 (μ 70 38)); have := iA_c (iA l6 (iM v63 (μ 70 38))) v68; have := mX_c (iA (iA l6 (iM v63 (μ 70 38))) v68) v52; omega) (by have := gO_11_37 hS; have := gO_11_38 hS; have := iM_r v63 (μ 70 38); have := iA_c l6 (iM v63 (μ 70 38)); have := iA_c (iA l6 (iM v63 (μ 70 38))) v68; have := mX_c (iA (iA l6 (iM v63 (μ 70 38))) v68) v52; have := iS_c v72 v52; have := iA_c l7 (iS v72 v52); omega) (by have := gO_11_37 hS; have := iA_c l8 1; omega) trivial (by have := gO_11_37 hS; have := gO_11_38 hS; have := iA_c l8 1; have := iM_r v63 (μ 70 38); have := iA_c l6 (iM v63 (μ 70 38)); have := iA_c (iA l6 (iM v63 (μ 70 38))) v68; have := mX_c (iA (iA l6 (iM v63 (μ 70 38))) v68) v52; have := iS_c v72 v52; have := iA_c l7 (iS v72 v52); omega)
          · refine wp_ldv (by have := gO_11_37 hS; have na1 : ((aN 88 : Nat) : Int) = 8 := rfl; omega) (fun v77 q78 => ?_)
            have hrv77 := gA_11_18 hS (l8).toNat
            replace hrv77 : -2147483648 ≤ v77 ∧ v77 ≤ 2147483647 := by rw [q78]; exact hrv77
            unfold X11_skip_J136
            try dsimp only
            refine wp_ldv (by have := gO_11_37 hS; have := iM_c 8 l5; have := iA_c (iM 8 l5) l8; have na3 : ((aN 89 : Nat) : Int) = 72 := rfl; omega) (fun v88 q89 => ?_)
            have hrv88 := gA_11_19 hS ((iA (iM 8 l5) l8)).toNat
            replace hrv88 : -2147483648 ≤ v88 ∧ v88 ≤ 2147483647 := by rw [q89]; exact hrv88
            refine wp_ldv (by have := gO_11_37 hS; have na1 : ((aN 90 : Nat) : Int) = 8 := rfl; omega) (fun v93 q94 => ?_)
            have hrv93 := gA_11_20 hS (l8).toNat
            replace hrv93 : -2147483648 ≤ v93 ∧ v93 ≤ 2147483647 := by rw [q94]; exact hrv93
            refine wp_ltv (fun v97 q98 => ?_)
            refine wp_ltv (fun v100 q101 => ?_)
            exact ih  (by have := gO_11_37 hS; omega) (by have := gO_11_37 hS; have := gO_11_38 hS; have := iM_r v88 (μ 70 38); have := iA_c l6 (iM v88 (μ 70 38)); have := iA_c (iA l6 (iM v88 (μ 70 38))) v93; have := iS_c v77 l4; have := mX_c (iA (iA l6 (iM v88 (μ 70 38))) v93) (iS v77 l4); omega) (by have := gO_11_37 hS; have := gO_11_38 hS; have := iM_r v88 (μ 70 38); have := iA_c l6 (iM v88 (μ 70 38)); have := iA_c (iA l6 (iM v88 (μ 70 38))) v93; have := iS_c v77 l4; have := mX_c (iA (iA l6 (iM v88 (μ 70 38))) v93) (iS v77 l4); have := iS_c v97 (iS v77 l4); have := iA_c l7 (iS v97 (iS v77 l4)); omega) (by have := gO_11_37 hS; have := iA_c l8 1; omega) trivial (by have := gO_11_37 hS; have := gO_11_38 hS; have := iA_c l8 1; have := iM_r v88 (μ 70 38); have := iA_c l6 (iM v88 (μ 70 38)); have := iA_c (iA l6 (iM v88 (μ 70 38))) v93; have := iS_c v77 l4; have := mX_c (iA (iA l6 (iM v88 (μ 70 38))) v93) (iS v77 l4); have := iS_c v97 (iS v77 l4); have := iA_c l7 (iS v97 (iS v77 l4)); omega)
      · refine wp_if (fun g102 => ?_) (fun g102 => ?_)
        · exact ih  (by have := gO_11_37 hS; omega) (by have := gO_11_37 hS; omega) (by have := gO_11_37 hS; omega) (by have := gO_11_37 hS; have := iA_c l8 1; omega) trivial (by have := gO_11_37 hS; have := iA_c l8 1; omega)
        · unfold X11_skip_J91
          try dsimp only
          refine wp_ldv (by have := gO_11_37 hS; have := iM_c 8 l5; have := iA_c (iM 8 l5) l8; have na3 : ((aN 89 : Nat) : Int) = 72 := rfl; omega) (fun v116 q117 => ?_)
          have hrv116 := gA_11_19 hS ((iA (iM 8 l5) l8)).toNat
          replace hrv116 : -2147483648 ≤ v116 ∧ v116 ≤ 2147483647 := by rw [q117]; exact hrv116
          refine wp_if (fun g130 => ?_) (fun g130 => ?_)
          · exact hQ _ (by have := gO_11_37 hS; omega) trivial
          · refine wp_if (fun g131 => ?_) (fun g131 => ?_)
            · refine wp_ldv (by have := gO_11_37 hS; have na1 : ((aN 88 : Nat) : Int) = 8 := rfl; omega) (fun v132 q133 => ?_)
              have hrv132 := gA_11_18 hS (l8).toNat
              replace hrv132 : -2147483648 ≤ v132 ∧ v132 ≤ 2147483647 := by rw [q133]; exact hrv132
              unfold X11_skip_J136
              try dsimp only
              refine wp_ldv (by have := gO_11_37 hS; have := iM_c 8 l5; have := iA_c (iM 8 l5) l8; have na3 : ((aN 89 : Nat) : Int) = 72 := rfl; omega) (fun v143 q144 => ?_)
              have hrv143 := gA_11_19 hS ((iA (iM 8 l5) l8)).toNat
              replace hrv143 : -2147483648 ≤ v143 ∧ v143 ≤ 2147483647 := by rw [q144]; exact hrv143
              refine wp_ldv (by have := gO_11_37 hS; have na1 : ((aN 90 : Nat) : Int) = 8 := rfl; omega) (fun v148 q149 => ?_)
              have hrv148 := gA_11_20 hS (l8).toNat
              replace hrv148 : -2147483648 ≤ v148 ∧ v148 ≤ 2147483647 := by rw [q149]; exact hrv148
              refine wp_ltv (fun v152 q153 => ?_)
              refine wp_ltv (fun v155 q156 => ?_)
              exact ih  (by have := gO_11_37 hS; omega) (by have := gO_11_37 hS; have := gO_11_38 hS; have := iM_r v143 (μ 70 38); have := iA_c l6 (iM v143 (μ 70 38)); have := iA_c (iA l6 (iM v143 (μ 70 38))) v148; have := mX_c (iA (iA l6 (iM v143 (μ 70 38))) v148) v132; omega) (by have := gO_11_37 hS; have := gO_11_38 hS; have := iM_r v143 (μ 70 38); have := iA_c l6 (iM v143 (μ 70 38)); have := iA_c (iA l6 (iM v143 (μ 70 38))) v148; have := mX_c (iA (iA l6 (iM v143 (μ 70 38))) v148) v132; have := iS_c v152 v132; have := iA_c l7 (iS v152 v132); omega) (by have := gO_11_37 hS; have := iA_c l8 1; omega) trivial (by have := gO_11_37 hS; have := gO_11_38 hS; have := iA_c l8 1; have := iM_r v143 (μ 70 38); have := iA_c l6 (iM v143 (μ 70 38)); have := iA_c (iA l6 (iM v143 (μ 70 38))) v148; have := mX_c (iA (iA l6 (iM v143 (μ 70 38))) v148) v132; have := iS_c v152 v132; have := iA_c l7 (iS v152 v132); omega)
            · refine wp_ldv (by have := gO_11_37 hS; have na1 : ((aN 88 : Nat) : Int) = 8 := rfl; omega) (fun v157 q158 => ?_)
              have hrv157 := gA_11_18 hS (l8).toNat
              replace hrv157 : -2147483648 ≤ v157 ∧ v157 ≤ 2147483647 := by rw [q158]; exact hrv157
              unfold X11_skip_J136
              try dsimp only
              refine wp_ldv (by have := gO_11_37 hS; have := iM_c 8 l5; have := iA_c (iM 8 l5) l8; have na3 : ((aN 89 : Nat) : Int) = 72 := rfl; omega) (fun v168 q169 => ?_)
              have hrv168 := gA_11_19 hS ((iA (iM 8 l5) l8)).toNat
              replace hrv168 : -2147483648 ≤ v168 ∧ v168 ≤ 2147483647 := by rw [q169]; exact hrv168
              refine wp_ldv (by have := gO_11_37 hS; have na1 : ((aN 90 : Nat) : Int) = 8 := rfl; omega) (fun v173 q174 => ?_)
              have hrv173 := gA_11_20 hS (l8).toNat
              replace hrv173 : -2147483648 ≤ v173 ∧ v173 ≤ 2147483647 := by rw [q174]; exact hrv173
              refine wp_ltv (fun v177 q178 => ?_)
              refine wp_ltv (fun v180 q181 => ?_)
              exact ih  (by have := gO_11_37 hS; omega) (by have := gO_11_37 hS; have := gO_11_38 hS; have := iM_r v168 (μ 70 38); have := iA_c l6 (iM v168 (μ 70 38)); have := iA_c (iA l6 (iM v168 (μ 70 38))) v173; have := iS_c v157 l4; have := mX_c (iA (iA l6 (iM v168 (μ 70 38))) v173) (iS v157 l4); omega) (by have := gO_11_37 hS; have := gO_11_38 hS; have := iM_r v168 (μ 70 38); have := iA_c l6 (iM v168 (μ 70 38)); have := iA_c (iA l6 (iM v168 (μ 70 38))) v173; have := iS_c v157 l4; have := mX_c (iA (iA l6 (iM v168 (μ 70 38))) v173) (iS v157 l4); have := iS_c v177 (iS v157 l4); have := iA_c l7 (iS v177 (iS v157 l4)); omega) (by have := gO_11_37 hS; have := iA_c l8 1; omega) trivial (by have := gO_11_37 hS; have := gO_11_38 hS; have := iA_c l8 1; have := iM_r v168 (μ 70 38); have := iA_c l6 (iM v168 (μ 70 38)); have := iA_c (iA l6 (iM v168 (μ 70 38))) v173; have := iS_c v157 l4; have := mX_c (iA (iA l6 (iM v168 (μ 70 38))) v173) (iS v157 l4); have := iS_c v177 (iS v157 l4); have := iA_c l7 (iS v177 (iS v157 l4)); omega)
