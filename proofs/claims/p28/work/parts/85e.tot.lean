/-! TOTALITY of the class, by program (wip/gen/tot.py) -/
set_option maxHeartbeats 4000000 in
set_option maxRecDepth 100000 in
theorem t_X6_gather_L39_65 {W : Nat → Nat → Prop} {μs : Mm} {l1 : Int} {l2 : Int} {l3 : Int} {l4 : Int} {l5 : Int} (hW : ∀ k j, scr k j → W k j) {N : Int} {rec : Int → Int → Int → Int → Int → Nat → Mm → Rs} (hrec : ∀ (l1 : Int) (l2 : Int) (l3 : Int) (l4 : Int) (l5 : Int) (μ : Mm), St W μs μ → (0 ≤ l1 ∧ l1 ≤ 9) → (-2147483648 ≤ l2 ∧ l2 ≤ 2147483647) → (0 ≤ l3 ∧ l3 ≤ 8) → (-2147483648 ≤ l4 ∧ l4 ≤ 2147483647) → (-2147483648 ≤ l5 ∧ l5 ≤ 2147483647) → 10 ≤ l1 + N → wp (rec l1 l2 l3 l4 l5 65 μ) (fun r μ' => St W μs μ' ∧ (-2147483648 ≤ r ∧ r ≤ 2147483647) ∧ True))  (hp_l1 : 0 ≤ l1 ∧ l1 ≤ 8) (hp_l2 : -2147483648 ≤ l2 ∧ l2 ≤ 2147483647) (hp_l3 : 0 ≤ l3 ∧ l3 ≤ 8) (hp_l4 : -2147483648 ≤ l4 ∧ l4 ≤ 2147483647) (hp_l5 : -2147483648 ≤ l5 ∧ l5 ≤ 2147483647) (hl : 9 ≤ l1 + N) {Q : Int → Mm → Prop} (hQ : ∀ r μ, St W μs μ → (-2147483648 ≤ r ∧ r ≤ 2147483647) → True → Q r μ) : ∀ (n : Nat) {l7 : Int} {μ : Mm}, St W μs μ → (0 ≤ l7 ∧ l7 ≤ 8) → True → 8 - l7 + 1 ≤ ((n : Nat) : Int) → wp (X6_gather_L39 rec l1 l2 l3 l4 l5 65 n l7 μ) Q := by
  have hFU := FU_v
  intro n
  induction n with
  | zero => intro l7 μ hS hv_l7 hi hm; exact absurd hm (by  have : ((0 : Nat) : Int) = 0 := rfl; omega)
  | succ n ih =>
    intro l7 μ hS hv_l7 hi hm
    have hn1 : ((n + 1 : Nat) : Int) = ((n : Nat) : Int) + 1 := rfl
    rw [X6_gather_L39]
    refine wp_mRv hS.1.2.2.1 (fun v17 hkv17 e18 => ?_)
    have hbv17 := kJr' hkv17
    refine wp_if (fun g26 => ?_) (fun g26 => ?_)
    · exact hQ _ _ hS (by have := gO_1_5 hkv17 (by omega) hS; omega) trivial
    · refine wp_if (fun g27 => ?_) (fun g27 => ?_)
      · unfold X6_gather_J77
        try dsimp only
        refine wp_if (fun g30 => ?_) (fun g30 => ?_)
        · exact ih hS (by have := iA_c l7 1; have := gO_1_5 hkv17 (by omega) hS; have := bR_r l2 l7; have := bA_r (bR l2 l7) 1; omega) trivial (by have := iA_c l7 1; have := gO_1_5 hkv17 (by omega) hS; have := bR_r l2 l7; have := bA_r (bR l2 l7) 1; omega)
        · refine wp_call (t_X6_gatherBehind_o_65 (l1 := l1) (l2 := (bO l2 (bL 1 l7))) (l3 := l7) (l4 := (-1)) (l5 := l5) hW hrec (by have := gO_1_5 hkv17 (by omega) hS; have := bR_r l2 l7; have := bA_r (bR l2 l7) 1; omega) (by have := bL_r 1 l7; have := bO_r l2 (bL 1 l7); have := gO_1_5 hkv17 (by omega) hS; have := bR_r l2 l7; have := bA_r (bR l2 l7) 1; omega) (by have := gO_1_5 hkv17 (by omega) hS; have := bR_r l2 l7; have := bA_r (bR l2 l7) 1; omega) (by have := gO_1_5 hkv17 (by omega) hS; have := bR_r l2 l7; have := bA_r (bR l2 l7) 1; omega) (by have := gO_1_5 hkv17 (by omega) hS; have := bR_r l2 l7; have := bA_r (bR l2 l7) 1; omega) hS (by have := bL_r 1 l7; have := bO_r l2 (bL 1 l7); have := gO_1_5 hkv17 (by omega) hS; have := bR_r l2 l7; have := bA_r (bR l2 l7) 1; omega)) (fun v31 m32 hh => ?_)
          obtain ⟨h32, hr32, hp32⟩ := hh
          exact ih h32 (by have := iA_c l7 1; have := gO_1_5 hkv17 (by omega) hS; have := bR_r l2 l7; have := bA_r (bR l2 l7) 1; omega) trivial (by have := iA_c l7 1; have := gO_1_5 hkv17 (by omega) hS; have := bR_r l2 l7; have := bA_r (bR l2 l7) 1; omega)
      · refine wp_mRe hkv17 e18 ?_
        refine wp_calls (t_X1_comes (l0 := v17) (l1 := l4) (l2 := l3) (l3 := l7)  hkv17 (by have := gO_1_5 hkv17 (by omega) hS; have := bR_r l2 l7; have := bA_r (bR l2 l7) 1; omega) (by have := gO_1_5 hkv17 (by omega) hS; have := bR_r l2 l7; have := bA_r (bR l2 l7) 1; omega) (by have := gO_1_5 hkv17 (by omega) hS; have := bR_r l2 l7; have := bA_r (bR l2 l7) 1; omega) hS) (fun v38 hh => ?_)
        obtain ⟨hr39, hp39⟩ := hh
        unfold X6_gather_J77
        try dsimp only
        refine wp_if (fun g44 => ?_) (fun g44 => ?_)
        · exact ih hS (by have := iA_c l7 1; have := gO_1_5 hkv17 (by omega) hS; have := bR_r l2 l7; have := bA_r (bR l2 l7) 1; omega) trivial (by have := iA_c l7 1; have := gO_1_5 hkv17 (by omega) hS; have := bR_r l2 l7; have := bA_r (bR l2 l7) 1; omega)
        · refine wp_call (t_X6_gatherBehind_o_65 (l1 := l1) (l2 := (bO l2 (bL 1 l7))) (l3 := l7) (l4 := v38) (l5 := l5) hW hrec (by have := gO_1_5 hkv17 (by omega) hS; have := bR_r l2 l7; have := bA_r (bR l2 l7) 1; omega) (by have := bL_r 1 l7; have := bO_r l2 (bL 1 l7); have := gO_1_5 hkv17 (by omega) hS; have := bR_r l2 l7; have := bA_r (bR l2 l7) 1; omega) (by have := gO_1_5 hkv17 (by omega) hS; have := bR_r l2 l7; have := bA_r (bR l2 l7) 1; omega) (by have := gO_1_5 hkv17 (by omega) hS; have := bR_r l2 l7; have := bA_r (bR l2 l7) 1; omega) (by have := gO_1_5 hkv17 (by omega) hS; have := bR_r l2 l7; have := bA_r (bR l2 l7) 1; omega) hS (by have := bL_r 1 l7; have := bO_r l2 (bL 1 l7); have := gO_1_5 hkv17 (by omega) hS; have := bR_r l2 l7; have := bA_r (bR l2 l7) 1; omega)) (fun v45 m46 hh => ?_)
          obtain ⟨h46, hr46, hp46⟩ := hh
          exact ih h46 (by have := iA_c l7 1; have := gO_1_5 hkv17 (by omega) hS; have := bR_r l2 l7; have := bA_r (bR l2 l7) 1; omega) trivial (by have := iA_c l7 1; have := gO_1_5 hkv17 (by omega) hS; have := bR_r l2 l7; have := bA_r (bR l2 l7) 1; omega)
set_option maxHeartbeats 4000000 in
set_option maxRecDepth 100000 in
theorem t_X6_gather_L39_66 {W : Nat → Nat → Prop} {μs : Mm} {l1 : Int} {l2 : Int} {l3 : Int} {l4 : Int} {l5 : Int} (hW : ∀ k j, scr k j → W k j) {N : Int} {rec : Int → Int → Int → Int → Int → Nat → Mm → Rs} (hrec : ∀ (l1 : Int) (l2 : Int) (l3 : Int) (l4 : Int) (l5 : Int) (μ : Mm), St W μs μ → (0 ≤ l1 ∧ l1 ≤ 9) → (-2147483648 ≤ l2 ∧ l2 ≤ 2147483647) → (0 ≤ l3 ∧ l3 ≤ 8) → (-2147483648 ≤ l4 ∧ l4 ≤ 2147483647) → (-2147483648 ≤ l5 ∧ l5 ≤ 2147483647) → 10 ≤ l1 + N → wp (rec l1 l2 l3 l4 l5 66 μ) (fun r μ' => St W μs μ' ∧ (-2147483648 ≤ r ∧ r ≤ 2147483647) ∧ True))  (hp_l1 : 0 ≤ l1 ∧ l1 ≤ 8) (hp_l2 : -2147483648 ≤ l2 ∧ l2 ≤ 2147483647) (hp_l3 : 0 ≤ l3 ∧ l3 ≤ 8) (hp_l4 : -2147483648 ≤ l4 ∧ l4 ≤ 2147483647) (hp_l5 : -2147483648 ≤ l5 ∧ l5 ≤ 2147483647) (hl : 9 ≤ l1 + N) {Q : Int → Mm → Prop} (hQ : ∀ r μ, St W μs μ → (-2147483648 ≤ r ∧ r ≤ 2147483647) → True → Q r μ) : ∀ (n : Nat) {l7 : Int} {μ : Mm}, St W μs μ → (0 ≤ l7 ∧ l7 ≤ 8) → True → 8 - l7 + 1 ≤ ((n : Nat) : Int) → wp (X6_gather_L39 rec l1 l2 l3 l4 l5 66 n l7 μ) Q := by
  have hFU := FU_v
  intro n
  induction n with
  | zero => intro l7 μ hS hv_l7 hi hm; exact absurd hm (by  have : ((0 : Nat) : Int) = 0 := rfl; omega)
  | succ n ih =>
    intro l7 μ hS hv_l7 hi hm
    have hn1 : ((n + 1 : Nat) : Int) = ((n : Nat) : Int) + 1 := rfl
    rw [X6_gather_L39]
    refine wp_mRv hS.1.2.2.1 (fun v17 hkv17 e18 => ?_)
    have hbv17 := kJr' hkv17
    refine wp_if (fun g26 => ?_) (fun g26 => ?_)
    · exact hQ _ _ hS (by have := gO_1_5 hkv17 (by omega) hS; omega) trivial
    · refine wp_if (fun g27 => ?_) (fun g27 => ?_)
      · unfold X6_gather_J77
        try dsimp only
        refine wp_if (fun g30 => ?_) (fun g30 => ?_)
        · exact ih hS (by have := iA_c l7 1; have := gO_1_5 hkv17 (by omega) hS; have := bR_r l2 l7; have := bA_r (bR l2 l7) 1; omega) trivial (by have := iA_c l7 1; have := gO_1_5 hkv17 (by omega) hS; have := bR_r l2 l7; have := bA_r (bR l2 l7) 1; omega)
        · refine wp_call (t_X6_gatherBehind_o_66 (l1 := l1) (l2 := (bO l2 (bL 1 l7))) (l3 := l7) (l4 := (-1)) (l5 := l5) hW hrec (by have := gO_1_5 hkv17 (by omega) hS; have := bR_r l2 l7; have := bA_r (bR l2 l7) 1; omega) (by have := bL_r 1 l7; have := bO_r l2 (bL 1 l7); have := gO_1_5 hkv17 (by omega) hS; have := bR_r l2 l7; have := bA_r (bR l2 l7) 1; omega) (by have := gO_1_5 hkv17 (by omega) hS; have := bR_r l2 l7; have := bA_r (bR l2 l7) 1; omega) (by have := gO_1_5 hkv17 (by omega) hS; have := bR_r l2 l7; have := bA_r (bR l2 l7) 1; omega) (by have := gO_1_5 hkv17 (by omega) hS; have := bR_r l2 l7; have := bA_r (bR l2 l7) 1; omega) hS (by have := bL_r 1 l7; have := bO_r l2 (bL 1 l7); have := gO_1_5 hkv17 (by omega) hS; have := bR_r l2 l7; have := bA_r (bR l2 l7) 1; omega)) (fun v31 m32 hh => ?_)
          obtain ⟨h32, hr32, hp32⟩ := hh
          exact ih h32 (by have := iA_c l7 1; have := gO_1_5 hkv17 (by omega) hS; have := bR_r l2 l7; have := bA_r (bR l2 l7) 1; omega) trivial (by have := iA_c l7 1; have := gO_1_5 hkv17 (by omega) hS; have := bR_r l2 l7; have := bA_r (bR l2 l7) 1; omega)
      · refine wp_mRe hkv17 e18 ?_
        refine wp_calls (t_X1_comes (l0 := v17) (l1 := l4) (l2 := l3) (l3 := l7)  hkv17 (by have := gO_1_5 hkv17 (by omega) hS; have := bR_r l2 l7; have := bA_r (bR l2 l7) 1; omega) (by have := gO_1_5 hkv17 (by omega) hS; have := bR_r l2 l7; have := bA_r (bR l2 l7) 1; omega) (by have := gO_1_5 hkv17 (by omega) hS; have := bR_r l2 l7; have := bA_r (bR l2 l7) 1; omega) hS) (fun v38 hh => ?_)
        obtain ⟨hr39, hp39⟩ := hh
        unfold X6_gather_J77
        try dsimp only
        refine wp_if (fun g44 => ?_) (fun g44 => ?_)
        · exact ih hS (by have := iA_c l7 1; have := gO_1_5 hkv17 (by omega) hS; have := bR_r l2 l7; have := bA_r (bR l2 l7) 1; omega) trivial (by have := iA_c l7 1; have := gO_1_5 hkv17 (by omega) hS; have := bR_r l2 l7; have := bA_r (bR l2 l7) 1; omega)
        · refine wp_call (t_X6_gatherBehind_o_66 (l1 := l1) (l2 := (bO l2 (bL 1 l7))) (l3 := l7) (l4 := v38) (l5 := l5) hW hrec (by have := gO_1_5 hkv17 (by omega) hS; have := bR_r l2 l7; have := bA_r (bR l2 l7) 1; omega) (by have := bL_r 1 l7; have := bO_r l2 (bL 1 l7); have := gO_1_5 hkv17 (by omega) hS; have := bR_r l2 l7; have := bA_r (bR l2 l7) 1; omega) (by have := gO_1_5 hkv17 (by omega) hS; have := bR_r l2 l7; have := bA_r (bR l2 l7) 1; omega) (by have := gO_1_5 hkv17 (by omega) hS; have := bR_r l2 l7; have := bA_r (bR l2 l7) 1; omega) (by have := gO_1_5 hkv17 (by omega) hS; have := bR_r l2 l7; have := bA_r (bR l2 l7) 1; omega) hS (by have := bL_r 1 l7; have := bO_r l2 (bL 1 l7); have := gO_1_5 hkv17 (by omega) hS; have := bR_r l2 l7; have := bA_r (bR l2 l7) 1; omega)) (fun v45 m46 hh => ?_)
          obtain ⟨h46, hr46, hp46⟩ := hh
          exact ih h46 (by have := iA_c l7 1; have := gO_1_5 hkv17 (by omega) hS; have := bR_r l2 l7; have := bA_r (bR l2 l7) 1; omega) trivial (by have := iA_c l7 1; have := gO_1_5 hkv17 (by omega) hS; have := bR_r l2 l7; have := bA_r (bR l2 l7) 1; omega)
set_option maxHeartbeats 4000000 in
set_option maxRecDepth 100000 in
theorem t_X6_gather_65 {W : Nat → Nat → Prop} {μs : Mm} (hW : ∀ k j, scr k j → W k j) : ∀ (n : Nat) {l1 l2 l3 l4 l5 : Int} {μ : Mm}, St W μs μ → (0 ≤ l1 ∧ l1 ≤ 9) → (-2147483648 ≤ l2 ∧ l2 ≤ 2147483647) → (0 ≤ l3 ∧ l3 ≤ 8) → (-2147483648 ≤ l4 ∧ l4 ≤ 2147483647) → (-2147483648 ≤ l5 ∧ l5 ≤ 2147483647) → 10 ≤ l1 + ((n : Nat) : Int) → wp (X6_gather n l1 l2 l3 l4 l5 65 μ) (fun r μ' => St W μs μ' ∧ (-2147483648 ≤ r ∧ r ≤ 2147483647) ∧ True) := by
  have hFU := FU_v
  intro n
  induction n with
  | zero => intro l1 l2 l3 l4 l5 μ hS hv_l1 hv_l2 hv_l3 hv_l4 hv_l5 hl; exact absurd hl (by have : ((0 : Nat) : Int) = 0 := rfl; omega)
  | succ n ih =>
    intro l1 l2 l3 l4 l5 μ hS hv_l1 hv_l2 hv_l3 hv_l4 hv_l5 hl
    have hn1 : ((n + 1 : Nat) : Int) = ((n : Nat) : Int) + 1 := rfl
    have hrec : ∀ (l1 : Int) (l2 : Int) (l3 : Int) (l4 : Int) (l5 : Int) (μ : Mm), St W μs μ → (0 ≤ l1 ∧ l1 ≤ 9) → (-2147483648 ≤ l2 ∧ l2 ≤ 2147483647) → (0 ≤ l3 ∧ l3 ≤ 8) → (-2147483648 ≤ l4 ∧ l4 ≤ 2147483647) → (-2147483648 ≤ l5 ∧ l5 ≤ 2147483647) → 10 ≤ l1 + ((n : Nat) : Int) → wp (X6_gather n l1 l2 l3 l4 l5 65 μ) (fun r μ' => St W μs μ' ∧ (-2147483648 ≤ r ∧ r ≤ 2147483647) ∧ True) := fun l1 l2 l3 l4 l5 μ hS hv_l1 hv_l2 hv_l3 hv_l4 hv_l5 hl => ih hS hv_l1 hv_l2 hv_l3 hv_l4 hv_l5 (by omega)
    rw [X6_gather]
    refine wp_if (fun g11 => ?_) (fun g11 => ?_)
    · exact ⟨hS, (by omega), trivial⟩
    · refine wp_if (fun g12 => ?_) (fun g12 => ?_)
      · exact ⟨hS, (by have na0 : ((aN 65 : Nat) : Int) = 256 := rfl; omega), trivial⟩
      · refine wp_mRv hS.1.2.2.1 (fun v13 hkv13 e14 => ?_)
        have hbv13 := kJr' hkv13
        refine wp_if (fun g24 => ?_) (fun g24 => ?_)
        · refine wp_ldv (by have na0 : ((aN 65 : Nat) : Int) = 256 := rfl; have := gO_1_5 hkv13 (by omega) hS; omega) (fun v25 q26 => ?_)
          have hrv25 := gA_6_3 (rfl : kD 62 = (16, 9)) (by decide) hS (l2).toNat
          replace hrv25 : -2147483648 ≤ v25 ∧ v25 ≤ 2147483647 := by rw [q26]; exact hrv25
          refine wp_stv (P := St W μs) (by have na0 : ((aN 65 : Nat) : Int) = 256 := rfl; have := gO_1_5 hkv13 (by omega) hS; omega) (pA_6_3 (rfl : kD 62 = (16, 9)) (by decide) hS (hW _ _ (by unfold scr; omega)) (by have := mN_c v25 l5; have na1 : ((aN 65 : Nat) : Int) = 256 := rfl; have := gO_1_5 hkv13 (by omega) hS; omega)) (fun m35 h35 he35 => ?_)
          exact t_X6_gather_L39_65 (l1 := l1) (l2 := l2) (l3 := l3) (l4 := l4) (l5 := l5) (l7 := 0) hW hrec (by have na0 : ((aN 65 : Nat) : Int) = 256 := rfl; have := gO_1_5 hkv13 (by omega) hS; omega) (by have na0 : ((aN 65 : Nat) : Int) = 256 := rfl; have := gO_1_5 hkv13 (by omega) hS; omega) (by have na0 : ((aN 65 : Nat) : Int) = 256 := rfl; have := gO_1_5 hkv13 (by omega) hS; omega) (by have na0 : ((aN 65 : Nat) : Int) = 256 := rfl; have := gO_1_5 hkv13 (by omega) hS; omega) (by have na0 : ((aN 65 : Nat) : Int) = 256 := rfl; have := gO_1_5 hkv13 (by omega) hS; omega) (by have na0 : ((aN 65 : Nat) : Int) = 256 := rfl; have := gO_1_5 hkv13 (by omega) hS; omega) (fun r_ m_ h_ hr_ hp_ => by exact ⟨h_, (by have na0 : ((aN 65 : Nat) : Int) = 256 := rfl; have := gO_1_5 hkv13 (by omega) hS; omega), trivial⟩) FU h35 (by have na0 : ((aN 65 : Nat) : Int) = 256 := rfl; have := gO_1_5 hkv13 (by omega) hS; omega) trivial (by have na0 : ((aN 65 : Nat) : Int) = 256 := rfl; have := gO_1_5 hkv13 (by omega) hS; omega)
        · exact ⟨hS, (by have na0 : ((aN 65 : Nat) : Int) = 256 := rfl; have := gO_1_5 hkv13 (by omega) hS; omega), trivial⟩
set_option maxHeartbeats 4000000 in
set_option maxRecDepth 100000 in
theorem t_X6_gather_66 {W : Nat → Nat → Prop} {μs : Mm} (hW : ∀ k j, scr k j → W k j) : ∀ (n : Nat) {l1 l2 l3 l4 l5 : Int} {μ : Mm}, St W μs μ → (0 ≤ l1 ∧ l1 ≤ 9) → (-2147483648 ≤ l2 ∧ l2 ≤ 2147483647) → (0 ≤ l3 ∧ l3 ≤ 8) → (-2147483648 ≤ l4 ∧ l4 ≤ 2147483647) → (-2147483648 ≤ l5 ∧ l5 ≤ 2147483647) → 10 ≤ l1 + ((n : Nat) : Int) → wp (X6_gather n l1 l2 l3 l4 l5 66 μ) (fun r μ' => St W μs μ' ∧ (-2147483648 ≤ r ∧ r ≤ 2147483647) ∧ True) := by
  have hFU := FU_v
  intro n
  induction n with
  | zero => intro l1 l2 l3 l4 l5 μ hS hv_l1 hv_l2 hv_l3 hv_l4 hv_l5 hl; exact absurd hl (by have : ((0 : Nat) : Int) = 0 := rfl; omega)
  | succ n ih =>
    intro l1 l2 l3 l4 l5 μ hS hv_l1 hv_l2 hv_l3 hv_l4 hv_l5 hl
    have hn1 : ((n + 1 : Nat) : Int) = ((n : Nat) : Int) + 1 := rfl
    have hrec : ∀ (l1 : Int) (l2 : Int) (l3 : Int) (l4 : Int) (l5 : Int) (μ : Mm), St W μs μ → (0 ≤ l1 ∧ l1 ≤ 9) → (-2147483648 ≤ l2 ∧ l2 ≤ 2147483647) → (0 ≤ l3 ∧ l3 ≤ 8) → (-2147483648 ≤ l4 ∧ l4 ≤ 2147483647) → (-2147483648 ≤ l5 ∧ l5 ≤ 2147483647) → 10 ≤ l1 + ((n : Nat) : Int) → wp (X6_gather n l1 l2 l3 l4 l5 66 μ) (fun r μ' => St W μs μ' ∧ (-2147483648 ≤ r ∧ r ≤ 2147483647) ∧ True) := fun l1 l2 l3 l4 l5 μ hS hv_l1 hv_l2 hv_l3 hv_l4 hv_l5 hl => ih hS hv_l1 hv_l2 hv_l3 hv_l4 hv_l5 (by omega)
    rw [X6_gather]
    refine wp_if (fun g11 => ?_) (fun g11 => ?_)
    · exact ⟨hS, (by omega), trivial⟩
    · refine wp_if (fun g12 => ?_) (fun g12 => ?_)
      · exact ⟨hS, (by have na0 : ((aN 66 : Nat) : Int) = 256 := rfl; omega), trivial⟩
      · refine wp_mRv hS.1.2.2.1 (fun v13 hkv13 e14 => ?_)
        have hbv13 := kJr' hkv13
        refine wp_if (fun g24 => ?_) (fun g24 => ?_)
        · refine wp_ldv (by have na0 : ((aN 66 : Nat) : Int) = 256 := rfl; have := gO_1_5 hkv13 (by omega) hS; omega) (fun v25 q26 => ?_)
          have hrv25 := gA_6_4 (rfl : kD 62 = (16, 9)) (by decide) hS (l2).toNat
          replace hrv25 : -2147483648 ≤ v25 ∧ v25 ≤ 2147483647 := by rw [q26]; exact hrv25
          refine wp_stv (P := St W μs) (by have na0 : ((aN 66 : Nat) : Int) = 256 := rfl; have := gO_1_5 hkv13 (by omega) hS; omega) (pA_6_4 (rfl : kD 62 = (16, 9)) (by decide) hS (hW _ _ (by unfold scr; omega)) (by have := mN_c v25 l5; have na1 : ((aN 66 : Nat) : Int) = 256 := rfl; have := gO_1_5 hkv13 (by omega) hS; omega)) (fun m35 h35 he35 => ?_)
          exact t_X6_gather_L39_66 (l1 := l1) (l2 := l2) (l3 := l3) (l4 := l4) (l5 := l5) (l7 := 0) hW hrec (by have na0 : ((aN 66 : Nat) : Int) = 256 := rfl; have := gO_1_5 hkv13 (by omega) hS; omega) (by have na0 : ((aN 66 : Nat) : Int) = 256 := rfl; have := gO_1_5 hkv13 (by omega) hS; omega) (by have na0 : ((aN 66 : Nat) : Int) = 256 := rfl; have := gO_1_5 hkv13 (by omega) hS; omega) (by have na0 : ((aN 66 : Nat) : Int) = 256 := rfl; have := gO_1_5 hkv13 (by omega) hS; omega) (by have na0 : ((aN 66 : Nat) : Int) = 256 := rfl; have := gO_1_5 hkv13 (by omega) hS; omega) (by have na0 : ((aN 66 : Nat) : Int) = 256 := rfl; have := gO_1_5 hkv13 (by omega) hS; omega) (fun r_ m_ h_ hr_ hp_ => by exact ⟨h_, (by have na0 : ((aN 66 : Nat) : Int) = 256 := rfl; have := gO_1_5 hkv13 (by omega) hS; omega), trivial⟩) FU h35 (by have na0 : ((aN 66 : Nat) : Int) = 256 := rfl; have := gO_1_5 hkv13 (by omega) hS; omega) trivial (by have na0 : ((aN 66 : Nat) : Int) = 256 := rfl; have := gO_1_5 hkv13 (by omega) hS; omega)
        · exact ⟨hS, (by have na0 : ((aN 66 : Nat) : Int) = 256 := rfl; have := gO_1_5 hkv13 (by omega) hS; omega), trivial⟩
set_option maxHeartbeats 4000000 in
set_option maxRecDepth 100000 in
theorem t_X6_weigh_L7_65 {W : Nat → Nat → Prop} {μs : Mm}  (hW : ∀ k j, scr k j → W k j)   {k24 : Mm → Rs} {Q : Int → Mm → Prop} (hk_k24 : ∀ (μ : Mm), St W μs μ → True → wp (k24 μ) Q) : ∀ (n : Nat) {l3 : Int} {μ : Mm}, St W μs μ → (0 ≤ l3 ∧ l3 ≤ 256) → True → 256 - l3 + 1 ≤ ((n : Nat) : Int) → wp (X6_weigh_L7 65 k24 n l3 μ) Q := by
  have hFU := FU_v
  intro n
  induction n with
  | zero => intro l3 μ hS hv_l3 hi hm; exact absurd hm (by  have : ((0 : Nat) : Int) = 0 := rfl; omega)
  | succ n ih =>
    intro l3 μ hS hv_l3 hi hm
    have hn1 : ((n + 1 : Nat) : Int) = ((n : Nat) : Int) + 1 := rfl
    rw [X6_weigh_L7]
    refine wp_if (fun g3 => ?_) (fun g3 => ?_)
    · exact hk_k24  μ hS  trivial
    · refine wp_stv (P := St W μs) (by have na0 : ((aN 65 : Nat) : Int) = 256 := rfl; omega) (pA_6_3 (rfl : kD 62 = (16, 9)) (by decide) hS (hW _ _ (by unfold scr; omega)) (by have na0 : ((aN 65 : Nat) : Int) = 256 := rfl; omega)) (fun m4 h4 he4 => ?_)
      exact ih h4 (by have := iA_c l3 1; have na1 : ((aN 65 : Nat) : Int) = 256 := rfl; omega) trivial (by have := iA_c l3 1; have na1 : ((aN 65 : Nat) : Int) = 256 := rfl; omega)
set_option maxHeartbeats 4000000 in
set_option maxRecDepth 100000 in
theorem t_X6_weigh_L7_66 {W : Nat → Nat → Prop} {μs : Mm}  (hW : ∀ k j, scr k j → W k j)   {k24 : Mm → Rs} {Q : Int → Mm → Prop} (hk_k24 : ∀ (μ : Mm), St W μs μ → True → wp (k24 μ) Q) : ∀ (n : Nat) {l3 : Int} {μ : Mm}, St W μs μ → (0 ≤ l3 ∧ l3 ≤ 256) → True → 256 - l3 + 1 ≤ ((n : Nat) : Int) → wp (X6_weigh_L7 66 k24 n l3 μ) Q := by
  have hFU := FU_v
  intro n
  induction n with
  | zero => intro l3 μ hS hv_l3 hi hm; exact absurd hm (by  have : ((0 : Nat) : Int) = 0 := rfl; omega)
  | succ n ih =>
    intro l3 μ hS hv_l3 hi hm
    have hn1 : ((n + 1 : Nat) : Int) = ((n : Nat) : Int) + 1 := rfl
    rw [X6_weigh_L7]
    refine wp_if (fun g3 => ?_) (fun g3 => ?_)
    · exact hk_k24  μ hS  trivial
    · refine wp_stv (P := St W μs) (by have na0 : ((aN 66 : Nat) : Int) = 256 := rfl; omega) (pA_6_4 (rfl : kD 62 = (16, 9)) (by decide) hS (hW _ _ (by unfold scr; omega)) (by have na0 : ((aN 66 : Nat) : Int) = 256 := rfl; omega)) (fun m4 h4 he4 => ?_)
      exact ih h4 (by have := iA_c l3 1; have na1 : ((aN 66 : Nat) : Int) = 256 := rfl; omega) trivial (by have := iA_c l3 1; have na1 : ((aN 66 : Nat) : Int) = 256 := rfl; omega)
set_option maxHeartbeats 4000000 in
set_option maxRecDepth 100000 in
theorem t_X6_weigh_65 {W : Nat → Nat → Prop} {μs : Mm} {l1 : Nat} (hW : ∀ k j, scr k j → W k j)  (hk_l1 : kD l1 = (11, 7)) {μ : Mm} (hS : St W μs μ) : wp (X6_weigh l1 65 μ) (fun r μ' => St W μs μ' ∧ (-2147483648 ≤ r ∧ r ≤ 2147483647) ∧ True) := by
  have hb_l1 := kJr' hk_l1
  have hFU := FU_v
  unfold X6_weigh
  refine wp_sFv (P := St W μs) (pM_6 hS (hW _ _ (by unfold scr; omega)) (show kD (((l1 : Nat) : Int)).toNat = _ by rw [Int.toNat_natCast]; exact hk_l1)) (fun m7 h7 he7 => ?_)
  refine t_X6_weigh_L7_65 (l3 := 0) hW  (fun m13 h13  hp13 => ?_) FU h7 (by omega) trivial (by omega)
  refine wp_call (t_X6_forget hW  h13) (fun v18 m19 hh => ?_)
  obtain ⟨h19, hr19, hp19⟩ := hh
  refine wp_call (t_X6_gather_65 hW RD h19 (by omega) (by omega) (by omega) (by omega) (by omega) (by rw [RD_v]; omega)) (fun v22 m23 hh => ?_)
  obtain ⟨h23, hr23, hp23⟩ := hh
  exact ⟨h23, (by omega), trivial⟩
set_option maxHeartbeats 4000000 in
set_option maxRecDepth 100000 in
theorem t_X6_weigh_66 {W : Nat → Nat → Prop} {μs : Mm} {l1 : Nat} (hW : ∀ k j, scr k j → W k j)  (hk_l1 : kD l1 = (11, 7)) {μ : Mm} (hS : St W μs μ) : wp (X6_weigh l1 66 μ) (fun r μ' => St W μs μ' ∧ (-2147483648 ≤ r ∧ r ≤ 2147483647) ∧ True) := by
  have hb_l1 := kJr' hk_l1
  have hFU := FU_v
  unfold X6_weigh
  refine wp_sFv (P := St W μs) (pM_6 hS (hW _ _ (by unfold scr; omega)) (show kD (((l1 : Nat) : Int)).toNat = _ by rw [Int.toNat_natCast]; exact hk_l1)) (fun m7 h7 he7 => ?_)
  refine t_X6_weigh_L7_66 (l3 := 0) hW  (fun m13 h13  hp13 => ?_) FU h7 (by omega) trivial (by omega)
  refine wp_call (t_X6_forget hW  h13) (fun v18 m19 hh => ?_)
  obtain ⟨h19, hr19, hp19⟩ := hh
  refine wp_call (t_X6_gather_66 hW RD h19 (by omega) (by omega) (by omega) (by omega) (by omega) (by rw [RD_v]; omega)) (fun v22 m23 hh => ?_)
  obtain ⟨h23, hr23, hp23⟩ := hh
  exact ⟨h23, (by omega), trivial⟩
set_option maxHeartbeats 4000000 in
set_option maxRecDepth 100000 in
theorem t_X6_share_L35 {W : Nat → Nat → Prop} {μs : Mm} {l3 : Int} (hW : ∀ k j, scr k j → W k j)  (hp_l3 : 0 ≤ l3 ∧ l3 ≤ 255) {Q : Int → Mm → Prop} (hQ : ∀ r μ, St W μs μ → (-2147483648 ≤ r ∧ r ≤ 2147483647) → True → Q r μ) : ∀ (n : Nat) {l4 l5 : Int} {μ : Mm}, St W μs μ → (-2147483648 ≤ l4 ∧ l4 ≤ 2147483647) → (0 ≤ l5 ∧ l5 ≤ 256) → True → 256 - l5 + 1 ≤ ((n : Nat) : Int) → wp (X6_share_L35 l3 n l4 l5 μ) Q := by
  have hFU := FU_v
  intro n
  induction n with
  | zero => intro l4 l5 μ hS hv_l4 hv_l5 hi hm; exact absurd hm (by  have : ((0 : Nat) : Int) = 0 := rfl; omega)
  | succ n ih =>
    intro l4 l5 μ hS hv_l4 hv_l5 hi hm
    have hn1 : ((n + 1 : Nat) : Int) = ((n : Nat) : Int) + 1 := rfl
    rw [X6_share_L35]
    refine wp_if (fun g7 => ?_) (fun g7 => ?_)
    · exact hQ _ _ hS (by omega) trivial
    · refine wp_if (fun g8 => ?_) (fun g8 => ?_)
      · exact hQ _ _ hS (by omega) trivial
      · refine wp_ldv (by have na0 : ((aN 66 : Nat) : Int) = 256 := rfl; omega) (fun v9 q10 => ?_)
        have hrv9 := gA_6_4 (rfl : kD 62 = (16, 9)) (by decide) hS (l5).toNat
        replace hrv9 : -2147483648 ≤ v9 ∧ v9 ≤ 2147483647 := by rw [q10]; exact hrv9
        refine wp_ldv (by have := bX_r l5 (-1); have := bA_le (bX l5 (-1)) (a := l3) (by omega); have na2 : ((aN 65 : Nat) : Int) = 256 := rfl; omega) (fun v13 q14 => ?_)
        have hrv13 := gA_6_3 (rfl : kD 62 = (16, 9)) (by decide) hS ((bA l3 (bX l5 (-1)))).toNat
        replace hrv13 : -2147483648 ≤ v13 ∧ v13 ≤ 2147483647 := by rw [q14]; exact hrv13
        refine wp_if (fun g16 => ?_) (fun g16 => ?_)
        · exact ih hS (by omega) (by have := iA_c l5 1; omega) trivial (by have := iA_c l5 1; omega)
        · refine wp_if (fun g17 => ?_) (fun g17 => ?_)
          · exact ih hS (by omega) (by have := iA_c l5 1; omega) trivial (by have := iA_c l5 1; omega)
          · refine wp_if (fun g18 => ?_) (fun g18 => ?_)
            · exact ih hS (by have := gO_6_7 (rfl : kD 62 = (16, 9)) (by decide) hS; have := iA_c v9 v13; omega) (by have := iA_c l5 1; have := gO_6_7 (rfl : kD 62 = (16, 9)) (by decide) hS; have := iA_c v9 v13; omega) trivial (by have := iA_c l5 1; have := gO_6_7 (rfl : kD 62 = (16, 9)) (by decide) hS; have := iA_c v9 v13; omega)
            · refine wp_sFv (P := St W μs) (pO_6_7 (rfl : kD 62 = (16, 9)) hS (hW _ _ (by unfold scr; omega)) (by have := iA_c v9 v13; have := gO_6_7 (rfl : kD 62 = (16, 9)) (by decide) hS; omega)) (fun m19 h19 he19 => ?_)
              exact ih h19 (by have := gO_6_7 (rfl : kD 62 = (16, 9)) (by decide) hS; have := iA_c v9 v13; omega) (by have := iA_c l5 1; have := gO_6_7 (rfl : kD 62 = (16, 9)) (by decide) hS; have := iA_c v9 v13; omega) trivial (by have := iA_c l5 1; have := gO_6_7 (rfl : kD 62 = (16, 9)) (by decide) hS; have := iA_c v9 v13; omega)
set_option maxHeartbeats 4000000 in
set_option maxRecDepth 100000 in
theorem t_X6_share {W : Nat → Nat → Prop} {μs : Mm} {l1 : Nat} {l2 : Nat} (hW : ∀ k j, scr k j → W k j)  (hk_l1 : kD l1 = (11, 7)) (hk_l2 : kD l2 = (11, 7)) {μ : Mm} (hS : St W μs μ) : wp (X6_share l1 l2 μ) (fun r μ' => St W μs μ' ∧ (-2147483648 ≤ r ∧ r ≤ 2147483647) ∧ True) := by
  have hb_l1 := kJr' hk_l1
  have hb_l2 := kJr' hk_l2
  have hFU := FU_v
  unfold X6_share
  refine wp_call (t_X6_weigh_65 (l1 := l1) hW hk_l1 hS) (fun v8 m9 hh => ?_)
  obtain ⟨h9, hr9, hp9⟩ := hh
  refine wp_call (t_X6_weigh_66 (l1 := l2) hW hk_l2 h9) (fun v15 m16 hh => ?_)
  obtain ⟨h16, hr16, hp16⟩ := hh
  refine wp_calls (t_X1_allCues (l0 := l1)  hk_l1 h16) (fun v20 hh => ?_)
  obtain ⟨hr21, hp21⟩ := hh
  refine wp_sFv (P := St W μs) (pO_6_7 (rfl : kD 62 = (16, 9)) h16 (hW _ _ (by unfold scr; omega)) (by omega)) (fun m23 h23 he23 => ?_)
  exact t_X6_share_L35 (l3 := v20) (l4 := (-1)) (l5 := 0) hW (by omega) (fun r_ m_ h_ hr_ hp_ => by exact ⟨h_, (by omega), trivial⟩) FU h23 (by omega) (by omega) trivial (by omega)
set_option maxHeartbeats 4000000 in
set_option maxRecDepth 100000 in
theorem t_X7_bytesIn_L5 {W : Nat → Nat → Prop} {μs : Mm} {l0 : Int}  (hp_l0 : -2147483648 ≤ l0 ∧ l0 ≤ 2147483647) {μ : Mm} (hS : St W μs μ) {Q : Int → Mm → Prop} (hQ : ∀ r, (-2147483648 ≤ r ∧ r ≤ 2147483647) → True → Q r μ) : ∀ (n : Nat) {l1 l2 : Int} , (-2147483648 ≤ l1 ∧ l1 ≤ 2147483647) → (-8 ≤ l2 ∧ l2 ≤ 24) → True → l2 + 8 + 1 ≤ ((n : Nat) : Int) → wp (X7_bytesIn_L5 l0 n l1 l2 μ) Q := by
  have hFU := FU_v
  intro n
  induction n with
  | zero => intro l1 l2 hv_l1 hv_l2 hi hm; exact absurd hm (by  have : ((0 : Nat) : Int) = 0 := rfl; omega)
  | succ n ih =>
    intro l1 l2 hv_l1 hv_l2 hi hm
    have hn1 : ((n + 1 : Nat) : Int) = ((n : Nat) : Int) + 1 := rfl
    rw [X7_bytesIn_L5]
    refine wp_if (fun g1 => ?_) (fun g1 => ?_)
    · exact hQ _ (by omega) trivial
    · refine wp_if (fun g2 => ?_) (fun g2 => ?_)
      · exact ih  (by have := bU_r l0 l2; have := bA_r (bU l0 l2) 255; omega) (by have := iA_c l2 (-8); have := bU_r l0 l2; have := bA_r (bU l0 l2) 255; omega) trivial (by have := iA_c l2 (-8); have := bU_r l0 l2; have := bA_r (bU l0 l2) 255; omega)
      · exact ih  (by have := iA_c l1 1; have := bU_r l0 l2; have := bA_r (bU l0 l2) 255; omega) (by have := iA_c l2 (-8); have := bU_r l0 l2; have := bA_r (bU l0 l2) 255; omega) trivial (by have := iA_c l1 1; have := iA_c l2 (-8); have := bU_r l0 l2; have := bA_r (bU l0 l2) 255; omega)
set_option maxHeartbeats 4000000 in
set_option maxRecDepth 100000 in
theorem t_X7_bytesIn {W : Nat → Nat → Prop} {μs : Mm} {l0 : Int}  (hp_l0 : -2147483648 ≤ l0 ∧ l0 ≤ 2147483647) {μ : Mm} (hS : St W μs μ) : wp (X7_bytesIn l0 μ) (fun r μ' => μ' = μ ∧ (-2147483648 ≤ r ∧ r ≤ 2147483647) ∧ True) := by
  have hFU := FU_v
  unfold X7_bytesIn
  exact t_X7_bytesIn_L5 (l0 := l0) (l1 := 0) (l2 := 24)  (by omega) hS (fun r_ hr_ hp_ => by exact ⟨rfl, (by omega), trivial⟩) FU  (by omega) (by omega) trivial (by omega)
set_option maxHeartbeats 4000000 in
set_option maxRecDepth 100000 in
theorem t_X7_add_L3 {W : Nat → Nat → Prop} {μs : Mm} {l0 : Nat} {l1 : Int} (hW : ∀ k j, scr k j → W k j) (hwT : ∀ k j, l0 ≤ k → k ≤ l0 + 1 → W k j)  (hk_l0 : kD l0 = (17, 2)) (hp_l1 : -2147483648 ≤ l1 ∧ l1 ≤ 2147483647) {Q : Int → Mm → Prop} (hQ : ∀ r μ, St W μs μ → (-2147483648 ≤ r ∧ r ≤ 2147483647) → True → Q r μ) : ∀ (n : Nat) {l2 : Int} {μ : Mm}, St W μs μ → (-8 ≤ l2 ∧ l2 ≤ 24) → True → l2 + 8 + 1 ≤ ((n : Nat) : Int) → wp (X7_add_L3 l0 l1 n l2 μ) Q := by
  have hb_l0 := kTr' hk_l0
  have hFU := FU_v
  intro n
  induction n with
  | zero => intro l2 μ hS hv_l2 hi hm; exact absurd hm (by  have : ((0 : Nat) : Int) = 0 := rfl; omega)
  | succ n ih =>
    intro l2 μ hS hv_l2 hi hm
    have hn1 : ((n + 1 : Nat) : Int) = ((n : Nat) : Int) + 1 := rfl
    rw [X7_add_L3]
    refine wp_if (fun g7 => ?_) (fun g7 => ?_)
    · exact hQ _ _ hS (by omega) trivial
    · refine wp_ltv (fun v8 q9 => ?_)
      refine wp_if (fun g12 => ?_) (fun g12 => ?_)
      · exact ih hS (by have := iA_c l2 (-8); have := bU_r l1 l2; have := bA_r (bU l1 l2) 255; omega) trivial (by have := iA_c l2 (-8); have := bU_r l1 l2; have := bA_r (bU l1 l2) 255; omega)
      · refine wp_if (fun g13 => ?_) (fun g13 => ?_)
        · exact ih hS (by have := iA_c l2 (-8); have na1 : ((aN (l0 + 1) : Nat) : Int) = 160 := (by rw [(bA_7_1 hk_l0 (by omega) 0).2.2]; rfl); have := gO_7_1 hk_l0 (by omega) hS; have := bU_r l1 l2; have := bA_r (bU l1 l2) 255; omega) trivial (by have := iA_c l2 (-8); have na1 : ((aN (l0 + 1) : Nat) : Int) = 160 := (by rw [(bA_7_1 hk_l0 (by omega) 0).2.2]; rfl); have := gO_7_1 hk_l0 (by omega) hS; have := bU_r l1 l2; have := bA_r (bU l1 l2) 255; omega)
        · refine wp_stv (P := St W μs) (by have := gO_7_1 hk_l0 (by omega) hS; have na1 : ((aN (l0 + 1) : Nat) : Int) = 160 := (by rw [(bA_7_1 hk_l0 (by omega) 0).2.2]; rfl); have := bU_r l1 l2; have := bA_r (bU l1 l2) 255; omega) (pA_7_1 hk_l0 (by omega) hS (hwT _ _ (by omega) (by omega)) (by have na0 : ((aN (l0 + 1) : Nat) : Int) = 160 := (by rw [(bA_7_1 hk_l0 (by omega) 0).2.2]; rfl); have := gO_7_1 hk_l0 (by omega) hS; have := bU_r l1 l2; have := bA_r (bU l1 l2) 255; omega)) (fun m14 h14 he14 => ?_)
          refine wp_sFv (P := St W μs) (pO_7_1 hk_l0 h14 (hwT _ _ (by omega) (by omega)) (by have := gO_7_1 hk_l0 (by omega) h14; have : m14 l0 1 = μ l0 1 := (by rw [he14, sM_a (by omega)]); have := gO_7_1 hk_l0 (by omega) hS; have := iA_c (m14 l0 1) 1; have na4 : ((aN (l0 + 1) : Nat) : Int) = 160 := (by rw [(bA_7_1 hk_l0 (by omega) 0).2.2]; rfl); have := bU_r l1 l2; have := bA_r (bU l1 l2) 255; omega)) (fun m16 h16 he16 => ?_)
          exact ih h16 (by have := iA_c l2 (-8); have na1 : ((aN (l0 + 1) : Nat) : Int) = 160 := (by rw [(bA_7_1 hk_l0 (by omega) 0).2.2]; rfl); have := gO_7_1 hk_l0 (by omega) hS; have := bU_r l1 l2; have := bA_r (bU l1 l2) 255; omega) trivial (by have := iA_c l2 (-8); have na1 : ((aN (l0 + 1) : Nat) : Int) = 160 := (by rw [(bA_7_1 hk_l0 (by omega) 0).2.2]; rfl); have := gO_7_1 hk_l0 (by omega) hS; have := bU_r l1 l2; have := bA_r (bU l1 l2) 255; omega)
set_option maxHeartbeats 4000000 in
set_option maxRecDepth 100000 in
theorem t_X7_add {W : Nat → Nat → Prop} {μs : Mm} {l0 : Nat} {l1 : Int} (hW : ∀ k j, scr k j → W k j) (hwT : ∀ k j, l0 ≤ k → k ≤ l0 + 1 → W k j)  (hk_l0 : kD l0 = (17, 2)) (hp_l1 : -2147483648 ≤ l1 ∧ l1 ≤ 2147483647) {μ : Mm} (hS : St W μs μ) : wp (X7_add l0 l1 μ) (fun r μ' => St W μs μ' ∧ (-2147483648 ≤ r ∧ r ≤ 2147483647) ∧ True) := by
  have hb_l0 := kTr' hk_l0
  have hFU := FU_v
  unfold X7_add
  exact t_X7_add_L3 (l0 := l0) (l1 := l1) (l2 := 24) hW hwT hk_l0 (by omega) (fun r_ m_ h_ hr_ hp_ => by exact ⟨h_, (by omega), trivial⟩) FU hS (by omega) trivial (by omega)
set_option maxHeartbeats 4000000 in
set_option maxRecDepth 100000 in
theorem t_X7_cut {W : Nat → Nat → Prop} {μs : Mm} {l0 : Nat} {l1 : Int} (hW : ∀ k j, scr k j → W k j) (hwT : ∀ k j, l0 ≤ k → k ≤ l0 + 1 → W k j)  (hk_l0 : kD l0 = (17, 2)) (hp_l1 : -2147483648 ≤ l1 ∧ l1 ≤ 2147483647) {μ : Mm} (hS : St W μs μ) : wp (X7_cut l0 l1 μ) (fun r μ' => St W μs μ' ∧ (0 ≤ r ∧ r ≤ 1) ∧ True) := by
  have hb_l0 := kTr' hk_l0
  have hFU := FU_v
  unfold X7_cut
  refine wp_if (fun g2 => ?_) (fun g2 => ?_)
  · exact ⟨hS, (by omega), trivial⟩
  · refine wp_if (fun g3 => ?_) (fun g3 => ?_)
    · refine wp_sFv (P := St W μs) (pO_7_1 hk_l0 hS (hwT _ _ (by omega) (by omega)) (by have := gO_7_1 hk_l0 (by omega) hS; omega)) (fun m4 h4 he4 => ?_)
      exact ⟨h4, (by have := gO_7_1 hk_l0 (by omega) hS; omega), trivial⟩
    · exact ⟨hS, (by have := gO_7_1 hk_l0 (by omega) hS; omega), trivial⟩
set_option maxHeartbeats 4000000 in
set_option maxRecDepth 100000 in
theorem t_X7_copy {W : Nat → Nat → Prop} {μs : Mm} {l0 : Nat} {l1 : Nat} (hW : ∀ k j, scr k j → W k j) (hwT : ∀ k j, l0 ≤ k → k ≤ l0 + 1 → W k j)  (hk_l0 : kD l0 = (17, 2)) (hk_l1 : kD l1 = (17, 2)) {μ : Mm} (hS : St W μs μ) : wp (X7_copy l0 l1 μ) (fun r μ' => St W μs μ' ∧ (-2147483648 ≤ r ∧ r ≤ 2147483647) ∧ True) := by
  have hb_l0 := kTr' hk_l0
  have hb_l1 := kTr' hk_l1
  have hFU := FU_v
  unfold X7_copy
  refine wp_cpv (P := St W μs) (by have na0 : ((aN (l1 + 1) : Nat) : Int) = 160 := (by rw [(bA_7_1 hk_l1 (by omega) 0).2.2]; rfl); have na1 : ((aN (l0 + 1) : Nat) : Int) = 160 := (by rw [(bA_7_1 hk_l0 (by omega) 0).2.2]; rfl); omega) (St_cA hS (by omega) (fun j => (hwT _ _ (by omega) (by omega))) (fun j => by rw [show bx (l1 + 1) j = _ from (bA_7_1 hk_l1 (by omega) j).1, show bx (l0 + 1) j = _ from (bA_7_1 hk_l0 (by omega) j).1]) (bA_7_1 hk_l0 (by omega) 0).2.1) (fun m3 h3 => ?_)
  refine wp_sFv (P := St W μs) (pO_7_1 hk_l0 h3 (hwT _ _ (by omega) (by omega)) (by have := gO_7_1 hk_l1 (by omega) h3; omega)) (fun m5 h5 he5 => ?_)
  exact ⟨h5, (by omega), trivial⟩
set_option maxHeartbeats 4000000 in
set_option maxRecDepth 100000 in
theorem t_X8_add {W : Nat → Nat → Prop} {μs : Mm} {l1 : Int} {l2 : Int} (hW : ∀ k j, scr k j → W k j) (hA : ∀ k j, k < 70 → W k j)  (hp_l1 : 0 ≤ l1 ∧ l1 ≤ 999) (hp_l2 : 0 ≤ l2 ∧ l2 ≤ 7) {μ : Mm} (hS : St W μs μ) : wp (X8_add l1 l2 μ) (fun r μ' => St W μs μ' ∧ (0 ≤ r ∧ r ≤ 1) ∧ True) := by
  have hFU := FU_v
  unfold X8_add
  refine wp_if (fun g4 => ?_) (fun g4 => ?_)
  · refine wp_stv (P := St W μs) (by have := gO_8_2 (rfl : kD 67 = (18, 7)) (by decide) hS; have na1 : ((aN 68 : Nat) : Int) = 10 := rfl; omega) (pA_8_1 (rfl : kD 67 = (18, 7)) (by decide) hS (hA _ _ (by omega)) (by have := gO_8_2 (rfl : kD 67 = (18, 7)) (by decide) hS; omega)) (fun m5 h5 he5 => ?_)
    refine wp_stv (P := St W μs) (by have := gO_8_2 (rfl : kD 67 = (18, 7)) (by decide) h5; have : m5 67 2 = μ 67 2 := (by rw [he5, sM_a (by decide)]); have := gO_8_2 (rfl : kD 67 = (18, 7)) (by decide) hS; have na3 : ((aN 69 : Nat) : Int) = 10 := rfl; omega) (pA_8_2 (rfl : kD 67 = (18, 7)) (by decide) h5 (hA _ _ (by omega)) (by have := gO_8_2 (rfl : kD 67 = (18, 7)) (by decide) hS; omega)) (fun m8 h8 he8 => ?_)
    refine wp_sFv (P := St W μs) (pO_8_2 (rfl : kD 67 = (18, 7)) h8 (hA _ _ (by omega)) (by have := gO_8_2 (rfl : kD 67 = (18, 7)) (by decide) h8; have : m8 67 2 = m5 67 2 := (by rw [he8, sM_a (by decide)]); have := gO_8_2 (rfl : kD 67 = (18, 7)) (by decide) h5; have : m5 67 2 = μ 67 2 := (by rw [he5, sM_a (by decide)]); have := gO_8_2 (rfl : kD 67 = (18, 7)) (by decide) hS; have := iA_c (m8 67 2) 1; omega)) (fun m10 h10 he10 => ?_)
    exact ⟨h10, (by have := gO_8_2 (rfl : kD 67 = (18, 7)) (by decide) hS; omega), trivial⟩
  · exact ⟨hS, (by have := gO_8_2 (rfl : kD 67 = (18, 7)) (by decide) hS; omega), trivial⟩
set_option maxHeartbeats 4000000 in
set_option maxRecDepth 100000 in
theorem t_X8_passesOver_L4 {W : Nat → Nat → Prop} {μs : Mm} {l1 : Int}  (hp_l1 : -8 ≤ l1 ∧ l1 ≤ 8) {μ : Mm} (hS : St W μs μ) {k19 : Int → Mm → Rs} {Q : Int → Mm → Prop} (hk_k19 : ∀ (a0 : Int), (-2147483648 ≤ a0 ∧ a0 ≤ 2147483647) → True → wp (k19 a0 μ) Q) : ∀ (n : Nat) {l2 l3 : Int} , (-2147483648 ≤ l2 ∧ l2 ≤ 2147483647) → (2 ≤ l3 ∧ l3 ≤ 9) → True → 9 - l3 + 1 ≤ ((n : Nat) : Int) → wp (X8_passesOver_L4 l1 k19 n l2 l3 μ) Q := by
  have hFU := FU_v
  intro n
  induction n with
  | zero => intro l2 l3 hv_l2 hv_l3 hi hm; exact absurd hm (by  have : ((0 : Nat) : Int) = 0 := rfl; omega)
  | succ n ih =>
    intro l2 l3 hv_l2 hv_l3 hi hm
    have hn1 : ((n + 1 : Nat) : Int) = ((n : Nat) : Int) + 1 := rfl
    rw [X8_passesOver_L4]
    refine wp_if (fun g1 => ?_) (fun g1 => ?_)
    · exact hk_k19 l2  (by omega) trivial
    · exact ih  (by have := iM_r l2 l3; omega) (by have := iA_c l3 1; omega) trivial (by have := iM_r l2 l3; have := iA_c l3 1; omega)
set_option maxHeartbeats 4000000 in
set_option maxRecDepth 100000 in
theorem t_X8_passesOver {W : Nat → Nat → Prop} {μs : Mm} {l1 : Int} (hW : ∀ k j, scr k j → W k j)  (hp_l1 : -8 ≤ l1 ∧ l1 ≤ 8) {μ : Mm} (hS : St W μs μ) : wp (X8_passesOver l1 μ) (fun r μ' => St W μs μ' ∧ (0 ≤ r ∧ r ≤ 1) ∧ True) := by
  have hFU := FU_v
  unfold X8_passesOver
  refine t_X8_passesOver_L4 (l1 := l1) (l2 := 1) (l3 := 2)  (by omega) hS (fun v5 hrv5 hp6 => ?_) FU  (by omega) (by omega) trivial (by omega)
  refine wp_if (fun g9 => ?_) (fun g9 => ?_)
  · refine wp_sFv (P := St W μs) (pO_8_5 (rfl : kD 67 = (18, 7)) hS (hW _ _ (by unfold scr; omega)) (by have := gO_8_5 (rfl : kD 67 = (18, 7)) (by decide) hS; have := iA_c (μ 67 5) v5; have := gO_8_4 (rfl : kD 67 = (18, 7)) (by decide) hS; omega)) (fun m10 h10 he10 => ?_)
    exact ⟨h10, (by have := gO_8_4 (rfl : kD 67 = (18, 7)) (by decide) hS; omega), trivial⟩
  · refine wp_if (fun g11 => ?_) (fun g11 => ?_)
    · refine wp_sFv (P := St W μs) (pO_8_5 (rfl : kD 67 = (18, 7)) hS (hW _ _ (by unfold scr; omega)) (by have := gO_8_5 (rfl : kD 67 = (18, 7)) (by decide) hS; have := iA_c (μ 67 5) v5; have := gO_8_4 (rfl : kD 67 = (18, 7)) (by decide) hS; have := iS_c (μ 67 4) (μ 67 5); omega)) (fun m12 h12 he12 => ?_)
      exact ⟨h12, (by have := gO_8_4 (rfl : kD 67 = (18, 7)) (by decide) hS; have := gO_8_5 (rfl : kD 67 = (18, 7)) (by decide) hS; have := iS_c (μ 67 4) (μ 67 5); omega), trivial⟩
    · exact ⟨hS, (by have := gO_8_4 (rfl : kD 67 = (18, 7)) (by decide) hS; have := gO_8_5 (rfl : kD 67 = (18, 7)) (by decide) hS; have := iS_c (μ 67 4) (μ 67 5); omega), trivial⟩
set_option maxHeartbeats 4000000 in
set_option maxRecDepth 100000 in
theorem t_X8_heardAt_L6 {W : Nat → Nat → Prop} {μs : Mm} {l1 : Int} {l2 : Int} {l3 : Int}  (hp_l1 : -2147483648 ≤ l1 ∧ l1 ≤ 2147483647) (hp_l2 : -2147483648 ≤ l2 ∧ l2 ≤ 2147483647) (hp_l3 : -2147483648 ≤ l3 ∧ l3 ≤ 2147483647) {μ : Mm} (hS : St W μs μ) {Q : Int → Mm → Prop} (hQ : ∀ r, (-2147483648 ≤ r ∧ r ≤ 2147483647) → True → Q r μ) : ∀ (n : Nat) {l4 l5 : Int} , (-2147483648 ≤ l4 ∧ l4 ≤ 2147483647) → (0 ≤ l5 ∧ l5 ≤ 10) → True → 10 - l5 + 1 ≤ ((n : Nat) : Int) → wp (X8_heardAt_L6 l1 l2 l3 n l4 l5 μ) Q := by
  have hFU := FU_v
  intro n
  induction n with
  | zero => intro l4 l5 hv_l4 hv_l5 hi hm; exact absurd hm (by  have : ((0 : Nat) : Int) = 0 := rfl; omega)
  | succ n ih =>
    intro l4 l5 hv_l4 hv_l5 hi hm
    have hn1 : ((n + 1 : Nat) : Int) = ((n : Nat) : Int) + 1 := rfl
    rw [X8_heardAt_L6]
    refine wp_if (fun g9 => ?_) (fun g9 => ?_)
    · exact hQ _ (by have := gO_8_2 (rfl : kD 67 = (18, 7)) (by decide) hS; omega) trivial
    · refine wp_ldv (by have na0 : ((aN 69 : Nat) : Int) = 10 := rfl; have := gO_8_2 (rfl : kD 67 = (18, 7)) (by decide) hS; omega) (fun v10 q11 => ?_)
      have hrv10 := gA_8_2 (rfl : kD 67 = (18, 7)) (by decide) hS (l5).toNat
      replace hrv10 : 0 ≤ v10 ∧ v10 ≤ 7 := by rw [q11]; exact hrv10
      refine wp_if (fun g15 => ?_) (fun g15 => ?_)
      · refine wp_ldv (by have na0 : ((aN 68 : Nat) : Int) = 10 := rfl; have := gO_8_2 (rfl : kD 67 = (18, 7)) (by decide) hS; omega) (fun v16 q17 => ?_)
        have hrv16 := gA_8_1 (rfl : kD 67 = (18, 7)) (by decide) hS (l5).toNat
        replace hrv16 : 0 ≤ v16 ∧ v16 ≤ 999 := by rw [q17]; exact hrv16
        refine wp_if (fun g20 => ?_) (fun g20 => ?_)
        · exact ih  (by have := gO_8_2 (rfl : kD 67 = (18, 7)) (by decide) hS; omega) (by have := iA_c l5 1; have := gO_8_2 (rfl : kD 67 = (18, 7)) (by decide) hS; omega) trivial (by have := iA_c l5 1; have := gO_8_2 (rfl : kD 67 = (18, 7)) (by decide) hS; omega)
        · refine wp_ldv (by have na0 : ((aN 68 : Nat) : Int) = 10 := rfl; have := gO_8_2 (rfl : kD 67 = (18, 7)) (by decide) hS; omega) (fun v21 q22 => ?_)
          have hrv21 := gA_8_1 (rfl : kD 67 = (18, 7)) (by decide) hS (l5).toNat
          replace hrv21 : 0 ≤ v21 ∧ v21 ≤ 999 := by rw [q22]; exact hrv21
          refine wp_if (fun g24 => ?_) (fun g24 => ?_)
          · exact ih  (by have := gO_8_2 (rfl : kD 67 = (18, 7)) (by decide) hS; omega) (by have := iA_c l5 1; have := gO_8_2 (rfl : kD 67 = (18, 7)) (by decide) hS; omega) trivial (by have := iA_c l5 1; have := gO_8_2 (rfl : kD 67 = (18, 7)) (by decide) hS; omega)
          · refine wp_ltv (fun v25 q26 => ?_)
            exact ih  (by have := gO_8_2 (rfl : kD 67 = (18, 7)) (by decide) hS; have := bL_r 1 l5; have := bO_r l4 (bL 1 l5); omega) (by have := iA_c l5 1; have := gO_8_2 (rfl : kD 67 = (18, 7)) (by decide) hS; have := bL_r 1 l5; have := bO_r l4 (bL 1 l5); omega) trivial (by have := iA_c l5 1; have := gO_8_2 (rfl : kD 67 = (18, 7)) (by decide) hS; have := bL_r 1 l5; have := bO_r l4 (bL 1 l5); omega)
      · exact ih  (by have := gO_8_2 (rfl : kD 67 = (18, 7)) (by decide) hS; omega) (by have := iA_c l5 1; have := gO_8_2 (rfl : kD 67 = (18, 7)) (by decide) hS; omega) trivial (by have := iA_c l5 1; have := gO_8_2 (rfl : kD 67 = (18, 7)) (by decide) hS; omega)
set_option maxHeartbeats 4000000 in
set_option maxRecDepth 100000 in
theorem t_X8_heardAt {W : Nat → Nat → Prop} {μs : Mm} {l1 : Int} {l2 : Int} {l3 : Int}  (hp_l1 : -2147483648 ≤ l1 ∧ l1 ≤ 2147483647) (hp_l2 : -2147483648 ≤ l2 ∧ l2 ≤ 2147483647) (hp_l3 : -2147483648 ≤ l3 ∧ l3 ≤ 2147483647) {μ : Mm} (hS : St W μs μ) : wp (X8_heardAt l1 l2 l3 μ) (fun r μ' => μ' = μ ∧ (-2147483648 ≤ r ∧ r ≤ 2147483647) ∧ True) := by
  have hFU := FU_v
  unfold X8_heardAt
  exact t_X8_heardAt_L6 (l1 := l1) (l2 := l2) (l3 := l3) (l4 := 0) (l5 := 0)  (by omega) (by omega) (by omega) hS (fun r_ hr_ hp_ => by exact ⟨rfl, (by omega), trivial⟩) FU  (by omega) (by omega) trivial (by omega)
set_option maxHeartbeats 4000000 in
set_option maxRecDepth 100000 in
theorem t_X8_isMissed_L2 {W : Nat → Nat → Prop} {μs : Mm} {l1 : Int} {l2 : Int}  (hp_l1 : -2147483648 ≤ l1 ∧ l1 ≤ 2147483647) (hp_l2 : -2147483648 ≤ l2 ∧ l2 ≤ 2147483647) {μ : Mm} (hS : St W μs μ) {Q : Int → Mm → Prop} (hQ : ∀ r, (0 ≤ r ∧ r ≤ 1) → True → Q r μ) : ∀ (n : Nat) {l3 : Int} , (0 ≤ l3 ∧ l3 ≤ 10) → True → 10 - l3 + 1 ≤ ((n : Nat) : Int) → wp (X8_isMissed_L2 l1 l2 n l3 μ) Q := by
  have hFU := FU_v
  intro n
  induction n with
  | zero => intro l3 hv_l3 hi hm; exact absurd hm (by  have : ((0 : Nat) : Int) = 0 := rfl; omega)
  | succ n ih =>
    intro l3 hv_l3 hi hm
    have hn1 : ((n + 1 : Nat) : Int) = ((n : Nat) : Int) + 1 := rfl
    rw [X8_isMissed_L2]
    refine wp_if (fun g3 => ?_) (fun g3 => ?_)
    · exact hQ _ (by have := gO_8_2 (rfl : kD 67 = (18, 7)) (by decide) hS; omega) trivial
    · refine wp_ldv (by have na0 : ((aN 68 : Nat) : Int) = 10 := rfl; have := gO_8_2 (rfl : kD 67 = (18, 7)) (by decide) hS; omega) (fun v4 q5 => ?_)
      have hrv4 := gA_8_1 (rfl : kD 67 = (18, 7)) (by decide) hS (l3).toNat
      replace hrv4 : 0 ≤ v4 ∧ v4 ≤ 999 := by rw [q5]; exact hrv4
      refine wp_if (fun g6 => ?_) (fun g6 => ?_)
      · exact ih  (by have := iA_c l3 1; have := gO_8_2 (rfl : kD 67 = (18, 7)) (by decide) hS; omega) trivial (by have := iA_c l3 1; have := gO_8_2 (rfl : kD 67 = (18, 7)) (by decide) hS; omega)
      · refine wp_if (fun g7 => ?_) (fun g7 => ?_)
        · exact hQ _ (by have := gO_8_2 (rfl : kD 67 = (18, 7)) (by decide) hS; have := bR_r l1 l3; have := bA_r (bR l1 l3) 1; omega) trivial
        · exact ih  (by have := iA_c l3 1; have := gO_8_2 (rfl : kD 67 = (18, 7)) (by decide) hS; have := bR_r l1 l3; have := bA_r (bR l1 l3) 1; omega) trivial (by have := iA_c l3 1; have := gO_8_2 (rfl : kD 67 = (18, 7)) (by decide) hS; have := bR_r l1 l3; have := bA_r (bR l1 l3) 1; omega)
set_option maxHeartbeats 4000000 in
set_option maxRecDepth 100000 in
theorem t_X8_isMissed {W : Nat → Nat → Prop} {μs : Mm} {l1 : Int} {l2 : Int}  (hp_l1 : -2147483648 ≤ l1 ∧ l1 ≤ 2147483647) (hp_l2 : -2147483648 ≤ l2 ∧ l2 ≤ 2147483647) {μ : Mm} (hS : St W μs μ) : wp (X8_isMissed l1 l2 μ) (fun r μ' => μ' = μ ∧ (0 ≤ r ∧ r ≤ 1) ∧ True) := by
  have hFU := FU_v
  unfold X8_isMissed
  exact t_X8_isMissed_L2 (l1 := l1) (l2 := l2) (l3 := 0)  (by omega) (by omega) hS (fun r_ hr_ hp_ => by exact ⟨rfl, (by omega), trivial⟩) FU  (by omega) trivial (by omega)
set_option maxHeartbeats 4000000 in
set_option maxRecDepth 100000 in
theorem t_X8_follow_o {W : Nat → Nat → Prop} {μs : Mm} {l1 : Int} {l2 : Int} {l3 : Int} {l4 : Int} {l5 : Int} {l6 : Int} (hW : ∀ k j, scr k j → W k j) {N : Int} {rec : Int → Int → Int → Int → Int → Int → Mm → Rs} (hrec : ∀ (l1 : Int) (l2 : Int) (l3 : Int) (l4 : Int) (l5 : Int) (l6 : Int) (μ : Mm), St W μs μ → (0 ≤ l1 ∧ l1 ≤ 8) → (-2147483648 ≤ l2 ∧ l2 ≤ 2147483647) → (-2147483648 ≤ l3 ∧ l3 ≤ 2147483647) → (0 ≤ l4 ∧ l4 ≤ 8) → (-2147483648 ≤ l5 ∧ l5 ≤ 2147483647) → (-2147483648 ≤ l6 ∧ l6 ≤ 2147483647) → 9 ≤ l1 + N → wp (rec l1 l2 l3 l4 l5 l6 μ) (fun r μ' => St W μs μ' ∧ (-2147483648 ≤ r ∧ r ≤ 2147483647) ∧ True))  (hp_l1 : 0 ≤ l1 ∧ l1 ≤ 7) (hp_l2 : -2147483648 ≤ l2 ∧ l2 ≤ 2147483647) (hp_l3 : -2147483648 ≤ l3 ∧ l3 ≤ 2147483647) (hp_l4 : 0 ≤ l4 ∧ l4 ≤ 7) (hp_l5 : -2147483648 ≤ l5 ∧ l5 ≤ 2147483647) (hp_l6 : -2147483648 ≤ l6 ∧ l6 ≤ 2147483647) {μ : Mm} (hS : St W μs μ) (hl : 8 ≤ l1 + N) : wp (X8_follow_o rec l1 l2 l3 l4 l5 l6 μ) (fun r μ' => St W μs μ' ∧ (-2147483648 ≤ r ∧ r ≤ 2147483647) ∧ True) := by
  have hFU := FU_v
  unfold X8_follow_o
  refine wp_mRv hS.1.2.2.2 (fun v12 hkv12 e13 => ?_)
  have hbv12 := kJr' hkv12
  refine wp_calls (t_X1_dones (l0 := v12) (l1 := l5) (l2 := l4)  hkv12 (by omega) (by omega) hS) (fun v24 hh => ?_)
  obtain ⟨hr25, hp25⟩ := hh
  refine wp_mRe hkv12 e13 ?_
  refine wp_ldv (by have na0 : ((aN (v12 + 1) : Nat) : Int) = 8 := (by rw [(bA_1_1 hkv12 (by omega) 0).2.2]; rfl); omega) (fun v42 q43 => ?_)
  have hrv42 := gA_1_1 hkv12 (by omega) hS (l4).toNat
  rw [← q43] at hrv42
  refine wp_calls (t_X8_heardAt (l1 := v42) (l2 := l5) (l3 := v24)  (by omega) (by omega) (by omega) hS) (fun v50 hh => ?_)
  obtain ⟨hr51, hp51⟩ := hh
  refine wp_calls (t_X8_isMissed (l1 := (bO l2 v50)) (l2 := v24)  (by have := bO_r l2 v50; omega) (by omega) hS) (fun v56 hh => ?_)
  obtain ⟨hr57, hp57⟩ := hh
  refine wp_if (fun g60 => ?_) (fun g60 => ?_)
  · refine wp_call (hrec (iA l1 1) (bO l2 v50) l3 l4 v24 l6 μ hS (by have := iA_c l1 1; omega) (by have := bO_r l2 v50; omega) (by omega) (by omega) (by omega) (by omega) (by have := iA_c l1 1; have := bO_r l2 v50; omega)) (fun v61 m62 hh => ?_)
    obtain ⟨h62, hr62, hp62⟩ := hh
    exact ⟨h62, (by omega), trivial⟩
  · exact ⟨hS, (by omega), trivial⟩
/-! TOTALITY of the class, by program (wip/gen/tot.py) -/
set_option maxHeartbeats 4000000 in
set_option maxRecDepth 100000 in
theorem t_X8_visit_L62 {W : Nat → Nat → Prop} {μs : Mm} {l1 : Int} {l2 : Int} {l3 : Int} {l4 : Int} {l5 : Int} {l6 : Int} (hW : ∀ k j, scr k j → W k j) {N : Int} {rec : Int → Int → Int → Int → Int → Int → Mm → Rs} (hrec : ∀ (l1 : Int) (l2 : Int) (l3 : Int) (l4 : Int) (l5 : Int) (l6 : Int) (μ : Mm), St W μs μ → (0 ≤ l1 ∧ l1 ≤ 8) → (-2147483648 ≤ l2 ∧ l2 ≤ 2147483647) → (-2147483648 ≤ l3 ∧ l3 ≤ 2147483647) → (0 ≤ l4 ∧ l4 ≤ 8) → (-2147483648 ≤ l5 ∧ l5 ≤ 2147483647) → (-2147483648 ≤ l6 ∧ l6 ≤ 2147483647) → 9 ≤ l1 + N → wp (rec l1 l2 l3 l4 l5 l6 μ) (fun r μ' => St W μs μ' ∧ (-2147483648 ≤ r ∧ r ≤ 2147483647) ∧ True))  (hp_l1 : 0 ≤ l1 ∧ l1 ≤ 7) (hp_l2 : -2147483648 ≤ l2 ∧ l2 ≤ 2147483647) (hp_l3 : -2147483648 ≤ l3 ∧ l3 ≤ 2147483647) (hp_l4 : 0 ≤ l4 ∧ l4 ≤ 8) (hp_l5 : -2147483648 ≤ l5 ∧ l5 ≤ 2147483647) (hp_l6 : -2147483648 ≤ l6 ∧ l6 ≤ 2147483647) (hl : 8 ≤ l1 + N) {Q : Int → Mm → Prop} (hQ : ∀ r μ, St W μs μ → (-2147483648 ≤ r ∧ r ≤ 2147483647) → True → Q r μ) : ∀ (n : Nat) {l7 : Int} {μ : Mm}, St W μs μ → (0 ≤ l7 ∧ l7 ≤ 8) → True → 8 - l7 + 1 ≤ ((n : Nat) : Int) → wp (X8_visit_L62 rec l1 l2 l3 l4 l5 l6 n l7 μ) Q := by
  have hFU := FU_v
  intro n
  induction n with
  | zero => intro l7 μ hS hv_l7 hi hm; exact absurd hm (by  have : ((0 : Nat) : Int) = 0 := rfl; omega)
  | succ n ih =>
    intro l7 μ hS hv_l7 hi hm
    have hn1 : ((n + 1 : Nat) : Int) = ((n : Nat) : Int) + 1 := rfl
    rw [X8_visit_L62]
    refine wp_mRv hS.1.2.2.2 (fun v17 hkv17 e18 => ?_)
    have hbv17 := kJr' hkv17
    refine wp_if (fun g26 => ?_) (fun g26 => ?_)
    · exact hQ _ _ hS (by have := gO_1_5 hkv17 (by omega) hS; omega) trivial
    · refine wp_if (fun g27 => ?_) (fun g27 => ?_)
      · refine wp_if (fun g28 => ?_) (fun g28 => ?_)
        · unfold X8_visit_J109
          try dsimp only
          refine wp_if (fun g31 => ?_) (fun g31 => ?_)
          · exact ih hS (by have := iA_c l7 1; have := gO_1_5 hkv17 (by omega) hS; have := gO_8_6 (rfl : kD 67 = (18, 7)) (by decide) hS; have := bR_r l3 l7; have := bA_r (bR l3 l7) 1; omega) trivial (by have := iA_c l7 1; have := gO_1_5 hkv17 (by omega) hS; have := gO_8_6 (rfl : kD 67 = (18, 7)) (by decide) hS; have := bR_r l3 l7; have := bA_r (bR l3 l7) 1; omega)
          · refine wp_call (t_X8_follow_o (l1 := l1) (l2 := l2) (l3 := (bO l3 (bL 1 l7))) (l4 := l7) (l5 := (-1)) (l6 := (iA (iM 10 l6) l7)) hW hrec (by have := gO_1_5 hkv17 (by omega) hS; have := gO_8_6 (rfl : kD 67 = (18, 7)) (by decide) hS; have := bR_r l3 l7; have := bA_r (bR l3 l7) 1; omega) (by have := gO_1_5 hkv17 (by omega) hS; have := gO_8_6 (rfl : kD 67 = (18, 7)) (by decide) hS; have := bR_r l3 l7; have := bA_r (bR l3 l7) 1; omega) (by have := bL_r 1 l7; have := bO_r l3 (bL 1 l7); have := gO_1_5 hkv17 (by omega) hS; have := gO_8_6 (rfl : kD 67 = (18, 7)) (by decide) hS; have := bR_r l3 l7; have := bA_r (bR l3 l7) 1; omega) (by have := gO_1_5 hkv17 (by omega) hS; have := gO_8_6 (rfl : kD 67 = (18, 7)) (by decide) hS; have := bR_r l3 l7; have := bA_r (bR l3 l7) 1; omega) (by have := gO_1_5 hkv17 (by omega) hS; have := gO_8_6 (rfl : kD 67 = (18, 7)) (by decide) hS; have := bR_r l3 l7; have := bA_r (bR l3 l7) 1; omega) (by have := iM_c 10 l6; have := iA_c (iM 10 l6) l7; have := gO_1_5 hkv17 (by omega) hS; have := gO_8_6 (rfl : kD 67 = (18, 7)) (by decide) hS; have := bR_r l3 l7; have := bA_r (bR l3 l7) 1; omega) hS (by have := bL_r 1 l7; have := bO_r l3 (bL 1 l7); have := iM_c 10 l6; have := iA_c (iM 10 l6) l7; have := gO_1_5 hkv17 (by omega) hS; have := gO_8_6 (rfl : kD 67 = (18, 7)) (by decide) hS; have := bR_r l3 l7; have := bA_r (bR l3 l7) 1; omega)) (fun v32 m33 hh => ?_)
            obtain ⟨h33, hr33, hp33⟩ := hh
            exact ih h33 (by have := iA_c l7 1; have := gO_1_5 hkv17 (by omega) hS; have := gO_8_6 (rfl : kD 67 = (18, 7)) (by decide) hS; have := bR_r l3 l7; have := bA_r (bR l3 l7) 1; omega) trivial (by have := iA_c l7 1; have := gO_1_5 hkv17 (by omega) hS; have := gO_8_6 (rfl : kD 67 = (18, 7)) (by decide) hS; have := bR_r l3 l7; have := bA_r (bR l3 l7) 1; omega)
        · refine wp_mRe hkv17 e18 ?_
          refine wp_calls (t_X1_comes (l0 := v17) (l1 := l5) (l2 := l4) (l3 := l7)  hkv17 (by have := gO_1_5 hkv17 (by omega) hS; have := gO_8_6 (rfl : kD 67 = (18, 7)) (by decide) hS; have := bR_r l3 l7; have := bA_r (bR l3 l7) 1; omega) (by have := gO_1_5 hkv17 (by omega) hS; have := gO_8_6 (rfl : kD 67 = (18, 7)) (by decide) hS; have := bR_r l3 l7; have := bA_r (bR l3 l7) 1; omega) (by have := gO_1_5 hkv17 (by omega) hS; have := gO_8_6 (rfl : kD 67 = (18, 7)) (by decide) hS; have := bR_r l3 l7; have := bA_r (bR l3 l7) 1; omega) hS) (fun v39 hh => ?_)
          obtain ⟨hr40, hp40⟩ := hh
          unfold X8_visit_J109
          try dsimp only
          refine wp_if (fun g45 => ?_) (fun g45 => ?_)
          · exact ih hS (by have := iA_c l7 1; have := gO_1_5 hkv17 (by omega) hS; have := gO_8_6 (rfl : kD 67 = (18, 7)) (by decide) hS; have := bR_r l3 l7; have := bA_r (bR l3 l7) 1; omega) trivial (by have := iA_c l7 1; have := gO_1_5 hkv17 (by omega) hS; have := gO_8_6 (rfl : kD 67 = (18, 7)) (by decide) hS; have := bR_r l3 l7; have := bA_r (bR l3 l7) 1; omega)
          · refine wp_call (t_X8_follow_o (l1 := l1) (l2 := l2) (l3 := (bO l3 (bL 1 l7))) (l4 := l7) (l5 := v39) (l6 := (iA (iM 10 l6) l7)) hW hrec (by have := gO_1_5 hkv17 (by omega) hS; have := gO_8_6 (rfl : kD 67 = (18, 7)) (by decide) hS; have := bR_r l3 l7; have := bA_r (bR l3 l7) 1; omega) (by have := gO_1_5 hkv17 (by omega) hS; have := gO_8_6 (rfl : kD 67 = (18, 7)) (by decide) hS; have := bR_r l3 l7; have := bA_r (bR l3 l7) 1; omega) (by have := bL_r 1 l7; have := bO_r l3 (bL 1 l7); have := gO_1_5 hkv17 (by omega) hS; have := gO_8_6 (rfl : kD 67 = (18, 7)) (by decide) hS; have := bR_r l3 l7; have := bA_r (bR l3 l7) 1; omega) (by have := gO_1_5 hkv17 (by omega) hS; have := gO_8_6 (rfl : kD 67 = (18, 7)) (by decide) hS; have := bR_r l3 l7; have := bA_r (bR l3 l7) 1; omega) (by have := gO_1_5 hkv17 (by omega) hS; have := gO_8_6 (rfl : kD 67 = (18, 7)) (by decide) hS; have := bR_r l3 l7; have := bA_r (bR l3 l7) 1; omega) (by have := iM_c 10 l6; have := iA_c (iM 10 l6) l7; have := gO_1_5 hkv17 (by omega) hS; have := gO_8_6 (rfl : kD 67 = (18, 7)) (by decide) hS; have := bR_r l3 l7; have := bA_r (bR l3 l7) 1; omega) hS (by have := bL_r 1 l7; have := bO_r l3 (bL 1 l7); have := iM_c 10 l6; have := iA_c (iM 10 l6) l7; have := gO_1_5 hkv17 (by omega) hS; have := gO_8_6 (rfl : kD 67 = (18, 7)) (by decide) hS; have := bR_r l3 l7; have := bA_r (bR l3 l7) 1; omega)) (fun v46 m47 hh => ?_)
            obtain ⟨h47, hr47, hp47⟩ := hh
            exact ih h47 (by have := iA_c l7 1; have := gO_1_5 hkv17 (by omega) hS; have := gO_8_6 (rfl : kD 67 = (18, 7)) (by decide) hS; have := bR_r l3 l7; have := bA_r (bR l3 l7) 1; omega) trivial (by have := iA_c l7 1; have := gO_1_5 hkv17 (by omega) hS; have := gO_8_6 (rfl : kD 67 = (18, 7)) (by decide) hS; have := bR_r l3 l7; have := bA_r (bR l3 l7) 1; omega)
      · exact hQ _ _ hS (by have := gO_1_5 hkv17 (by omega) hS; have := gO_8_6 (rfl : kD 67 = (18, 7)) (by decide) hS; omega) trivial
set_option maxHeartbeats 4000000 in
set_option maxRecDepth 100000 in
theorem t_X8_visit {W : Nat → Nat → Prop} {μs : Mm} (hW : ∀ k j, scr k j → W k j) : ∀ (n : Nat) {l1 l2 l3 l4 l5 l6 : Int} {μ : Mm}, St W μs μ → (0 ≤ l1 ∧ l1 ≤ 8) → (-2147483648 ≤ l2 ∧ l2 ≤ 2147483647) → (-2147483648 ≤ l3 ∧ l3 ≤ 2147483647) → (0 ≤ l4 ∧ l4 ≤ 8) → (-2147483648 ≤ l5 ∧ l5 ≤ 2147483647) → (-2147483648 ≤ l6 ∧ l6 ≤ 2147483647) → 9 ≤ l1 + ((n : Nat) : Int) → wp (X8_visit n l1 l2 l3 l4 l5 l6 μ) (fun r μ' => St W μs μ' ∧ (-2147483648 ≤ r ∧ r ≤ 2147483647) ∧ True) := by
  have hFU := FU_v
  intro n
  induction n with
  | zero => intro l1 l2 l3 l4 l5 l6 μ hS hv_l1 hv_l2 hv_l3 hv_l4 hv_l5 hv_l6 hl; exact absurd hl (by have : ((0 : Nat) : Int) = 0 := rfl; omega)
  | succ n ih =>
    intro l1 l2 l3 l4 l5 l6 μ hS hv_l1 hv_l2 hv_l3 hv_l4 hv_l5 hv_l6 hl
    have hn1 : ((n + 1 : Nat) : Int) = ((n : Nat) : Int) + 1 := rfl
    have hrec : ∀ (l1 : Int) (l2 : Int) (l3 : Int) (l4 : Int) (l5 : Int) (l6 : Int) (μ : Mm), St W μs μ → (0 ≤ l1 ∧ l1 ≤ 8) → (-2147483648 ≤ l2 ∧ l2 ≤ 2147483647) → (-2147483648 ≤ l3 ∧ l3 ≤ 2147483647) → (0 ≤ l4 ∧ l4 ≤ 8) → (-2147483648 ≤ l5 ∧ l5 ≤ 2147483647) → (-2147483648 ≤ l6 ∧ l6 ≤ 2147483647) → 9 ≤ l1 + ((n : Nat) : Int) → wp (X8_visit n l1 l2 l3 l4 l5 l6 μ) (fun r μ' => St W μs μ' ∧ (-2147483648 ≤ r ∧ r ≤ 2147483647) ∧ True) := fun l1 l2 l3 l4 l5 l6 μ hS hv_l1 hv_l2 hv_l3 hv_l4 hv_l5 hv_l6 hl => ih hS hv_l1 hv_l2 hv_l3 hv_l4 hv_l5 hv_l6 (by omega)
    rw [X8_visit]
    refine wp_if (fun g18 => ?_) (fun g18 => ?_)
    · refine wp_mRv hS.1.2.2.2 (fun v19 hkv19 e20 => ?_)
      have hbv19 := kJr' hkv19
      refine wp_call (t_X8_passesOver (l1 := (iS (μ v19 5) l1)) hW (by have := gO_1_5 hkv19 (by omega) hS; have := iS_c (μ v19 5) l1; have := gO_8_2 (rfl : kD 67 = (18, 7)) (by decide) hS; have := bL_r 1 (μ 67 2); have := iS_c (bL 1 (μ 67 2)) 1; omega) hS) (fun v30 m31 hh => ?_)
      obtain ⟨h31, hr31, hp31⟩ := hh
      refine wp_if (fun g39 => ?_) (fun g39 => ?_)
      · unfold X8_visit_J29
        try dsimp only
        refine wp_mRv h31.1.2.2.2 (fun v42 hkv42 e43 => ?_)
        have hbv42 := kJr' hkv42
        refine wp_if (fun g52 => ?_) (fun g52 => ?_)
        · exact t_X8_visit_L62 (l1 := l1) (l2 := l2) (l3 := l3) (l4 := l4) (l5 := l5) (l6 := l6) (l7 := 0) hW hrec (by have := gO_8_2 (rfl : kD 67 = (18, 7)) (by decide) hS; have := gO_1_5 hkv42 (by omega) h31; have := bL_r 1 (μ 67 2); have := iS_c (bL 1 (μ 67 2)) 1; omega) (by have := gO_8_2 (rfl : kD 67 = (18, 7)) (by decide) hS; have := gO_1_5 hkv42 (by omega) h31; have := bL_r 1 (μ 67 2); have := iS_c (bL 1 (μ 67 2)) 1; omega) (by have := gO_8_2 (rfl : kD 67 = (18, 7)) (by decide) hS; have := gO_1_5 hkv42 (by omega) h31; have := bL_r 1 (μ 67 2); have := iS_c (bL 1 (μ 67 2)) 1; omega) (by have := gO_8_2 (rfl : kD 67 = (18, 7)) (by decide) hS; have := gO_1_5 hkv42 (by omega) h31; have := bL_r 1 (μ 67 2); have := iS_c (bL 1 (μ 67 2)) 1; omega) (by have := gO_8_2 (rfl : kD 67 = (18, 7)) (by decide) hS; have := gO_1_5 hkv42 (by omega) h31; have := bL_r 1 (μ 67 2); have := iS_c (bL 1 (μ 67 2)) 1; omega) (by have := gO_8_2 (rfl : kD 67 = (18, 7)) (by decide) hS; have := gO_1_5 hkv42 (by omega) h31; have := bL_r 1 (μ 67 2); have := iS_c (bL 1 (μ 67 2)) 1; omega) (by have := gO_8_2 (rfl : kD 67 = (18, 7)) (by decide) hS; have := gO_1_5 hkv42 (by omega) h31; have := bL_r 1 (μ 67 2); have := iS_c (bL 1 (μ 67 2)) 1; omega) (fun r_ m_ h_ hr_ hp_ => by exact ⟨h_, (by have := gO_8_2 (rfl : kD 67 = (18, 7)) (by decide) hS; have := gO_1_5 hkv42 (by omega) h31; have := bL_r 1 (μ 67 2); have := iS_c (bL 1 (μ 67 2)) 1; omega), trivial⟩) FU h31 (by have := gO_8_2 (rfl : kD 67 = (18, 7)) (by decide) hS; have := gO_1_5 hkv42 (by omega) h31; have := bL_r 1 (μ 67 2); have := iS_c (bL 1 (μ 67 2)) 1; omega) trivial (by have := gO_8_2 (rfl : kD 67 = (18, 7)) (by decide) hS; have := gO_1_5 hkv42 (by omega) h31; have := bL_r 1 (μ 67 2); have := iS_c (bL 1 (μ 67 2)) 1; omega)
        · refine wp_if (fun g53 => ?_) (fun g53 => ?_)
          · refine wp_sFv (P := St W μs) (pO_8_6 (rfl : kD 67 = (18, 7)) h31 (hW _ _ (by unfold scr; omega)) (by have := gO_8_2 (rfl : kD 67 = (18, 7)) (by decide) hS; have := gO_1_5 hkv42 (by omega) h31; have := gO_8_2 (rfl : kD 67 = (18, 7)) (by decide) h31; have := bL_r 1 (μ 67 2); have := iS_c (bL 1 (μ 67 2)) 1; have := bL_r 1 (m31 67 2); have := iS_c (bL 1 (m31 67 2)) 1; omega)) (fun m54 h54 he54 => ?_)
            exact ⟨h54, (by have := gO_8_2 (rfl : kD 67 = (18, 7)) (by decide) hS; have := gO_1_5 hkv42 (by omega) h31; have := gO_8_2 (rfl : kD 67 = (18, 7)) (by decide) h31; have := bL_r 1 (μ 67 2); have := iS_c (bL 1 (μ 67 2)) 1; have := bL_r 1 (m31 67 2); have := iS_c (bL 1 (m31 67 2)) 1; omega), trivial⟩
          · exact ⟨h31, (by have := gO_8_2 (rfl : kD 67 = (18, 7)) (by decide) hS; have := gO_1_5 hkv42 (by omega) h31; have := gO_8_2 (rfl : kD 67 = (18, 7)) (by decide) h31; have := bL_r 1 (μ 67 2); have := iS_c (bL 1 (μ 67 2)) 1; have := bL_r 1 (m31 67 2); have := iS_c (bL 1 (m31 67 2)) 1; omega), trivial⟩
      · exact ⟨h31, (by have := gO_8_2 (rfl : kD 67 = (18, 7)) (by decide) hS; have := bL_r 1 (μ 67 2); have := iS_c (bL 1 (μ 67 2)) 1; omega), trivial⟩
    · unfold X8_visit_J29
      try dsimp only
      refine wp_mRv hS.1.2.2.2 (fun v57 hkv57 e58 => ?_)
      have hbv57 := kJr' hkv57
      refine wp_if (fun g67 => ?_) (fun g67 => ?_)
      · exact t_X8_visit_L62 (l1 := l1) (l2 := l2) (l3 := l3) (l4 := l4) (l5 := l5) (l6 := l6) (l7 := 0) hW hrec (by have := gO_8_2 (rfl : kD 67 = (18, 7)) (by decide) hS; have := gO_1_5 hkv57 (by omega) hS; have := bL_r 1 (μ 67 2); have := iS_c (bL 1 (μ 67 2)) 1; omega) (by have := gO_8_2 (rfl : kD 67 = (18, 7)) (by decide) hS; have := gO_1_5 hkv57 (by omega) hS; have := bL_r 1 (μ 67 2); have := iS_c (bL 1 (μ 67 2)) 1; omega) (by have := gO_8_2 (rfl : kD 67 = (18, 7)) (by decide) hS; have := gO_1_5 hkv57 (by omega) hS; have := bL_r 1 (μ 67 2); have := iS_c (bL 1 (μ 67 2)) 1; omega) (by have := gO_8_2 (rfl : kD 67 = (18, 7)) (by decide) hS; have := gO_1_5 hkv57 (by omega) hS; have := bL_r 1 (μ 67 2); have := iS_c (bL 1 (μ 67 2)) 1; omega) (by have := gO_8_2 (rfl : kD 67 = (18, 7)) (by decide) hS; have := gO_1_5 hkv57 (by omega) hS; have := bL_r 1 (μ 67 2); have := iS_c (bL 1 (μ 67 2)) 1; omega) (by have := gO_8_2 (rfl : kD 67 = (18, 7)) (by decide) hS; have := gO_1_5 hkv57 (by omega) hS; have := bL_r 1 (μ 67 2); have := iS_c (bL 1 (μ 67 2)) 1; omega) (by have := gO_8_2 (rfl : kD 67 = (18, 7)) (by decide) hS; have := gO_1_5 hkv57 (by omega) hS; have := bL_r 1 (μ 67 2); have := iS_c (bL 1 (μ 67 2)) 1; omega) (fun r_ m_ h_ hr_ hp_ => by exact ⟨h_, (by have := gO_8_2 (rfl : kD 67 = (18, 7)) (by decide) hS; have := gO_1_5 hkv57 (by omega) hS; have := bL_r 1 (μ 67 2); have := iS_c (bL 1 (μ 67 2)) 1; omega), trivial⟩) FU hS (by have := gO_8_2 (rfl : kD 67 = (18, 7)) (by decide) hS; have := gO_1_5 hkv57 (by omega) hS; have := bL_r 1 (μ 67 2); have := iS_c (bL 1 (μ 67 2)) 1; omega) trivial (by have := gO_8_2 (rfl : kD 67 = (18, 7)) (by decide) hS; have := gO_1_5 hkv57 (by omega) hS; have := bL_r 1 (μ 67 2); have := iS_c (bL 1 (μ 67 2)) 1; omega)
      · refine wp_if (fun g68 => ?_) (fun g68 => ?_)
        · refine wp_sFv (P := St W μs) (pO_8_6 (rfl : kD 67 = (18, 7)) hS (hW _ _ (by unfold scr; omega)) (by have := gO_8_2 (rfl : kD 67 = (18, 7)) (by decide) hS; have := gO_1_5 hkv57 (by omega) hS; have := bL_r 1 (μ 67 2); have := iS_c (bL 1 (μ 67 2)) 1; omega)) (fun m69 h69 he69 => ?_)
          exact ⟨h69, (by have := gO_8_2 (rfl : kD 67 = (18, 7)) (by decide) hS; have := gO_1_5 hkv57 (by omega) hS; have := bL_r 1 (μ 67 2); have := iS_c (bL 1 (μ 67 2)) 1; omega), trivial⟩
        · exact ⟨hS, (by have := gO_8_2 (rfl : kD 67 = (18, 7)) (by decide) hS; have := gO_1_5 hkv57 (by omega) hS; have := bL_r 1 (μ 67 2); have := iS_c (bL 1 (μ 67 2)) 1; omega), trivial⟩
set_option maxHeartbeats 4000000 in
set_option maxRecDepth 100000 in
theorem t_X8_fitting {W : Nat → Nat → Prop} {μs : Mm} {l1 : Nat} {l2 : Int} (hW : ∀ k j, scr k j → W k j)  (hk_l1 : kD l1 = (11, 7)) (hp_l2 : -2147483648 ≤ l2 ∧ l2 ≤ 2147483647) {μ : Mm} (hS : St W μs μ) : wp (X8_fitting l1 l2 μ) (fun r μ' => St W μs μ' ∧ (-2147483648 ≤ r ∧ r ≤ 2147483647) ∧ True) := by
  have hb_l1 := kJr' hk_l1
  have hFU := FU_v
  unfold X8_fitting
  refine wp_sFv (P := St W μs) (pM_8 hS (hW _ _ (by unfold scr; omega)) (show kD (((l1 : Nat) : Int)).toNat = _ by rw [Int.toNat_natCast]; exact hk_l1)) (fun m10 h10 he10 => ?_)
  refine wp_sFv (P := St W μs) (pO_8_4 (rfl : kD 67 = (18, 7)) h10 (hW _ _ (by unfold scr; omega)) (by omega)) (fun m19 h19 he19 => ?_)
  refine wp_sFv (P := St W μs) (pO_8_5 (rfl : kD 67 = (18, 7)) h19 (hW _ _ (by unfold scr; omega)) (by omega)) (fun m27 h27 he27 => ?_)
  refine wp_sFv (P := St W μs) (pO_8_6 (rfl : kD 67 = (18, 7)) h27 (hW _ _ (by unfold scr; omega)) (by omega)) (fun m34 h34 he34 => ?_)
  refine wp_mRv h34.1.2.2.2 (fun v40 hkv40 e41 => ?_)
  have hbv40 := kJr' hkv40
  refine wp_calls (t_X1_canBe (l0 := v40)  hkv40 h34) (fun v46 hh => ?_)
  obtain ⟨hr47, hp47⟩ := hh
  refine wp_if (fun g50 => ?_) (fun g50 => ?_)
  · unfold X8_fitting_J41
    try dsimp only
    refine wp_if (fun g51 => ?_) (fun g51 => ?_)
    · exact ⟨h34, (by have := gO_8_5 (rfl : kD 67 = (18, 7)) (by decide) h34; have : m34 67 5 = m27 67 5 := (by rw [he34, sM_j (by decide)]); have := gO_8_5 (rfl : kD 67 = (18, 7)) (by decide) h27; have : m27 67 5 = 0 := (by rw [he27, sM_s]); omega), trivial⟩
    · exact ⟨h34, (by have := gO_8_6 (rfl : kD 67 = (18, 7)) (by decide) h34; have : m34 67 6 = (-1) := (by rw [he34, sM_s]); omega), trivial⟩
  · refine wp_call (t_X8_visit hW RD h34 (by omega) (by omega) (by omega) (by omega) (by omega) (by omega) (by rw [RD_v]; omega)) (fun v52 m53 hh => ?_)
    obtain ⟨h53, hr53, hp53⟩ := hh
    unfold X8_fitting_J41
    try dsimp only
    refine wp_if (fun g54 => ?_) (fun g54 => ?_)
    · exact ⟨h53, (by have := gO_8_5 (rfl : kD 67 = (18, 7)) (by decide) h53; omega), trivial⟩
    · exact ⟨h53, (by have := gO_8_6 (rfl : kD 67 = (18, 7)) (by decide) h53; omega), trivial⟩
set_option maxHeartbeats 4000000 in
set_option maxRecDepth 100000 in
theorem t_X10_feed {W : Nat → Nat → Prop} {μs : Mm} {l1 : Int} {l2 : Int} {l3 : Int} {l4 : Int} {l5 : Int} (hW : ∀ k j, scr k j → W k j) (hA : ∀ k j, k < 70 → W k j)  (hp_l1 : -2147483648 ≤ l1 ∧ l1 ≤ 2147483647) (hp_l2 : -2147483648 ≤ l2 ∧ l2 ≤ 2147483647) (hp_l3 : -2147483648 ≤ l3 ∧ l3 ≤ 2147483647) (hp_l4 : -2147483648 ≤ l4 ∧ l4 ≤ 2147483647) (hp_l5 : -2147483648 ≤ l5 ∧ l5 ≤ 2147483647) {μ : Mm} (hS : St W μs μ) : wp (X10_feed l1 l2 l3 l4 l5 μ) (fun r μ' => St W μs μ' ∧ (-2147483648 ≤ r ∧ r ≤ 2147483647) ∧ True) := by
  have hFU := FU_v
  unfold X10_feed
  refine wp_calls (t_X7_bytesIn (l0 := l1)  (by omega) hS) (fun v22 hh => ?_)
  obtain ⟨hr23, hp23⟩ := hh
  refine wp_calls (t_X7_bytesIn (l0 := l2)  (by omega) hS) (fun v43 hh => ?_)
  obtain ⟨hr44, hp44⟩ := hh
  refine wp_calls (t_X7_bytesIn (l0 := l3)  (by omega) hS) (fun v62 hh => ?_)
  obtain ⟨hr63, hp63⟩ := hh
  refine wp_calls (t_X7_bytesIn (l0 := l4)  (by omega) hS) (fun v79 hh => ?_)
  obtain ⟨hr80, hp80⟩ := hh
  refine wp_calls (t_X7_bytesIn (l0 := l5)  (by omega) hS) (fun v94 hh => ?_)
  obtain ⟨hr95, hp95⟩ := hh
  refine wp_ltv (fun v107 q108 => ?_)
  refine wp_if (fun g119 => ?_) (fun g119 => ?_)
  · refine wp_call (t_X7_add (l0 := 1) (l1 := l1) hW (fun _ _ _ h_ => hA _ _ (by omega)) (rfl : kD 1 = (17, 2)) (by have := gO_7_1 (rfl : kD 1 = (17, 2)) (by decide) hS; have := iA_c v22 v43; have := iA_c (iA v22 v43) v62; have := iA_c (iA (iA v22 v43) v62) v79; have := iA_c (iA (iA (iA v22 v43) v62) v79) v94; have := iA_c (μ 1 1) v107; omega) hS) (fun v120 m121 hh => ?_)
    obtain ⟨h121, hr121, hp121⟩ := hh
    refine wp_call (t_X7_add (l0 := 1) (l1 := l2) hW (fun _ _ _ h_ => hA _ _ (by omega)) (rfl : kD 1 = (17, 2)) (by have := gO_7_1 (rfl : kD 1 = (17, 2)) (by decide) hS; have := iA_c v22 v43; have := iA_c (iA v22 v43) v62; have := iA_c (iA (iA v22 v43) v62) v79; have := iA_c (iA (iA (iA v22 v43) v62) v79) v94; have := iA_c (μ 1 1) v107; omega) h121) (fun v130 m131 hh => ?_)
    obtain ⟨h131, hr131, hp131⟩ := hh
    refine wp_call (t_X7_add (l0 := 1) (l1 := l3) hW (fun _ _ _ h_ => hA _ _ (by omega)) (rfl : kD 1 = (17, 2)) (by have := gO_7_1 (rfl : kD 1 = (17, 2)) (by decide) hS; have := iA_c v22 v43; have := iA_c (iA v22 v43) v62; have := iA_c (iA (iA v22 v43) v62) v79; have := iA_c (iA (iA (iA v22 v43) v62) v79) v94; have := iA_c (μ 1 1) v107; omega) h131) (fun v138 m139 hh => ?_)
    obtain ⟨h139, hr139, hp139⟩ := hh
    refine wp_call (t_X7_add (l0 := 1) (l1 := l4) hW (fun _ _ _ h_ => hA _ _ (by omega)) (rfl : kD 1 = (17, 2)) (by have := gO_7_1 (rfl : kD 1 = (17, 2)) (by decide) hS; have := iA_c v22 v43; have := iA_c (iA v22 v43) v62; have := iA_c (iA (iA v22 v43) v62) v79; have := iA_c (iA (iA (iA v22 v43) v62) v79) v94; have := iA_c (μ 1 1) v107; omega) h139) (fun v144 m145 hh => ?_)
    obtain ⟨h145, hr145, hp145⟩ := hh
    refine wp_call (t_X7_add (l0 := 1) (l1 := l5) hW (fun _ _ _ h_ => hA _ _ (by omega)) (rfl : kD 1 = (17, 2)) (by have := gO_7_1 (rfl : kD 1 = (17, 2)) (by decide) hS; have := iA_c v22 v43; have := iA_c (iA v22 v43) v62; have := iA_c (iA (iA v22 v43) v62) v79; have := iA_c (iA (iA (iA v22 v43) v62) v79) v94; have := iA_c (μ 1 1) v107; omega) h145) (fun v148 m149 hh => ?_)
    obtain ⟨h149, hr149, hp149⟩ := hh
    exact ⟨h149, (by have := gO_7_1 (rfl : kD 1 = (17, 2)) (by decide) h149; have := gO_7_1 (rfl : kD 1 = (17, 2)) (by decide) hS; have := iA_c v22 v43; have := iA_c (iA v22 v43) v62; have := iA_c (iA (iA v22 v43) v62) v79; have := iA_c (iA (iA (iA v22 v43) v62) v79) v94; have := iA_c (μ 1 1) v107; omega), trivial⟩
  · exact ⟨hS, (by have := gO_7_1 (rfl : kD 1 = (17, 2)) (by decide) hS; have := iA_c v22 v43; have := iA_c (iA v22 v43) v62; have := iA_c (iA (iA v22 v43) v62) v79; have := iA_c (iA (iA (iA v22 v43) v62) v79) v94; have := iA_c (μ 1 1) v107; omega), trivial⟩
set_option maxHeartbeats 4000000 in
set_option maxRecDepth 100000 in
theorem t_X10_end {W : Nat → Nat → Prop} {μs : Mm} {l1 : Int} (hW : ∀ k j, scr k j → W k j) (hA : ∀ k j, k < 70 → W k j)  (hp_l1 : -2147483648 ≤ l1 ∧ l1 ≤ 2147483647) {μ : Mm} (hS : St W μs μ) : wp (X10_end l1 μ) (fun r μ' => St W μs μ' ∧ (0 ≤ r ∧ r ≤ 1) ∧ True) := by
  have hFU := FU_v
  unfold X10_end
  refine wp_call (t_X7_cut (l0 := 1) (l1 := l1) hW (fun _ _ _ h_ => hA _ _ (by omega)) (rfl : kD 1 = (17, 2)) (by omega) hS) (fun v3 m4 hh => ?_)
  obtain ⟨h4, hr4, hp4⟩ := hh
  refine wp_rZv (by omega) ?_
  exact ⟨h4, (by omega), trivial⟩
set_option maxHeartbeats 4000000 in
set_option maxRecDepth 100000 in
theorem t_X10_isSort {W : Nat → Nat → Prop} {μs : Mm} {l0 : Int}  (hp_l0 : -2147483648 ≤ l0 ∧ l0 ≤ 2147483647) {μ : Mm} (hS : St W μs μ) : wp (X10_isSort l0 μ) (fun r μ' => μ' = μ ∧ (0 ≤ r ∧ r ≤ 1) ∧ True) := by
  have hFU := FU_v
  unfold X10_isSort
  refine wp_if (fun g1 => ?_) (fun g1 => ?_)
  · exact ⟨rfl, (by omega), trivial⟩
  · refine wp_if (fun g2 => ?_) (fun g2 => ?_)
    · exact ⟨rfl, (by omega), trivial⟩
    · exact ⟨rfl, (by omega), trivial⟩
set_option maxHeartbeats 4000000 in
set_option maxRecDepth 100000 in
theorem t_X10_faultOfTape {W : Nat → Nat → Prop} {μs : Mm} {l1 : Int} (hW : ∀ k j, scr k j → W k j)  (hp_l1 : -2147483648 ≤ l1 ∧ l1 ≤ 2147483647) {μ : Mm} (hS : St W μs μ) : wp (X10_faultOfTape l1 μ) (fun r μ' => St W μs μ' ∧ (-2147483648 ≤ r ∧ r ≤ 2147483647) ∧ True) := by
  have hFU := FU_v
  unfold X10_faultOfTape
  refine wp_call (t_X4_open (l1 := 1) hW (rfl : kD 1 = (17, 2)) hS) (fun v9 m10 hh => ?_)
  obtain ⟨h10, hr10, hp10⟩ := hh
  refine wp_if (fun g17 => ?_) (fun g17 => ?_)
  · refine wp_call (t_X0_read (l0 := 13) hW (fun _ _ _ _ => hW _ _ (by unfold scr; omega)) (rfl : kD 13 = (10, 9)) h10) (fun v18 m19 hh => ?_)
    obtain ⟨h19, hr19, hp19⟩ := hh
    exact ⟨h19, (by omega), trivial⟩
  · refine wp_if (fun g20 => ?_) (fun g20 => ?_)
    · refine wp_call (t_X3_read (l0 := 33) hW (fun _ _ _ _ => hW _ _ (by unfold scr; omega)) (rfl : kD 33 = (13, 3)) h10) (fun v21 m22 hh => ?_)
      obtain ⟨h22, hr22, hp22⟩ := hh
      exact ⟨h22, (by omega), trivial⟩
    · refine wp_call (t_X2_check hW  h10) (fun v23 m24 hh => ?_)
      obtain ⟨h24, hr24, hp24⟩ := hh
      exact ⟨h24, (by omega), trivial⟩
set_option maxHeartbeats 4000000 in
set_option maxRecDepth 100000 in
theorem t_X10_fault {W : Nat → Nat → Prop} {μs : Mm} {l1 : Int} (hW : ∀ k j, scr k j → W k j)  (hp_l1 : -2147483648 ≤ l1 ∧ l1 ≤ 2147483647) {μ : Mm} (hS : St W μs μ) : wp (X10_fault l1 μ) (fun r μ' => St W μs μ' ∧ (-2147483648 ≤ r ∧ r ≤ 2147483647) ∧ True) := by
  have hFU := FU_v
  unfold X10_fault
  refine wp_calls (t_X10_isSort (l0 := l1)  (by omega) hS) (fun v5 hh => ?_)
  obtain ⟨hr6, hp6⟩ := hh
  refine wp_if (fun g9 => ?_) (fun g9 => ?_)
  · exact ⟨hS, (by omega), trivial⟩
  · refine wp_call (t_X10_faultOfTape (l1 := l1) hW (by omega) hS) (fun v10 m11 hh => ?_)
    obtain ⟨h11, hr11, hp11⟩ := hh
    exact ⟨h11, (by omega), trivial⟩
set_option maxHeartbeats 4000000 in
set_option maxRecDepth 100000 in
theorem t_X10_at {W : Nat → Nat → Prop} {μs : Mm} {l1 : Int}  (hp_l1 : -2147483648 ≤ l1 ∧ l1 ≤ 2147483647) {μ : Mm} (hS : St W μs μ) : wp (X10_at l1 μ) (fun r μ' => μ' = μ ∧ (-2147483648 ≤ r ∧ r ≤ 2147483647) ∧ True) := by
  have hFU := FU_v
  unfold X10_at
  refine wp_calls (t_X0_cellAt (l0 := 5) (l1 := l1)  (rfl : kD 5 = (10, 9)) (by omega) hS) (fun v3 hh => ?_)
  obtain ⟨hr4, hp4⟩ := hh
  exact ⟨rfl, (by omega), trivial⟩
set_option maxHeartbeats 4000000 in
set_option maxRecDepth 100000 in
theorem t_X10_way {W : Nat → Nat → Prop} {μs : Mm} {l1 : Int} {l2 : Int} (hW : ∀ k j, scr k j → W k j)  (hp_l1 : -2147483648 ≤ l1 ∧ l1 ≤ 2147483647) (hp_l2 : -2147483648 ≤ l2 ∧ l2 ≤ 2147483647) {μ : Mm} (hS : St W μs μ) : wp (X10_way l1 l2 μ) (fun r μ' => St W μs μ' ∧ (-2147483648 ≤ r ∧ r ≤ 2147483647) ∧ True) := by
  have hFU := FU_v
  unfold X10_way
  refine wp_call (t_X9_measure (l1 := 5) (l2 := l1) hW (rfl : kD 5 = (10, 9)) (by omega) hS) (fun v5 m6 hh => ?_)
  obtain ⟨h6, hr6, hp6⟩ := hh
  refine wp_calls (t_X9_stepsTo (l1 := l2)  (by omega) h6) (fun v9 hh => ?_)
  obtain ⟨hr10, hp10⟩ := hh
  exact ⟨h6, (by omega), trivial⟩
set_option maxHeartbeats 4000000 in
set_option maxRecDepth 100000 in
theorem t_X10_set {W : Nat → Nat → Prop} {μs : Mm} {l1 : Int} {l2 : Int} (hW : ∀ k j, scr k j → W k j) (hA : ∀ k j, k < 70 → W k j)  (hp_l1 : -2147483648 ≤ l1 ∧ l1 ≤ 2147483647) (hp_l2 : -2147483648 ≤ l2 ∧ l2 ≤ 2147483647) {μ : Mm} (hS : St W μs μ) : wp (X10_set l1 l2 μ) (fun r μ' => St W μs μ' ∧ (0 ≤ r ∧ r ≤ 1) ∧ True) := by
  have hFU := FU_v
  unfold X10_set
  refine wp_if (fun g6 => ?_) (fun g6 => ?_)
  · refine wp_call (t_X0_tellStoop (l0 := 5) (l1 := l2) hW (fun _ _ _ h_ => hA _ _ (by omega)) (rfl : kD 5 = (10, 9)) (by omega) hS) (fun v7 m8 hh => ?_)
    obtain ⟨h8, hr8, hp8⟩ := hh
    refine wp_rZv (by omega) ?_
    exact ⟨h8, (by omega), trivial⟩
  · refine wp_if (fun g9 => ?_) (fun g9 => ?_)
    · refine wp_call (t_X0_tellNight (l0 := 5) (l1 := l2) hW (fun _ _ _ h_ => hA _ _ (by omega)) (rfl : kD 5 = (10, 9)) (by omega) hS) (fun v10 m11 hh => ?_)
      obtain ⟨h11, hr11, hp11⟩ := hh
      refine wp_rZv (by omega) ?_
      exact ⟨h11, (by omega), trivial⟩
    · refine wp_if (fun g12 => ?_) (fun g12 => ?_)
      · refine wp_if (fun g13 => ?_) (fun g13 => ?_)
        · exact ⟨hS, (by omega), trivial⟩
        · refine wp_if (fun g14 => ?_) (fun g14 => ?_)
          · refine wp_sFv (P := St W μs) (pO_10_17 (rfl : kD 0 = (20, 18)) hS (hA _ _ (by omega)) (by have := gO_10_16 (rfl : kD 0 = (20, 18)) (by decide) hS; omega)) (fun m15 h15 he15 => ?_)
            exact ⟨h15, (by have := gO_10_16 (rfl : kD 0 = (20, 18)) (by decide) hS; omega), trivial⟩
          · exact ⟨hS, (by have := gO_10_16 (rfl : kD 0 = (20, 18)) (by decide) hS; omega), trivial⟩
      · exact ⟨hS, (by omega), trivial⟩
set_option maxHeartbeats 4000000 in
set_option maxRecDepth 100000 in
theorem t_X10_wind {W : Nat → Nat → Prop} {μs : Mm} {l1 : Int} {l2 : Int} (hW : ∀ k j, scr k j → W k j) (hA : ∀ k j, k < 70 → W k j)  (hp_l1 : -2147483648 ≤ l1 ∧ l1 ≤ 2147483647) (hp_l2 : -2147483648 ≤ l2 ∧ l2 ≤ 2147483647) {μ : Mm} (hS : St W μs μ) : wp (X10_wind l1 l2 μ) (fun r μ' => St W μs μ' ∧ (0 ≤ r ∧ r ≤ 1) ∧ True) := by
  have hFU := FU_v
  unfold X10_wind
  refine wp_call (t_X0_tellWind (l0 := 5) (l1 := l1) (l2 := l2) hW (fun _ _ _ h_ => hA _ _ (by omega)) (rfl : kD 5 = (10, 9)) (by omega) (by omega) hS) (fun v3 m4 hh => ?_)
  obtain ⟨h4, hr4, hp4⟩ := hh
  refine wp_rZv (by omega) ?_
  exact ⟨h4, (by omega), trivial⟩
set_option maxHeartbeats 4000000 in
set_option maxRecDepth 100000 in
theorem t_X10_swap {W : Nat → Nat → Prop} {μs : Mm} {l1 : Int} {l2 : Int} (hW : ∀ k j, scr k j → W k j) (hA : ∀ k j, k < 70 → W k j)  (hp_l1 : -2147483648 ≤ l1 ∧ l1 ≤ 2147483647) (hp_l2 : -2147483648 ≤ l2 ∧ l2 ≤ 2147483647) {μ : Mm} (hS : St W μs μ) : wp (X10_swap l1 l2 μ) (fun r μ' => St W μs μ' ∧ (0 ≤ r ∧ r ≤ 1) ∧ True) := by
  have hFU := FU_v
  unfold X10_swap
  refine wp_call (t_X0_exchangeCranks (l0 := 5) (l1 := l1) (l2 := l2) hW (fun _ _ _ h_ => hA _ _ (by omega)) (rfl : kD 5 = (10, 9)) (by omega) (by omega) hS) (fun v3 m4 hh => ?_)
  obtain ⟨h4, hr4, hp4⟩ := hh
  refine wp_rZv (by omega) ?_
  exact ⟨h4, (by omega), trivial⟩
set_option maxHeartbeats 4000000 in
set_option maxRecDepth 100000 in
theorem t_X10_knock {W : Nat → Nat → Prop} {μs : Mm} {l1 : Int} (hW : ∀ k j, scr k j → W k j) (hA : ∀ k j, k < 70 → W k j)  (hp_l1 : -2147483648 ≤ l1 ∧ l1 ≤ 2147483647) {μ : Mm} (hS : St W μs μ) : wp (X10_knock l1 μ) (fun r μ' => St W μs μ' ∧ (0 ≤ r ∧ r ≤ 1) ∧ True) := by
  have hFU := FU_v
  unfold X10_knock
  refine wp_call (t_X0_takePost (l0 := 5) (l1 := l1) hW (fun _ _ _ h_ => hA _ _ (by omega)) (rfl : kD 5 = (10, 9)) (by omega) hS) (fun v3 m4 hh => ?_)
  obtain ⟨h4, hr4, hp4⟩ := hh
  refine wp_rZv (by omega) ?_
  exact ⟨h4, (by omega), trivial⟩
set_option maxHeartbeats 4000000 in
set_option maxRecDepth 100000 in
theorem t_X10_image {W : Nat → Nat → Prop} {μs : Mm}  (hW : ∀ k j, scr k j → W k j) (hA : ∀ k j, k < 70 → W k j)   {μ : Mm} (hS : St W μs μ) : wp (X10_image μ) (fun r μ' => St W μs μ' ∧ (-2147483648 ≤ r ∧ r ≤ 2147483647) ∧ True) := by
  have hFU := FU_v
  unfold X10_image
  refine wp_calls (t_X0_stands (l0 := 5)  (rfl : kD 5 = (10, 9)) hS) (fun v5 hh => ?_)
  obtain ⟨hr6, hp6⟩ := hh
  refine wp_if (fun g9 => ?_) (fun g9 => ?_)
  · exact ⟨hS, (by omega), trivial⟩
  · refine wp_call (t_X0_copy (l0 := 9) (l1 := 5) hW (fun _ _ _ h_ => hA _ _ (by omega)) (rfl : kD 9 = (10, 9)) (rfl : kD 5 = (10, 9)) hS) (fun v10 m11 hh => ?_)
    obtain ⟨h11, hr11, hp11⟩ := hh
    exact ⟨h11, (by have := gO_0_6 (rfl : kD 5 = (10, 9)) (by decide) h11; omega), trivial⟩
set_option maxHeartbeats 4000000 in
set_option maxRecDepth 100000 in
theorem t_X10_back {W : Nat → Nat → Prop} {μs : Mm}  (hW : ∀ k j, scr k j → W k j) (hA : ∀ k j, k < 70 → W k j)   {μ : Mm} (hS : St W μs μ) : wp (X10_back μ) (fun r μ' => St W μs μ' ∧ (-2147483648 ≤ r ∧ r ≤ 2147483647) ∧ True) := by
  have hFU := FU_v
  unfold X10_back
  refine wp_calls (t_X0_stands (l0 := 9)  (rfl : kD 9 = (10, 9)) hS) (fun v5 hh => ?_)
  obtain ⟨hr6, hp6⟩ := hh
  refine wp_if (fun g9 => ?_) (fun g9 => ?_)
  · exact ⟨hS, (by omega), trivial⟩
  · refine wp_call (t_X0_copy (l0 := 5) (l1 := 9) hW (fun _ _ _ h_ => hA _ _ (by omega)) (rfl : kD 5 = (10, 9)) (rfl : kD 9 = (10, 9)) hS) (fun v10 m11 hh => ?_)
    obtain ⟨h11, hr11, hp11⟩ := hh
    exact ⟨h11, (by have := gO_0_6 (rfl : kD 5 = (10, 9)) (by decide) h11; omega), trivial⟩
set_option maxHeartbeats 4000000 in
set_option maxRecDepth 100000 in
theorem t_X10_out {W : Nat → Nat → Prop} {μs : Mm} {l1 : Int} (hW : ∀ k j, scr k j → W k j)  (hp_l1 : -2147483648 ≤ l1 ∧ l1 ≤ 2147483647) {μ : Mm} (hS : St W μs μ) : wp (X10_out l1 μ) (fun r μ' => St W μs μ' ∧ (-2147483648 ≤ r ∧ r ≤ 2147483647) ∧ True) := by
  have hFU := FU_v
  unfold X10_out
  refine wp_calls (t_X0_placeOf (l0 := 5) (l1 := l1)  (rfl : kD 5 = (10, 9)) (by omega) hS) (fun v7 hh => ?_)
  obtain ⟨hr8, hp8⟩ := hh
  refine wp_call (t_X9_measure (l1 := 5) (l2 := v7) hW (rfl : kD 5 = (10, 9)) (by omega) hS) (fun v13 m14 hh => ?_)
  obtain ⟨h14, hr14, hp14⟩ := hh
  refine wp_calls (t_X9_stepsTo (l1 := (m14 5 3))  (by have := gO_0_3 (rfl : kD 5 = (10, 9)) (by decide) h14; omega) h14) (fun v17 hh => ?_)
  obtain ⟨hr18, hp18⟩ := hh
  exact ⟨h14, (by omega), trivial⟩
set_option maxHeartbeats 4000000 in
set_option maxRecDepth 100000 in
theorem t_X10_dead_L34 {W : Nat → Nat → Prop} {μs : Mm}    {μ : Mm} (hS : St W μs μ) {Q : Int → Mm → Prop} (hQ : ∀ r, (-2147483648 ≤ r ∧ r ≤ 2147483647) → True → Q r μ) : ∀ (n : Nat) {l1 l2 : Int} , (-2147483648 ≤ l1 ∧ l1 ≤ 2147483647) → (0 ≤ l2 ∧ l2 ≤ 60) → True → 60 - l2 + 1 ≤ ((n : Nat) : Int) → wp (X10_dead_L34 n l1 l2 μ) Q := by
  have hFU := FU_v
  intro n
  induction n with
  | zero => intro l1 l2 hv_l1 hv_l2 hi hm; exact absurd hm (by  have : ((0 : Nat) : Int) = 0 := rfl; omega)
  | succ n ih =>
    intro l1 l2 hv_l1 hv_l2 hi hm
    have hn1 : ((n + 1 : Nat) : Int) = ((n : Nat) : Int) + 1 := rfl
    rw [X10_dead_L34]
    refine wp_if (fun g9 => ?_) (fun g9 => ?_)
    · exact hQ _ (by omega) trivial
    · refine wp_calls (t_X0_isOpen (l0 := 5) (l1 := l2)  (rfl : kD 5 = (10, 9)) (by omega) hS) (fun v10 hh => ?_)
      obtain ⟨hr11, hp11⟩ := hh
      refine wp_if (fun g14 => ?_) (fun g14 => ?_)
      · exact ih  (by omega) (by have := iA_c l2 1; omega) trivial (by have := iA_c l2 1; omega)
      · refine wp_calls (t_X9_stepsTo (l1 := l2)  (by omega) hS) (fun v15 hh => ?_)
        obtain ⟨hr16, hp16⟩ := hh
        refine wp_if (fun g17 => ?_) (fun g17 => ?_)
        · exact ih  (by have := iA_c l1 1; omega) (by have := iA_c l2 1; omega) trivial (by have := iA_c l1 1; have := iA_c l2 1; omega)
        · exact ih  (by omega) (by have := iA_c l2 1; omega) trivial (by have := iA_c l2 1; omega)
set_option maxHeartbeats 4000000 in
set_option maxRecDepth 100000 in
theorem t_X10_dead {W : Nat → Nat → Prop} {μs : Mm}  (hW : ∀ k j, scr k j → W k j)   {μ : Mm} (hS : St W μs μ) : wp (X10_dead μ) (fun r μ' => St W μs μ' ∧ (-2147483648 ≤ r ∧ r ≤ 2147483647) ∧ True) := by
  have hFU := FU_v
  unfold X10_dead
  refine wp_calls (t_X0_stands (l0 := 5)  (rfl : kD 5 = (10, 9)) hS) (fun v5 hh => ?_)
  obtain ⟨hr6, hp6⟩ := hh
  refine wp_if (fun g9 => ?_) (fun g9 => ?_)
  · exact ⟨hS, (by omega), trivial⟩
  · refine wp_call (t_X9_measure (l1 := 5) (l2 := (μ 5 3)) hW (rfl : kD 5 = (10, 9)) (by have := gO_0_3 (rfl : kD 5 = (10, 9)) (by decide) hS; omega) hS) (fun v10 m11 hh => ?_)
    obtain ⟨h11, hr11, hp11⟩ := hh
    exact t_X10_dead_L34 (l1 := 0) (l2 := 0)   h11 (fun r_ hr_ hp_ => by exact ⟨h11, (by omega), trivial⟩) FU  (by omega) (by omega) trivial (by omega)
set_option maxHeartbeats 4000000 in
set_option maxRecDepth 100000 in
theorem t_X10_count {W : Nat → Nat → Prop} {μs : Mm} {l1 : Int}  (hp_l1 : -2147483648 ≤ l1 ∧ l1 ≤ 2147483647) {μ : Mm} (hS : St W μs μ) : wp (X10_count l1 μ) (fun r μ' => μ' = μ ∧ (-2147483648 ≤ r ∧ r ≤ 2147483647) ∧ True) := by
  have hFU := FU_v
  unfold X10_count
  refine wp_if (fun g1 => ?_) (fun g1 => ?_)
  · exact ⟨rfl, (by have := gO_0_5 (rfl : kD 5 = (10, 9)) (by decide) hS; omega), trivial⟩
  · refine wp_if (fun g2 => ?_) (fun g2 => ?_)
    · exact ⟨rfl, (by have := gO_10_15 (rfl : kD 0 = (20, 18)) (by decide) hS; omega), trivial⟩
    · refine wp_if (fun g3 => ?_) (fun g3 => ?_)
      · exact ⟨rfl, (by have := gO_10_16 (rfl : kD 0 = (20, 18)) (by decide) hS; omega), trivial⟩
      · refine wp_if (fun g4 => ?_) (fun g4 => ?_)
        · exact ⟨rfl, (by have := gO_7_1 (rfl : kD 1 = (17, 2)) (by decide) hS; omega), trivial⟩
        · refine wp_if (fun g5 => ?_) (fun g5 => ?_)
          · exact ⟨rfl, (by have := gO_0_7 (rfl : kD 5 = (10, 9)) (by decide) hS; omega), trivial⟩
          · refine wp_if (fun g6 => ?_) (fun g6 => ?_)
            · exact ⟨rfl, (by have := gO_0_8 (rfl : kD 5 = (10, 9)) (by decide) hS; omega), trivial⟩
            · refine wp_if (fun g7 => ?_) (fun g7 => ?_)
              · exact ⟨rfl, (by have := gO_10_17 (rfl : kD 0 = (20, 18)) (by decide) hS; omega), trivial⟩
              · refine wp_if (fun g8 => ?_) (fun g8 => ?_)
                · exact ⟨rfl, (by have := gO_8_2 (rfl : kD 67 = (18, 7)) (by decide) hS; omega), trivial⟩
                · refine wp_if (fun g9 => ?_) (fun g9 => ?_)
                  · exact ⟨rfl, (by have := gO_0_6 (rfl : kD 5 = (10, 9)) (by decide) hS; omega), trivial⟩
                  · exact ⟨rfl, (by omega), trivial⟩
set_option maxHeartbeats 4000000 in
set_option maxRecDepth 100000 in
theorem t_X10_isPlay {W : Nat → Nat → Prop} {μs : Mm} {l1 : Int}  (hp_l1 : -2147483648 ≤ l1 ∧ l1 ≤ 2147483647) {μ : Mm} (hS : St W μs μ) : wp (X10_isPlay l1 μ) (fun r μ' => μ' = μ ∧ (0 ≤ r ∧ r ≤ 1) ∧ (r = 0 ∨ (0 ≤ l1 ∧ l1 ≤ 4))) := by
  have hFU := FU_v
  unfold X10_isPlay
  refine wp_if (fun g1 => ?_) (fun g1 => ?_)
  · exact ⟨rfl, (by omega), (by show (0 = 0 ∨ (0 ≤ l1 ∧ l1 ≤ 4)); exact (by omega))⟩
  · refine wp_if (fun g2 => ?_) (fun g2 => ?_)
    · exact ⟨rfl, (by have := gO_10_15 (rfl : kD 0 = (20, 18)) (by decide) hS; omega), (by show (0 = 0 ∨ (0 ≤ l1 ∧ l1 ≤ 4)); exact (by have := gO_10_15 (rfl : kD 0 = (20, 18)) (by decide) hS; omega))⟩
    · refine wp_if (fun g3 => ?_) (fun g3 => ?_)
      · exact ⟨rfl, (by have := gO_10_15 (rfl : kD 0 = (20, 18)) (by decide) hS; have na1 : ((aN 17 : Nat) : Int) = 5 := rfl; omega), (by show (0 = 0 ∨ (0 ≤ l1 ∧ l1 ≤ 4)); exact (by have := gO_10_15 (rfl : kD 0 = (20, 18)) (by decide) hS; have na1 : ((aN 17 : Nat) : Int) = 5 := rfl; omega))⟩
      · exact ⟨rfl, (by have := gO_10_15 (rfl : kD 0 = (20, 18)) (by decide) hS; have na1 : ((aN 17 : Nat) : Int) = 5 := rfl; omega), (by show (1 = 0 ∨ (0 ≤ l1 ∧ l1 ≤ 4)); exact (by have := gO_10_15 (rfl : kD 0 = (20, 18)) (by decide) hS; have na1 : ((aN 17 : Nat) : Int) = 5 := rfl; omega))⟩
theorem t_X10_lawThatHolds {W : Nat → Nat → Prop} {μs μ : Mm} (hS : St W μs μ) : wp (X10_lawThatHolds μ) (fun r μ' => μ' = μ ∧ (-1 ≤ r ∧ r ≤ 97) ∧ (r = -1 ∨ kD r.toNat = (17, 2))) := by
  unfold X10_lawThatHolds
  refine wp_if (fun g1 => ?_) (fun g1 => ?_)
  · exact ⟨rfl, by omega, Or.inl rfl⟩
  refine wp_if (fun g2 => ?_) (fun g2 => ?_)
  · exact ⟨rfl, by omega, Or.inl rfl⟩
  refine wp_if (fun g3 => ?_) (fun g3 => ?_)
  · exact ⟨rfl, by omega, Or.inl rfl⟩
  have h4 : ((aN 36 : Nat) : Int) = 4 := rfl
  have hi : 0 ≤ μ 0 17 ∧ μ 0 17 < ((aN 36 : Nat) : Int) := by omega
  refine wp_aLv hi (fun v q => ?_)
  have hk : kD v = (17, 2) := by rw [q]; exact kA36 hi
  have hb := kTr' hk
  exact ⟨rfl, by omega, Or.inr (by rw [Int.toNat_natCast]; exact hk)⟩
set_option maxHeartbeats 4000000 in
set_option maxRecDepth 100000 in
theorem t_X10_cue {W : Nat → Nat → Prop} {μs : Mm} {l1 : Int} {l2 : Int} {l3 : Int} (hW : ∀ k j, scr k j → W k j)  (hp_l1 : -2147483648 ≤ l1 ∧ l1 ≤ 2147483647) (hp_l2 : -2147483648 ≤ l2 ∧ l2 ≤ 2147483647) (hp_l3 : -2147483648 ≤ l3 ∧ l3 ≤ 2147483647) {μ : Mm} (hS : St W μs μ) : wp (X10_cue l1 l2 l3 μ) (fun r μ' => St W μs μ' ∧ (-2147483648 ≤ r ∧ r ≤ 2147483647) ∧ True) := by
  have hFU := FU_v
  unfold X10_cue
  refine wp_calls (t_X10_isPlay (l1 := l1)  (by omega) hS) (fun v4 hh => ?_)
  obtain ⟨hr5, hp5⟩ := hh
  refine wp_if (fun g7 => ?_) (fun g7 => ?_)
  · exact ⟨hS, (by omega), trivial⟩
  · have hi10 : 0 ≤ l1 ∧ l1 < ((aN 17 : Nat) : Int) := (by show _ ∧ _ < (5 : Int); omega)
    refine wp_aLv hi10 (fun v8 q9 => ?_)
    have hkv8 : kD v8 = (13, 3) := by rw [q9]; exact kA17 hi10
    have hbv8 := kPr' hkv8
    refine wp_if (fun g11 => ?_) (fun g11 => ?_)
    · refine wp_if (fun g12 => ?_) (fun g12 => ?_)
      · exact ⟨hS, (by have := gO_3_2 hkv8 (by omega) hS; omega), trivial⟩
      · unfold X10_cue_J33
        try dsimp only
        refine wp_if (fun g21 => ?_) (fun g21 => ?_)
        · exact ⟨hS, (by omega), trivial⟩
        · refine wp_if (fun g22 => ?_) (fun g22 => ?_)
          · exact ⟨hS, (by have := gO_3_2 hkv8 (by omega) hS; omega), trivial⟩
          · refine wp_if (fun g23 => ?_) (fun g23 => ?_)
            · exact ⟨hS, (by have := gO_3_2 hkv8 (by omega) hS; omega), trivial⟩
            · refine wp_if (fun g24 => ?_) (fun g24 => ?_)
              · refine wp_if (fun g25 => ?_) (fun g25 => ?_)
                · have hi28 : 0 ≤ l1 ∧ l1 < ((aN 17 : Nat) : Int) := (by have := gO_3_2 hkv8 (by omega) hS; show _ ∧ _ < (5 : Int); omega)
                  refine wp_aLv hi28 (fun v26 q27 => ?_)
                  have hkv26 : kD v26 = (13, 3) := by rw [q27]; exact kA17 hi28
                  have hbv26 := kPr' hkv26
                  refine wp_calls (t_X10_lawThatHolds   hS) (fun v34 hh => ?_)
                  obtain ⟨hr35, hp35⟩ := hh
                  refine wp_call (t_X2_fillTimes (l1 := v26) (l2 := v34) (l3 := (μ 5 8)) hW hkv26 hp35 (by have := gO_0_8 (rfl : kD 5 = (10, 9)) (by decide) hS; have := gO_3_2 hkv8 (by omega) hS; omega) hS) (fun v39 m40 hh => ?_)
                  obtain ⟨h40, hr40, hp40⟩ := hh
                  refine wp_ldv (by have na0 : ((aN 50 : Nat) : Int) = 8 := rfl; have := gO_3_2 hkv8 (by omega) hS; omega) (fun v42 q43 => ?_)
                  have hrv42 := gA_1_2 (rfl : kD 48 = (11, 7)) (by decide) h40 (l2).toNat
                  replace hrv42 : -2147483648 ≤ v42 ∧ v42 ≤ 2147483647 := by rw [q43]; exact hrv42
                  exact ⟨h40, (by have := gO_3_2 hkv8 (by omega) hS; omega), trivial⟩
                · refine wp_if (fun g44 => ?_) (fun g44 => ?_)
                  · refine wp_ldv (by have na0 : ((aN (v8 + 1) : Nat) : Int) = 8 := (by rw [(bA_3_1 hkv8 (by omega) 0).2.2]; rfl); have := gO_3_2 hkv8 (by omega) hS; omega) (fun v45 q46 => ?_)
                    have hrv45 := gA_3_1 hkv8 (by omega) hS (l2).toNat
                    rw [← q46] at hrv45
                    exact ⟨hS, (by have := gO_3_2 hkv8 (by omega) hS; omega), trivial⟩
                  · refine wp_ldv (by have na0 : ((aN (v8 + 2) : Nat) : Int) = 8 := (by rw [(bA_3_2 hkv8 (by omega) 0).2.2]; rfl); have := gO_3_2 hkv8 (by omega) hS; omega) (fun v47 q48 => ?_)
                    have hrv47 := gA_3_2 hkv8 (by omega) hS (l2).toNat
                    rw [← q48] at hrv47
                    exact ⟨hS, (by have := gO_3_2 hkv8 (by omega) hS; omega), trivial⟩
              · exact ⟨hS, (by have := gO_3_2 hkv8 (by omega) hS; omega), trivial⟩
    · unfold X10_cue_J33
      try dsimp only
      refine wp_if (fun g57 => ?_) (fun g57 => ?_)
      · exact ⟨hS, (by omega), trivial⟩
      · refine wp_if (fun g58 => ?_) (fun g58 => ?_)
        · exact ⟨hS, (by have := gO_3_2 hkv8 (by omega) hS; omega), trivial⟩
        · refine wp_if (fun g59 => ?_) (fun g59 => ?_)
          · exact ⟨hS, (by have := gO_3_2 hkv8 (by omega) hS; omega), trivial⟩
          · refine wp_if (fun g60 => ?_) (fun g60 => ?_)
            · refine wp_if (fun g61 => ?_) (fun g61 => ?_)
              · have hi64 : 0 ≤ l1 ∧ l1 < ((aN 17 : Nat) : Int) := (by have := gO_3_2 hkv8 (by omega) hS; show _ ∧ _ < (5 : Int); omega)
                refine wp_aLv hi64 (fun v62 q63 => ?_)
                have hkv62 : kD v62 = (13, 3) := by rw [q63]; exact kA17 hi64
                have hbv62 := kPr' hkv62
                refine wp_calls (t_X10_lawThatHolds   hS) (fun v70 hh => ?_)
                obtain ⟨hr71, hp71⟩ := hh
                refine wp_call (t_X2_fillTimes (l1 := v62) (l2 := v70) (l3 := (μ 5 8)) hW hkv62 hp71 (by have := gO_0_8 (rfl : kD 5 = (10, 9)) (by decide) hS; have := gO_3_2 hkv8 (by omega) hS; omega) hS) (fun v75 m76 hh => ?_)
                obtain ⟨h76, hr76, hp76⟩ := hh
                refine wp_ldv (by have na0 : ((aN 50 : Nat) : Int) = 8 := rfl; have := gO_3_2 hkv8 (by omega) hS; omega) (fun v78 q79 => ?_)
                have hrv78 := gA_1_2 (rfl : kD 48 = (11, 7)) (by decide) h76 (l2).toNat
                replace hrv78 : -2147483648 ≤ v78 ∧ v78 ≤ 2147483647 := by rw [q79]; exact hrv78
                exact ⟨h76, (by have := gO_3_2 hkv8 (by omega) hS; omega), trivial⟩
              · refine wp_if (fun g80 => ?_) (fun g80 => ?_)
                · refine wp_ldv (by have na0 : ((aN (v8 + 1) : Nat) : Int) = 8 := (by rw [(bA_3_1 hkv8 (by omega) 0).2.2]; rfl); have := gO_3_2 hkv8 (by omega) hS; omega) (fun v81 q82 => ?_)
                  have hrv81 := gA_3_1 hkv8 (by omega) hS (l2).toNat
                  rw [← q82] at hrv81
                  exact ⟨hS, (by have := gO_3_2 hkv8 (by omega) hS; omega), trivial⟩
                · refine wp_ldv (by have na0 : ((aN (v8 + 2) : Nat) : Int) = 8 := (by rw [(bA_3_2 hkv8 (by omega) 0).2.2]; rfl); have := gO_3_2 hkv8 (by omega) hS; omega) (fun v83 q84 => ?_)
                  have hrv83 := gA_3_2 hkv8 (by omega) hS (l2).toNat
                  rw [← q84] at hrv83
                  exact ⟨hS, (by have := gO_3_2 hkv8 (by omega) hS; omega), trivial⟩
            · exact ⟨hS, (by have := gO_3_2 hkv8 (by omega) hS; omega), trivial⟩
set_option maxHeartbeats 4000000 in
set_option maxRecDepth 100000 in
theorem t_X10_lay {W : Nat → Nat → Prop} {μs : Mm} {l1 : Int} (hW : ∀ k j, scr k j → W k j)  (hp_l1 : -2147483648 ≤ l1 ∧ l1 ≤ 2147483647) {μ : Mm} (hS : St W μs μ) : wp (X10_lay l1 μ) (fun r μ' => St W μs μ' ∧ (0 ≤ r ∧ r ≤ 1) ∧ (r = 0 ∨ (0 ≤ l1 ∧ l1 ≤ 4))) := by
  have hFU := FU_v
  unfold X10_lay
  refine wp_calls (t_X0_stands (l0 := 5)  (rfl : kD 5 = (10, 9)) hS) (fun v13 hh => ?_)
  obtain ⟨hr14, hp14⟩ := hh
  refine wp_if (fun g25 => ?_) (fun g25 => ?_)
  · exact ⟨hS, (by omega), (by show (0 = 0 ∨ (0 ≤ l1 ∧ l1 ≤ 4)); exact (by omega))⟩
  · refine wp_calls (t_X10_isPlay (l1 := l1)  (by omega) hS) (fun v26 hh => ?_)
    obtain ⟨hr27, hp27⟩ := hh
    refine wp_if (fun g36 => ?_) (fun g36 => ?_)
    · exact ⟨hS, (by omega), (by show (0 = 0 ∨ (0 ≤ l1 ∧ l1 ≤ 4)); exact (by omega))⟩
    · have hi39 : 0 ≤ l1 ∧ l1 < ((aN 17 : Nat) : Int) := (by show _ ∧ _ < (5 : Int); omega)
      refine wp_aLv hi39 (fun v37 q38 => ?_)
      have hkv37 : kD v37 = (13, 3) := by rw [q38]; exact kA17 hi39
      have hbv37 := kPr' hkv37
      refine wp_call (t_X1_prepare (l0 := 48) (l1 := 5) (l2 := v37) hW (rfl : kD 48 = (11, 7)) (rfl : kD 5 = (10, 9)) hkv37 hS) (fun v47 m48 hh => ?_)
      obtain ⟨h48, hr48, hp48⟩ := hh
      have hi56 : 0 ≤ l1 ∧ l1 < ((aN 17 : Nat) : Int) := (by show _ ∧ _ < (5 : Int); omega)
      refine wp_aLv hi56 (fun v54 q55 => ?_)
      have hkv54 : kD v54 = (13, 3) := by rw [q55]; exact kA17 hi56
      have hbv54 := kPr' hkv54
      refine wp_calls (t_X10_lawThatHolds   h48) (fun v61 hh => ?_)
      obtain ⟨hr62, hp62⟩ := hh
      refine wp_call (t_X2_fillTimes (l1 := v54) (l2 := v61) (l3 := (m48 5 8)) hW hkv54 hp62 (by have := gO_0_8 (rfl : kD 5 = (10, 9)) (by decide) h48; omega) h48) (fun v65 m66 hh => ?_)
      obtain ⟨h66, hr66, hp66⟩ := hh
      exact ⟨h66, (by omega), (by show (1 = 0 ∨ (0 ≤ l1 ∧ l1 ≤ 4)); exact (by omega))⟩
