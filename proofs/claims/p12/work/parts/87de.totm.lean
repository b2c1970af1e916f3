/-! TOTALITY of the reference, by program (wip/gen/totm.py) -/
set_option maxHeartbeats 4000000 in
set_option maxRecDepth 100000 in
theorem t_X11_slack_L59 {μs : Mm} {l2 : Int} {l3 : Int} {l4 : Int} (hI : Ir μs)  (hp_l2 : 0 ≤ l2 ∧ l2 ≤ 7) (hp_l3 : -2147483648 ≤ l3 ∧ l3 ≤ 2147483647) (hp_l4 : -2147483648 ≤ l4 ∧ l4 ≤ 2147483647) {Q : Int → Mm → Prop} (hQ : ∀ r μ, Sm μs μ → (-2147483648 ≤ r ∧ r ≤ 2147483647) → True → Q r μ) : ∀ (n : Nat) {l5 l6 : Int} {μ : Mm}, Sm μs μ → (-2147483648 ≤ l5 ∧ l5 ≤ 2147483647) → (1 ≤ l6 ∧ l6 ≤ 31) → True → 31 - l6 + 1 ≤ ((n : Nat) : Int) → wp (X11_slack_L59 l2 l3 l4 n l5 l6 μ) Q := by
  have hFU := FU_v
  intro n
  induction n with
  | zero => intro l5 l6 μ hS hv_l5 hv_l6 hi hm; exact absurd hm (by  have : ((0 : Nat) : Int) = 0 := rfl; omega)
  | succ n ih =>
    intro l5 l6 μ hS hv_l5 hv_l6 hi hm
    have hn1 : ((n + 1 : Nat) : Int) = ((n : Nat) : Int) + 1 := rfl
    rw [X11_slack_L59]
    refine wp_if (fun g19 => ?_) (fun g19 => ?_)
    · exact hQ _ _ hS (by omega) trivial
    · refine wp_stv (P := Sm μs) (by have na0 : ((aN 90 : Nat) : Int) = 8 := rfl; omega) (pA_11_20  hS (by unfold scrM; omega) (by have := iA_c l4 l6; omega)) (fun m20 h20 he20 => ?_)
      refine wp_calls (t_X11_book   h20) (fun v29 hh => ?_)
      obtain ⟨hr30, hp30⟩ := hh
      refine wp_call (t_X11_go (l1 := v29) hI (by omega) h20 hp30) (fun v37 m38 hh => ?_)
      obtain ⟨h38, hr38, hp38⟩ := hh
      refine wp_calls (t_X11_book   h38) (fun v43 hh => ?_)
      obtain ⟨hr44, hp44⟩ := hh
      refine wp_calls (t_X11_tellOf (l1 := v43) (l2 := 0)  (by omega) (by omega) h38 hp44) (fun v47 hh => ?_)
      obtain ⟨hr48, hp48⟩ := hh
      refine wp_if (fun g49 => ?_) (fun g49 => ?_)
      · exact ih h38 (by omega) (by have := iA_c l6 1; omega) trivial (by have := iA_c l6 1; omega)
      · exact ih h38 (by omega) (by have := iA_c l6 1; omega) trivial (by have := iA_c l6 1; omega)
set_option maxHeartbeats 4000000 in
set_option maxRecDepth 100000 in
theorem t_X11_slack {μs : Mm} {l1 : Int} {l2 : Int} (hI : Ir μs)  (hp_l1 : -2147483648 ≤ l1 ∧ l1 ≤ 2147483647) (hp_l2 : -2147483648 ≤ l2 ∧ l2 ≤ 2147483647) {μ : Mm} (hS : Sm μs μ) : wp (X11_slack l1 l2 μ) (fun r μ' => Sm μs μ' ∧ (-2147483648 ≤ r ∧ r ≤ 2147483647) ∧ True) := by
  have hFU := FU_v
  unfold X11_slack
  refine wp_call (t_X11_isReady (l1 := l1) hI (by omega) hS) (fun v14 m15 hh => ?_)
  obtain ⟨h15, hr15, hp15⟩ := hh
  refine wp_if (fun g27 => ?_) (fun g27 => ?_)
  · exact ⟨h15, (by omega), trivial⟩
  · refine wp_calls (t_X11_in (l0 := l2) (l1 := 0) (l2 := (iS (m15 70 37) 1))  (by omega) (by omega) (by have := gO_11_37 h15; have := iS_c (m15 70 37) 1; omega) h15) (fun v28 hh => ?_)
    obtain ⟨hr29, hp29⟩ := hh
    refine wp_if (fun g39 => ?_) (fun g39 => ?_)
    · exact ⟨h15, (by have := gO_11_37 h15; have := iS_c (m15 70 37) 1; omega), trivial⟩
    · refine wp_calls (t_X11_book   h15) (fun v40 hh => ?_)
      obtain ⟨hr41, hp41⟩ := hh
      refine wp_call (t_X11_go (l1 := v40) hI (by have := gO_11_37 h15; have := iS_c (m15 70 37) 1; omega) h15 hp41) (fun v49 m50 hh => ?_)
      obtain ⟨h50, hr50, hp50⟩ := hh
      refine wp_if (fun g56 => ?_) (fun g56 => ?_)
      · exact ⟨h50, (by have := gO_11_37 h15; have := iS_c (m15 70 37) 1; omega), trivial⟩
      · refine wp_calls (t_X11_book   h50) (fun v57 hh => ?_)
        obtain ⟨hr58, hp58⟩ := hh
        refine wp_calls (t_X11_tellOf (l1 := v57) (l2 := 0)  (by have := gO_11_37 h15; have := iS_c (m15 70 37) 1; omega) (by have := gO_11_37 h15; have := iS_c (m15 70 37) 1; omega) h50 hp58) (fun v62 hh => ?_)
        obtain ⟨hr63, hp63⟩ := hh
        refine wp_ldv (by have := gO_11_37 h15; have na1 : ((aN 90 : Nat) : Int) = 8 := rfl; have := iS_c (m15 70 37) 1; omega) (fun v65 q66 => ?_)
        have hrv65 := gA_11_20 h50 (l2).toNat
        replace hrv65 : -2147483648 ≤ v65 ∧ v65 ≤ 2147483647 := by rw [q66]; exact hrv65
        exact t_X11_slack_L59 (l2 := l2) (l3 := v62) (l4 := v65) (l5 := 0) (l6 := 1) hI (by have := gO_11_37 h15; have := iS_c (m15 70 37) 1; omega) (by have := gO_11_37 h15; have := iS_c (m15 70 37) 1; omega) (by have := gO_11_37 h15; have := iS_c (m15 70 37) 1; omega) (fun r_ m_ h_ hr_ hp_ => by exact ⟨h_, (by have := gO_11_37 h15; have := iS_c (m15 70 37) 1; omega), trivial⟩) FU h50 (by have := gO_11_37 h15; have := iS_c (m15 70 37) 1; omega) (by have := gO_11_37 h15; have := iS_c (m15 70 37) 1; omega) trivial (by have := gO_11_37 h15; have := iS_c (m15 70 37) 1; omega)
set_option maxHeartbeats 4000000 in
set_option maxRecDepth 100000 in
theorem t_X11_urgent_L25 {μs : Mm} {l2 : Int} (hI : Ir μs)  (hp_l2 : -2147483648 ≤ l2 ∧ l2 ≤ 2147483647) {k91 : Int → Mm → Rs} {Q : Int → Mm → Prop} (hk_k91 : ∀ (a0 : Int) (μ : Mm), Sm μs μ → (-2147483648 ≤ a0 ∧ a0 ≤ 2147483647) → True → wp (k91 a0 μ) Q) : ∀ (n : Nat) {l3 l4 : Int} {μ : Mm}, Sm μs μ → (-2147483648 ≤ l3 ∧ l3 ≤ 2147483647) → (0 ≤ l4 ∧ l4 ≤ 8) → True → 8 - l4 + 1 ≤ ((n : Nat) : Int) → wp (X11_urgent_L25 l2 k91 n l3 l4 μ) Q := by
  have hFU := FU_v
  intro n
  induction n with
  | zero => intro l3 l4 μ hS hv_l3 hv_l4 hi hm; exact absurd hm (by  have : ((0 : Nat) : Int) = 0 := rfl; omega)
  | succ n ih =>
    intro l3 l4 μ hS hv_l3 hv_l4 hi hm
    have hn1 : ((n + 1 : Nat) : Int) = ((n : Nat) : Int) + 1 := rfl
    rw [X11_urgent_L25]
    refine wp_if (fun g29 => ?_) (fun g29 => ?_)
    · exact hk_k91 l3 μ hS (by have := gO_11_37 hS; omega) trivial
    · refine wp_if (fun g30 => ?_) (fun g30 => ?_)
      · exact hk_k91 l3 μ hS (by have := gO_11_37 hS; omega) trivial
      · refine wp_ldv (by have := gO_11_37 hS; have na1 : ((aN 88 : Nat) : Int) = 8 := rfl; omega) (fun v31 q32 => ?_)
        have hrv31 := gA_11_18 hS (l4).toNat
        replace hrv31 : -2147483648 ≤ v31 ∧ v31 ≤ 2147483647 := by rw [q32]; exact hrv31
        refine wp_stv (P := Sm μs) (by have := gO_11_37 hS; have na1 : ((aN 88 : Nat) : Int) = 8 := rfl; omega) (pA_11_18  hS (by unfold scrM; omega) (by have := gO_11_37 hS; have := iA_c v31 1; omega)) (fun m44 h44 he44 => ?_)
        refine wp_calls (t_X11_all   h44) (fun v55 hh => ?_)
        obtain ⟨hr56, hp56⟩ := hh
        refine wp_call (t_X11_leastOf (l1 := 0) (l2 := v55) hI (by have := gO_11_37 hS; omega) (by have := gO_11_37 hS; omega) h44) (fun v65 m66 hh => ?_)
        obtain ⟨h66, hr66, hp66⟩ := hh
        refine wp_if (fun g73 => ?_) (fun g73 => ?_)
        · unfold X11_urgent_J72
          try dsimp only
          refine wp_ldv (by have := gO_11_37 hS; have na1 : ((aN 88 : Nat) : Int) = 8 := rfl; omega) (fun v76 q77 => ?_)
          have hrv76 := gA_11_18 h66 (l4).toNat
          replace hrv76 : -2147483648 ≤ v76 ∧ v76 ≤ 2147483647 := by rw [q77]; exact hrv76
          refine wp_stv (P := Sm μs) (by have := gO_11_37 hS; have na1 : ((aN 88 : Nat) : Int) = 8 := rfl; omega) (pA_11_18  h66 (by unfold scrM; omega) (by have := gO_11_37 hS; have := iS_c v76 1; omega)) (fun m79 h79 he79 => ?_)
          exact ih h79 (by have := gO_11_37 hS; have := bO_r l3 0; omega) (by have := gO_11_37 hS; have := iA_c l4 1; omega) trivial (by have := gO_11_37 hS; have := bO_r l3 0; have := iA_c l4 1; omega)
        · unfold X11_urgent_J72
          try dsimp only
          refine wp_ldv (by have := gO_11_37 hS; have na1 : ((aN 88 : Nat) : Int) = 8 := rfl; omega) (fun v82 q83 => ?_)
          have hrv82 := gA_11_18 h66 (l4).toNat
          replace hrv82 : -2147483648 ≤ v82 ∧ v82 ≤ 2147483647 := by rw [q83]; exact hrv82
          refine wp_stv (P := Sm μs) (by have := gO_11_37 hS; have na1 : ((aN 88 : Nat) : Int) = 8 := rfl; omega) (pA_11_18  h66 (by unfold scrM; omega) (by have := gO_11_37 hS; have := iS_c v82 1; omega)) (fun m85 h85 he85 => ?_)
          exact ih h85 (by have := gO_11_37 hS; have := bL_r 1 l4; have := bO_r l3 (bL 1 l4); omega) (by have := gO_11_37 hS; have := iA_c l4 1; omega) trivial (by have := gO_11_37 hS; have := bL_r 1 l4; have := bO_r l3 (bL 1 l4); have := iA_c l4 1; omega)
set_option maxHeartbeats 4000000 in
set_option maxRecDepth 100000 in
theorem t_X11_urgent {μs : Mm} {l1 : Int} (hI : Ir μs)  (hp_l1 : -2147483648 ≤ l1 ∧ l1 ≤ 2147483647) {μ : Mm} (hS : Sm μs μ) : wp (X11_urgent l1 μ) (fun r μ' => Sm μs μ' ∧ (-2147483648 ≤ r ∧ r ≤ 2147483647) ∧ True) := by
  have hFU := FU_v
  unfold X11_urgent
  refine wp_call (t_X11_isReady (l1 := l1) hI (by omega) hS) (fun v9 m10 hh => ?_)
  obtain ⟨h10, hr10, hp10⟩ := hh
  refine wp_if (fun g17 => ?_) (fun g17 => ?_)
  · exact ⟨h10, (by omega), trivial⟩
  · refine wp_calls (t_X11_all   h10) (fun v18 hh => ?_)
    obtain ⟨hr19, hp19⟩ := hh
    refine wp_call (t_X11_leastOf (l1 := 0) (l2 := v18) hI (by omega) (by omega) h10) (fun v24 m25 hh => ?_)
    obtain ⟨h25, hr25, hp25⟩ := hh
    refine t_X11_urgent_L25 (l2 := v24) (l3 := 0) (l4 := 0) hI (by omega) (fun v28 m29 h29 hrv28 hp29 => ?_) FU h25 (by omega) (by omega) trivial (by omega)
    refine wp_if (fun g30 => ?_) (fun g30 => ?_)
    · exact ⟨h29, (by omega), trivial⟩
    · exact ⟨h29, (by omega), trivial⟩
set_option maxHeartbeats 4000000 in
set_option maxRecDepth 100000 in
theorem t_X11_dead_L22 {μs : Mm}    {μ : Mm} (hS : Sm μs μ) {Q : Int → Mm → Prop} (hQ : ∀ r, (-2147483648 ≤ r ∧ r ≤ 2147483647) → True → Q r μ) : ∀ (n : Nat) {l1 l2 : Int} , (-2147483648 ≤ l1 ∧ l1 ≤ 2147483647) → (0 ≤ l2 ∧ l2 ≤ 60) → True → 60 - l2 + 1 ≤ ((n : Nat) : Int) → wp (X11_dead_L22 n l1 l2 μ) Q := by
  have hFU := FU_v
  intro n
  induction n with
  | zero => intro l1 l2 hv_l1 hv_l2 hi hm; exact absurd hm (by  have : ((0 : Nat) : Int) = 0 := rfl; omega)
  | succ n ih =>
    intro l1 l2 hv_l1 hv_l2 hi hm
    have hn1 : ((n + 1 : Nat) : Int) = ((n : Nat) : Int) + 1 := rfl
    rw [X11_dead_L22]
    refine wp_if (fun g7 => ?_) (fun g7 => ?_)
    · exact hQ _ (by omega) trivial
    · refine wp_calls (t_X11_isOpen (l1 := l2)  (by omega) hS) (fun v8 hh => ?_)
      obtain ⟨hr9, hp9⟩ := hh
      refine wp_if (fun g11 => ?_) (fun g11 => ?_)
      · exact ih  (by have := iA_c l1 0; omega) (by have := iA_c l2 1; omega) trivial (by have := iA_c l1 0; have := iA_c l2 1; omega)
      · refine wp_ldv (by have na0 : ((aN 87 : Nat) : Int) = 60 := rfl; omega) (fun v12 q13 => ?_)
        have hrv12 := gA_11_17 hS (l2).toNat
        replace hrv12 : -2147483648 ≤ v12 ∧ v12 ≤ 2147483647 := by rw [q13]; exact hrv12
        refine wp_if (fun g14 => ?_) (fun g14 => ?_)
        · exact ih  (by have := iA_c l1 1; omega) (by have := iA_c l2 1; omega) trivial (by have := iA_c l1 1; have := iA_c l2 1; omega)
        · exact ih  (by have := iA_c l1 0; omega) (by have := iA_c l2 1; omega) trivial (by have := iA_c l1 0; have := iA_c l2 1; omega)
set_option maxHeartbeats 4000000 in
set_option maxRecDepth 100000 in
theorem t_X11_dead {μs : Mm}  (hI : Ir μs)   {μ : Mm} (hS : Sm μs μ) : wp (X11_dead μ) (fun r μ' => Sm μs μ' ∧ (-2147483648 ≤ r ∧ r ≤ 2147483647) ∧ True) := by
  have hFU := FU_v
  unfold X11_dead
  refine wp_if (fun g5 => ?_) (fun g5 => ?_)
  · exact ⟨hS, (by have := gO_11_23 hS; have := eqS hS (j := 23) (k := 70) (by unfold scrM; omega); omega), trivial⟩
  · refine wp_calls (t_X11_placeOf (l1 := 2)  (by have := gO_11_23 hS; have := eqS hS (j := 23) (k := 70) (by unfold scrM; omega); omega) hS) (fun v6 hh => ?_)
    obtain ⟨hr7, hp7⟩ := hh
    refine wp_call (t_X11_spread (l1 := v6) hI (by have := gO_11_23 hS; have := eqS hS (j := 23) (k := 70) (by unfold scrM; omega); omega) hS) (fun v10 m11 hh => ?_)
    obtain ⟨h11, hr11, hp11⟩ := hh
    exact t_X11_dead_L22 (l1 := 0) (l2 := 0)   h11 (fun r_ hr_ hp_ => by exact ⟨h11, (by have := gO_11_23 hS; have := eqS hS (j := 23) (k := 70) (by unfold scrM; omega); omega), trivial⟩) FU  (by have := gO_11_23 hS; have := eqS hS (j := 23) (k := 70) (by unfold scrM; omega); omega) (by have := gO_11_23 hS; have := eqS hS (j := 23) (k := 70) (by unfold scrM; omega); omega) trivial (by have := gO_11_23 hS; have := eqS hS (j := 23) (k := 70) (by unfold scrM; omega); omega)
set_option maxHeartbeats 4000000 in
set_option maxRecDepth 100000 in
theorem t_X11_posts_L4 {μs : Mm}    {μ : Mm} (hS : Sm μs μ) {Q : Int → Mm → Prop} (hQ : ∀ r, (-2147483648 ≤ r ∧ r ≤ 2147483647) → True → Q r μ) : ∀ (n : Nat) {l1 l2 : Int} , (-2147483648 ≤ l1 ∧ l1 ≤ 2147483647) → (0 ≤ l2 ∧ l2 ≤ 60) → True → 60 - l2 + 1 ≤ ((n : Nat) : Int) → wp (X11_posts_L4 n l1 l2 μ) Q := by
  have hFU := FU_v
  intro n
  induction n with
  | zero => intro l1 l2 hv_l1 hv_l2 hi hm; exact absurd hm (by  have : ((0 : Nat) : Int) = 0 := rfl; omega)
  | succ n ih =>
    intro l1 l2 hv_l1 hv_l2 hi hm
    have hn1 : ((n + 1 : Nat) : Int) = ((n : Nat) : Int) + 1 := rfl
    rw [X11_posts_L4]
    refine wp_if (fun g7 => ?_) (fun g7 => ?_)
    · exact hQ _ (by omega) trivial
    · refine wp_calls (t_X11_isPlace (l1 := l2)  (by omega) hS) (fun v8 hh => ?_)
      obtain ⟨hr9, hp9⟩ := hh
      refine wp_if (fun g11 => ?_) (fun g11 => ?_)
      · exact ih  (by have := iA_c l1 0; omega) (by have := iA_c l2 1; omega) trivial (by have := iA_c l1 0; have := iA_c l2 1; omega)
      · refine wp_ldv (by have na0 : ((aN 82 : Nat) : Int) = 60 := rfl; omega) (fun v12 q13 => ?_)
        have hrv12 := gA_11_12 hS (l2).toNat
        replace hrv12 : 0 ≤ v12 ∧ v12 ≤ 10 := by rw [q13]; exact hrv12
        refine wp_if (fun g14 => ?_) (fun g14 => ?_)
        · exact ih  (by have := iA_c l1 1; omega) (by have := iA_c l2 1; omega) trivial (by have := iA_c l1 1; have := iA_c l2 1; omega)
        · exact ih  (by have := iA_c l1 0; omega) (by have := iA_c l2 1; omega) trivial (by have := iA_c l1 0; have := iA_c l2 1; omega)
set_option maxHeartbeats 4000000 in
set_option maxRecDepth 100000 in
theorem t_X11_posts {μs : Mm}    {μ : Mm} (hS : Sm μs μ) : wp (X11_posts μ) (fun r μ' => μ' = μ ∧ (-2147483648 ≤ r ∧ r ≤ 2147483647) ∧ True) := by
  have hFU := FU_v
  unfold X11_posts
  exact t_X11_posts_L4 (l1 := 0) (l2 := 0)   hS (fun r_ hr_ hp_ => by exact ⟨rfl, (by omega), trivial⟩) FU  (by omega) (by omega) trivial (by omega)
set_option maxHeartbeats 4000000 in
set_option maxRecDepth 100000 in
theorem t_X11_cranks_L4 {μs : Mm}    {μ : Mm} (hS : Sm μs μ) {Q : Int → Mm → Prop} (hQ : ∀ r, (-2147483648 ≤ r ∧ r ≤ 2147483647) → True → Q r μ) : ∀ (n : Nat) {l1 l2 : Int} , (-2147483648 ≤ l1 ∧ l1 ≤ 2147483647) → (0 ≤ l2 ∧ l2 ≤ 8) → True → 8 - l2 + 1 ≤ ((n : Nat) : Int) → wp (X11_cranks_L4 n l1 l2 μ) Q := by
  have hFU := FU_v
  intro n
  induction n with
  | zero => intro l1 l2 hv_l1 hv_l2 hi hm; exact absurd hm (by  have : ((0 : Nat) : Int) = 0 := rfl; omega)
  | succ n ih =>
    intro l1 l2 hv_l1 hv_l2 hi hm
    have hn1 : ((n + 1 : Nat) : Int) = ((n : Nat) : Int) + 1 := rfl
    rw [X11_cranks_L4]
    refine wp_if (fun g5 => ?_) (fun g5 => ?_)
    · exact hQ _ (by omega) trivial
    · refine wp_calls (t_X11_isCrank (l1 := l2)  (by omega) hS) (fun v6 hh => ?_)
      obtain ⟨hr7, hp7⟩ := hh
      refine wp_if (fun g8 => ?_) (fun g8 => ?_)
      · exact ih  (by have := iA_c l1 0; omega) (by have := iA_c l2 1; omega) trivial (by have := iA_c l1 0; have := iA_c l2 1; omega)
      · exact ih  (by have := iA_c l1 1; omega) (by have := iA_c l2 1; omega) trivial (by have := iA_c l1 1; have := iA_c l2 1; omega)
set_option maxHeartbeats 4000000 in
set_option maxRecDepth 100000 in
theorem t_X11_cranks {μs : Mm}    {μ : Mm} (hS : Sm μs μ) : wp (X11_cranks μ) (fun r μ' => μ' = μ ∧ (-2147483648 ≤ r ∧ r ≤ 2147483647) ∧ True) := by
  have hFU := FU_v
  unfold X11_cranks
  exact t_X11_cranks_L4 (l1 := 0) (l2 := 0)   hS (fun r_ hr_ hp_ => by exact ⟨rfl, (by omega), trivial⟩) FU  (by omega) (by omega) trivial (by omega)
set_option maxHeartbeats 4000000 in
set_option maxRecDepth 100000 in
theorem t_X11_count {μs : Mm} {l1 : Int}  (hp_l1 : -2147483648 ≤ l1 ∧ l1 ≤ 2147483647) {μ : Mm} (hS : Sm μs μ) : wp (X11_count l1 μ) (fun r μ' => μ' = μ ∧ (-2147483648 ≤ r ∧ r ≤ 2147483647) ∧ True) := by
  have hFU := FU_v
  unfold X11_count
  refine wp_if (fun g5 => ?_) (fun g5 => ?_)
  · refine wp_calls (t_X11_cranks   hS) (fun v6 hh => ?_)
    obtain ⟨hr7, hp7⟩ := hh
    exact ⟨rfl, (by omega), trivial⟩
  · refine wp_if (fun g8 => ?_) (fun g8 => ?_)
    · exact ⟨rfl, (by have := gO_11_28 hS; have := eqS hS (j := 28) (k := 70) (by unfold scrM; omega); omega), trivial⟩
    · refine wp_if (fun g9 => ?_) (fun g9 => ?_)
      · exact ⟨rfl, (by have := gO_11_13 hS; have := eqS hS (j := 13) (k := 70) (by unfold scrM; omega); omega), trivial⟩
      · refine wp_if (fun g10 => ?_) (fun g10 => ?_)
        · exact ⟨rfl, (by have := gO_11_2 hS; have := eqS hS (j := 2) (k := 70) (by unfold scrM; omega); omega), trivial⟩
        · refine wp_if (fun g11 => ?_) (fun g11 => ?_)
          · exact ⟨rfl, (by have := gO_11_30 hS; have := eqS hS (j := 30) (k := 70) (by unfold scrM; omega); omega), trivial⟩
          · refine wp_if (fun g12 => ?_) (fun g12 => ?_)
            · exact ⟨rfl, (by have := gO_11_31 hS; have := eqS hS (j := 31) (k := 70) (by unfold scrM; omega); omega), trivial⟩
            · refine wp_if (fun g13 => ?_) (fun g13 => ?_)
              · exact ⟨rfl, (by have := gO_11_32 hS; have := eqS hS (j := 32) (k := 70) (by unfold scrM; omega); omega), trivial⟩
              · refine wp_if (fun g14 => ?_) (fun g14 => ?_)
                · exact ⟨rfl, (by have := gO_11_45 hS; have := eqS hS (j := 45) (k := 70) (by unfold scrM; omega); omega), trivial⟩
                · refine wp_if (fun g15 => ?_) (fun g15 => ?_)
                  · refine wp_calls (t_X11_posts   hS) (fun v16 hh => ?_)
                    obtain ⟨hr17, hp17⟩ := hh
                    exact ⟨rfl, (by omega), trivial⟩
                  · exact ⟨rfl, (by omega), trivial⟩
set_option maxHeartbeats 4000000 in
set_option maxRecDepth 100000 in
theorem t_X11_cue {μs : Mm} {l1 : Int} {l2 : Int} {l3 : Int} (hI : Ir μs)  (hp_l1 : -2147483648 ≤ l1 ∧ l1 ≤ 2147483647) (hp_l2 : -2147483648 ≤ l2 ∧ l2 ≤ 2147483647) (hp_l3 : -2147483648 ≤ l3 ∧ l3 ≤ 2147483647) {μ : Mm} (hS : Sm μs μ) : wp (X11_cue l1 l2 l3 μ) (fun r μ' => Sm μs μ' ∧ (-2147483648 ≤ r ∧ r ≤ 2147483647) ∧ True) := by
  have hFU := FU_v
  unfold X11_cue
  refine wp_calls (t_X11_isPlay (l1 := l1)  (by omega) hS) (fun v8 hh => ?_)
  obtain ⟨hr9, hp9⟩ := hh
  refine wp_if (fun g15 => ?_) (fun g15 => ?_)
  · exact ⟨hS, (by omega), trivial⟩
  · refine wp_calls (t_X11_in (l0 := l3) (l1 := 0) (l2 := 2)  (by omega) (by omega) (by omega) hS) (fun v16 hh => ?_)
    obtain ⟨hr17, hp17⟩ := hh
    refine wp_if (fun g21 => ?_) (fun g21 => ?_)
    · exact ⟨hS, (by omega), trivial⟩
    · refine wp_ldv (by have na0 : ((aN 85 : Nat) : Int) = 6 := rfl; omega) (fun v22 q23 => ?_)
      have hrv22 := gA_11_15 hS (l1).toNat
      have pev22 := eqS hS (k := 85) (j := (l1).toNat) (by unfold scrM; omega)
      rw [← q23] at pev22
      replace hrv22 : 0 ≤ v22 ∧ v22 ≤ 8 := by rw [q23]; exact hrv22
      refine wp_calls (t_X11_in (l0 := l2) (l1 := (-1)) (l2 := (iS v22 1))  (by omega) (by omega) (by have := iS_c v22 1; omega) hS) (fun v26 hh => ?_)
      obtain ⟨hr27, hp27⟩ := hh
      refine wp_if (fun g28 => ?_) (fun g28 => ?_)
      · exact ⟨hS, (by have := iS_c v22 1; omega), trivial⟩
      · refine wp_if (fun g29 => ?_) (fun g29 => ?_)
        · refine wp_if (fun g30 => ?_) (fun g30 => ?_)
          · unfold X11_cue_J44
            try dsimp only
            refine wp_call (t_X11_layTimes (l1 := l1) (l2 := (μ 70 31)) hI (by have := iS_c v22 1; omega) (by have := gO_11_31 hS; have := eqS hS (j := 31) (k := 70) (by unfold scrM; omega); have := iS_c v22 1; omega) hS) (fun v37 m38 hh => ?_)
            obtain ⟨h38, hr38, hp38⟩ := hh
            refine wp_if (fun g43 => ?_) (fun g43 => ?_)
            · refine wp_ldv (by have na0 : ((aN 85 : Nat) : Int) = 6 := rfl; have := iS_c v22 1; omega) (fun v44 q45 => ?_)
              have hrv44 := gA_11_15 h38 (l1).toNat
              have pev44 := eqS h38 (k := 85) (j := (l1).toNat) (by unfold scrM; omega)
              rw [← q45] at pev44
              replace hrv44 : 0 ≤ v44 ∧ v44 ≤ 8 := by rw [q45]; exact hrv44
              exact ⟨h38, (by have := iS_c v22 1; omega), trivial⟩
            · refine wp_if (fun g46 => ?_) (fun g46 => ?_)
              · refine wp_ldv (by have := iM_c 8 l1; have := iA_c (iM 8 l1) l2; have na2 : ((aN 83 : Nat) : Int) = 48 := rfl; have := iS_c v22 1; omega) (fun v47 q48 => ?_)
                have hrv47 := gA_11_13 h38 ((iA (iM 8 l1) l2)).toNat
                replace hrv47 : -2147483648 ≤ v47 ∧ v47 ≤ 2147483647 := by rw [q48]; exact hrv47
                exact ⟨h38, (by have := iS_c v22 1; omega), trivial⟩
              · refine wp_if (fun g49 => ?_) (fun g49 => ?_)
                · refine wp_ldv (by have := iM_c 8 l1; have := iA_c (iM 8 l1) l2; have na2 : ((aN 84 : Nat) : Int) = 48 := rfl; have := iS_c v22 1; omega) (fun v50 q51 => ?_)
                  have hrv50 := gA_11_14 h38 ((iA (iM 8 l1) l2)).toNat
                  replace hrv50 : -2147483648 ≤ v50 ∧ v50 ≤ 2147483647 := by rw [q51]; exact hrv50
                  exact ⟨h38, (by have := iS_c v22 1; omega), trivial⟩
                · refine wp_ldv (by have na0 : ((aN 88 : Nat) : Int) = 8 := rfl; have := iS_c v22 1; omega) (fun v52 q53 => ?_)
                  have hrv52 := gA_11_18 h38 (l2).toNat
                  replace hrv52 : -2147483648 ≤ v52 ∧ v52 ≤ 2147483647 := by rw [q53]; exact hrv52
                  exact ⟨h38, (by have := iS_c v22 1; omega), trivial⟩
          · exact ⟨hS, (by have := iS_c v22 1; omega), trivial⟩
        · unfold X11_cue_J44
          try dsimp only
          refine wp_call (t_X11_layTimes (l1 := l1) (l2 := (μ 70 31)) hI (by have := iS_c v22 1; omega) (by have := gO_11_31 hS; have := eqS hS (j := 31) (k := 70) (by unfold scrM; omega); have := iS_c v22 1; omega) hS) (fun v60 m61 hh => ?_)
          obtain ⟨h61, hr61, hp61⟩ := hh
          refine wp_if (fun g66 => ?_) (fun g66 => ?_)
          · refine wp_ldv (by have na0 : ((aN 85 : Nat) : Int) = 6 := rfl; have := iS_c v22 1; omega) (fun v67 q68 => ?_)
            have hrv67 := gA_11_15 h61 (l1).toNat
            have pev67 := eqS h61 (k := 85) (j := (l1).toNat) (by unfold scrM; omega)
            rw [← q68] at pev67
            replace hrv67 : 0 ≤ v67 ∧ v67 ≤ 8 := by rw [q68]; exact hrv67
            exact ⟨h61, (by have := iS_c v22 1; omega), trivial⟩
          · refine wp_if (fun g69 => ?_) (fun g69 => ?_)
            · refine wp_ldv (by have := iM_c 8 l1; have := iA_c (iM 8 l1) l2; have na2 : ((aN 83 : Nat) : Int) = 48 := rfl; have := iS_c v22 1; omega) (fun v70 q71 => ?_)
              have hrv70 := gA_11_13 h61 ((iA (iM 8 l1) l2)).toNat
              replace hrv70 : -2147483648 ≤ v70 ∧ v70 ≤ 2147483647 := by rw [q71]; exact hrv70
              exact ⟨h61, (by have := iS_c v22 1; omega), trivial⟩
            · refine wp_if (fun g72 => ?_) (fun g72 => ?_)
              · refine wp_ldv (by have := iM_c 8 l1; have := iA_c (iM 8 l1) l2; have na2 : ((aN 84 : Nat) : Int) = 48 := rfl; have := iS_c v22 1; omega) (fun v73 q74 => ?_)
                have hrv73 := gA_11_14 h61 ((iA (iM 8 l1) l2)).toNat
                replace hrv73 : -2147483648 ≤ v73 ∧ v73 ≤ 2147483647 := by rw [q74]; exact hrv73
                exact ⟨h61, (by have := iS_c v22 1; omega), trivial⟩
              · refine wp_ldv (by have na0 : ((aN 88 : Nat) : Int) = 8 := rfl; have := iS_c v22 1; omega) (fun v75 q76 => ?_)
                have hrv75 := gA_11_18 h61 (l2).toNat
                replace hrv75 : -2147483648 ≤ v75 ∧ v75 ≤ 2147483647 := by rw [q76]; exact hrv75
                exact ⟨h61, (by have := iS_c v22 1; omega), trivial⟩
