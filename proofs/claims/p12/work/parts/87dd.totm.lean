/-! TOTALITY of the reference, by program (wip/gen/totm.py) -/
set_option maxHeartbeats 4000000 in
set_option maxRecDepth 100000 in
theorem t_X11_skip {μs : Mm} {l1 : Int} {l2 : Int} {l3 : Int} (hI : Ir μs)  (hp_l1 : -2147483648 ≤ l1 ∧ l1 ≤ 2147483647) (hp_l2 : -2147483648 ≤ l2 ∧ l2 ≤ 2147483647) (hp_l3 : -2147483648 ≤ l3 ∧ l3 ≤ 2147483647) {μ : Mm} (hS : Sm μs μ) : wp (X11_skip l1 l2 l3 μ) (fun r μ' => Sm μs μ' ∧ (-2147483648 ≤ r ∧ r ≤ 2147483647) ∧ True) := by
  have hFU := FU_v
  unfold X11_skip
  refine wp_call (t_X11_isReady (l1 := l1) hI (by omega) hS) (fun v9 m10 hh => ?_)
  obtain ⟨h10, hr10, hp10⟩ := hh
  refine wp_if (fun g17 => ?_) (fun g17 => ?_)
  · exact ⟨h10, (by omega), trivial⟩
  · refine wp_calls (t_X11_in (l0 := l2) (l1 := 1) (l2 := (iS (m10 70 37) 1))  (by omega) (by omega) (by have := gO_11_37 h10; have := iS_c (m10 70 37) 1; omega) h10) (fun v18 hh => ?_)
    obtain ⟨hr19, hp19⟩ := hh
    refine wp_if (fun g24 => ?_) (fun g24 => ?_)
    · exact ⟨h10, (by have := gO_11_37 h10; have := iS_c (m10 70 37) 1; omega), trivial⟩
    · refine wp_calls (t_X11_in (l0 := l3) (l1 := l2) (l2 := (iS (m10 70 37) 1))  (by have := gO_11_37 h10; have := iS_c (m10 70 37) 1; omega) (by have := gO_11_37 h10; have := iS_c (m10 70 37) 1; omega) (by have := gO_11_37 h10; have := iS_c (m10 70 37) 1; omega) h10) (fun v25 hh => ?_)
      obtain ⟨hr26, hp26⟩ := hh
      refine wp_if (fun g29 => ?_) (fun g29 => ?_)
      · exact ⟨h10, (by have := gO_11_37 h10; have := iS_c (m10 70 37) 1; omega), trivial⟩
      · refine wp_ldv (by have := gO_11_37 h10; have na1 : ((aN 88 : Nat) : Int) = 8 := rfl; have := iS_c (m10 70 37) 1; omega) (fun v30 q31 => ?_)
        have hrv30 := gA_11_18 h10 (l3).toNat
        replace hrv30 : -2147483648 ≤ v30 ∧ v30 ≤ 2147483647 := by rw [q31]; exact hrv30
        refine wp_ldv (by have := gO_11_37 h10; have := iS_c l2 1; have na2 : ((aN 88 : Nat) : Int) = 8 := rfl; have := iS_c (m10 70 37) 1; omega) (fun v33 q34 => ?_)
        have hrv33 := gA_11_18 h10 ((iS l2 1)).toNat
        replace hrv33 : -2147483648 ≤ v33 ∧ v33 ≤ 2147483647 := by rw [q34]; exact hrv33
        exact t_X11_skip_L70 (l2 := l2) (l3 := l3) (l4 := (iS v30 v33)) (l5 := (m10 70 37)) (l6 := 0) (l7 := 0) (l8 := 0)  (by have := gO_11_37 h10; have := iS_c (m10 70 37) 1; omega) (by have := gO_11_37 h10; have := iS_c (m10 70 37) 1; omega) (by have := gO_11_37 h10; have := iS_c v30 v33; have := iS_c (m10 70 37) 1; omega) h10 (fun r_ hr_ hp_ => by exact ⟨h10, (by have := gO_11_37 h10; have := iS_c (m10 70 37) 1; omega), trivial⟩) FU  (by have := gO_11_37 h10; have := iS_c (m10 70 37) 1; omega) (by have := gO_11_37 h10; have := iS_c (m10 70 37) 1; omega) (by have := gO_11_37 h10; have := iS_c (m10 70 37) 1; omega) (by have := gO_11_37 h10; have := iS_c (m10 70 37) 1; omega) trivial (by have := gO_11_37 h10; have := iS_c (m10 70 37) 1; omega)
set_option maxHeartbeats 4000000 in
set_option maxRecDepth 100000 in
theorem t_X11_nights_L38 {μs : Mm} {l1 : Int} {l2 : Int} {l3 : Int} (hI : Ir μs)  (hp_l1 : 0 ≤ l1 ∧ l1 ≤ 4) (hp_l2 : 1 ≤ l2 ∧ l2 ≤ 30) (hp_l3 : -2147483648 ≤ l3 ∧ l3 ≤ 2147483647) {k102 : Int → Int → Mm → Rs} {Q : Int → Mm → Prop} (hk_k102 : ∀ (a0 a1 : Int) (μ : Mm), Sm μs μ → (-2147483648 ≤ a0 ∧ a0 ≤ 2147483647) → (-2147483648 ≤ a1 ∧ a1 ≤ 2147483647) → True → wp (k102 a0 a1 μ) Q) (hQ : ∀ r μ, Sm μs μ → (-2147483648 ≤ r ∧ r ≤ 2147483647) → True → Q r μ) : ∀ (n : Nat) {l4 l5 l6 : Int} {μ : Mm}, Sm μs μ → (-2147483648 ≤ l4 ∧ l4 ≤ 2147483647) → (-2147483648 ≤ l5 ∧ l5 ≤ 2147483647) → (0 ≤ l6 ∧ l6 ≤ 30) → True → 30 - l6 + 1 ≤ ((n : Nat) : Int) → wp (X11_nights_L38 l1 l2 l3 k102 n l4 l5 l6 μ) Q := by
  have hFU := FU_v
  intro n
  induction n with
  | zero => intro l4 l5 l6 μ hS hv_l4 hv_l5 hv_l6 hi hm; exact absurd hm (by  have : ((0 : Nat) : Int) = 0 := rfl; omega)
  | succ n ih =>
    intro l4 l5 l6 μ hS hv_l4 hv_l5 hv_l6 hi hm
    have hn1 : ((n + 1 : Nat) : Int) = ((n : Nat) : Int) + 1 := rfl
    rw [X11_nights_L38]
    refine wp_if (fun g21 => ?_) (fun g21 => ?_)
    · exact hk_k102 l4 l5 μ hS (by omega) (by omega) trivial
    · refine wp_call (t_X11_layTimes (l1 := l1) (l2 := l6) hI (by omega) (by omega) hS) (fun v22 m23 hh => ?_)
      obtain ⟨h23, hr23, hp23⟩ := hh
      refine wp_calls (t_X11_book   h23) (fun v32 hh => ?_)
      obtain ⟨hr33, hp33⟩ := hh
      refine wp_call (t_X11_go (l1 := v32) hI (by omega) h23 hp33) (fun v40 m41 hh => ?_)
      obtain ⟨h41, hr41, hp41⟩ := hh
      refine wp_if (fun g46 => ?_) (fun g46 => ?_)
      · exact hQ _ _ h41 (by omega) trivial
      · refine wp_calls (t_X11_book   h41) (fun v47 hh => ?_)
        obtain ⟨hr48, hp48⟩ := hh
        refine wp_calls (t_X11_tellOf (l1 := v47) (l2 := 0)  (by omega) (by omega) h41 hp48) (fun v51 hh => ?_)
        obtain ⟨hr52, hp52⟩ := hh
        refine wp_if (fun g53 => ?_) (fun g53 => ?_)
        · exact ih h41 (by omega) (by omega) (by have := iA_c l6 1; omega) trivial (by have := iA_c l6 1; omega)
        · refine wp_if (fun g54 => ?_) (fun g54 => ?_)
          · exact ih h41 (by omega) (by omega) (by have := iA_c l6 1; omega) trivial (by have := iA_c l6 1; omega)
          · exact ih h41 (by omega) (by omega) (by have := iA_c l6 1; omega) trivial (by have := iA_c l6 1; omega)
set_option maxHeartbeats 4000000 in
set_option maxRecDepth 100000 in
theorem t_X11_nights {μs : Mm} {l1 : Int} {l2 : Int} {l3 : Int} (hI : Ir μs)  (hp_l1 : -2147483648 ≤ l1 ∧ l1 ≤ 2147483647) (hp_l2 : -2147483648 ≤ l2 ∧ l2 ≤ 2147483647) (hp_l3 : -2147483648 ≤ l3 ∧ l3 ≤ 2147483647) {μ : Mm} (hS : Sm μs μ) : wp (X11_nights l1 l2 l3 μ) (fun r μ' => Sm μs μ' ∧ (-2147483648 ≤ r ∧ r ≤ 2147483647) ∧ True) := by
  have hFU := FU_v
  unfold X11_nights
  refine wp_call (t_X11_isReady (l1 := l1) hI (by omega) hS) (fun v10 m11 hh => ?_)
  obtain ⟨h11, hr11, hp11⟩ := hh
  refine wp_if (fun g19 => ?_) (fun g19 => ?_)
  · exact ⟨h11, (by omega), trivial⟩
  · refine wp_calls (t_X11_in (l0 := l2) (l1 := 1) (l2 := 30)  (by omega) (by omega) (by omega) h11) (fun v20 hh => ?_)
    obtain ⟨hr21, hp21⟩ := hh
    refine wp_if (fun g27 => ?_) (fun g27 => ?_)
    · exact ⟨h11, (by omega), trivial⟩
    · refine wp_calls (t_X11_in (l0 := l3) (l1 := 0) (l2 := 1)  (by omega) (by omega) (by omega) h11) (fun v28 hh => ?_)
      obtain ⟨hr29, hp29⟩ := hh
      refine wp_if (fun g33 => ?_) (fun g33 => ?_)
      · exact ⟨h11, (by omega), trivial⟩
      · refine t_X11_nights_L38 (l1 := l1) (l2 := l2) (l3 := l3) (l4 := (-1)) (l5 := 0) (l6 := 0) hI (by omega) (by omega) (by omega) (fun v34 v35 m36 h36 hrv34 hrv35 hp36 => ?_) (fun r_ m_ h_ hr_ hp_ => by exact ⟨h_, (by omega), trivial⟩) FU h11 (by omega) (by omega) (by omega) trivial (by omega)
        refine wp_if (fun g37 => ?_) (fun g37 => ?_)
        · exact ⟨h36, (by omega), trivial⟩
        · exact ⟨h36, (by omega), trivial⟩
set_option maxHeartbeats 4000000 in
set_option maxRecDepth 100000 in
theorem t_X11_fits_L15 {μs : Mm} {l1 : Int} {l2 : Int}  (hp_l1 : 0 ≤ l1 ∧ l1 ≤ 4) (hp_l2 : 0 ≤ l2 ∧ l2 ≤ 9) {μ : Mm} (hS : Sm μs μ) {k87 : Int → Mm → Rs} {Q : Int → Mm → Prop} (hk_k87 : ∀ (a0 : Int), (-2147483648 ≤ a0 ∧ a0 ≤ 2147483647) → True → wp (k87 a0 μ) Q) : ∀ (n : Nat) {l3 l4 : Int} , (-2147483648 ≤ l3 ∧ l3 ≤ 2147483647) → (0 ≤ l4 ∧ l4 ≤ 8) → True → 8 - l4 + 1 ≤ ((n : Nat) : Int) → wp (X11_fits_L15 l1 l2 k87 n l3 l4 μ) Q := by
  have hFU := FU_v
  intro n
  induction n with
  | zero => intro l3 l4 hv_l3 hv_l4 hi hm; exact absurd hm (by  have : ((0 : Nat) : Int) = 0 := rfl; omega)
  | succ n ih =>
    intro l3 l4 hv_l3 hv_l4 hi hm
    have hn1 : ((n + 1 : Nat) : Int) = ((n : Nat) : Int) + 1 := rfl
    rw [X11_fits_L15]
    refine wp_if (fun g15 => ?_) (fun g15 => ?_)
    · exact hk_k87 l3  (by have := gO_11_37 hS; omega) trivial
    · refine wp_if (fun g16 => ?_) (fun g16 => ?_)
      · refine wp_ldv (by have := gO_11_37 hS; have := iM_c 8 l1; have := iA_c (iM 8 l1) l4; have na3 : ((aN 83 : Nat) : Int) = 48 := rfl; omega) (fun v17 q18 => ?_)
        have hrv17 := gA_11_13 hS ((iA (iM 8 l1) l4)).toNat
        replace hrv17 : -2147483648 ≤ v17 ∧ v17 ≤ 2147483647 := by rw [q18]; exact hrv17
        refine wp_ldv (by have := gO_11_37 hS; have na1 : ((aN 94 : Nat) : Int) = 10 := rfl; omega) (fun v25 q26 => ?_)
        have hrv25 := gA_11_24 hS (l2).toNat
        replace hrv25 : 0 ≤ v25 ∧ v25 ≤ 7 := by rw [q26]; exact hrv25
        refine wp_if (fun g32 => ?_) (fun g32 => ?_)
        · refine wp_ldv (by have := gO_11_37 hS; have na1 : ((aN 93 : Nat) : Int) = 10 := rfl; omega) (fun v33 q34 => ?_)
          have hrv33 := gA_11_23 hS (l2).toNat
          replace hrv33 : 0 ≤ v33 ∧ v33 ≤ 999 := by rw [q34]; exact hrv33
          refine wp_ldv (by have := gO_11_37 hS; have na1 : ((aN 91 : Nat) : Int) = 8 := rfl; omega) (fun v39 q40 => ?_)
          have hrv39 := gA_11_21 hS (l4).toNat
          replace hrv39 : -2147483648 ≤ v39 ∧ v39 ≤ 2147483647 := by rw [q40]; exact hrv39
          refine wp_ldv (by have := gO_11_37 hS; have na1 : ((aN 92 : Nat) : Int) = 8 := rfl; omega) (fun v44 q45 => ?_)
          have hrv44 := gA_11_22 hS (l4).toNat
          replace hrv44 : -2147483648 ≤ v44 ∧ v44 ≤ 2147483647 := by rw [q45]; exact hrv44
          refine wp_calls (t_X11_in (l0 := v33) (l1 := v39) (l2 := v44)  (by have := gO_11_37 hS; omega) (by have := gO_11_37 hS; omega) (by have := gO_11_37 hS; omega) hS) (fun v48 hh => ?_)
          obtain ⟨hr49, hp49⟩ := hh
          refine wp_if (fun g50 => ?_) (fun g50 => ?_)
          · exact ih  (by have := gO_11_37 hS; omega) (by have := gO_11_37 hS; have := iA_c l4 1; omega) trivial (by have := gO_11_37 hS; have := iA_c l4 1; omega)
          · exact ih  (by have := gO_11_37 hS; omega) (by have := gO_11_37 hS; have := iA_c l4 1; omega) trivial (by have := gO_11_37 hS; have := iA_c l4 1; omega)
        · exact ih  (by have := gO_11_37 hS; omega) (by have := gO_11_37 hS; have := iA_c l4 1; omega) trivial (by have := gO_11_37 hS; have := iA_c l4 1; omega)
      · exact ih  (by have := gO_11_37 hS; omega) (by have := gO_11_37 hS; have := iA_c l4 1; omega) trivial (by have := gO_11_37 hS; have := iA_c l4 1; omega)
set_option maxHeartbeats 4000000 in
set_option maxRecDepth 100000 in
theorem t_X11_fits_L2 {μs : Mm} {l1 : Int}  (hp_l1 : 0 ≤ l1 ∧ l1 ≤ 4) {μ : Mm} (hS : Sm μs μ) {Q : Int → Mm → Prop} (hQ : ∀ r, (0 ≤ r ∧ r ≤ 1) → True → Q r μ) : ∀ (n : Nat) {l2 : Int} , (0 ≤ l2 ∧ l2 ≤ 10) → True → 10 - l2 + 1 ≤ ((n : Nat) : Int) → wp (X11_fits_L2 l1 n l2 μ) Q := by
  have hFU := FU_v
  intro n
  induction n with
  | zero => intro l2 hv_l2 hi hm; exact absurd hm (by  have : ((0 : Nat) : Int) = 0 := rfl; omega)
  | succ n ih =>
    intro l2 hv_l2 hi hm
    have hn1 : ((n + 1 : Nat) : Int) = ((n : Nat) : Int) + 1 := rfl
    rw [X11_fits_L2]
    refine wp_if (fun g5 => ?_) (fun g5 => ?_)
    · exact hQ _ (by have := gO_11_45 hS; have := eqS hS (j := 45) (k := 70) (by unfold scrM; omega); omega) trivial
    · refine t_X11_fits_L15 (l1 := l1) (l2 := l2) (l3 := 0) (l4 := 0)  (by have := gO_11_45 hS; have := eqS hS (j := 45) (k := 70) (by unfold scrM; omega); omega) (by have := gO_11_45 hS; have := eqS hS (j := 45) (k := 70) (by unfold scrM; omega); omega) hS (fun v6 hrv6 hp7 => ?_) FU  (by have := gO_11_45 hS; have := eqS hS (j := 45) (k := 70) (by unfold scrM; omega); omega) (by have := gO_11_45 hS; have := eqS hS (j := 45) (k := 70) (by unfold scrM; omega); omega) trivial (by have := gO_11_45 hS; have := eqS hS (j := 45) (k := 70) (by unfold scrM; omega); omega)
      refine wp_if (fun g8 => ?_) (fun g8 => ?_)
      · exact hQ _ (by have := gO_11_45 hS; have := eqS hS (j := 45) (k := 70) (by unfold scrM; omega); omega) trivial
      · exact ih  (by have := gO_11_45 hS; have := eqS hS (j := 45) (k := 70) (by unfold scrM; omega); have := iA_c l2 1; omega) trivial (by have := gO_11_45 hS; have := eqS hS (j := 45) (k := 70) (by unfold scrM; omega); have := iA_c l2 1; omega)
set_option maxHeartbeats 4000000 in
set_option maxRecDepth 100000 in
theorem t_X11_fits {μs : Mm} {l1 : Int}  (hp_l1 : 0 ≤ l1 ∧ l1 ≤ 4) {μ : Mm} (hS : Sm μs μ) : wp (X11_fits l1 μ) (fun r μ' => μ' = μ ∧ (0 ≤ r ∧ r ≤ 1) ∧ True) := by
  have hFU := FU_v
  unfold X11_fits
  exact t_X11_fits_L2 (l1 := l1) (l2 := 0)  (by omega) hS (fun r_ hr_ hp_ => by exact ⟨rfl, (by omega), trivial⟩) FU  (by omega) trivial (by omega)
set_option maxHeartbeats 4000000 in
set_option maxRecDepth 100000 in
theorem t_X11_boy_L41 {μs : Mm} {l1 : Int} {l2 : Int} {l3 : Int} {l4 : Int} (hI : Ir μs)  (hp_l1 : -2147483648 ≤ l1 ∧ l1 ≤ 2147483647) (hp_l2 : -2147483648 ≤ l2 ∧ l2 ≤ 2147483647) (hp_l3 : -2147483648 ≤ l3 ∧ l3 ≤ 2147483647) (hp_l4 : -2147483648 ≤ l4 ∧ l4 ≤ 2147483647) {k70 : Mm → Rs} {Q : Int → Mm → Prop} (hk_k70 : ∀ (μ : Mm), Sm μs μ → True → wp (k70 μ) Q) : ∀ (n : Nat) {l5 : Int} {μ : Mm}, Sm μs μ → (0 ≤ l5 ∧ l5 ≤ 256) → True → 256 - l5 + 1 ≤ ((n : Nat) : Int) → wp (X11_boy_L41 l1 l2 l3 l4 k70 n l5 μ) Q := by
  have hFU := FU_v
  intro n
  induction n with
  | zero => intro l5 μ hS hv_l5 hi hm; exact absurd hm (by  have : ((0 : Nat) : Int) = 0 := rfl; omega)
  | succ n ih =>
    intro l5 μ hS hv_l5 hi hm
    have hn1 : ((n + 1 : Nat) : Int) = ((n : Nat) : Int) + 1 := rfl
    rw [X11_boy_L41]
    refine wp_calls (t_X11_all   hS) (fun v11 hh => ?_)
    obtain ⟨hr12, hp12⟩ := hh
    refine wp_if (fun g16 => ?_) (fun g16 => ?_)
    · exact hk_k70  μ hS  trivial
    · refine wp_call (t_X11_leastOf (l1 := 0) (l2 := l5) hI (by omega) (by omega) hS) (fun v17 m18 hh => ?_)
      obtain ⟨h18, hr18, hp18⟩ := hh
      refine wp_stv (P := Sm μs) (by have na0 : ((aN 95 : Nat) : Int) = 256 := rfl; omega) (pA_11_25  h18 (by unfold scrM; omega) (by omega)) (fun m20 h20 he20 => ?_)
      exact ih h20 (by have := iA_c l5 1; omega) trivial (by have := iA_c l5 1; omega)
set_option maxHeartbeats 4000000 in
set_option maxRecDepth 100000 in
theorem t_X11_boy_L86 {μs : Mm} {l4 : Int} (hI : Ir μs)  (hp_l4 : -2147483648 ≤ l4 ∧ l4 ≤ 2147483647) {k165 : Int → Int → Mm → Rs} {Q : Int → Mm → Prop} (hk_k165 : ∀ (a0 a1 : Int) (μ : Mm), Sm μs μ → (-2147483648 ≤ a0 ∧ a0 ≤ 2147483647) → (-2147483648 ≤ a1 ∧ a1 ≤ 2147483647) → True → wp (k165 a0 a1 μ) Q) : ∀ (n : Nat) {l5 l6 l7 : Int} {μ : Mm}, Sm μs μ → (-2147483648 ≤ l5 ∧ l5 ≤ 2147483647) → (-2147483648 ≤ l6 ∧ l6 ≤ 2147483647) → (0 ≤ l7 ∧ l7 ≤ 256) → True → 256 - l7 + 1 ≤ ((n : Nat) : Int) → wp (X11_boy_L86 l4 k165 n l5 l6 l7 μ) Q := by
  have hFU := FU_v
  intro n
  induction n with
  | zero => intro l5 l6 l7 μ hS hv_l5 hv_l6 hv_l7 hi hm; exact absurd hm (by  have : ((0 : Nat) : Int) = 0 := rfl; omega)
  | succ n ih =>
    intro l5 l6 l7 μ hS hv_l5 hv_l6 hv_l7 hi hm
    have hn1 : ((n + 1 : Nat) : Int) = ((n : Nat) : Int) + 1 := rfl
    rw [X11_boy_L86]
    refine wp_calls (t_X11_all   hS) (fun v15 hh => ?_)
    obtain ⟨hr16, hp16⟩ := hh
    refine wp_if (fun g22 => ?_) (fun g22 => ?_)
    · exact hk_k165 l5 l6 μ hS (by omega) (by omega) trivial
    · refine wp_call (t_X11_leastOf (l1 := 0) (l2 := l7) hI (by omega) (by omega) hS) (fun v23 m24 hh => ?_)
      obtain ⟨h24, hr24, hp24⟩ := hh
      refine wp_calls (t_X11_all   h24) (fun v28 hh => ?_)
      obtain ⟨hr29, hp29⟩ := hh
      refine wp_ldv (by have := bX_r l7 (-1); have := bA_le (bX l7 (-1)) (a := v28) (by omega); have na2 : ((aN 95 : Nat) : Int) = 256 := rfl; omega) (fun v31 q32 => ?_)
      have hrv31 := gA_11_25 h24 ((bA v28 (bX l7 (-1)))).toNat
      replace hrv31 : -2147483648 ≤ v31 ∧ v31 ≤ 2147483647 := by rw [q32]; exact hrv31
      refine wp_if (fun g33 => ?_) (fun g33 => ?_)
      · exact ih h24 (by omega) (by omega) (by have := iA_c l7 1; omega) trivial (by have := iA_c l7 1; omega)
      · refine wp_if (fun g34 => ?_) (fun g34 => ?_)
        · exact ih h24 (by omega) (by omega) (by have := iA_c l7 1; omega) trivial (by have := iA_c l7 1; omega)
        · refine wp_if (fun g35 => ?_) (fun g35 => ?_)
          · exact ih h24 (by omega) (by have := iA_c v23 v31; omega) (by have := iA_c l7 1; omega) trivial (by have := iA_c v23 v31; have := iA_c l7 1; omega)
          · refine wp_if (fun g36 => ?_) (fun g36 => ?_)
            · exact ih h24 (by have := iA_c v23 v31; omega) (by have := iA_c v23 v31; omega) (by have := iA_c l7 1; have := iA_c v23 v31; omega) trivial (by have := iA_c l7 1; have := iA_c v23 v31; omega)
            · exact ih h24 (by have := iA_c v23 v31; omega) (by have := iA_c v23 v31; omega) (by have := iA_c l7 1; have := iA_c v23 v31; omega) trivial (by have := iA_c v23 v31; have := iA_c l7 1; omega)
set_option maxHeartbeats 4000000 in
set_option maxRecDepth 100000 in
theorem t_X11_boy {μs : Mm} {l1 : Int} {l2 : Int} {l3 : Int} {l4 : Int} (hI : Ir μs)  (hp_l1 : -2147483648 ≤ l1 ∧ l1 ≤ 2147483647) (hp_l2 : -2147483648 ≤ l2 ∧ l2 ≤ 2147483647) (hp_l3 : -2147483648 ≤ l3 ∧ l3 ≤ 2147483647) (hp_l4 : -2147483648 ≤ l4 ∧ l4 ≤ 2147483647) {μ : Mm} (hS : Sm μs μ) : wp (X11_boy l1 l2 l3 l4 μ) (fun r μ' => Sm μs μ' ∧ (-2147483648 ≤ r ∧ r ≤ 2147483647) ∧ True) := by
  have hFU := FU_v
  unfold X11_boy
  refine wp_call (t_X11_isReady (l1 := l1) hI (by omega) hS) (fun v15 m16 hh => ?_)
  obtain ⟨h16, hr16, hp16⟩ := hh
  refine wp_if (fun g29 => ?_) (fun g29 => ?_)
  · exact ⟨h16, (by omega), trivial⟩
  · refine wp_calls (t_X11_isOpen (l1 := l2)  (by omega) h16) (fun v30 hh => ?_)
    obtain ⟨hr31, hp31⟩ := hh
    refine wp_if (fun g42 => ?_) (fun g42 => ?_)
    · exact ⟨h16, (by omega), trivial⟩
    · refine wp_calls (t_X11_in (l0 := l3) (l1 := 1) (l2 := 9)  (by omega) (by omega) (by omega) h16) (fun v43 hh => ?_)
      obtain ⟨hr44, hp44⟩ := hh
      refine wp_if (fun g53 => ?_) (fun g53 => ?_)
      · exact ⟨h16, (by omega), trivial⟩
      · refine wp_calls (t_X11_in (l0 := l4) (l1 := 0) (l2 := 1)  (by omega) (by omega) (by omega) h16) (fun v54 hh => ?_)
        obtain ⟨hr55, hp55⟩ := hh
        refine wp_if (fun g62 => ?_) (fun g62 => ?_)
        · exact ⟨h16, (by omega), trivial⟩
        · refine t_X11_boy_L41 (l1 := l1) (l2 := l2) (l3 := l3) (l4 := l4) (l5 := 0) hI (by omega) (by omega) (by omega) (by omega) (fun m63 h63  hp63 => ?_) FU h16 (by omega) trivial (by omega)
          refine wp_call (t_X11_lay (l1 := l1) (l2 := l2) (l3 := l3) hI (by omega) (by omega) (by omega) h63 (by omega)) (fun v69 m70 hh => ?_)
          obtain ⟨h70, hr70, hp70⟩ := hh
          refine t_X11_boy_L86 (l4 := l4) (l5 := (-1)) (l6 := 0) (l7 := 0) hI (by omega) (fun v74 v75 m76 h76 hrv74 hrv75 hp76 => ?_) FU h70 (by omega) (by omega) (by omega) trivial (by omega)
          refine wp_if (fun g77 => ?_) (fun g77 => ?_)
          · exact ⟨h76, (by omega), trivial⟩
          · refine wp_if (fun g78 => ?_) (fun g78 => ?_)
            · exact ⟨h76, (by omega), trivial⟩
            · exact ⟨h76, (by omega), trivial⟩
set_option maxHeartbeats 4000000 in
set_option maxRecDepth 100000 in
theorem t_X11_walk_L50 {μs : Mm} {l2 : Int} {l3 : Int}  (hp_l2 : -2147483648 ≤ l2 ∧ l2 ≤ 2147483647) (hp_l3 : -2147483648 ≤ l3 ∧ l3 ≤ 2147483647) {μ : Mm} (hS : Sm μs μ) (hO : OD l2 (μ 70 37)) {k124 : Int → Int → Mm → Rs} {Q : Int → Mm → Prop} (hk_k124 : ∀ (a0 a1 : Int), (-2147483648 ≤ a0 ∧ a0 ≤ 2147483647) → (-2147483648 ≤ a1 ∧ a1 ≤ 2147483647) → True → wp (k124 a0 a1 μ) Q) : ∀ (n : Nat) {l4 l5 l6 l7 : Int} , (0 ≤ l4 ∧ l4 ≤ 8) → (-2147483648 ≤ l5 ∧ l5 ≤ 2147483647) → (-2147483648 ≤ l6 ∧ l6 ≤ 2147483647) → (0 ≤ l7 ∧ l7 ≤ 8) → True → 8 - l7 + 1 ≤ ((n : Nat) : Int) → wp (X11_walk_L50 l2 l3 k124 n l4 l5 l6 l7 μ) Q := by
  have hFU := FU_v
  intro n
  induction n with
  | zero => intro l4 l5 l6 l7 hv_l4 hv_l5 hv_l6 hv_l7 hi hm; exact absurd hm (by  have : ((0 : Nat) : Int) = 0 := rfl; omega)
  | succ n ih =>
    intro l4 l5 l6 l7 hv_l4 hv_l5 hv_l6 hv_l7 hi hm
    have hn1 : ((n + 1 : Nat) : Int) = ((n : Nat) : Int) + 1 := rfl
    rw [X11_walk_L50]
    refine wp_if (fun g15 => ?_) (fun g15 => ?_)
    · exact hk_k124 l5 l6  (by have := gO_11_37 hS; omega) (by have := gO_11_37 hS; omega) trivial
    · refine wp_calls (t_X11_nth (l1 := l2) (l2 := l7)  (by have := gO_11_37 hS; omega) (by have := gO_11_37 hS; omega) hS (by have := gO_11_37 hS; omega)) (fun v16 hh => ?_)
      obtain ⟨hr17, hp17⟩ := hh
      have hodv16 := hp17 hO
      refine wp_ldv (by have := gO_11_37 hS; have := iM_c 8 l4; have := iA_c (iM 8 l4) v16; have na3 : ((aN 89 : Nat) : Int) = 72 := rfl; omega) (fun v23 q24 => ?_)
      have hrv23 := gA_11_19 hS ((iA (iM 8 l4) v16)).toNat
      replace hrv23 : -2147483648 ≤ v23 ∧ v23 ≤ 2147483647 := by rw [q24]; exact hrv23
      refine wp_ldv (by have := gO_11_37 hS; have na1 : ((aN 92 : Nat) : Int) = 8 := rfl; omega) (fun v29 q30 => ?_)
      have hrv29 := gA_11_22 hS (v16).toNat
      replace hrv29 : -2147483648 ≤ v29 ∧ v29 ≤ 2147483647 := by rw [q30]; exact hrv29
      refine wp_ldv (by have := gO_11_37 hS; have na1 : ((aN 91 : Nat) : Int) = 8 := rfl; omega) (fun v34 q35 => ?_)
      have hrv34 := gA_11_21 hS (v16).toNat
      replace hrv34 : -2147483648 ≤ v34 ∧ v34 ≤ 2147483647 := by rw [q35]; exact hrv34
      refine wp_ldv (by have := gO_11_37 hS; have na1 : ((aN 90 : Nat) : Int) = 8 := rfl; omega) (fun v38 q39 => ?_)
      have hrv38 := gA_11_20 hS (v16).toNat
      replace hrv38 : -2147483648 ≤ v38 ∧ v38 ≤ 2147483647 := by rw [q39]; exact hrv38
      refine wp_ltv (fun v41 q42 => ?_)
      exact ih  (by have := gO_11_37 hS; omega) (by have := gO_11_37 hS; have := iA_c l5 v23; omega) (by have := gO_11_37 hS; have := iS_c v29 v34; have := iS_c (iS v29 v34) v38; have := iA_c l6 (iS (iS v29 v34) v38); omega) (by have := gO_11_37 hS; have := iA_c l7 1; omega) trivial (by have := gO_11_37 hS; have := iA_c l5 v23; have := iA_c l7 1; have := iS_c v29 v34; have := iS_c (iS v29 v34) v38; have := iA_c l6 (iS (iS v29 v34) v38); omega)
set_option maxHeartbeats 4000000 in
set_option maxRecDepth 100000 in
theorem t_X11_walk {μs : Mm} {l1 : Int} {l2 : Int} {l3 : Int} (hI : Ir μs)  (hp_l1 : -2147483648 ≤ l1 ∧ l1 ≤ 2147483647) (hp_l2 : -2147483648 ≤ l2 ∧ l2 ≤ 2147483647) (hp_l3 : -2147483648 ≤ l3 ∧ l3 ≤ 2147483647) {μ : Mm} (hS : Sm μs μ) : wp (X11_walk l1 l2 l3 μ) (fun r μ' => Sm μs μ' ∧ (-2147483648 ≤ r ∧ r ≤ 2147483647) ∧ True) := by
  have hFU := FU_v
  unfold X11_walk
  refine wp_call (t_X11_isReady (l1 := l1) hI (by omega) hS) (fun v12 m13 hh => ?_)
  obtain ⟨h13, hr13, hp13⟩ := hh
  refine wp_if (fun g23 => ?_) (fun g23 => ?_)
  · exact ⟨h13, (by omega), trivial⟩
  · refine wp_calls (t_X11_isOrder (l1 := l2)  (by omega) h13) (fun v24 hh => ?_)
    obtain ⟨hr25, hp25⟩ := hh
    refine wp_if (fun g33 => ?_) (fun g33 => ?_)
    · exact ⟨h13, (by omega), trivial⟩
    · refine wp_calls (t_X11_in (l0 := l3) (l1 := 0) (l2 := 1)  (by omega) (by omega) (by omega) h13) (fun v34 hh => ?_)
      obtain ⟨hr35, hp35⟩ := hh
      refine wp_if (fun g41 => ?_) (fun g41 => ?_)
      · exact ⟨h13, (by omega), trivial⟩
      · refine wp_call (t_X11_go (l1 := l2) hI (by omega) h13 (hp25.resolve_left g33)) (fun v42 m43 hh => ?_)
        obtain ⟨h43, hr43, hp43⟩ := hh
        refine wp_if (fun g47 => ?_) (fun g47 => ?_)
        · exact ⟨h43, (by omega), trivial⟩
        · refine t_X11_walk_L50 (l2 := l2) (l3 := l3) (l4 := (m43 70 37)) (l5 := 0) (l6 := 0) (l7 := 0)  (by omega) (by omega) h43 (by have e_ : m43 70 37 = m13 70 37 := (by have := gO_11_37 h43; have := gO_11_37 h13; omega); rw [e_]; exact (hp25.resolve_left g33)) (fun v48 v49 hrv48 hrv49 hp50 => ?_) FU  (by have := gO_11_37 h43; have := gO_11_37 h13; omega) (by omega) (by omega) (by omega) trivial (by have := gO_11_37 h43; have := gO_11_37 h13; omega)
          refine wp_if (fun g51 => ?_) (fun g51 => ?_)
          · exact ⟨h43, (by omega), trivial⟩
          · exact ⟨h43, (by omega), trivial⟩
set_option maxHeartbeats 4000000 in
set_option maxRecDepth 100000 in
theorem t_X11_mend_L49 {μs : Mm} {l2 : Int} {l3 : Int}  (hp_l2 : 0 ≤ l2 ∧ l2 ≤ 8) (hp_l3 : -2147483648 ≤ l3 ∧ l3 ≤ 2147483647) {μ : Mm} (hS : Sm μs μ) {k150 : Int → Int → Int → Int → Mm → Rs} {Q : Int → Mm → Prop} (hk_k150 : ∀ (a0 a1 a2 a3 : Int), (0 ≤ a0 ∧ a0 ≤ 8) → (-2147483648 ≤ a1 ∧ a1 ≤ 2147483647) → (-2147483648 ≤ a2 ∧ a2 ≤ 2147483647) → (-2147483648 ≤ a3 ∧ a3 ≤ 2147483647) → True → wp (k150 a0 a1 a2 a3 μ) Q) (hQ : ∀ r, (-2147483648 ≤ r ∧ r ≤ 2147483647) → True → Q r μ) : ∀ (n : Nat) {l4 l5 l6 l7 l8 : Int} , (0 ≤ l4 ∧ l4 ≤ 8) → (-2147483648 ≤ l5 ∧ l5 ≤ 2147483647) → (-2147483648 ≤ l6 ∧ l6 ≤ 2147483647) → (-2147483648 ≤ l7 ∧ l7 ≤ 2147483647) → (0 ≤ l8 ∧ l8 ≤ 8) → True → 8 - l8 + 1 ≤ ((n : Nat) : Int) → wp (X11_mend_L49 l2 l3 k150 n l4 l5 l6 l7 l8 μ) Q := by
  have hFU := FU_v
  intro n
  induction n with
  | zero => intro l4 l5 l6 l7 l8 hv_l4 hv_l5 hv_l6 hv_l7 hv_l8 hi hm; exact absurd hm (by  have : ((0 : Nat) : Int) = 0 := rfl; omega)
  | succ n ih =>
    intro l4 l5 l6 l7 l8 hv_l4 hv_l5 hv_l6 hv_l7 hv_l8 hi hm
    have hn1 : ((n + 1 : Nat) : Int) = ((n : Nat) : Int) + 1 := rfl
    rw [X11_mend_L49]
    refine wp_if (fun g17 => ?_) (fun g17 => ?_)
    · exact hk_k150 l4 l5 l6 l7  (by omega) (by omega) (by omega) (by omega) trivial
    · refine wp_ldv (by have := iM_c 8 l4; have := iA_c (iM 8 l4) l8; have na2 : ((aN 89 : Nat) : Int) = 72 := rfl; omega) (fun v18 q19 => ?_)
      have hrv18 := gA_11_19 hS ((iA (iM 8 l4) l8)).toNat
      replace hrv18 : -2147483648 ≤ v18 ∧ v18 ≤ 2147483647 := by rw [q19]; exact hrv18
      refine wp_if (fun g27 => ?_) (fun g27 => ?_)
      · exact hQ _ (by omega) trivial
      · refine wp_ldv (by have := iM_c 8 l4; have := iA_c (iM 8 l4) l8; have na2 : ((aN 89 : Nat) : Int) = 72 := rfl; omega) (fun v28 q29 => ?_)
        have hrv28 := gA_11_19 hS ((iA (iM 8 l4) l8)).toNat
        replace hrv28 : -2147483648 ≤ v28 ∧ v28 ≤ 2147483647 := by rw [q29]; exact hrv28
        refine wp_ldv (by have na0 : ((aN 90 : Nat) : Int) = 8 := rfl; omega) (fun v36 q37 => ?_)
        have hrv36 := gA_11_20 hS (l8).toNat
        replace hrv36 : -2147483648 ≤ v36 ∧ v36 ≤ 2147483647 := by rw [q37]; exact hrv36
        refine wp_ldv (by have na0 : ((aN 88 : Nat) : Int) = 8 := rfl; omega) (fun v43 q44 => ?_)
        have hrv43 := gA_11_18 hS (l8).toNat
        replace hrv43 : -2147483648 ≤ v43 ∧ v43 ≤ 2147483647 := by rw [q44]; exact hrv43
        refine wp_ltv (fun v49 q50 => ?_)
        refine wp_ldv (by have na0 : ((aN 88 : Nat) : Int) = 8 := rfl; omega) (fun v54 q55 => ?_)
        have hrv54 := gA_11_18 hS (l8).toNat
        replace hrv54 : -2147483648 ≤ v54 ∧ v54 ≤ 2147483647 := by rw [q55]; exact hrv54
        refine wp_ltv (fun v58 q59 => ?_)
        refine wp_ltv (fun v61 q62 => ?_)
        exact ih  (by omega) (by have := gO_11_38 hS; have := iM_r v28 (μ 70 38); have := iA_c l5 (iM v28 (μ 70 38)); have := iA_c (iA l5 (iM v28 (μ 70 38))) v36; have := mX_c (iA (iA l5 (iM v28 (μ 70 38))) v36) v43; omega) (by have := gO_11_38 hS; have := iM_r v28 (μ 70 38); have := iA_c l5 (iM v28 (μ 70 38)); have := iA_c (iA l5 (iM v28 (μ 70 38))) v36; have := mX_c (iA (iA l5 (iM v28 (μ 70 38))) v36) v43; have := iS_c v49 v54; have := iA_c l6 (iS v49 v54); omega) (by have := iM_c 10 l7; have := iA_c (iM 10 l7) l8; omega) (by have := iA_c l8 1; omega) trivial (by have := gO_11_38 hS; have := iA_c l8 1; have := iM_r v28 (μ 70 38); have := iA_c l5 (iM v28 (μ 70 38)); have := iA_c (iA l5 (iM v28 (μ 70 38))) v36; have := mX_c (iA (iA l5 (iM v28 (μ 70 38))) v36) v43; have := iS_c v49 v54; have := iA_c l6 (iS v49 v54); have := iM_c 10 l7; have := iA_c (iM 10 l7) l8; omega)
set_option maxHeartbeats 4000000 in
set_option maxRecDepth 100000 in
theorem t_X11_mend {μs : Mm} {l1 : Int} {l2 : Int} {l3 : Int} (hI : Ir μs)  (hp_l1 : -2147483648 ≤ l1 ∧ l1 ≤ 2147483647) (hp_l2 : -2147483648 ≤ l2 ∧ l2 ≤ 2147483647) (hp_l3 : -2147483648 ≤ l3 ∧ l3 ≤ 2147483647) {μ : Mm} (hS : Sm μs μ) : wp (X11_mend l1 l2 l3 μ) (fun r μ' => Sm μs μ' ∧ (-2147483648 ≤ r ∧ r ≤ 2147483647) ∧ True) := by
  have hFU := FU_v
  unfold X11_mend
  refine wp_call (t_X11_isReady (l1 := l1) hI (by omega) hS) (fun v18 m19 hh => ?_)
  obtain ⟨h19, hr19, hp19⟩ := hh
  refine wp_if (fun g35 => ?_) (fun g35 => ?_)
  · exact ⟨h19, (by omega), trivial⟩
  · refine wp_calls (t_X11_in (l0 := l2) (l1 := 0) (l2 := (m19 70 37))  (by omega) (by omega) (by have := gO_11_37 h19; omega) h19) (fun v36 hh => ?_)
    obtain ⟨hr37, hp37⟩ := hh
    refine wp_if (fun g51 => ?_) (fun g51 => ?_)
    · exact ⟨h19, (by have := gO_11_37 h19; omega), trivial⟩
    · refine wp_calls (t_X11_in (l0 := l3) (l1 := 0) (l2 := 1)  (by have := gO_11_37 h19; omega) (by have := gO_11_37 h19; omega) (by have := gO_11_37 h19; omega) h19) (fun v52 hh => ?_)
      obtain ⟨hr53, hp53⟩ := hh
      refine wp_if (fun g65 => ?_) (fun g65 => ?_)
      · exact ⟨h19, (by have := gO_11_37 h19; omega), trivial⟩
      · refine t_X11_mend_L49 (l2 := l2) (l3 := l3) (l4 := (m19 70 37)) (l5 := 0) (l6 := 0) (l7 := 0) (l8 := 0)  (by have := gO_11_37 h19; omega) (by have := gO_11_37 h19; omega) h19 (fun v66 v67 v68 v69 hrv66 hrv67 hrv68 hrv69 hp70 => ?_) (fun r_ hr_ hp_ => by exact ⟨h19, (by have := gO_11_37 h19; omega), trivial⟩) FU  (by have := gO_11_37 h19; omega) (by have := gO_11_37 h19; omega) (by have := gO_11_37 h19; omega) (by have := gO_11_37 h19; omega) (by have := gO_11_37 h19; omega) trivial (by have := gO_11_37 h19; omega)
        refine wp_sFv (P := Sm μs) (pO_11_41  h19 (by unfold scrM; omega) (by have := gO_11_37 h19; omega)) (fun m77 h77 he77 => ?_)
        refine wp_sFv (P := Sm μs) (pO_11_42  h77 (by unfold scrM; omega) (by have := gO_11_37 h19; omega)) (fun m83 h83 he83 => ?_)
        refine wp_calls (t_X11_all   h83) (fun v88 hh => ?_)
        obtain ⟨hr89, hp89⟩ := hh
        refine wp_call (t_X11_search hI RD h83 (by have := gO_11_37 h19; omega) (by have := gO_11_37 h19; have := bL_r 1 l2; have := iS_c (bL 1 l2) 1; have := bX_r (iS (bL 1 l2) 1) (-1); have := bA_le (bX (iS (bL 1 l2) 1) (-1)) (a := v88) (by omega); omega) (by have := gO_11_37 h19; omega) (by have := gO_11_37 h19; omega) (by have := gO_11_37 h19; omega) (by have := gO_11_37 h19; omega) (by rw [RD_v]; have := pc_r (x := (bA v88 (bX (iS (bL 1 l2) 1) (-1)))) (by have := gO_11_37 h19; have := bL_r 1 l2; have := iS_c (bL 1 l2) 1; have := bX_r (iS (bL 1 l2) 1) (-1); have := bA_le (bX (iS (bL 1 l2) 1) (-1)) (a := v88) (by omega); omega); omega)) (fun v92 m93 hh => ?_)
        obtain ⟨h93, hr93, hp93⟩ := hh
        refine wp_if (fun g94 => ?_) (fun g94 => ?_)
        · exact ⟨h93, (by have := gO_11_37 h19; have := gO_11_41 h93; omega), trivial⟩
        · exact ⟨h93, (by have := gO_11_37 h19; have := gO_11_42 h93; omega), trivial⟩
