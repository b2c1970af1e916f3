/-! TOTALITY of the reference, by program (wip/gen/totm.py) -/
set_option maxHeartbeats 4000000 in
set_option maxRecDepth 100000 in
theorem t_X11_skip {μs : Mm} {l1 : Int} {l2 : Int} {l3 : Int} (hI : Ir μs)  (hp_l1 : -2147483648 ≤ l1 ∧ l1 ≤ 2147483647) (hp_l2 : -2147483648 ≤ l2 ∧ l2 ≤ 2147483647) (hp_l3 : -2147483648 ≤ l3 ∧ l3 ≤ 2147483647) {μ : Mm} (hS : Sm μs μ) : wp (X11_skip l1 l2 l3 μ) (fun r μ' => Sm μs μ' ∧ (-2147483648 ≤ r ∧ r ≤ 2147483647) ∧ True) := by
  have hFU := FU_v
  unfold X11_skip
  refine wp_call (t_X11_isReady (l1 := l1) hI (by omega) hS) (fun v9 m10 hh => ?_)
  obtain ⟨h10, hr10, hp10⟩ := hh
  refine wp_if (fun g17 => ?_) (fun g17 => ?_)
  · exact ⟨h10, (by omega), trivial⟩
  · refine wp_calls (t_X11_in (l0 := l2) (l1 := 1) (l2 := (iS (m10 70 37) 1))  (by omega) (by omega) (by have := gO_11_37 h10; have := iS_c (m10 70 37) 1; omega) h10) (fun v18 hh => ?_)
    obtain ⟨hr19, hp19⟩ := hh
    refine wp_if (fun g24 => ?_) (fun g24 => ?_)
    · exact ⟨h10, (by have := gO_11_37 h10; have := iS_c (m10 70 37) 1; omega), trivial⟩
    · refine wp_calls (t_X11_in (l0 := l3) (l1 := l2) (l2 := (iS (m10 70 37) 1))  (by have := gO_11_37 h10; have := iS_c (m10 70 37) 1; omega) (by have := gO_11_37 h10; have := iS_c (m10 70 37) 1; omega) (by have := gO_11_37 h10; have := iS_c (m10 70 37) 1; omega) h10) (fun v25 hh => ?_)
      obtain ⟨hr26, hp26⟩ := hh
      refine wp_if (fun g29 => ?_) (fun g29 => ?_)
      · exact ⟨h10, (by have := gO_11_37 h10; have := iS_c (m10 70 37) 1; omega), trivial⟩
      · refine wp_ldv (by have := gO_11_37 h10; have na1 : ((aN 88 : Nat) : Int) = 8 := rfl; have := iS_c (m10 70 37) 1; omega) (fun v30 q31 => ?_)
        have hrv30 := gA_11_18 h10 (l3).toNat
        replace hrv30 : -2147483648 ≤ v30 ∧ v30 ≤ 2147483647 := by rw [q31]; exact hrv30
        refine wp_ldv (by have := gO_11_37 h10; have := iS_c l2 1; have na2 : ((aN 88 : Nat) : Int) = 8 := rfl; have := iS_c (m10 70 37) 1; omega) (fun v33 q34 => ?_)
        have hrv33 := gA_11_18 h10 ((iS l2 1)).toNat
        replace hrv33 : -2147483648 ≤ v33 ∧ v33 ≤ 2147483647 := by rw [q34]; exact hrv33
        exact t_X11_skip_L70 (l2 := l2) (l3 := l3) (l4 := (iS v30 v33)) (l5 := (m10 70 37)) (l6 := 0) (l7 := 0) (l8 := 0)  (by have := gO_11_37 h10; have := iS_c (m10 70 37) 1; omega) (by have := gO_11_37 h10; have := iS_c (m10 70 37) 1; omega) (by have := gO_11_37 h10; have := iS_c v30 v33; have := iS_c (m10 70 37) 1; omega) h10 (fun r_ hr_ hp_ => by exact ⟨h10, (by have := gO_11_37 h10; have := iS_c (m10 70 37) 1; omega), trivial⟩) FU  (by have := gO_11_37 h10; have := iS_c (m10 70 37) 1; omega) (by have := gO_11_37 h10; have := iS_c (m10 70 37) 1; omega) (by have := gO_11_37 h10; have := iS_c (m10 70 37) 1; omega) (by have := gO_11_37 h10; have := iS_c (m10 70 37) 1; omega) trivial (by have := gO_11_37 h10; have := iS_c (m10 70 37) 1; omega)
set_option maxHeartbeats 4000000 in
set_option maxRecDepth 100000 in
theorem t_X11_nights_L38 {μs : Mm} {l1 : Int} {l2 : Int} {l3 : Int} (hI : Ir μs)  (hp_l1 : 0 ≤ l1 ∧ l1 ≤ 4) (hp_l2 : 1 ≤ l2 ∧ l2 ≤ 30) (hp_l3 : -2147483648 ≤ l3 ∧ l3 ≤ 2147483647) {k102 : Int → Int → Mm → Rs} {Q : Int → Mm → Prop} (hk_k102 : ∀ (a0 a1 : Int) (μ : Mm), Sm μs μ → (-2147483648 ≤ a0 ∧ a0 ≤ 2147483647) → (-2147483648 ≤ a1 ∧ a1 ≤ 2147483647) → True → wp (k102 a0 a1 μ) Q) (hQ : ∀ r μ, Sm μs μ → (-2147483648 ≤ r ∧ r ≤ 2147483647) → True → Q r μ) : ∀ (n : Nat) {l4 l5 l6 : Int} {μ : Mm}, Sm μs μ → (-2147483648 ≤ l4 ∧ l4 ≤ 2147483647) → (-2147483648 ≤ l5 ∧ l5 ≤ 2147483647) → (0 ≤ l6 ∧ l6 ≤ 30) → True → 30 - l6 + 1 ≤ ((n : Nat) : Int) → wp (X11_nights_L38 l1 l2 l3 k102 n l4 l5 l6 μ) Q := by
  have hFU := FU_v
  intro n
  induction n with
  | zero => intro l4 l5 l6 μ hS hv_l4 hv_l5 hv_l6 hi hm; exact absurd hm (by  have : ((0 : Nat) : Int) = 0 := rfl; omega)
  | succ n ih =>
    intro l4 l5 l6 μ hS hv_l4 hv_l5 hv_l6 hi hm
    have hn1 : ((n + 1 : Nat) : Int) = ((n : Nat) : Int) + 1 := rfl
    rw [X11_nights_L38]
    refine wp_if (fun g21 => ?_) (fun g21 => ?_)
    · exact hk_k102 l4 l5 μ hS (by omega) (by omega) trivial
    · refine wp_call (t_X11_layTimes (l1 := l1) (l2 := l6) hI (by omega) (by omega) hS) (fun v22 m23 hh => ?_)
      obtain ⟨h23, hr23, hp23⟩ := hh
      refine wp_calls (t_X11_book   h23) (fun v32 hh => ?_)
      obtain ⟨hr33, hp33⟩ := hh
      refine wp_call (t_X11_go (l1 := v32) hI (by omega) h23 hp33) (fun v40 m41 hh => ?_)
      obtain ⟨h41, hr41, hp41⟩ := hh
      refine wp_if (fun g46 => ?_) (fun g46 => ?_)
      · exact hQ _ _ h41 (by omega) trivial
      · refine wp_calls (t_X11_book   h41) (fun v47 hh => ?_)
        obtain ⟨hr48, hp48⟩ := hh
        refine wp_calls (t_X11_tellOf (l1 := v47) (l2 := 0)  (by omega) (by omega) h41 hp48) (fun v51 hh => ?_)
        obtain ⟨hr52, hp52⟩ := hh
        refine wp_if (fun g53 => ?_) (fun g53 => ?_)
        · exact ih h41 (by omega) (by omega) (by have := iA_c l6 1; omega) trivial (by have := iA_c l6 1; omega)
        · refine wp_if (fun g54 => ?_) (fun g54 => ?_)
          · exact ih h41 (by omega) (by omega) (by have := iA_c l6 1; omega) trivial (by have := iA_c l6 1; omega)
          · exact ih h41 (by omega) (by omega) (by have := iA_c l6 1; omega) trivial (by have := iA_c l6 1; omega)
set_option maxHeartbeats 4000000 in
set_option maxRecDepth 100000 in
theorem t_X11_nights {μs : Mm} {l1 : Int} {l2 : Int} {l3 : Int} (hI : Ir μs)  (hp_l1 : -2147483648 ≤ l1 ∧ l1 ≤ 2147483647) (hp_l2 : -2147483648 ≤ l2 ∧ l2 ≤ 2147483647) (hp_l3 : -2147483648 ≤ l3 ∧ l3 ≤ 2147483647) {μ : Mm} (hS : Sm μs μ) : wp (X11_nights l1 l2 l3 μ) (fun r μ' => Sm μs μ' ∧ (-2147483648 ≤ r ∧ r ≤ 2147483647) ∧ True) := by
  have hFU := FU_v
  unfold X11_nights
  refine wp_call (t_X11_isReady (l1 := l1) hI (by omega) hS) (fun v10 m11 hh => ?_)
  obtain ⟨h11, hr11, hp11⟩ := hh
  refine wp_if (fun g19 => ?_) (fun g19 => ?_)
  · exact ⟨h11, (by omega), trivial⟩
  · refine wp_calls (t_X11_in (l0 := l2) (l1 := 1) (l2 := 30)  (by omega) (by omega) (by omega) h11) (fun v20 hh => ?_)
    obtain ⟨hr21, hp21⟩ := hh
    refine wp_if (fun g27 => ?_) (fun g27 => ?_)
    · exact ⟨h11, (by omega), trivial⟩
    · refine wp_calls (t_X11_in (l0 := l3) (l1 := 0) (l2 := 1)  (by omega) (by omega) (by omega) h11) (fun v28 hh => ?_)
      obtain ⟨hr29, hp29⟩ := hh
      refine wp_if (fun g33 => ?_) (fun g33 => ?_)
      · exact ⟨h11, (by omega), trivial⟩
      · refine t_X11_nights_L38 (l1 := l1) (l2 := l2) (l3 := l3) (l4 := (-1)) (l5 := 0) (l6 := 0) hI (by omega) (by omega) (by omega) (fun v34 v35 m36 h36 hrv34 hrv35 hp36 => ?_) (fun r_ m_ h_ hr_ hp_ => by exact ⟨h_, (by omega), trivial⟩) FU h11 (by omega) (by omega) (by omega) trivial (by omega)
        refine wp_if (fun g37 => ?_) (fun g37 => ?_)
        · exact ⟨h36, (by omega), trivial⟩
        · exact ⟨h36, (by omega), trivial⟩
set_option maxHeartbeats 4000000 in
set_option maxRecDepth 100000 in
theorem t_X11_fits_L15 {μs : Mm} {l1 : Int} {l2 : Int}  (hp_l1 : 0 ≤ l1 ∧ l1 ≤ 4) (hp_l2 : 0 ≤ l2 ∧ l2 ≤ 9) {μ : Mm} (hS : Sm μs μ) {k87 : Int → Mm → Rs} {Q : Int → Mm → Prop} (hk_k87 : ∀ (a0 : Int), (-2147483648 ≤ a0 ∧ a0 ≤ 2147483647) → True → wp (k87 a0 μ) Q) : ∀ (n : Nat) {l3 l4 : Int} , (-2147483648 ≤ l3 ∧ l3 ≤ 2147483647) → (0 ≤ l4 ∧ l4 ≤ 8) → True → 8 - l4 + 1 ≤ ((n : Nat) : Int) → wp (X11_fits_L15 l1 l2 k87 n l3 l4 μ) Q := by
  have hFU := FU_v
  intro n
  induction n with
  | zero => intro l3 l4 hv_l3 hv_l4 hi hm; exact absurd hm (by  have : ((0 : Nat) : Int) = 0 := rfl; omega)
  | succ n ih =>
    intro l3 l4 hv_l3 hv_l4 hi hm
    have hn1 : ((n + 1 : Nat) : Int) = ((n : Nat) : Int) + 1 := rfl
    rw [X11_fits_L15]
    refine wp_if (fun g15 => ?_) (fun g15 => ?_)
    · exact hk_k87 l3  (by have := gO_11_37 hS; omega) trivial
    · refine wp_if (fun g16 => ?_) (fun g16 => ?_)
      · refine wp_ldv (by have := gO_11_37 hS; have := iM_c 8 l1; have := iA_c (iM 8 l1) l4; have na3 : ((aN 83 : Nat) : Int) = 48 := rfl; omega) (fun v17 q18 => ?_)
        have hrv17 := gA_11_13 hS ((iA (iM 8 l1) l4)).toNat
        replace hrv17 : -2147483648 ≤ v17 ∧ v17 ≤ 2147483647 := by rw [q18]; exact hrv17
        refine wp_ldv (by have := gO_11_37 hS; have na1 : ((aN 94 : Nat) : Int) = 10 := rfl; omega) (fun v25 q26 => ?_)
        have hrv25 := gA_11_24 hS (l2).toNat
        replace hrv25 : 0 ≤ v25 ∧ v25 ≤ 7 := by rw [q26]; exact hrv25
        refine wp_if (fun g32 => ?_) (fun g32 => ?_)
        · refine wp_ldv (by have := gO_11_37 hS; have na1 : ((aN 93 : Nat) : Int) = 10 := rfl; omega) (fun v33 q34 => ?_)
          have hrv33 := gA_11_23 hS (l2).toNat
          replace hrv33 : 0 ≤ v33 ∧ v33 ≤ 999 := by rw [q34]; exact hrv33
          refine wp_ldv (by have := gO_11_37 hS; have na1 : ((aN 91 : Nat) : Int) = 8 := rfl; omega) (fun v39 q40 => ?_)
          have hrv39 := gA_11_21 hS (l4).toNat
          replace hrv39 : -2147483648 ≤ v39 ∧ v39 ≤ 2147483647 := by rw [q40]; exact hrv39
          refine wp_ldv (by have := gO_11_37 hS; have na1 : ((aN 92 : Nat) : Int) = 8 := rfl; omega) (fun v44 q45 => ?_)
          have hrv44 := gA_11_22 hS (l4).toNat
          replace hrv44 : -2147483648 ≤ v44 ∧ v44 ≤ 2147483647 := by rw [q45]; exact hrv44
          refine wp_calls (t_X11_in (l0 := v33) (l1 := v39) (l2 := v44)  (by have := gO_11_37 hS; omega) (by have := gO_11_37 hS; omega) (by have := gO_11_37 hS; omega) hS) (fun v48 hh => ?_)
          obtain ⟨hr49, hp49⟩ := hh
          refine wp_if (fun g50 => ?_) (fun g50 => ?_)
          · exact ih  (by have := gO_11_37 hS; omega) (by have := gO_11_37 hS; have := iA_c l4 1; omega) trivial (by have := gO_11_37 hS; have := iA_c l4 1; omega)
          · exact ih  (by have := gO_11_37 hS; omega) (by have := gO_11_37 hS; have := iA_c l4 1; omega) trivial (by have := gO_11_37 hS; have := iA_c l4 1; omega)
        · exact ih  (by have := gO_11_37 hS; omega) (by have := gO_11_37 hS; have := iA_c l4 1; omega) trivial (by have := gO_11_37 hS; have := iA_c l4 1; omega)
      · exact ih  (by have := gO_11_37 hS; omega) (by have := gO_11_37 hS; have := iA_c l4 1; omega) trivial (by have := gO_11_37 hS; have := iA_c l4 1; omega)
set_option maxHeartbeats 4000000 in
set_option maxRecDepth 100000 in
theorem t_X11_fits_L2 {μs : Mm} {l1 : Int}  (hp_l1 : 0 ≤ l1 ∧ l1 ≤ 4) {μ : Mm} (hS : Sm μs μ) {Q : Int → Mm → Prop} (hQ : ∀ r, (0 ≤ r ∧ r ≤ 1) → True → Q r μ) : ∀ (n : Nat) {l2 : Int} , (0 ≤ l2 ∧ l2 ≤ 10) → True → 10 - l2 + 1 ≤ ((n : Nat) : Int) → wp (X11_fits_L2 l1 n l2 μ) Q := by
  have hFU := FU_v
  intro n
  induction n with
  | zero => intro l2 hv_l2 hi hm; exact absurd hm (by  have : ((0 : Nat) : Int) = 0 := rfl; omega)
  | succ n ih =>
    intro l2 hv_l2 hi hm
    have hn1 : ((n + 1 : Nat) : Int) = ((n : Nat) : Int) + 1 := rfl
    rw [X11_fits_L2]
    refine wp_if (fun g5 => ?_) (fun g5 => ?_)
    · exact hQ _ (by have := gO_11_45 hS; have := eqS hS (j := 45) (k := 70) (by unfold scrM; omega); omega) trivial
    · refine t_X11_fits_L15 (l1 := l1) (l2 := l2) (l3 := 0) (l4 := 0)  (by have := gO_11_45 hS; have := eqS hS (j := 45) (k := 70) (by unfold scrM; omega); omega) (by have := gO_11_45 hS; have := eqS hS (j := 45) (k := 70) (by unfold scrM; omega); omega) hS (fun v6 hrv6 hp7 => ?_) FU  (by have := gO_11_45 hS; have := eqS hS (j := 45) (k := 70) (by unfold scrM; omega); omega) (by have := gO_11_45 hS; have := eqS hS (j := 45) (k := 70) (by unfold scrM; omega); omega) trivial (by have := gO_11_45 hS; have := eqS hS (j := 45) (k := 70) (by unfold scrM; omega); omega)
      refine wp_if (fun g8 => ?_) (fun g8 => ?_)
      · exact hQ _ (by have := gO_11_45 hS; have := eqS hS (j := 45) (k := 70) (by unfold scrM; omega); omega) trivial
      · exact ih  (by have := gO_11_45 hS; have := eqS hS (j := 45) (k := 70) (by unfold scrM; omega); have := iA_c l2 1; omega) trivial (by have := gO_11_45 hS; have := eqS hS (j := 45) (k := 70) (by unfold scrM; omega); have := iA_c l2 1; omega)
set_option maxHeartbeats 4000000 in
set_option maxRecDepth 100000 in
theorem t_X11_fits {μs : Mm} {l1 : Int}  (hp_l1 : 0 ≤ l1 ∧ l1 ≤ 4) {μ : Mm} (hS : Sm μs μ) : wp (X11_fits l1 μ) (fun r μ' => μ' = μ ∧ (0 ≤ r ∧ r ≤ 1) ∧ True) := by
  have hFU := FU_v
  unfold X11_fits
  exact t_X11_fits_L2 (l1 := l1) (l2 := 0)  (by omega) hS (fun r_ hr_ hp_ => by exact ⟨rfl, (by omega), trivial⟩) FU  (by omega) trivial (by omega)
set_option maxHeartbeats 4000000 in
set_option maxRecDepth 100000 in
theorem t_X11_boy_L41 {μs : Mm} {l1 : Int} {l2 : Int} {l3 : Int} {l4 : Int} (hI : Ir μs)  (hp_l1 : -2147483648 ≤ l1 ∧ l1 ≤ 2147483647) (hp_l2 : -2147483648 ≤ l2 ∧ l2 ≤ 2147483647) (hp_l3 : -2147483648 ≤ l3 ∧ l3 ≤ 2147483647) (hp_l4 : -2147483648 ≤ l4 ∧ l4 ≤ 2147483647) {k70 : Mm → Rs} {Q : Int → Mm → Prop} (hk_k70 : ∀ (μ : Mm), Sm μs μ → True → wp (k70 μ) Q) : ∀ (n : Nat) {l5 : Int} {μ : Mm}, Sm μs μ → (0 ≤ l5 ∧ l5 ≤ 256) → True → 256 - l5 + 1 ≤ ((n : Nat) : Int) → wp (X11_boy_L41 l1 l2 l3 l4 k70 n l5 μ) Q := by
  have hFU := FU_v
  intro n
  induction n with
  | zero => intro l5 μ hS hv_l5 hi hm; exact absurd hm (by  have : ((0 : Nat) : Int) = 0 := rfl; omega)
  | succ n ih =>
    intro l5 μ hS hv_l5 hi hm
    have hn1 : ((n + 1 : Nat) : Int) = ((n : Nat) : Int) + 1 := rfl
    rw [X11_boy_L41]
    refine wp_calls (t_X11_all   hS) (fun v11 hh => ?_)
    obtain ⟨hr12, hp12⟩ := hh
    refine wp_if (fun g16 => ?_) (fun g16 => ?_)
    · exact hk_k70  μ hS  trivial
    · refine wp_call (t_X11_leastOf (l1 := 0) (l2 := l5) hI (by omega) (by omega) hS) (fun v17 m18 hh => ?_)
      obtain ⟨h18, hr18, hp18⟩ := hh
      refine wp_stv (P := Sm μs) (by have na0 : ((aN 95 : Nat) : Int) = 256 := rfl; omega) (pA_11_25  h18 (by unfold scrM; omega) (by omega)) (fun m20 h20 he20 => ?_)
      exact ih h20 (by have := iA_c l5 1; omega) trivial (by have := iA_c l5 1; omega)
set_option maxHeartbeats 4000000 in
set_option maxRecDepth 100000 in
theorem t_X11_boy_L86 {μs : Mm} {l4 : Int} (hI : Ir μs)  (hp_l4 : -2147483648 ≤ l4 ∧ l4 ≤ 2147483647) {k165 : Int → Int → Mm → Rs} {Q : Int → Mm → Prop} (hk_k165 : ∀ (a0 a1 : Int) (μ : Mm), Sm μs μ → (-2147483648 ≤ a0 ∧ a0 ≤ 2147483647) → (-2147483648 ≤ a1 ∧ a1 ≤ 2147483647) → True → wp (k165 a0 a1 μ) Q) : ∀ (n : Nat) {l5 l6 l7 : Int} {μ : Mm}, Sm μs μ → (-2147483648 ≤ l5 ∧ l5 ≤ 2147483647) → (-2147483648 ≤ l6 ∧ l6 ≤ 2147483647) → (0 ≤ l7 ∧ l7 ≤ 256) → True → 256 - l7 + 1 ≤ ((n : Nat) : Int) → wp (X11_boy_L86 l4 k165 n l5 l6 l7 μ) Q := by
  have hFU := FU_v
  intro n
  induction n with
  | zero => intro l5 l6 l7 μ hS hv_l5 hv_l6 hv_l7 hi hm; exact absurd hm (by  have : ((0 : Nat) : Int) = 0 := rfl; omega)
  | succ n ih =>
    intro l5 l6 l7 μ hS hv_l5 hv_l6 hv_l7 hi hm
    have hn1 : ((n + 1 : Nat) : Int) = ((n : Nat) : Int) + 1 := rfl
    rw [X11_boy_L86]
    refine wp_calls (t_X11_all   hS) (fun v15 hh => ?_)
    obtain ⟨hr16, hp16⟩ := hh
    refine wp_if (fun g22 => ?_) (fun g22 => ?_)
    · exact hk_k165 l5 l6 μ hS (by omega) (by omega) trivial
    · refine wp_call (t_X11_leastOf (l1 := 0) (l2 := l7) hI (by omega) (by omega) hS) (fun v23 m24 hh => ?_)
      obtain ⟨h24, hr24, hp24⟩ := hh
      refine wp_calls (t_X11_all   h24) (fun v28 hh => ?_)
      obtain ⟨hr29, hp29⟩ := hh
      refine wp_ldv (by have := bX_r l7 (-1); have := bA_le (bX l7 (-1)) (a := v28) (by omega); have na2 : ((aN 95 : Nat) : Int) = 256 := rfl; omega) (fun v31 q32 => ?_)
      have hrv31 := gA_11_25 h24 ((bA v28 (bX l7 (-1)))).toNat
      replace hrv31 : -2147483648 ≤ v31 ∧ v31 ≤ 2147483647 := by rw [q32]; exact hrv31
      refine wp_if (fun g33 => ?_) (fun g33 => ?_)
      · exact ih h24 (by omega) (by omega) (by have := iA_c l7 1; omega) trivial (by have := iA_c l7 1; omega)
      · refine wp_if (fun g34 => ?_) (fun g34 => ?_)
        · exact ih h24 (by omega) (by omega) (by have := iA_c l7 1; omega) trivial (by have := iA_c l7 1; omega)
        · refine wp_if (fun g35 => ?_) (fun g35 => ?_)
          · exact ih h24 (by omega) (by have := iA_c v23 v31; omega) (by have := iA_c l7 1; omega) trivial (by have := iA_c v23 v31; have := iA_c l7 1; omega)
          · refine wp_if (fun g36 => ?_) (fun g36 => ?_)
            · exact ih h24 (by have := iA_c v23 v31; omega) (by have := iA_c v23 v31; omega) (by have := iA_c l7 1; have := iA_c v23 v31; omega) trivial (by have := iA_c l7 1; have := iA_c v23 v31; omega)
            · exact ih h24 (by have := iA_c v23 v31; omega) (by have := iA_c v23 v31; omega) (by have := iA_c l7 1; have := iA_c v23 v31; omega) trivial (by have := iA_c v23 v31; have := iA_c l7 1; omega)
set_option maxHeartbeats 4000000 in
set_option maxRecDepth 100000 in
theorem t_X11_boy {μs : Mm} {l1 : Int} {l2 : Int} {l3 : Int} {l4 : Int} (hI : Ir μs)  (hp_l1 : -2147483648 ≤ l1 ∧ l1 ≤ 2147483647) (hp_l2 : -2147483648 ≤ l2 ∧ l2 ≤ 2147483647) (hp_l3 : -2147483648 ≤ l3 ∧ l3 ≤ 2147483647) (hp_l4 : -2147483648 ≤ l4 ∧ l4 ≤ 2147483647) {μ : Mm} (hS : Sm μs μ) : wp (X11_boy l1 l2 l3 l4 μ) (fun r μ' => Sm μs μ' ∧ (-2147483648 ≤ r ∧ r ≤ 2147483647) ∧ True) := by
  have hFU := FU_v
  unfold X11_boy
  refine wp_call (t_X11_isReady (l1 := l1) hI (by omega) hS) (fun v15 m16 hh => ?_)
  obtain ⟨h16, hr16, hp16⟩ := hh
  refine wp_if (fun g29 => ?_) (fun g29 => ?_)
  · exact ⟨h16, (by omega), trivial⟩
  · refine wp_calls (t_X11_isOpen (l1 := l2)  (by omega) h16) (fun v30 hh => ?_)
    obtain ⟨hr31, hp31⟩ := hh
    refine wp_if (fun g42 => ?_) (fun g42 => ?_)
    · exact ⟨h16, (by omega), trivial⟩
    · refine wp_calls (t_X11_in (l0 := l3) (l1 := 1) (l2 := 9)  (by omega) (by omega) (by omega) h16) (fun v43 hh => ?_)
      obtain ⟨hr44, hp44⟩ := hh
      refine wp_if (fun g53 => ?_) (fun g53 => ?_)
      · exact ⟨h16, (by omega), trivial⟩
      · refine wp_calls (t_X11_in (l0 := l4) (l1 := 0) (l2 := 1)  (by omega) (by omega) (by omega) h16) (fun v54 hh => ?_)
        obtain ⟨hr55, hp55⟩ := hh
        refine wp_if (fun g62 => ?_) (fun g62 => ?_)
        · exact ⟨h16, (by omega), trivial⟩
        · refine t_X11_boy_L41 (l1 := l1) (l2 := l2) (l3 := l3) (l4 := l4) (l5 := 0) hI (by omega) (by omega) (by omega) (by omega) (fun m63 h63  hp63 => ?_) FU h16 (by omega) trivial (by omega)
          refine wp_call (t_X11_lay (l1 := l1) (l2 := l2) (l3 := l3) hI (by omega) (by omega) (by omega) h63 (by omega)) (fun v69 m70 hh => ?_)
          obtain ⟨h70, hr70, hp70⟩ := hh
          refine t_X11_boy_L86 (l4 := l4) (l5 := (-1)) (l6 := 0) (l7 := 0) hI (by omega) (fun v74 v75 m76 h76 hrv74 hrv75 hp76 => ?_) FU h70 (by omega) (by omega) (by omega) trivial (by omega)
          refine wp_if (fun g77 => ?_) (fun g77 => ?_)
          · exact ⟨h76, (by omega), trivial⟩
          · refine wp_if (fun g78 => ?_) (fun g78 => ?_)
            · exact ⟨h76, (by omega), trivial⟩
            · exact ⟨h76, (by omega), trivial⟩
set_option maxHeartbeats 4000000 in
set_option maxRecDepth 100000 in
theorem t_X11_walk_L50 {μs : Mm} {l2 : Int} {l3 : Int}  (hp_l2 : -2147483648 ≤ l2 ∧ l2 ≤ 2147483647) (hp_l3 : -2147483648 ≤ l3 ∧ l3 ≤ 2147483647) {μ : Mm} (hS : Sm μs μ) (hO : OD l2 (μ 70 37)) {k124 : Int → Int → Mm → Rs} {Q : Int → Mm → Prop} (hk_k124 : ∀ (a0 a1 : Int), (-2147483648 ≤ a0 ∧ a0 ≤ 2147483647) → (-2147483648 ≤ a1 ∧ a1 ≤ 2147483647) → True → wp (k124 a0 a1 μ) Q) : ∀ (n : Nat) {l4 l5 l6 l7 : Int} , (0 ≤ l4 ∧ l4 ≤ 8) → (-2147483648 ≤ l5 ∧ l5 ≤ 2147483647) → (-2147483648 ≤ l6 ∧ l6 ≤ 2147483647) → (0 ≤ l7 ∧ l7 ≤ 8) → True → 8 - l7 + 1 ≤ ((n : Nat) : Int) → wp (X11_walk_L50 l2 l3 k124 n l4 l5 l6 l7 μ) Q := by
  have hFU := FU_v
  intro n
  induction n with
  | zero => intro l4 l5 l6 l7 hv_l4 hv_l5 hv_l6 hv_l7 hi hm; exact absurd hm (by  have : ((0 : Nat) : Int) = 0 := rfl; omega)
  | succ n ih =>
    intro l4 l5 l6 l7 hv_l4 hv_l5 hv_l6 hv_l7 hi hm
    have hn1 : ((n + 1 : Nat) : Int) = ((n : Nat) : Int) + 1 := rfl
    rw [X11_walk_L50]
    refine wp_if (fun g15 => ?_) (fun g15 => ?_)
    · exact hk_k124 l5 l6  (by have := gO_11_37 hS; omega) (by have := gO_11_37 hS; omega) trivial
    · refine wp_calls (t_X11_nth (l1 := l2) (l2 := l7)  (by have := gO_11_37 hS; omega) (by have := gO_11_37 hS; omega) hS (by have := gO_11_37 hS; omega)) (fun v16 hh => ?_)
      obtain ⟨hr17, hp17⟩ := hh
      have hodv16 := hp17 hO
      refine wp_ldv (by have := gO_11_37 hS; have := iM_c 8 l4; have := iA_c (iM 8 l4) v16; have na3 : ((aN 89 : Nat) : Int) = 72 := rfl; omega) (fun v23 q24 => ?_)
      have hrv23 := gA_11_19 hS ((iA (iM 8 l4) v16)).toNat
      replace hrv23 : -2147483648 ≤ v23 ∧ v23 ≤ 2147483647 := by rw [q24]; exact hrv23
      refine wp_ldv (by have := gO_11_37 hS; have na1 : ((aN 92 : Nat) : Int) = 8 := rfl; omega) (fun v29 q30 => ?_)
      have hrv29 := gA_11_22 hS (v16).toNat
      replace hrv29 : -2147483648 ≤ v29 ∧ v29 ≤ 2147483647 := by rw [q30]; exact hrv29
      refine wp_ldv (by have := gO_11_37 hS; have na1 : ((aN 91 : Nat) : Int) = 8 := rfl; omega) (fun v34 q35 => ?_)
      have hrv34 := gA_11_21 hS (v16).toNat
      replace hrv34 : -2147483648 ≤ v34 ∧ v34 ≤ 2147483647 := by rw [q35]; exact hrv34
      refine wp_ldv (by have := gO_11_37 hS; have na1 : ((aN 90 : Nat) : Int) = 8 := rfl; omega) (fun v38 q39 => ?_)
      have hrv38 := gA_11_20 hS (v16).toNat
      replace hrv38 : -2147483648 ≤ v38 ∧ v38 ≤ 2147483647 := by rw [q39]; exact hrv38
      refine wp_ltv (fun v41 q42 => ?_)
      exact ih  (by have := gO_11_37 hS; omega) (by have := gO_11_37 hS; have := iA_c l5 v23; omega) (by have := gO_11_37 hS; have := iS_c v29 v34; have := iS_c (iS v29 v34) v38; have := iA_c l6 (iS (iS v29 v34) v38); omega) (by have := gO_11_37 hS; have := iA_c l7 1; omega) trivial (by have := gO_11_37 hS; have := iA_c l5 v23; have := iA_c l7 1; have := iS_c v29 v34; have := iS_c (iS v29 v34) v38; have := iA_c l6 (iS (iS v29 v34) v38); omega)
set_option maxHeartbeats 4000000 in
set_option maxRecDepth 100000 in
theorem t_X11_walk {μs : Mm} {l1 : Int} {l2 : Int} {l3 : Int} (hI : Ir μs)  (hp_l1 : -2147483648 ≤ l1 ∧ l1 ≤ 2147483647) (hp_l2 : -2147483648 ≤ l2 ∧ l2 ≤ 2147483647) (hp_l3 : -2147483648 ≤ l3 ∧ l3 ≤ 2147483647) {μ : Mm} (hS : Sm μs μ) : wp (X11_walk l1 l2 l3 μ) (fun r μ' => Sm μs μ' ∧ (-2147483648 ≤ r ∧ r ≤ 2147483647) ∧ True) := by
  have hFU := FU_v
  unfold X11_walk
  refine wp_call (t_X11_isReady (l1 := l1) hI (by omega) hS) (fun v12 m13 hh => ?_)
  obtain ⟨h13, hr13, hp13⟩ := hh
  refine wp_if (fun g23 => ?_) (fun g23 => ?_)
  · exact ⟨h13, (by omega), trivial⟩
  · refine wp_calls (t_X11_isOrder (l1 := l2)  (by omega) h13) (fun v24 hh => ?_)
    obtain ⟨hr25, hp25⟩ := hh
    refine wp_if (fun g33 => ?_) (fun g33 => ?_)
    · exact ⟨h13, (by omega), trivial⟩
    · refine wp_calls (t_X11_in (l0 := l3) (l1 := 0) (l2 := 1)  (by omega) (by omega) (by omega) h13) (fun v34 hh => ?_)
      obtain ⟨hr35, hp35⟩ := hh
      refine wp_if (fun g41 => ?_) (fun g41 => ?_)
      · exact ⟨h13, (by omega), trivial⟩
      · refine wp_call (t_X11_go (l1 := l2) hI (by omega) h13 (hp25.resolve_left g33)) (fun v42 m43 hh => ?_)
        obtain ⟨h43, hr43, hp43⟩ := hh
        refine wp_if (fun g47 => ?_) (fun g47 => ?_)
        · exact ⟨h43, (by omega), trivial⟩
        · refine t_X11_walk_L50 (l2 := l2) (l3 := l3) (l4 := (m43 70 37)) (l5 := 0) (l6 := 0) (l7 := 0)  (by omega) (by omega) h43 (by have e_ : m43 70 37 = m13 70 37 := (by have := gO_11_37 h43; have := gO_11_37 h13; omega); rw [e_]; exact (hp25.resolve_left g33)) (fun v48 v49 hrv48 hrv49 hp50 => ?_) FU  (by have := gO_11_37 h43; have := gO_11_37 h13; omega) (by omega) (by omega) (by omega) trivial (by have := gO_11_37 h43; have := gO_11_37 h13; omega)
          refine wp_if (fun g51 => ?_) (fun g51 => ?_)
          · exact ⟨h43, (by omega), trivial⟩
          · exact ⟨h43, (by omega), trivial⟩
set_option maxHeartbeats 4000000 in
set_option maxRecDepth 100000 in
theorem t_X11_mend_L49 {μs : Mm} {l2 : Int} {l3 : Int}  (hp_l2 : 0 ≤ l2 ∧ l2 ≤ 8) (hp_l3 : -2147483648 ≤ l3 ∧ l3 ≤ 2147483647) {μ : Mm} (hS : Sm μs μ) {k150 : Int → Int → Int → Int → Mm → Rs} {Q : Int → Mm → Prop} (hk_k150 : ∀ (a0 a1 a2 a3 : Int), (0 ≤ a0 ∧ a0 ≤ 8) → (-2147483648 ≤ a1 ∧ a1 ≤ 2147483647) → (-2147483648 ≤ a2 ∧ a2 ≤ 2147483647) → (-2147483648 ≤ a3 ∧ a3 ≤ 2147483647) → True → wp (k150 a0 a1 a2 a3 μ) Q) (hQ : ∀ r, (-2147483648 ≤ r ∧ r ≤ 2147483647) → True → Q r μ) : ∀ (n : Nat) {l4 l5 l6 l7 l8 : Int} , (0 ≤ l4 ∧ l4 ≤ 8) → (-2147483648 ≤ l5 ∧ l5 ≤ 2147483647) → (-2147483648 ≤ l6 ∧ l6 ≤ 2147483647) → (-2147483648 ≤ l7 ∧ l7 ≤ 2147483647) → (0 ≤ l8 ∧ l8 ≤ 8) → True → 8 - l8 + 1 ≤ ((n : Nat) : Int) → wp (X11_mend_L49 l2 l3 k150 n l4 l5 l6 l7 l8 μ) Q := by
  have hFU := FU_v
  intro n
  induction n with
  | zero => intro l4 l5 l6 l7 l8 hv_l4 hv_l5 hv_l6 hv_l7 hv_l8 hi hm; exact absurd hm (by  have : ((0 : Nat) : Int) = 0 := rfl; omega)
  | succ n ih =>
    intro l4 l5 l6 l7 l8 hv_l4 hv_l5 hv_l6 hv_l7 hv_l8 hi hm
    have hn1 : ((n + 1 : Nat) : Int) = ((n : Nat) : Int) + 1 := rfl
    rw [X11_mend_L49]
    refine wp_if (fun g17 => ?_) (fun g17 => ?_)
    · exact hk_k150 l4 l5 l6 l7  (by omega) (by omega) (by omega) (by omega) trivial
    · refine wp_ldv (by have := iM_c 8 l4; have := iA_c (iM 8 l4) l8; have na2 : ((aN 89 : Nat) : Int) = 72 := rfl; omega) (fun v18 q19 => ?_)
      have hrv18 := gA_11_19 hS ((iA (iM 8 l4) l8)).toNat
      replace hrv18 : -2147483648 ≤ v18 ∧ v18 ≤ 2147483647 := by rw [q19]; exact hrv18
      refine wp_if (fun g27 => ?_) (fun g27 => ?_)
      · exact hQ _ (by omega) trivial
      · refine wp_ldv (by have := iM_c 8 l4; have := iA_c (iM 8 l4) l8; have na2 : ((aN 89 : Nat) : Int) = 72 := rfl; omega) (fun v28 q29 => ?_)
        have hrv28 := gA_11_19 hS ((iA (iM 8 l4) l8)).toNat
        replace hrv28 : -2147483648 ≤ v28 ∧ v28 ≤ 2147483647 := by rw [q29]; exact hrv28
        refine wp_ldv (by have na0 : ((aN 90 : Nat) : Int) = 8 := rfl; omega) (fun v36 q37 => ?_)
        have hrv36 := gA_11_20 hS (l8).toNat
        replace hrv36 : -2147483648 ≤ v36 ∧ v36 ≤ 2147483647 := by rw [q37]; exact hrv36
        refine wp_ldv (by have na0 : ((aN 88 : Nat) : Int) = 8 := rfl; omega) (fun v43 q44 => ?_)
        have hrv43 := gA_11_18 hS (l8).toNat
        replace hrv43 : -2147483648 ≤ v43 ∧ v43 ≤ 2147483647 := by rw [q44]; exact hrv43
        refine wp_ltv (fun v49 q50 => ?_)
        refine wp_ldv (by have na0 : ((aN 88 : Nat) : Int) = 8 := rfl; omega) (fun v54 q55 => ?_)
        have hrv54 := gA_11_18 hS (l8).toNat
        replace hrv54 : -2147483648 ≤ v54 ∧ v54 ≤ 2147483647 := by rw [q55]; exact hrv54
        refine wp_ltv (fun v58 q59 => ?_)
        refine wp_ltv (fun v61 q62 => ?_)
        exact ih  (by omega) (by have := gO_11_38 hS; have := iM_r v28 (μ 70 38); have := iA_c l5 (iM v28 (μ 70 38)); have := iA_c (iA l5 (iM v28 (μ 70 38))) v36; have := mX_c (iA (iA l5 (iM v28 (μ 70 38))) v36) v43; omega) (by have := gO_11_38 hS; have := iM_r v28 (μ 70 38); have := iA_c l5 (iM v28 (μ 70 38)); have := iA_c (iA l5 (iM v28 (μ 70 38))) v36; have := mX_c (iA (iA l5 (iM v28 (μ 70 38))) v36) v43; have := iS_c v49 v54; have := iA_c l6 (iS v49 v54); omega) (by have := iM_c 10 l7; have := iA_c (iM 10 l7) l8; omega) (by have := iA_c l8 1; omega) trivial (by have := gO_11_38 hS; have := iA_c l8 1; have := iM_r v28 (μ 70 38); have := iA_c l5 (iM v28 (μ 70 38)); have := iA_c (iA l5 (iM v28 (μ 70 38))) v36; have := mX_c (iA (iA l5 (iM v28 (μ 70 38))) v36) v43; have := iS_c v49 v54; have := iA_c l6 (iS v49 v54); have := iM_c 10 l7; have := iA_c (iM 10 l7) l8; omega)
set_option maxHeartbeats 4000000 in
set_option maxRecDepth 100000 in
theorem t_X11_mend {μs : Mm} {l1 : Int} {l2 : Int} {l3 : Int} (hI : Ir μs)  (hp_l1 : -2147483648 ≤ l1 ∧ l1 ≤ 2147483647) (hp_l2 : -2147483648 ≤ l2 ∧ l2 ≤ 2147483647) (hp_l3 : -2147483648 ≤ l3 ∧ l3 ≤ 2147483647) {μ : Mm} (hS : Sm μs μ) : wp (X11_mend l1 l2 l3 μ) (fun r μ' => Sm μs μ' ∧ (-2147483648 ≤ r ∧ r ≤ 2147483647) ∧ True) := by
  have hFU := FU_v
  unfold X11_mend
  refine wp_call (t_X11_isReady (l1 := l1) hI (by omega) hS) (fun v18 m19 hh => ?_)
  obtain ⟨h19, hr19, hp19⟩ := hh
  refine wp_if (fun g35 => ?_) (fun g35 => ?_)
  · exact ⟨h19, (by omega), trivial⟩
  · refine wp_calls (t_X11_in (l0 := l2) (l1 := 0) (l2 := (m19 70 37))  (by omega) (by omega) (by have := gO_11_37 h19; omega) h19) (fun v36 hh => ?_)
    obtain ⟨hr37, hp37⟩ := hh
    refine wp_if (fun g51 => ?_) (fun g51 => ?_)
    · exact ⟨h19, (by have := gO_11_37 h19; omega), trivial⟩
    · refine wp_calls (t_X11_in (l0 := l3) (l1 := 0) (l2 := 1)  (by have := gO_11_37 h19; omega) (by have := gO_11_37 h19; omega) (by have := gO_11_37 h19; omega) h19) (fun v52 hh => ?_)
      obtain ⟨hr53, hp53⟩ := hh
      refine wp_if (fun g65 => ?_) (fun g65 => ?_)
      · exact ⟨h19, (by have := gO_11_37 h19; omega), trivial⟩
      · refine t_X11_mend_L49 (l2 := l2) (l3 := l3) (l4 := (m19 70 37)) (l5 := 0) (l6 := 0) (l7 := 0) (l8 := 0)  (by have := gO_11_37 h19; omega) (by have := gO_11_37 h19; omega) h19 (fun v66 v67 v68 v69 hrv66 hrv67 hrv68 hrv69 hp70 => ?_) (fun r_ hr_ hp_ => by exact ⟨h19, (by have := gO_11_37 h19; omega), trivial⟩) FU  (by have := gO_11_37 h19; omega) (by have := gO_11_37 h19; omega) (by have := gO_11_37 h19; omega) (by have := gO_11_37 h19; omega) (by have := gO_11_37 h19; omega) trivial (by have := gO_11_37 h19; omega)
        refine wp_sFv (P := Sm μs) (pO_11_41  h19 (by unfold scrM; omega) (by have := gO_11_37 h19; omega)) (fun m77 h77 he77 => ?_)
        refine wp_sFv (P := Sm μs) (pO_11_42  h77 (by unfold scrM; omega) (by have := gO_11_37 h19; omega)) (fun m83 h83 he83 => ?_)
        refine wp_calls (t_X11_all   h83) (fun v88 hh => ?_)
        obtain ⟨hr89, hp89⟩ := hh
        refine wp_call (t_X11_search hI RD h83 (by have := gO_11_37 h19; omega) (by have := gO_11_37 h19; have := bL_r 1 l2; have := iS_c (bL 1 l2) 1; have := bX_r (iS (bL 1 l2) 1) (-1); have := bA_le (bX (iS (bL 1 l2) 1) (-1)) (a := v88) (by omega); omega) (by have := gO_11_37 h19; omega) (by have := gO_11_37 h19; omega) (by have := gO_11_37 h19; omega) (by have := gO_11_37 h19; omega) (by rw [RD_v]; have := pc_r (x := (bA v88 (bX (iS (bL 1 l2) 1) (-1)))) (by have := gO_11_37 h19; have := bL_r 1 l2; have := iS_c (bL 1 l2) 1; have := bX_r (iS (bL 1 l2) 1) (-1); have := bA_le (bX (iS (bL 1 l2) 1) (-1)) (a := v88) (by omega); omega); omega)) (fun v92 m93 hh => ?_)
        obtain ⟨h93, hr93, hp93⟩ := hh
        refine wp_if (fun g94 => ?_) (fun g94 => ?_)
        · exact ⟨h93, (by have := gO_11_37 h19; have := gO_11_41 h93; omega), trivial⟩
        · exact ⟨h93, (by have := gO_11_37 h19; have := gO_11_42 h93; omega), trivial⟩
/-! TOTALITY of the reference, by program (wip/gen/totm.py) -/
set_option maxHeartbeats 4000000 in
set_option maxRecDepth 100000 in
theorem t_X11_slack_L59 {μs : Mm} {l2 : Int} {l3 : Int} {l4 : Int} (hI : Ir μs)  (hp_l2 : 0 ≤ l2 ∧ l2 ≤ 7) (hp_l3 : -2147483648 ≤ l3 ∧ l3 ≤ 2147483647) (hp_l4 : -2147483648 ≤ l4 ∧ l4 ≤ 2147483647) {Q : Int → Mm → Prop} (hQ : ∀ r μ, Sm μs μ → (-2147483648 ≤ r ∧ r ≤ 2147483647) → True → Q r μ) : ∀ (n : Nat) {l5 l6 : Int} {μ : Mm}, Sm μs μ → (-2147483648 ≤ l5 ∧ l5 ≤ 2147483647) → (1 ≤ l6 ∧ l6 ≤ 31) → True → 31 - l6 + 1 ≤ ((n : Nat) : Int) → wp (X11_slack_L59 l2 l3 l4 n l5 l6 μ) Q := by
  have hFU := FU_v
  intro n
  induction n with
  | zero => intro l5 l6 μ hS hv_l5 hv_l6 hi hm; exact absurd hm (by  have : ((0 : Nat) : Int) = 0 := rfl; omega)
  | succ n ih =>
    intro l5 l6 μ hS hv_l5 hv_l6 hi hm
    have hn1 : ((n + 1 : Nat) : Int) = ((n : Nat) : Int) + 1 := rfl
    rw [X11_slack_L59]
    refine wp_if (fun g19 => ?_) (fun g19 => ?_)
    · exact hQ _ _ hS (by omega) trivial
    · refine wp_stv (P := Sm μs) (by have na0 : ((aN 90 : Nat) : Int) = 8 := rfl; omega) (pA_11_20  hS (by unfold scrM; omega) (by have := iA_c l4 l6; omega)) (fun m20 h20 he20 => ?_)
      refine wp_calls (t_X11_book   h20) (fun v29 hh => ?_)
      obtain ⟨hr30, hp30⟩ := hh
      refine wp_call (t_X11_go (l1 := v29) hI (by omega) h20 hp30) (fun v37 m38 hh => ?_)
      obtain ⟨h38, hr38, hp38⟩ := hh
      refine wp_calls (t_X11_book   h38) (fun v43 hh => ?_)
      obtain ⟨hr44, hp44⟩ := hh
      refine wp_calls (t_X11_tellOf (l1 := v43) (l2 := 0)  (by omega) (by omega) h38 hp44) (fun v47 hh => ?_)
      obtain ⟨hr48, hp48⟩ := hh
      refine wp_if (fun g49 => ?_) (fun g49 => ?_)
      · exact ih h38 (by omega) (by have := iA_c l6 1; omega) trivial (by have := iA_c l6 1; omega)
      · exact ih h38 (by omega) (by have := iA_c l6 1; omega) trivial (by have := iA_c l6 1; omega)
set_option maxHeartbeats 4000000 in
set_option maxRecDepth 100000 in
theorem t_X11_slack {μs : Mm} {l1 : Int} {l2 : Int} (hI : Ir μs)  (hp_l1 : -2147483648 ≤ l1 ∧ l1 ≤ 2147483647) (hp_l2 : -2147483648 ≤ l2 ∧ l2 ≤ 2147483647) {μ : Mm} (hS : Sm μs μ) : wp (X11_slack l1 l2 μ) (fun r μ' => Sm μs μ' ∧ (-2147483648 ≤ r ∧ r ≤ 2147483647) ∧ True) := by
  have hFU := FU_v
  unfold X11_slack
  refine wp_call (t_X11_isReady (l1 := l1) hI (by omega) hS) (fun v14 m15 hh => ?_)
  obtain ⟨h15, hr15, hp15⟩ := hh
  refine wp_if (fun g27 => ?_) (fun g27 => ?_)
  · exact ⟨h15, (by omega), trivial⟩
  · refine wp_calls (t_X11_in (l0 := l2) (l1 := 0) (l2 := (iS (m15 70 37) 1))  (by omega) (by omega) (by have := gO_11_37 h15; have := iS_c (m15 70 37) 1; omega) h15) (fun v28 hh => ?_)
    obtain ⟨hr29, hp29⟩ := hh
    refine wp_if (fun g39 => ?_) (fun g39 => ?_)
    · exact ⟨h15, (by have := gO_11_37 h15; have := iS_c (m15 70 37) 1; omega), trivial⟩
    · refine wp_calls (t_X11_book   h15) (fun v40 hh => ?_)
      obtain ⟨hr41, hp41⟩ := hh
      refine wp_call (t_X11_go (l1 := v40) hI (by have := gO_11_37 h15; have := iS_c (m15 70 37) 1; omega) h15 hp41) (fun v49 m50 hh => ?_)
      obtain ⟨h50, hr50, hp50⟩ := hh
      refine wp_if (fun g56 => ?_) (fun g56 => ?_)
      · exact ⟨h50, (by have := gO_11_37 h15; have := iS_c (m15 70 37) 1; omega), trivial⟩
      · refine wp_calls (t_X11_book   h50) (fun v57 hh => ?_)
        obtain ⟨hr58, hp58⟩ := hh
        refine wp_calls (t_X11_tellOf (l1 := v57) (l2 := 0)  (by have := gO_11_37 h15; have := iS_c (m15 70 37) 1; omega) (by have := gO_11_37 h15; have := iS_c (m15 70 37) 1; omega) h50 hp58) (fun v62 hh => ?_)
        obtain ⟨hr63, hp63⟩ := hh
        refine wp_ldv (by have := gO_11_37 h15; have na1 : ((aN 90 : Nat) : Int) = 8 := rfl; have := iS_c (m15 70 37) 1; omega) (fun v65 q66 => ?_)
        have hrv65 := gA_11_20 h50 (l2).toNat
        replace hrv65 : -2147483648 ≤ v65 ∧ v65 ≤ 2147483647 := by rw [q66]; exact hrv65
        exact t_X11_slack_L59 (l2 := l2) (l3 := v62) (l4 := v65) (l5 := 0) (l6 := 1) hI (by have := gO_11_37 h15; have := iS_c (m15 70 37) 1; omega) (by have := gO_11_37 h15; have := iS_c (m15 70 37) 1; omega) (by have := gO_11_37 h15; have := iS_c (m15 70 37) 1; omega) (fun r_ m_ h_ hr_ hp_ => by exact ⟨h_, (by have := gO_11_37 h15; have := iS_c (m15 70 37) 1; omega), trivial⟩) FU h50 (by have := gO_11_37 h15; have := iS_c (m15 70 37) 1; omega) (by have := gO_11_37 h15; have := iS_c (m15 70 37) 1; omega) trivial (by have := gO_11_37 h15; have := iS_c (m15 70 37) 1; omega)
set_option maxHeartbeats 4000000 in
set_option maxRecDepth 100000 in
theorem t_X11_urgent_L25 {μs : Mm} {l2 : Int} (hI : Ir μs)  (hp_l2 : -2147483648 ≤ l2 ∧ l2 ≤ 2147483647) {k91 : Int → Mm → Rs} {Q : Int → Mm → Prop} (hk_k91 : ∀ (a0 : Int) (μ : Mm), Sm μs μ → (-2147483648 ≤ a0 ∧ a0 ≤ 2147483647) → True → wp (k91 a0 μ) Q) : ∀ (n : Nat) {l3 l4 : Int} {μ : Mm}, Sm μs μ → (-2147483648 ≤ l3 ∧ l3 ≤ 2147483647) → (0 ≤ l4 ∧ l4 ≤ 8) → True → 8 - l4 + 1 ≤ ((n : Nat) : Int) → wp (X11_urgent_L25 l2 k91 n l3 l4 μ) Q := by
  have hFU := FU_v
  intro n
  induction n with
  | zero => intro l3 l4 μ hS hv_l3 hv_l4 hi hm; exact absurd hm (by  have : ((0 : Nat) : Int) = 0 := rfl; omega)
  | succ n ih =>
    intro l3 l4 μ hS hv_l3 hv_l4 hi hm
    have hn1 : ((n + 1 : Nat) : Int) = ((n : Nat) : Int) + 1 := rfl
    rw [X11_urgent_L25]
    refine wp_if (fun g29 => ?_) (fun g29 => ?_)
    · exact hk_k91 l3 μ hS (by have := gO_11_37 hS; omega) trivial
    · refine wp_if (fun g30 => ?_) (fun g30 => ?_)
      · exact hk_k91 l3 μ hS (by have := gO_11_37 hS; omega) trivial
      · refine wp_ldv (by have := gO_11_37 hS; have na1 : ((aN 88 : Nat) : Int) = 8 := rfl; omega) (fun v31 q32 => ?_)
        have hrv31 := gA_11_18 hS (l4).toNat
        replace hrv31 : -2147483648 ≤ v31 ∧ v31 ≤ 2147483647 := by rw [q32]; exact hrv31
        refine wp_stv (P := Sm μs) (by have := gO_11_37 hS; have na1 : ((aN 88 : Nat) : Int) = 8 := rfl; omega) (pA_11_18  hS (by unfold scrM; omega) (by have := gO_11_37 hS; have := iA_c v31 1; omega)) (fun m44 h44 he44 => ?_)
        refine wp_calls (t_X11_all   h44) (fun v55 hh => ?_)
        obtain ⟨hr56, hp56⟩ := hh
        refine wp_call (t_X11_leastOf (l1 := 0) (l2 := v55) hI (by have := gO_11_37 hS; omega) (by have := gO_11_37 hS; omega) h44) (fun v65 m66 hh => ?_)
        obtain ⟨h66, hr66, hp66⟩ := hh
        refine wp_if (fun g73 => ?_) (fun g73 => ?_)
        · unfold X11_urgent_J72
          try dsimp only
          refine wp_ldv (by have := gO_11_37 hS; have na1 : ((aN 88 : Nat) : Int) = 8 := rfl; omega) (fun v76 q77 => ?_)
          have hrv76 := gA_11_18 h66 (l4).toNat
          replace hrv76 : -2147483648 ≤ v76 ∧ v76 ≤ 2147483647 := by rw [q77]; exact hrv76
          refine wp_stv (P := Sm μs) (by have := gO_11_37 hS; have na1 : ((aN 88 : Nat) : Int) = 8 := rfl; omega) (pA_11_18  h66 (by unfold scrM; omega) (by have := gO_11_37 hS; have := iS_c v76 1; omega)) (fun m79 h79 he79 => ?_)
          exact ih h79 (by have := gO_11_37 hS; have := bO_r l3 0; omega) (by have := gO_11_37 hS; have := iA_c l4 1; omega) trivial (by have := gO_11_37 hS; have := bO_r l3 0; have := iA_c l4 1; omega)
        · unfold X11_urgent_J72
          try dsimp only
          refine wp_ldv (by have := gO_11_37 hS; have na1 : ((aN 88 : Nat) : Int) = 8 := rfl; omega) (fun v82 q83 => ?_)
          have hrv82 := gA_11_18 h66 (l4).toNat
          replace hrv82 : -2147483648 ≤ v82 ∧ v82 ≤ 2147483647 := by rw [q83]; exact hrv82
          refine wp_stv (P := Sm μs) (by have := gO_11_37 hS; have na1 : ((aN 88 : Nat) : Int) = 8 := rfl; omega) (pA_11_18  h66 (by unfold scrM; omega) (by have := gO_11_37 hS; have := iS_c v82 1; omega)) (fun m85 h85 he85 => ?_)
          exact ih h85 (by have := gO_11_37 hS; have := bL_r 1 l4; have := bO_r l3 (bL 1 l4); omega) (by have := gO_11_37 hS; have := iA_c l4 1; omega) trivial (by have := gO_11_37 hS; have := bL_r 1 l4; have := bO_r l3 (bL 1 l4); have := iA_c l4 1; omega)
set_option maxHeartbeats 4000000 in
set_option maxRecDepth 100000 in
theorem t_X11_urgent {μs : Mm} {l1 : Int} (hI : Ir μs)  (hp_l1 : -2147483648 ≤ l1 ∧ l1 ≤ 2147483647) {μ : Mm} (hS : Sm μs μ) : wp (X11_urgent l1 μ) (fun r μ' => Sm μs μ' ∧ (-2147483648 ≤ r ∧ r ≤ 2147483647) ∧ True) := by
  have hFU := FU_v
  unfold X11_urgent
  refine wp_call (t_X11_isReady (l1 := l1) hI (by omega) hS) (fun v9 m10 hh => ?_)
  obtain ⟨h10, hr10, hp10⟩ := hh
  refine wp_if (fun g17 => ?_) (fun g17 => ?_)
  · exact ⟨h10, (by omega), trivial⟩
  · refine wp_calls (t_X11_all   h10) (fun v18 hh => ?_)
    obtain ⟨hr19, hp19⟩ := hh
    refine wp_call (t_X11_leastOf (l1 := 0) (l2 := v18) hI (by omega) (by omega) h10) (fun v24 m25 hh => ?_)
    obtain ⟨h25, hr25, hp25⟩ := hh
    refine t_X11_urgent_L25 (l2 := v24) (l3 := 0) (l4 := 0) hI (by omega) (fun v28 m29 h29 hrv28 hp29 => ?_) FU h25 (by omega) (by omega) trivial (by omega)
    refine wp_if (fun g30 => ?_) (fun g30 => ?_)
    · exact ⟨h29, (by omega), trivial⟩
    · exact ⟨h29, (by omega), trivial⟩
set_option maxHeartbeats 4000000 in
set_option maxRecDepth 100000 in
theorem t_X11_dead_L22 {μs : Mm}    {μ : Mm} (hS : Sm μs μ) {Q : Int → Mm → Prop} (hQ : ∀ r, (-2147483648 ≤ r ∧ r ≤ 2147483647) → True → Q r μ) : ∀ (n : Nat) {l1 l2 : Int} , (-2147483648 ≤ l1 ∧ l1 ≤ 2147483647) → (0 ≤ l2 ∧ l2 ≤ 60) → True → 60 - l2 + 1 ≤ ((n : Nat) : Int) → wp (X11_dead_L22 n l1 l2 μ) Q := by
  have hFU := FU_v
  intro n
  induction n with
  | zero => intro l1 l2 hv_l1 hv_l2 hi hm; exact absurd hm (by  have : ((0 : Nat) : Int) = 0 := rfl; omega)
  | succ n ih =>
    intro l1 l2 hv_l1 hv_l2 hi hm
    have hn1 : ((n + 1 : Nat) : Int) = ((n : Nat) : Int) + 1 := rfl
    rw [X11_dead_L22]
    refine wp_if (fun g7 => ?_) (fun g7 => ?_)
    · exact hQ _ (by omega) trivial
    · refine wp_calls (t_X11_isOpen (l1 := l2)  (by omega) hS) (fun v8 hh => ?_)
      obtain ⟨hr9, hp9⟩ := hh
      refine wp_if (fun g11 => ?_) (fun g11 => ?_)
      · exact ih  (by have := iA_c l1 0; omega) (by have := iA_c l2 1; omega) trivial (by have := iA_c l1 0; have := iA_c l2 1; omega)
      · refine wp_ldv (by have na0 : ((aN 87 : Nat) : Int) = 60 := rfl; omega) (fun v12 q13 => ?_)
        have hrv12 := gA_11_17 hS (l2).toNat
        replace hrv12 : -2147483648 ≤ v12 ∧ v12 ≤ 2147483647 := by rw [q13]; exact hrv12
        refine wp_if (fun g14 => ?_) (fun g14 => ?_)
        · exact ih  (by have := iA_c l1 1; omega) (by have := iA_c l2 1; omega) trivial (by have := iA_c l1 1; have := iA_c l2 1; omega)
        · exact ih  (by have := iA_c l1 0; omega) (by have := iA_c l2 1; omega) trivial (by have := iA_c l1 0; have := iA_c l2 1; omega)
set_option maxHeartbeats 4000000 in
set_option maxRecDepth 100000 in
theorem t_X11_dead {μs : Mm}  (hI : Ir μs)   {μ : Mm} (hS : Sm μs μ) : wp (X11_dead μ) (fun r μ' => Sm μs μ' ∧ (-2147483648 ≤ r ∧ r ≤ 2147483647) ∧ True) := by
  have hFU := FU_v
  unfold X11_dead
  refine wp_if (fun g5 => ?_) (fun g5 => ?_)
  · exact ⟨hS, (by have := gO_11_23 hS; have := eqS hS (j := 23) (k := 70) (by unfold scrM; omega); omega), trivial⟩
  · refine wp_calls (t_X11_placeOf (l1 := 2)  (by have := gO_11_23 hS; have := eqS hS (j := 23) (k := 70) (by unfold scrM; omega); omega) hS) (fun v6 hh => ?_)
    obtain ⟨hr7, hp7⟩ := hh
    refine wp_call (t_X11_spread (l1 := v6) hI (by have := gO_11_23 hS; have := eqS hS (j := 23) (k := 70) (by unfold scrM; omega); omega) hS) (fun v10 m11 hh => ?_)
    obtain ⟨h11, hr11, hp11⟩ := hh
    exact t_X11_dead_L22 (l1 := 0) (l2 := 0)   h11 (fun r_ hr_ hp_ => by exact ⟨h11, (by have := gO_11_23 hS; have := eqS hS (j := 23) (k := 70) (by unfold scrM; omega); omega), trivial⟩) FU  (by have := gO_11_23 hS; have := eqS hS (j := 23) (k := 70) (by unfold scrM; omega); omega) (by have := gO_11_23 hS; have := eqS hS (j := 23) (k := 70) (by unfold scrM; omega); omega) trivial (by have := gO_11_23 hS; have := eqS hS (j := 23) (k := 70) (by unfold scrM; omega); omega)
set_option maxHeartbeats 4000000 in
set_option maxRecDepth 100000 in
theorem t_X11_posts_L4 {μs : Mm}    {μ : Mm} (hS : Sm μs μ) {Q : Int → Mm → Prop} (hQ : ∀ r, (-2147483648 ≤ r ∧ r ≤ 2147483647) → True → Q r μ) : ∀ (n : Nat) {l1 l2 : Int} , (-2147483648 ≤ l1 ∧ l1 ≤ 2147483647) → (0 ≤ l2 ∧ l2 ≤ 60) → True → 60 - l2 + 1 ≤ ((n : Nat) : Int) → wp (X11_posts_L4 n l1 l2 μ) Q := by
  have hFU := FU_v
  intro n
  induction n with
  | zero => intro l1 l2 hv_l1 hv_l2 hi hm; exact absurd hm (by  have : ((0 : Nat) : Int) = 0 := rfl; omega)
  | succ n ih =>
    intro l1 l2 hv_l1 hv_l2 hi hm
    have hn1 : ((n + 1 : Nat) : Int) = ((n : Nat) : Int) + 1 := rfl
    rw [X11_posts_L4]
    refine wp_if (fun g7 => ?_) (fun g7 => ?_)
    · exact hQ _ (by omega) trivial
    · refine wp_calls (t_X11_isPlace (l1 := l2)  (by omega) hS) (fun v8 hh => ?_)
      obtain ⟨hr9, hp9⟩ := hh
      refine wp_if (fun g11 => ?_) (fun g11 => ?_)
      · exact ih  (by have := iA_c l1 0; omega) (by have := iA_c l2 1; omega) trivial (by have := iA_c l1 0; have := iA_c l2 1; omega)
      · refine wp_ldv (by have na0 : ((aN 82 : Nat) : Int) = 60 := rfl; omega) (fun v12 q13 => ?_)
        have hrv12 := gA_11_12 hS (l2).toNat
        replace hrv12 : 0 ≤ v12 ∧ v12 ≤ 10 := by rw [q13]; exact hrv12
        refine wp_if (fun g14 => ?_) (fun g14 => ?_)
        · exact ih  (by have := iA_c l1 1; omega) (by have := iA_c l2 1; omega) trivial (by have := iA_c l1 1; have := iA_c l2 1; omega)
        · exact ih  (by have := iA_c l1 0; omega) (by have := iA_c l2 1; omega) trivial (by have := iA_c l1 0; have := iA_c l2 1; omega)
set_option maxHeartbeats 4000000 in
set_option maxRecDepth 100000 in
theorem t_X11_posts {μs : Mm}    {μ : Mm} (hS : Sm μs μ) : wp (X11_posts μ) (fun r μ' => μ' = μ ∧ (-2147483648 ≤ r ∧ r ≤ 2147483647) ∧ True) := by
  have hFU := FU_v
  unfold X11_posts
  exact t_X11_posts_L4 (l1 := 0) (l2 := 0)   hS (fun r_ hr_ hp_ => by exact ⟨rfl, (by omega), trivial⟩) FU  (by omega) (by omega) trivial (by omega)
set_option maxHeartbeats 4000000 in
set_option maxRecDepth 100000 in
theorem t_X11_cranks_L4 {μs : Mm}    {μ : Mm} (hS : Sm μs μ) {Q : Int → Mm → Prop} (hQ : ∀ r, (-2147483648 ≤ r ∧ r ≤ 2147483647) → True → Q r μ) : ∀ (n : Nat) {l1 l2 : Int} , (-2147483648 ≤ l1 ∧ l1 ≤ 2147483647) → (0 ≤ l2 ∧ l2 ≤ 8) → True → 8 - l2 + 1 ≤ ((n : Nat) : Int) → wp (X11_cranks_L4 n l1 l2 μ) Q := by
  have hFU := FU_v
  intro n
  induction n with
  | zero => intro l1 l2 hv_l1 hv_l2 hi hm; exact absurd hm (by  have : ((0 : Nat) : Int) = 0 := rfl; omega)
  | succ n ih =>
    intro l1 l2 hv_l1 hv_l2 hi hm
    have hn1 : ((n + 1 : Nat) : Int) = ((n : Nat) : Int) + 1 := rfl
    rw [X11_cranks_L4]
    refine wp_if (fun g5 => ?_) (fun g5 => ?_)
    · exact hQ _ (by omega) trivial
    · refine wp_calls (t_X11_isCrank (l1 := l2)  (by omega) hS) (fun v6 hh => ?_)
      obtain ⟨hr7, hp7⟩ := hh
      refine wp_if (fun g8 => ?_) (fun g8 => ?_)
      · exact ih  (by have := iA_c l1 0; omega) (by have := iA_c l2 1; omega) trivial (by have := iA_c l1 0; have := iA_c l2 1; omega)
      · exact ih  (by have := iA_c l1 1; omega) (by have := iA_c l2 1; omega) trivial (by have := iA_c l1 1; have := iA_c l2 1; omega)
set_option maxHeartbeats 4000000 in
set_option maxRecDepth 100000 in
theorem t_X11_cranks {μs : Mm}    {μ : Mm} (hS : Sm μs μ) : wp (X11_cranks μ) (fun r μ' => μ' = μ ∧ (-2147483648 ≤ r ∧ r ≤ 2147483647) ∧ True) := by
  have hFU := FU_v
  unfold X11_cranks
  exact t_X11_cranks_L4 (l1 := 0) (l2 := 0)   hS (fun r_ hr_ hp_ => by exact ⟨rfl, (by omega), trivial⟩) FU  (by omega) (by omega) trivial (by omega)
set_option maxHeartbeats 4000000 in
set_option maxRecDepth 100000 in
theorem t_X11_count {μs : Mm} {l1 : Int}  (hp_l1 : -2147483648 ≤ l1 ∧ l1 ≤ 2147483647) {μ : Mm} (hS : Sm μs μ) : wp (X11_count l1 μ) (fun r μ' => μ' = μ ∧ (-2147483648 ≤ r ∧ r ≤ 2147483647) ∧ True) := by
  have hFU := FU_v
  unfold X11_count
  refine wp_if (fun g5 => ?_) (fun g5 => ?_)
  · refine wp_calls (t_X11_cranks   hS) (fun v6 hh => ?_)
    obtain ⟨hr7, hp7⟩ := hh
    exact ⟨rfl, (by omega), trivial⟩
  · refine wp_if (fun g8 => ?_) (fun g8 => ?_)
    · exact ⟨rfl, (by have := gO_11_28 hS; have := eqS hS (j := 28) (k := 70) (by unfold scrM; omega); omega), trivial⟩
    · refine wp_if (fun g9 => ?_) (fun g9 => ?_)
      · exact ⟨rfl, (by have := gO_11_13 hS; have := eqS hS (j := 13) (k := 70) (by unfold scrM; omega); omega), trivial⟩
      · refine wp_if (fun g10 => ?_) (fun g10 => ?_)
        · exact ⟨rfl, (by have := gO_11_2 hS; have := eqS hS (j := 2) (k := 70) (by unfold scrM; omega); omega), trivial⟩
        · refine wp_if (fun g11 => ?_) (fun g11 => ?_)
          · exact ⟨rfl, (by have := gO_11_30 hS; have := eqS hS (j := 30) (k := 70) (by unfold scrM; omega); omega), trivial⟩
          · refine wp_if (fun g12 => ?_) (fun g12 => ?_)
            · exact ⟨rfl, (by have := gO_11_31 hS; have := eqS hS (j := 31) (k := 70) (by unfold scrM; omega); omega), trivial⟩
            · refine wp_if (fun g13 => ?_) (fun g13 => ?_)
              · exact ⟨rfl, (by have := gO_11_32 hS; have := eqS hS (j := 32) (k := 70) (by unfold scrM; omega); omega), trivial⟩
              · refine wp_if (fun g14 => ?_) (fun g14 => ?_)
                · exact ⟨rfl, (by have := gO_11_45 hS; have := eqS hS (j := 45) (k := 70) (by unfold scrM; omega); omega), trivial⟩
                · refine wp_if (fun g15 => ?_) (fun g15 => ?_)
                  · refine wp_calls (t_X11_posts   hS) (fun v16 hh => ?_)
                    obtain ⟨hr17, hp17⟩ := hh
                    exact ⟨rfl, (by omega), trivial⟩
                  · exact ⟨rfl, (by omega), trivial⟩
set_option maxHeartbeats 4000000 in
set_option maxRecDepth 100000 in
theorem t_X11_cue {μs : Mm} {l1 : Int} {l2 : Int} {l3 : Int} (hI : Ir μs)  (hp_l1 : -2147483648 ≤ l1 ∧ l1 ≤ 2147483647) (hp_l2 : -2147483648 ≤ l2 ∧ l2 ≤ 2147483647) (hp_l3 : -2147483648 ≤ l3 ∧ l3 ≤ 2147483647) {μ : Mm} (hS : Sm μs μ) : wp (X11_cue l1 l2 l3 μ) (fun r μ' => Sm μs μ' ∧ (-2147483648 ≤ r ∧ r ≤ 2147483647) ∧ True) := by
  have hFU := FU_v
  unfold X11_cue
  refine wp_calls (t_X11_isPlay (l1 := l1)  (by omega) hS) (fun v8 hh => ?_)
  obtain ⟨hr9, hp9⟩ := hh
  refine wp_if (fun g15 => ?_) (fun g15 => ?_)
  · exact ⟨hS, (by omega), trivial⟩
  · refine wp_calls (t_X11_in (l0 := l3) (l1 := 0) (l2 := 2)  (by omega) (by omega) (by omega) hS) (fun v16 hh => ?_)
    obtain ⟨hr17, hp17⟩ := hh
    refine wp_if (fun g21 => ?_) (fun g21 => ?_)
    · exact ⟨hS, (by omega), trivial⟩
    · refine wp_ldv (by have na0 : ((aN 85 : Nat) : Int) = 6 := rfl; omega) (fun v22 q23 => ?_)
      have hrv22 := gA_11_15 hS (l1).toNat
      have pev22 := eqS hS (k := 85) (j := (l1).toNat) (by unfold scrM; omega)
      rw [← q23] at pev22
      replace hrv22 : 0 ≤ v22 ∧ v22 ≤ 8 := by rw [q23]; exact hrv22
      refine wp_calls (t_X11_in (l0 := l2) (l1 := (-1)) (l2 := (iS v22 1))  (by omega) (by omega) (by have := iS_c v22 1; omega) hS) (fun v26 hh => ?_)
      obtain ⟨hr27, hp27⟩ := hh
      refine wp_if (fun g28 => ?_) (fun g28 => ?_)
      · exact ⟨hS, (by have := iS_c v22 1; omega), trivial⟩
      · refine wp_if (fun g29 => ?_) (fun g29 => ?_)
        · refine wp_if (fun g30 => ?_) (fun g30 => ?_)
          · unfold X11_cue_J44
            try dsimp only
            refine wp_call (t_X11_layTimes (l1 := l1) (l2 := (μ 70 31)) hI (by have := iS_c v22 1; omega) (by have := gO_11_31 hS; have := eqS hS (j := 31) (k := 70) (by unfold scrM; omega); have := iS_c v22 1; omega) hS) (fun v37 m38 hh => ?_)
            obtain ⟨h38, hr38, hp38⟩ := hh
            refine wp_if (fun g43 => ?_) (fun g43 => ?_)
            · refine wp_ldv (by have na0 : ((aN 85 : Nat) : Int) = 6 := rfl; have := iS_c v22 1; omega) (fun v44 q45 => ?_)
              have hrv44 := gA_11_15 h38 (l1).toNat
              have pev44 := eqS h38 (k := 85) (j := (l1).toNat) (by unfold scrM; omega)
              rw [← q45] at pev44
              replace hrv44 : 0 ≤ v44 ∧ v44 ≤ 8 := by rw [q45]; exact hrv44
              exact ⟨h38, (by have := iS_c v22 1; omega), trivial⟩
            · refine wp_if (fun g46 => ?_) (fun g46 => ?_)
              · refine wp_ldv (by have := iM_c 8 l1; have := iA_c (iM 8 l1) l2; have na2 : ((aN 83 : Nat) : Int) = 48 := rfl; have := iS_c v22 1; omega) (fun v47 q48 => ?_)
                have hrv47 := gA_11_13 h38 ((iA (iM 8 l1) l2)).toNat
                replace hrv47 : -2147483648 ≤ v47 ∧ v47 ≤ 2147483647 := by rw [q48]; exact hrv47
                exact ⟨h38, (by have := iS_c v22 1; omega), trivial⟩
              · refine wp_if (fun g49 => ?_) (fun g49 => ?_)
                · refine wp_ldv (by have := iM_c 8 l1; have := iA_c (iM 8 l1) l2; have na2 : ((aN 84 : Nat) : Int) = 48 := rfl; have := iS_c v22 1; omega) (fun v50 q51 => ?_)
                  have hrv50 := gA_11_14 h38 ((iA (iM 8 l1) l2)).toNat
                  replace hrv50 : -2147483648 ≤ v50 ∧ v50 ≤ 2147483647 := by rw [q51]; exact hrv50
                  exact ⟨h38, (by have := iS_c v22 1; omega), trivial⟩
                · refine wp_ldv (by have na0 : ((aN 88 : Nat) : Int) = 8 := rfl; have := iS_c v22 1; omega) (fun v52 q53 => ?_)
                  have hrv52 := gA_11_18 h38 (l2).toNat
                  replace hrv52 : -2147483648 ≤ v52 ∧ v52 ≤ 2147483647 := by rw [q53]; exact hrv52
                  exact ⟨h38, (by have := iS_c v22 1; omega), trivial⟩
          · exact ⟨hS, (by have := iS_c v22 1; omega), trivial⟩
        · unfold X11_cue_J44
          try dsimp only
          refine wp_call (t_X11_layTimes (l1 := l1) (l2 := (μ 70 31)) hI (by have := iS_c v22 1; omega) (by have := gO_11_31 hS; have := eqS hS (j := 31) (k := 70) (by unfold scrM; omega); have := iS_c v22 1; omega) hS) (fun v60 m61 hh => ?_)
          obtain ⟨h61, hr61, hp61⟩ := hh
          refine wp_if (fun g66 => ?_) (fun g66 => ?_)
          · refine wp_ldv (by have na0 : ((aN 85 : Nat) : Int) = 6 := rfl; have := iS_c v22 1; omega) (fun v67 q68 => ?_)
            have hrv67 := gA_11_15 h61 (l1).toNat
            have pev67 := eqS h61 (k := 85) (j := (l1).toNat) (by unfold scrM; omega)
            rw [← q68] at pev67
            replace hrv67 : 0 ≤ v67 ∧ v67 ≤ 8 := by rw [q68]; exact hrv67
            exact ⟨h61, (by have := iS_c v22 1; omega), trivial⟩
          · refine wp_if (fun g69 => ?_) (fun g69 => ?_)
            · refine wp_ldv (by have := iM_c 8 l1; have := iA_c (iM 8 l1) l2; have na2 : ((aN 83 : Nat) : Int) = 48 := rfl; have := iS_c v22 1; omega) (fun v70 q71 => ?_)
              have hrv70 := gA_11_13 h61 ((iA (iM 8 l1) l2)).toNat
              replace hrv70 : -2147483648 ≤ v70 ∧ v70 ≤ 2147483647 := by rw [q71]; exact hrv70
              exact ⟨h61, (by have := iS_c v22 1; omega), trivial⟩
            · refine wp_if (fun g72 => ?_) (fun g72 => ?_)
              · refine wp_ldv (by have := iM_c 8 l1; have := iA_c (iM 8 l1) l2; have na2 : ((aN 84 : Nat) : Int) = 48 := rfl; have := iS_c v22 1; omega) (fun v73 q74 => ?_)
                have hrv73 := gA_11_14 h61 ((iA (iM 8 l1) l2)).toNat
                replace hrv73 : -2147483648 ≤ v73 ∧ v73 ≤ 2147483647 := by rw [q74]; exact hrv73
                exact ⟨h61, (by have := iS_c v22 1; omega), trivial⟩
              · refine wp_ldv (by have na0 : ((aN 88 : Nat) : Int) = 8 := rfl; have := iS_c v22 1; omega) (fun v75 q76 => ?_)
                have hrv75 := gA_11_18 h61 (l2).toNat
                replace hrv75 : -2147483648 ≤ v75 ∧ v75 ≤ 2147483647 := by rw [q76]; exact hrv75
                exact ⟨h61, (by have := iS_c v22 1; omega), trivial⟩
/-! FIT, and what is altered for a while -/
theorem pc_0 : pc 0 = 0 := by decide +kernel
theorem fitF_L {μs : Mm} {rec : Int → Int → Int → Int → Mm → Rs} {l1 l2 l3 l4 mm : Int} (hl2 : 0 ≤ l2 ∧ l2 ≤ 255) (hmm : 0 ≤ mm ∧ mm ≤ 8) (hpc : 1 ≤ mm - pc l2 + 1) (hv : OV l3 mm (mm - pc l2)) (hrec : ∀ a b μ, Sm μs μ → μ 70 37 = mm → 0 ≤ a ∧ a ≤ 255 → pc a + 1 = pc l2 → OV b mm (mm - pc a) → wp (rec l1 a b l4 μ) (fun _ μ' => Sm μs μ' ∧ μ' 70 37 = mm)) : ∀ (n : Nat) (c : Int) (μ : Mm), Sm μs μ → μ 70 37 = mm → 0 ≤ c ∧ c ≤ 8 → 8 - c + 1 ≤ ((n : Nat) : Int) → wp (X11_fitFrom_L55 rec l1 l2 l3 l4 n c μ) (fun _ μ' => Sm μs μ' ∧ μ' 70 37 = mm) := by
  intro n
  induction n with
  | zero => intro c μ _ _ hc h; exact absurd h (by have : ((0 : Nat) : Int) = 0 := rfl; omega)
  | succ n ih =>
    intro c μ hS hm hc hn
    have hn1 : ((n + 1 : Nat) : Int) = ((n : Nat) : Int) + 1 := rfl
    show wp (if μ 70 37 ≤ c then _ else _) _
    refine wp_if (fun g => ?_) (fun g => ?_)
    · exact ⟨hS, hm⟩
    · have e1 : iA c 1 = c + 1 := iA_id (by omega) (by omega)
      refine wp_calls (t_X11_has (l0 := l2) (l1 := c) (by omega) (by omega) hS) (fun v hh => ?_)
      refine wp_if (fun g2 => ?_) (fun g2 => ?_)
      · rw [e1]
        exact ih (c + 1) μ hS hm (by omega) (by omega)
      · have hb := (pcl (x := l2) (c := c) hl2 (by omega)).resolve_left (fun h => h (hh.2.resolve_left g2))
        have hpr := pc_r hl2
        have h9 := OV_le hv (by omega)
        have h0 := hv.1
        rw [iM_id (by omega) (by omega), iA_id (a := 10 * l3) (by omega) (by omega)]
        have hv2 := OV_s (d := c) (by omega) hv (by omega) hmm.2
        have e2 : mm - pc l2 + 1 = mm - pc (bA l2 (bX (bL 1 c) (-1))) := by omega
        rw [e2] at hv2
        refine wp_call (hrec _ _ μ hS hm ⟨hb.1, hb.2.1⟩ hb.2.2 hv2) (fun r μ2 h2 => ?_)
        rw [e1]
        exact ih (c + 1) μ2 h2.1 h2.2 (by omega) (by omega)
theorem w_fitFrom {μs : Mm} (hI : Ir μs) {l1 l4 mm : Int} (hl1 : 0 ≤ l1 ∧ l1 ≤ 4) (hl4 : -2147483648 ≤ l4 ∧ l4 ≤ 2147483647) (hmm : 0 ≤ mm ∧ mm ≤ 8) : ∀ (n : Nat) (l2 l3 : Int) (μ : Mm), Sm μs μ → μ 70 37 = mm → 0 ≤ l2 ∧ l2 ≤ 255 → pc l2 ≤ mm → OV l3 mm (mm - pc l2) → pc l2 + 1 ≤ ((n : Nat) : Int) → wp (X11_fitFrom n l1 l2 l3 l4 μ) (fun _ μ' => Sm μs μ' ∧ μ' 70 37 = mm) := by
  intro n
  induction n with
  | zero => intro l2 l3 μ _ _ hl2 hp _ h; exact absurd h (by have : ((0 : Nat) : Int) = 0 := rfl; have := pc_r hl2; omega)
  | succ n ih =>
    intro l2 l3 μ hS hm hl2 hp hv hn
    have hn1 : ((n + 1 : Nat) : Int) = ((n : Nat) : Int) + 1 := rfl
    rw [X11_fitFrom]
    refine wp_if (fun g => ?_) (fun g => ?_)
    · rw [g, pc_0, Int.sub_zero] at hv
      have hod := OV_D hmm hv
      have h9 := OV_le hv hmm.2
      have h0 := hv.1
      refine wp_call (t_X11_go (l1 := l3) hI (by omega) hS (by rw [hm]; exact hod)) (fun r μ2 h2 => ?_)
      obtain ⟨h2, hr2, hp2⟩ := h2
      rw [hm] at hp2
      refine wp_if (fun g2 => ?_) (fun g2 => ?_)
      · exact ⟨h2, hp2⟩
      · refine wp_calls (t_X11_fits (l1 := l1) hl1 h2) (fun v hh => ?_)
        refine wp_if (fun g3 => ?_) (fun g3 => ?_)
        · exact ⟨h2, hp2⟩
        · have fin : ∀ x : Int, -2147483648 ≤ x ∧ x ≤ 2147483647 → Sm μs (sM (sM μ2 70 47 x) 70 46 (iA ((sM μ2 70 47 x) 70 46) 1)) ∧ (sM (sM μ2 70 47 x) 70 46 (iA ((sM μ2 70 47 x) 70 46) 1)) 70 37 = mm := by
            intro x hx
            refine ⟨pO_11_46 (pO_11_47 h2 (by unfold scrM; omega) hx) (by unfold scrM; omega) (wI_r _), ?_⟩
            rw [sM_j (by decide), sM_j (by decide)]
            exact hp2
          refine wp_if (fun g4 => ?_) (fun g4 => ?_)
          · exact fin l3 (by omega)
          · exact fin _ (gO_11_47 h2)
    · have hpr := pc_r hl2
      refine fitF_L hl2 hmm (by omega) hv (fun a b μ2 hS2 hm2 ha hpa hb => ?_) FU 0 μ hS hm (by omega) (by rw [FU_v]; omega)
      exact ih a b μ2 hS2 hm2 ha (by omega) hb (by omega)
theorem t_X11_fit {μs : Mm} {l1 l2 : Int} (hI : Ir μs) (hp_l1 : -2147483648 ≤ l1 ∧ l1 ≤ 2147483647) (hp_l2 : -2147483648 ≤ l2 ∧ l2 ≤ 2147483647) {μ : Mm} (hS : Sm μs μ) : wp (X11_fit l1 l2 μ) (fun r μ' => Sm μs μ' ∧ (-2147483648 ≤ r ∧ r ≤ 2147483647) ∧ True) := by
  unfold X11_fit
  refine wp_call (t_X11_isReady (l1 := l1) hI hp_l1 hS) (fun v μ2 hh => ?_)
  obtain ⟨h2, hr2, hp2⟩ := hh
  refine wp_if (fun g => ?_) (fun g => ?_)
  · exact ⟨h2, by omega, trivial⟩
  · refine wp_sFv (P := Sm μs) (pO_11_46 h2 (by unfold scrM; omega) (by omega)) (fun μ3 h3 _ => ?_)
    refine wp_sFv (P := Sm μs) (pO_11_47 h3 (by unfold scrM; omega) (by omega)) (fun μ4 h4 _ => ?_)
    have hb := gO_11_37 h4
    have e : μ4 70 37 = (((μ4 70 37).toNat : Nat) : Int) := by omega
    have hall : 0 ≤ iS (bL 1 (μ4 70 37)) 1 ∧ iS (bL 1 (μ4 70 37)) 1 ≤ 255 := by
      have h1 := bL_1 (s := μ4 70 37) hb
      have h2 := iS_c (bL 1 (μ4 70 37)) 1
      omega
    have hpa : pc (iS (bL 1 (μ4 70 37)) 1) = μ4 70 37 := by
      have := pc_all (μ4 70 37).toNat (by omega)
      rw [← e] at this
      exact this
    unfold X11_all
    rw [bd_some]
    refine wp_call (w_fitFrom hI (l1 := l1) (l4 := l2) (by omega) hp_l2 hb RD _ 0 μ4 h4 rfl hall (by omega) (by rw [hpa, Int.sub_self]; exact OV_0 _) (by rw [RD_v]; omega)) (fun r μ5 h5 => ?_)
    refine wp_if (fun g2 => ?_) (fun g2 => ?_)
    · exact ⟨h5.1, gO_11_46 h5.1, trivial⟩
    · exact ⟨h5.1, gO_11_47 h5.1, trivial⟩
/-! WHAT IS ALTERED FOR A WHILE: a POST, a ROPE, two CRANKS, a PILLAR -/
theorem Bm_sM {μ : Mm} (h : Bm μ) {a j : Nat} {v : Int} (hv : (bm a j).1 ≤ v ∧ v ≤ (bm a j).2) : Bm (sM μ a j v) := fun k i hk => by
  unfold sM
  by_cases c : k = a ∧ i = j
  · rw [if_pos c, c.1, c.2]; exact hv
  · rw [if_neg c]; exact h k i hk
/-- the cells that Ir speaks of -/
def perI (k j : Nat) : Prop := (k = 70 ∧ (j = 13 ∨ j = 23 ∨ j = 24 ∨ j = 28 ∨ j = 32 ∨ j = 53)) ∨ (72 ≤ k ∧ k ≤ 78) ∨ k = 82 ∨ k = 83 ∨ k = 85 ∨ k = 96
theorem isP_congr {μ ν : Mm} (h1 : ν 70 23 = μ 70 23) (h2 : ν 70 24 = μ 70 24) (p : Nat) : isP ν p ↔ isP μ p := by
  unfold isP; rw [h1, h2]
theorem LawOK_congr {μ ν : Mm} {q : Int} (h : LawOK μ q) (e : agr q ν μ) : LawOK ν q := by
  intro x hx ha
  refine h x hx ⟨fun j h1 h2 => ?_, ha.2.1.trans e.2.1, fun j h1 h2 => ?_⟩
  · exact ⟨(ha.1 j h1 h2).1.trans (e.1 j h1 h2).1, (ha.1 j h1 h2).2.trans (e.1 j h1 h2).2⟩
  · exact ⟨(ha.2.2 j h1 h2).1.trans (e.2.2 j h1 h2).1, (ha.2.2 j h1 h2).2.1.trans (e.2.2 j h1 h2).2.1, (ha.2.2 j h1 h2).2.2.trans (e.2.2 j h1 h2).2.2⟩
theorem agr_of {μ ν : Mm} (q : Int) (h : ∀ k j, 72 ≤ k → k ≤ 78 → ν k j = μ k j) : agr q ν μ :=
  ⟨fun j _ _ => ⟨h 72 j (by decide) (by decide), h 73 j (by decide) (by decide)⟩, h 75 _ (by decide) (by decide), fun j _ _ => ⟨h 76 j (by decide) (by decide), h 77 j (by decide) (by decide), h 78 j (by decide) (by decide)⟩⟩
theorem UQ_congr {μ ν : Mm} {c : Nat} (h : UQ μ c) (h1 : ν 70 23 = μ 70 23) (h2 : ν 70 24 = μ 70 24) (hc : ∀ p, ν c p = μ c p) : UQ ν c := by
  intro p q hp hq ip iq e2 e3
  rw [hc p, hc q] at e2
  rw [hc p] at e3
  exact h p q hp hq ((isP_congr h1 h2 p).mp ip) ((isP_congr h1 h2 q).mp iq) e2 e3
theorem Ir_congr {μ ν : Mm} (hI : Ir μ) (hB : Bm ν) (e : ∀ k j, perI k j → ν k j = μ k j) : Ir ν := by
  have s : ∀ j, (j = 13 ∨ j = 23 ∨ j = 24 ∨ j = 28 ∨ j = 32 ∨ j = 53) → ν 70 j = μ 70 j := fun j hj => e 70 j (Or.inl ⟨rfl, hj⟩)
  have e23 := s 23 (by decide)
  have e24 := s 24 (by decide)
  obtain ⟨_, h2, h3, h4, h5, h6, h7, h8⟩ := hI
  refine ⟨hB, fun p k hp hk => ?_, fun h => ?_, fun h => ?_, ?_, fun q hq1 hq2 => ?_, UQ_congr h7 e23 e24 (fun p => e 82 p (by unfold perI; omega)), fun h => ?_⟩
  · rw [s 28 (by decide)] at hp
    rw [e 85 p (by unfold perI; omega)] at hk
    rw [e 83 _ (by unfold perI; omega)]
    exact h2 p k hp hk
  · rw [e23] at h
    obtain ⟨p, hp, ip, hp2⟩ := h3 h
    exact ⟨p, hp, (isP_congr e23 e24 p).mpr ip, by rw [e 82 p (by unfold perI; omega)]; exact hp2⟩
  · rw [s 53 (by decide)] at h
    obtain ⟨p, hp, ip, hp2⟩ := h4 h
    exact ⟨p, hp, (isP_congr e23 e24 p).mpr ip, by rw [e 96 p (by unfold perI; omega)]; exact hp2⟩
  · rw [s 32 (by decide), s 13 (by decide)]; exact h5
  · rw [s 13 (by decide)] at hq2
    exact LawOK_congr (h6 q hq1 hq2) (agr_of q (fun k j h1 h2 => e k j (by unfold perI; omega)))
  · rw [s 53 (by decide)] at h
    exact UQ_congr (h8 h) e23 e24 (fun p => e 96 p (by unfold perI; omega))
theorem Ir_of {μs μ : Mm} (hI : Ir μs) (h : Sm μs μ) : Ir μ := Ir_congr hI h.1 (fun k j hp => eqS h (by unfold perI at hp; unfold scrM; omega))
theorem Ir_now {μ ν : Mm} (hI : Ir μ) (hB : Bm ν) (e : ∀ k j, perI k j → k ≠ 82 → ν k j = μ k j) (hU : UQ ν 82) (hS : μ 70 23 ≠ 0 → ∃ p, p < 60 ∧ isP μ p ∧ ν 82 p = 2) : Ir ν := by
  have s : ∀ j, (j = 13 ∨ j = 23 ∨ j = 24 ∨ j = 28 ∨ j = 32 ∨ j = 53) → ν 70 j = μ 70 j := fun j hj => e 70 j (Or.inl ⟨rfl, hj⟩) (by decide)
  have e23 := s 23 (by decide)
  have e24 := s 24 (by decide)
  obtain ⟨_, h2, h3, h4, h5, h6, h7, h8⟩ := hI
  refine ⟨hB, fun p k hp hk => ?_, fun h => ?_, fun h => ?_, ?_, fun q hq1 hq2 => ?_, hU, fun h => ?_⟩
  · rw [s 28 (by decide)] at hp
    rw [e 85 p (by unfold perI; omega) (by decide)] at hk
    rw [e 83 _ (by unfold perI; omega) (by decide)]
    exact h2 p k hp hk
  · rw [e23] at h
    obtain ⟨p, hp, ip, hp2⟩ := hS h
    exact ⟨p, hp, (isP_congr e23 e24 p).mpr ip, hp2⟩
  · rw [s 53 (by decide)] at h
    obtain ⟨p, hp, ip, hp2⟩ := h4 h
    exact ⟨p, hp, (isP_congr e23 e24 p).mpr ip, by rw [e 96 p (by unfold perI; omega) (by decide)]; exact hp2⟩
  · rw [s 32 (by decide), s 13 (by decide)]; exact h5
  · rw [s 13 (by decide)] at hq2
    exact LawOK_congr (h6 q hq1 hq2) (agr_of q (fun k j h1 h2 => e k j (by unfold perI; omega) (by omega)))
  · rw [s 53 (by decide)] at h
    exact UQ_congr (h8 h) e23 e24 (fun p => e 96 p (by unfold perI; omega) (by decide))
theorem UQ_sM {μ : Mm} (h : UQ μ 82) {i : Nat} {v : Int} (hv : v < 2) : UQ (sM μ 82 i v) 82 := by
  intro p q hp hq ip iq e2 e3
  have e23 : ∀ j, sM μ 82 i v 70 j = μ 70 j := fun j => sM_a (by decide)
  have ip := (isP_congr (e23 23) (e23 24) p).mp ip
  have iq := (isP_congr (e23 23) (e23 24) q).mp iq
  rw [sM_if] at e3
  by_cases c1 : p = i
  · rw [if_pos c1] at e3; omega
  · rw [if_neg c1] at e3
    rw [sM_if, sM_if, if_neg c1] at e2
    by_cases c2 : q = i
    · rw [if_pos c2] at e2; omega
    · rw [if_neg c2] at e2
      exact h p q hp hq ip iq e2 e3
theorem Ir_82 {μ : Mm} (hI : Ir μ) {i : Nat} {v : Int} (hx : μ 82 i < 2) (hv : 0 ≤ v ∧ v < 2) : Ir (sM μ 82 i v) := by
  refine Ir_now hI (Bm_sM hI.1 (show (0 : Int) ≤ v ∧ v ≤ 10 by omega)) (fun k j _ hk => sM_a hk) (UQ_sM hI.2.2.2.2.2.2.1 hv.2) (fun h => ?_)
  obtain ⟨p, hp, ip, hp2⟩ := hI.2.2.1 h
  refine ⟨p, hp, ip, ?_⟩
  rw [sM_j (fun e => by rw [e] at hp2; omega)]
  exact hp2
theorem back_c {μs μ μ2 : Mm} {c i : Nat} {v : Int} (h : Sm μs μ) (hc : 70 ≤ c) (hn : ∀ j, ¬ scrM c j) (h2 : Sm (sM μ c i v) μ2) : Sm μs (sM μ2 c i (μ c i)) := by
  refine ⟨Bm_sM h2.1 (h.1 c i hc), fun k j hk => ?_⟩
  unfold sM
  by_cases e : k = c ∧ j = i
  · rw [if_pos e, e.1, e.2]; exact eqS h (hn i)
  · rw [if_neg e, eqS h2 hk]
    unfold sM
    rw [if_neg e]
    exact eqS h hk
theorem post_L {μs : Mm} (hI : Ir μs) {l1 l2 : Int} (h1 : -2147483648 ≤ l1 ∧ l1 ≤ 2147483647) {K : Int → Int → Mm → Rs} {Q : Int → Mm → Prop} (hK : ∀ a b μ, Sm μs μ → rI a → rI b → wp (K a b μ) Q) : ∀ (n : Nat) (l3 l4 l5 : Int) (μ : Mm), Sm μs μ → rI l3 → rI l4 → 0 ≤ l5 ∧ l5 ≤ 60 → 60 - l5 + 1 ≤ ((n : Nat) : Int) → wp (X11_post_L27 l1 l2 K n l3 l4 l5 μ) Q := by
  intro n
  induction n with
  | zero => intro l3 l4 l5 μ _ _ _ hc h; exact absurd h (by have : ((0 : Nat) : Int) = 0 := rfl; omega)
  | succ n ih =>
    intro l3 l4 l5 μ hS h3 h4 hc hn
    have hn1 : ((n + 1 : Nat) : Int) = ((n : Nat) : Int) + 1 := rfl
    show wp (if 60 ≤ l5 then _ else _) Q
    refine wp_if (fun g => ?_) (fun g => ?_)
    · exact hK l3 l4 μ hS h3 h4
    · have e1 : iA l5 1 = l5 + 1 := iA_id (by omega) (by omega)
      rw [e1]
      refine wp_calls (t_X11_isPlace (l1 := l5) (by omega) hS) (fun v hh => ?_)
      refine wp_if (fun g2 => ?_) (fun g2 => ?_)
      · exact ih _ _ _ μ hS h3 h4 (by omega) (by omega)
      · refine wp_ldv (by show 0 ≤ l5 ∧ l5 < 60; omega) (fun v2 q2 => ?_)
        refine wp_if (fun g3 => ?_) (fun g3 => ?_)
        · refine wp_stv (P := fun x => x = sM μ 82 l5.toNat 0) (by show 0 ≤ l5 ∧ l5 < 60; omega) rfl (fun μ3 e3 _ => ?_)
          have hI3 : Ir μ3 := by rw [e3]; exact Ir_82 (Ir_of hI hS) (by omega) (by omega)
          refine wp_call (t_X11_leastNow (μs := μ3) (l1 := l1) hI3 h1 (Sm_rf hI3.1)) (fun r μ4 h4' => ?_)
          obtain ⟨hS4, hr4, _⟩ := h4'
          rw [e3] at hS4
          refine wp_stv (P := fun x => x = sM μ4 82 l5.toNat 1) (by show 0 ≤ l5 ∧ l5 < 60; omega) rfl (fun μ5 e5 _ => ?_)
          have hS5 : Sm μs μ5 := by
            have := back_c hS (by decide) (fun j => by unfold scrM; omega) hS4
            rw [← q2, g3] at this
            rw [e5]; exact this
          refine wp_if (fun _ => ?_) (fun _ => ?_)
          · exact ih _ _ _ _ hS5 h3 h4 (by omega) (by omega)
          refine wp_if (fun _ => ?_) (fun _ => ?_)
          · exact ih _ _ _ _ hS5 ⟨by omega, by omega⟩ hr4 (by omega) (by omega)
          refine wp_if (fun _ => ?_) (fun _ => ?_)
          · exact ih _ _ _ _ hS5 h3 h4 (by omega) (by omega)
          · exact ih _ _ _ _ hS5 ⟨by omega, by omega⟩ hr4 (by omega) (by omega)
        · exact ih _ _ _ μ hS h3 h4 (by omega) (by omega)
theorem t_X11_post {μs : Mm} {l1 l2 : Int} (hI : Ir μs) (hp_l1 : -2147483648 ≤ l1 ∧ l1 ≤ 2147483647) (hp_l2 : -2147483648 ≤ l2 ∧ l2 ≤ 2147483647) {μ : Mm} (hS : Sm μs μ) : wp (X11_post l1 l2 μ) (fun r μ' => Sm μs μ' ∧ (-2147483648 ≤ r ∧ r ≤ 2147483647) ∧ True) := by
  unfold X11_post
  refine wp_call (t_X11_isReady (l1 := l1) hI hp_l1 hS) (fun v μ2 hh => ?_)
  obtain ⟨h2, hr2, hp2⟩ := hh
  refine wp_if (fun g => ?_) (fun g => ?_)
  · exact ⟨h2, by omega, trivial⟩
  refine wp_calls (t_X11_in (l0 := l2) (l1 := 0) (l2 := 1) hp_l2 (by omega) (by omega) h2) (fun v3 hh3 => ?_)
  refine wp_if (fun g2 => ?_) (fun g2 => ?_)
  · exact ⟨h2, by omega, trivial⟩
  refine post_L hI hp_l1 (fun a b μ3 h3 ha hb => ?_) FU _ _ _ _ h2 ⟨by decide, by decide⟩ ⟨by decide, by decide⟩ (by omega) (by rw [FU_v]; omega)
  refine wp_if (fun _ => ?_) (fun _ => ?_)
  · exact ⟨h3, ha, trivial⟩
  refine wp_if (fun _ => ?_) (fun _ => ?_)
  · exact ⟨h3, ha, trivial⟩
  · exact ⟨h3, hb, trivial⟩
theorem rope_L {μs : Mm} (hI : Ir μs) {l1 l2 : Int} (h1 : -2147483648 ≤ l1 ∧ l1 ≤ 2147483647) {K : Int → Int → Mm → Rs} {Q : Int → Mm → Prop} (hK : ∀ a b μ, Sm μs μ → rI a → rI b → wp (K a b μ) Q) : ∀ (n : Nat) (l3 l4 l5 : Int) (μ : Mm), Sm μs μ → rI l3 → rI l4 → 0 ≤ l5 ∧ l5 ≤ 8 → 8 - l5 + 1 ≤ ((n : Nat) : Int) → wp (X11_rope_L27 l1 l2 K n l3 l4 l5 μ) Q := by
  intro n
  induction n with
  | zero => intro l3 l4 l5 μ _ _ _ hc h; exact absurd h (by have : ((0 : Nat) : Int) = 0 := rfl; omega)
  | succ n ih =>
    intro l3 l4 l5 μ hS h3 h4 hc hn
    have hn1 : ((n + 1 : Nat) : Int) = ((n : Nat) : Int) + 1 := rfl
    show wp (if 8 ≤ l5 then _ else _) Q
    refine wp_if (fun g => ?_) (fun g => ?_)
    · exact hK l3 l4 μ hS h3 h4
    · have e1 : iA l5 1 = l5 + 1 := iA_id (by omega) (by omega)
      rw [e1]
      refine wp_calls (t_X11_isCrank (l1 := l5) (by omega) hS) (fun v hh => ?_)
      refine wp_if (fun g2 => ?_) (fun g2 => ?_)
      · exact ih _ _ _ μ hS h3 h4 (by omega) (by omega)
      · refine wp_ldv (by show 0 ≤ l5 ∧ l5 < 8; omega) (fun v2 q2 => ?_)
        have hb2 := gA_11_16 hS l5.toNat
        have hw : 0 ≤ iD (iA v2 1) 2 ∧ iD (iA v2 1) 2 ≤ 30 := by
          rw [q2, iA_id (by omega) (by omega), iD_id (by omega) (by omega) (by decide)]
          omega
        refine wp_stv (P := fun x => x = sM μ 86 l5.toNat (iD (iA v2 1) 2)) (by show 0 ≤ l5 ∧ l5 < 8; omega) rfl (fun μ3 e3 _ => ?_)
        have hI3 : Ir μ3 := by
          rw [e3]
          refine Ir_congr (Ir_of hI hS) (Bm_sM hS.1 hw) (fun k j hp => sM_a (fun e => ?_))
          unfold perI at hp; omega
        refine wp_call (t_X11_leastNow (μs := μ3) (l1 := l1) hI3 h1 (Sm_rf hI3.1)) (fun r μ4 h4' => ?_)
        obtain ⟨hS4, hr4, _⟩ := h4'
        rw [e3] at hS4
        refine wp_stv (P := fun x => x = sM μ4 86 l5.toNat v2) (by show 0 ≤ l5 ∧ l5 < 8; omega) rfl (fun μ5 e5 _ => ?_)
        have hS5 : Sm μs μ5 := by
          have := back_c hS (by decide) (fun j => by unfold scrM; omega) hS4
          rw [← q2] at this
          rw [e5]; exact this
        refine wp_if (fun _ => ?_) (fun _ => ?_)
        · exact ih _ _ _ _ hS5 h3 h4 (by omega) (by omega)
        refine wp_if (fun _ => ?_) (fun _ => ?_)
        · exact ih _ _ _ _ hS5 ⟨by omega, by omega⟩ hr4 (by omega) (by omega)
        refine wp_if (fun _ => ?_) (fun _ => ?_)
        · exact ih _ _ _ _ hS5 h3 h4 (by omega) (by omega)
        · exact ih _ _ _ _ hS5 ⟨by omega, by omega⟩ hr4 (by omega) (by omega)
theorem t_X11_rope {μs : Mm} {l1 l2 : Int} (hI : Ir μs) (hp_l1 : -2147483648 ≤ l1 ∧ l1 ≤ 2147483647) (hp_l2 : -2147483648 ≤ l2 ∧ l2 ≤ 2147483647) {μ : Mm} (hS : Sm μs μ) : wp (X11_rope l1 l2 μ) (fun r μ' => Sm μs μ' ∧ (-2147483648 ≤ r ∧ r ≤ 2147483647) ∧ True) := by
  unfold X11_rope
  refine wp_call (t_X11_isReady (l1 := l1) hI hp_l1 hS) (fun v μ2 hh => ?_)
  obtain ⟨h2, hr2, hp2⟩ := hh
  refine wp_if (fun g => ?_) (fun g => ?_)
  · exact ⟨h2, by omega, trivial⟩
  refine wp_calls (t_X11_in (l0 := l2) (l1 := 0) (l2 := 1) hp_l2 (by omega) (by omega) h2) (fun v3 hh3 => ?_)
  refine wp_if (fun g2 => ?_) (fun g2 => ?_)
  · exact ⟨h2, by omega, trivial⟩
  refine rope_L hI hp_l1 (fun a b μ3 h3 ha hb => ?_) FU _ _ _ _ h2 ⟨by decide, by decide⟩ ⟨by decide, by decide⟩ (by omega) (by rw [FU_v]; omega)
  refine wp_if (fun _ => ?_) (fun _ => ?_)
  · exact ⟨h3, ha, trivial⟩
  refine wp_if (fun _ => ?_) (fun _ => ?_)
  · exact ⟨h3, ha, trivial⟩
  · exact ⟨h3, hb, trivial⟩
/-! where something lies -/
theorem isPl_eq {μ : Mm} {a : Int} (ha : 0 ≤ a ∧ a < 60) : X11_isPlace a μ = some (if ((a.toNat / 10 : Nat) : Int) < μ 70 23 ∧ ((a.toNat % 10 : Nat) : Int) < μ 70 24 then 1 else 0, μ) := by
  unfold X11_isPlace
  have e1 : iD a 10 = a / 10 := iD_id ha.1 (by omega) (by decide)
  have e2 : iR a 10 = a % 10 := iR_id ha.1 (by omega) (by decide)
  rw [if_neg (by omega), e1, e2]
  have f1 : ((a.toNat / 10 : Nat) : Int) = a / 10 := by omega
  have f2 : ((a.toNat % 10 : Nat) : Int) = a % 10 := by omega
  rw [f1, f2]
  by_cases h1 : μ 70 23 ≤ a / 10
  · rw [if_pos h1, if_neg (by omega)]
  · rw [if_neg h1]
    by_cases h2 : μ 70 24 ≤ a % 10
    · rw [if_pos h2, if_neg (by omega)]
    · rw [if_neg h2, if_pos (by omega)]
theorem plc_L {μ : Mm} {a : Int} : ∀ (n : Nat) (f k : Int), 0 ≤ k ∧ k ≤ 60 → ((f = -1 ∧ ∀ p : Nat, (p : Int) < k → isP μ p → μ 82 p ≠ a) ∨ (0 ≤ f ∧ f < k ∧ isP μ f.toNat ∧ μ 82 f.toNat = a)) → 60 - k + 1 ≤ ((n : Nat) : Int) → ∃ r, X11_placeOf_L4 a n f k μ = some (r, μ) ∧ ((r = -1 ∧ ∀ p : Nat, p < 60 → isP μ p → μ 82 p ≠ a) ∨ (0 ≤ r ∧ r < 60 ∧ isP μ r.toNat ∧ μ 82 r.toNat = a)) := by
  intro n
  induction n with
  | zero => intro f k hk _ h; exact absurd h (by have : ((0 : Nat) : Int) = 0 := rfl; omega)
  | succ n ih =>
    intro f k hk hf hn
    have hn1 : ((n + 1 : Nat) : Int) = ((n : Nat) : Int) + 1 := rfl
    have e1 : iA k 1 = k + 1 := iA_id (by omega) (by omega)
    show ∃ r, (if 60 ≤ k then _ else _) = _ ∧ _
    by_cases g : 60 ≤ k
    · rw [if_pos g]
      refine ⟨f, rfl, ?_⟩
      rcases hf with ⟨h1, h2⟩ | ⟨h1, h2, h3⟩
      · exact Or.inl ⟨h1, fun p hp => h2 p (by omega)⟩
      · exact Or.inr ⟨h1, by omega, h3⟩
    · rw [if_neg g, isPl_eq (by omega), bd_some, e1]
      have hkk : ((k.toNat : Nat) : Int) = k := by omega
      by_cases g2 : ((k.toNat / 10 : Nat) : Int) < μ 70 23 ∧ ((k.toNat % 10 : Nat) : Int) < μ 70 24
      · rw [if_pos g2, if_neg (by decide)]
        unfold ldA
        rw [if_pos (by show 0 ≤ k ∧ k < 60; omega)]
        dsimp only
        by_cases g3 : μ 82 k.toNat = a
        · rw [if_pos g3]
          exact ih k (k + 1) (by omega) (Or.inr ⟨by omega, by omega, g2, g3⟩) (by omega)
        · rw [if_neg g3]
          refine ih f (k + 1) (by omega) ?_ (by omega)
          rcases hf with ⟨h1, h2⟩ | ⟨h1, h2, h3⟩
          · refine Or.inl ⟨h1, fun p hp ip => ?_⟩
            by_cases hpk : (p : Int) < k
            · exact h2 p hpk ip
            · have : p = k.toNat := by omega
              rw [this]; exact g3
          · exact Or.inr ⟨h1, by omega, h3⟩
      · rw [if_neg g2, if_pos rfl]
        refine ih f (k + 1) (by omega) ?_ (by omega)
        rcases hf with ⟨h1, h2⟩ | ⟨h1, h2, h3⟩
        · refine Or.inl ⟨h1, fun p hp ip => ?_⟩
          by_cases hpk : (p : Int) < k
          · exact h2 p hpk ip
          · have : p = k.toNat := by omega
            rw [this] at ip
            exact absurd ip g2
        · exact Or.inr ⟨h1, by omega, h3⟩
theorem plc (a : Int) (μ : Mm) : ∃ r, X11_placeOf a μ = some (r, μ) ∧ ((r = -1 ∧ ∀ p : Nat, p < 60 → isP μ p → μ 82 p ≠ a) ∨ (0 ≤ r ∧ r < 60 ∧ isP μ r.toNat ∧ μ 82 r.toNat = a)) :=
  plc_L FU (-1) 0 (by omega) (Or.inl ⟨rfl, fun p hp => absurd hp (by omega)⟩) (by rw [FU_v]; omega)
theorem plc_at {μ : Mm} (hU : UQ μ 82) {a : Int} {p : Nat} (hp : p < 60) (ip : isP μ p) (e : μ 82 p = a) (ha : 2 ≤ a) : X11_placeOf a μ = some ((p : Int), μ) := by
  obtain ⟨r, hr, hc⟩ := plc a μ
  rcases hc with ⟨_, h2⟩ | ⟨h1, h2, h3, h4⟩
  · exact absurd e (h2 p hp ip)
  · have h5 := hU r.toNat p (by omega) hp h3 ip (by rw [h4, e]) (by omega)
    rw [hr]
    have : r = (p : Int) := by omega
    rw [this]
/-! two CRANKS exchanged, a PILLAR -/
theorem chg_eq {μ : Mm} (hU : UQ μ 82) {a b : Int} (ha : 0 ≤ a ∧ a ≤ 7) (hb : 0 ≤ b ∧ b ≤ 7) {p q : Nat} (hp : p < 60) (ip : isP μ p) (ep : μ 82 p = 3 + a) (hq : q < 60) (iq : isP μ q) (eq : μ 82 q = 3 + b) : X11_change a b μ = some (0, sM (sM μ 82 p (3 + b)) 82 q (3 + a)) := by
  unfold X11_change
  have e1 : iA 3 a = 3 + a := iA_id (by omega) (by omega)
  have e2 : iA 3 b = 3 + b := iA_id (by omega) (by omega)
  rw [e1, e2, plc_at hU hp ip ep (by omega), bd_some, plc_at hU hq iq eq (by omega), bd_some]
  unfold stA
  rw [if_pos (by show (0 : Int) ≤ (p : Int) ∧ (p : Int) < 60; omega)]
  dsimp only
  rw [if_pos (by show (0 : Int) ≤ (q : Int) ∧ (q : Int) < 60; omega), Int.toNat_natCast, Int.toNat_natCast]
theorem chg_at {μ : Mm} {p q : Nat} {x y : Int} (hpq : p ≠ q) (j : Nat) : sM (sM μ 82 p y) 82 q x 82 j = if j = q then x else if j = p then y else μ 82 j := by
  rw [sM_if, sM_if]
theorem Ir_chg {μ : Mm} (hI : Ir μ) {p q : Nat} (hp : p < 60) (ip : isP μ p) (hq : q < 60) (iq : isP μ q) (hpq : p ≠ q) (h3 : 3 ≤ μ 82 p) (h4 : 3 ≤ μ 82 q) : Ir (sM (sM μ 82 p (μ 82 q)) 82 q (μ 82 p)) := by
  have hU := hI.2.2.2.2.2.2.1
  have hB : Bm (sM (sM μ 82 p (μ 82 q)) 82 q (μ 82 p)) := Bm_sM (Bm_sM hI.1 (show (0 : Int) ≤ μ 82 q ∧ μ 82 q ≤ 10 from hI.1 82 q (by decide))) (show (0 : Int) ≤ μ 82 p ∧ μ 82 p ≤ 10 from hI.1 82 p (by decide))
  refine Ir_now hI hB (fun k j _ hk => by rw [sM_a hk, sM_a hk]) ?_ (fun h => ?_)
  · intro P R hP hR iP iR e2 e3
    have f : ∀ j, sM (sM μ 82 p (μ 82 q)) 82 q (μ 82 p) 70 j = μ 70 j := fun j => by rw [sM_a (by decide), sM_a (by decide)]
    have iP := (isP_congr (f 23) (f 24) P).mp iP
    have iR := (isP_congr (f 23) (f 24) R).mp iR
    rw [chg_at hpq, chg_at hpq] at e2
    rw [chg_at hpq] at e3
    have hne : μ 82 p ≠ μ 82 q := fun e => hpq (hU p q hp hq ip iq e (by omega))
    by_cases c1 : P = q
    · rw [if_pos c1] at e2
      by_cases c2 : R = q
      · rw [c1, c2]
      · rw [if_neg c2] at e2
        by_cases c3 : R = p
        · rw [if_pos c3] at e2; exact absurd e2 hne
        · rw [if_neg c3] at e2
          exact absurd (hU p R hp hR ip iR e2 (by omega)).symm c3
    · rw [if_neg c1] at e2 e3
      by_cases c4 : P = p
      · rw [if_pos c4] at e2 e3
        by_cases c2 : R = q
        · rw [if_pos c2] at e2; exact absurd e2.symm hne
        · rw [if_neg c2] at e2
          by_cases c3 : R = p
          · rw [c4, c3]
          · rw [if_neg c3] at e2
            exact absurd (hU q R hq hR iq iR e2 (by omega)).symm c2
      · rw [if_neg c4] at e2 e3
        by_cases c2 : R = q
        · rw [if_pos c2] at e2
          exact absurd (hU P p hP hp iP ip e2 (by omega)) c4
        · rw [if_neg c2] at e2
          by_cases c3 : R = p
          · rw [if_pos c3] at e2
            exact absurd (hU P q hP hq iP iq e2 (by omega)) c1
          · rw [if_neg c3] at e2
            exact hU P R hP hR iP iR e2 e3
  · obtain ⟨s, hs, is, hs2⟩ := hI.2.2.1 h
    refine ⟨s, hs, is, ?_⟩
    rw [chg_at hpq, if_neg (fun e => by rw [e] at hs2; omega), if_neg (fun e => by rw [e] at hs2; omega)]
    exact hs2
theorem isCr {μ : Mm} {a : Int} (ha : -2147483648 ≤ a ∧ a ≤ 2147483647) : ∃ r, X11_isCrank a μ = some (r, μ) ∧ ((r = 0 ∧ (0 ≤ a → a ≤ 7 → ∀ p : Nat, p < 60 → isP μ p → μ 82 p ≠ 3 + a)) ∨ (r = 1 ∧ 0 ≤ a ∧ a ≤ 7 ∧ ∃ p : Nat, p < 60 ∧ isP μ p ∧ μ 82 p = 3 + a)) := by
  unfold X11_isCrank X11_in
  by_cases h1 : a < 0
  · rw [if_pos h1, bd_some, if_pos rfl]
    exact ⟨0, rfl, Or.inl ⟨rfl, fun h => absurd h (by omega)⟩⟩
  · rw [if_neg h1]
    by_cases h2 : 7 < a
    · rw [if_pos h2, bd_some, if_pos rfl]
      exact ⟨0, rfl, Or.inl ⟨rfl, fun _ h => absurd h (by omega)⟩⟩
    · rw [if_neg h2, bd_some, if_neg (by decide)]
      have e1 : iA 3 a = 3 + a := iA_id (by omega) (by omega)
      rw [e1]
      obtain ⟨r, hr, hc⟩ := plc (3 + a) μ
      rw [hr, bd_some]
      rcases hc with ⟨h3, h4⟩ | ⟨h3, h4, h5, h6⟩
      · rw [if_pos h3]
        exact ⟨0, rfl, Or.inl ⟨rfl, fun _ _ => h4⟩⟩
      · rw [if_neg (by omega)]
        exact ⟨1, rfl, Or.inr ⟨rfl, by omega, by omega, r.toNat, by omega, h5, h6⟩⟩
theorem exch_in {μs : Mm} (hI : Ir μs) {l1 l2 : Int} (h1 : -2147483648 ≤ l1 ∧ l1 ≤ 2147483647) (h2 : -2147483648 ≤ l2 ∧ l2 ≤ 2147483647) {a b : Int} (hab : a ≠ b) (ha : 0 ≤ a ∧ a ≤ 7) (hb : 0 ≤ b ∧ b ≤ 7) {μ : Mm} (hS : Sm μs μ) {p q : Nat} (hp : p < 60) (ip : isP μ p) (ep : μ 82 p = 3 + a) (hq : q < 60) (iq : isP μ q) (eq : μ 82 q = 3 + b) {f : Int → Mm → Rs} {Q : Int → Mm → Prop} (k : ∀ r μ', Sm μs μ' → rI r → wp (f r μ') Q) : wp (bd (X11_change a b μ) fun _ μ28 => bd (X11_bothNow l1 l2 μ28) fun v30 μ31 => bd (X11_change a b μ31) fun _ μ34 => f v30 μ34) Q := by
  have hIμ := Ir_of hI hS
  have hU := hIμ.2.2.2.2.2.2.1
  have hpq : p ≠ q := fun e => by rw [e, eq] at ep; omega
  rw [chg_eq hU ha hb hp ip ep hq iq eq, bd_some]
  have hM : Ir (sM (sM μ 82 p (3 + b)) 82 q (3 + a)) := by
    have := Ir_chg hIμ hp ip hq iq hpq (by omega) (by omega)
    rw [ep, eq] at this
    exact this
  refine wp_call (t_X11_bothNow (μs := sM (sM μ 82 p (3 + b)) 82 q (3 + a)) (l1 := l1) (l2 := l2) hM h1 h2 (Sm_rf hM.1)) (fun r μ5 hh => ?_)
  obtain ⟨hS5, hr5, _⟩ := hh
  have hI5 := Ir_of hM hS5
  have f70 : ∀ j, j = 23 ∨ j = 24 → μ5 70 j = μ 70 j := fun j hj => by
    rw [eqS hS5 (by unfold scrM; omega), sM_a (by decide), sM_a (by decide)]
  have f82 : ∀ j, μ5 82 j = if j = q then 3 + a else if j = p then 3 + b else μ 82 j := fun j => by
    rw [eqS hS5 (by unfold scrM; omega), chg_at hpq]
  have ip5 := (isP_congr (f70 23 (by decide)) (f70 24 (by decide)) p).mpr ip
  have iq5 := (isP_congr (f70 23 (by decide)) (f70 24 (by decide)) q).mpr iq
  rw [chg_eq hI5.2.2.2.2.2.2.1 ha hb hq iq5 (by rw [f82, if_pos rfl]) hp ip5 (by rw [f82, if_neg hpq, if_pos rfl]), bd_some]
  refine k r _ ?_ hr5
  refine ⟨Bm_sM (Bm_sM hS5.1 (show (0 : Int) ≤ 3 + b ∧ 3 + b ≤ 10 by omega)) (show (0 : Int) ≤ 3 + a ∧ 3 + a ≤ 10 by omega), fun k j hk => ?_⟩
  by_cases hk82 : k = 82
  · subst hk82
    rw [chg_at (Ne.symm hpq), f82]
    by_cases c1 : j = p
    · rw [if_pos c1, c1, ← ep]; rw [c1] at hk; exact eqS hS hk
    · rw [if_neg c1]
      by_cases c2 : j = q
      · rw [if_pos c2, c2, ← eq]; rw [c2] at hk; exact eqS hS hk
      · rw [if_neg c2, if_neg c2, if_neg c1]; exact eqS hS hk
  · rw [sM_a hk82, sM_a hk82, eqS hS5 hk, sM_a hk82, sM_a hk82]
    exact eqS hS hk
theorem exch_L59 {μs : Mm} (hI : Ir μs) {l1 l2 l3 l6 : Int} (h1 : -2147483648 ≤ l1 ∧ l1 ≤ 2147483647) (h2 : -2147483648 ≤ l2 ∧ l2 ≤ 2147483647) (h6 : 0 ≤ l6 ∧ l6 ≤ 7) {K : Int → Int → Mm → Rs} {Q : Int → Mm → Prop} (hK : ∀ a b μ, Sm μs μ → rI a → rI b → wp (K a b μ) Q) : ∀ (n : Nat) (l4 l5 l7 : Int) (μ : Mm), Sm μs μ → rI l4 → rI l5 → l6 < l7 ∧ l7 ≤ 8 → 8 - l7 + 1 ≤ ((n : Nat) : Int) → wp (X11_exchange_L59 l1 l2 l3 l6 K n l4 l5 l7 μ) Q := by
  intro n
  induction n with
  | zero => intro l4 l5 l7 μ _ _ _ hc h; exact absurd h (by have : ((0 : Nat) : Int) = 0 := rfl; omega)
  | succ n ih =>
    intro l4 l5 l7 μ hS h4 h5 hc hn
    have hn1 : ((n + 1 : Nat) : Int) = ((n : Nat) : Int) + 1 := rfl
    have e1 : iA l7 1 = l7 + 1 := iA_id (by omega) (by omega)
    show wp (if 8 ≤ l7 then _ else _) Q
    refine wp_if (fun g => ?_) (fun g => ?_)
    · exact hK l4 l5 μ hS h4 h5
    · obtain ⟨r, hr, hc1⟩ := isCr (μ := μ) (a := l6) (by omega)
      rw [hr, bd_some]
      rcases hc1 with ⟨h0, -⟩ | ⟨h0, -, -, p, hp, ip, ep⟩
      · rw [if_pos h0, e1]
        exact ih _ _ _ _ hS h4 h5 (by omega) (by omega)
      · rw [if_neg (by omega)]
        obtain ⟨r2, hr2, hc2⟩ := isCr (μ := μ) (a := l7) (by omega)
        rw [hr2, bd_some]
        rcases hc2 with ⟨h00, -⟩ | ⟨h00, -, -, q, hq, iq, eq⟩
        · rw [if_pos h00, e1]
          exact ih _ _ _ _ hS h4 h5 (by omega) (by omega)
        · rw [if_neg (by omega)]
          refine exch_in hI h1 h2 (a := l6) (b := l7) (by omega) h6 (by omega) hS hp ip ep hq iq eq (fun r3 μ' hS' hr3 => ?_)
          rw [e1]
          have fin : wp (X11_exchange_J127 (fun w4 w5 w7 μq => X11_exchange_L59 l1 l2 l3 l6 K n w4 w5 w7 μq) l1 l2 l3 l6 l7 r3 μ') Q := by
            unfold X11_exchange_J127
            refine wp_ltv (fun v hv => ?_)
            rw [e1]
            exact ih _ _ _ _ hS' (by rw [hv]; exact wI_r _) hr3 (by omega) (by omega)
          refine wp_if (fun _ => ?_) (fun _ => ?_)
          · exact ih _ _ _ _ hS' h4 h5 (by omega) (by omega)
          refine wp_if (fun _ => ?_) (fun _ => ?_)
          · exact fin
          refine wp_if (fun _ => ?_) (fun _ => ?_)
          · exact ih _ _ _ _ hS' h4 h5 (by omega) (by omega)
          · exact fin
theorem exch_L46 {μs : Mm} (hI : Ir μs) {l1 l2 l3 : Int} (h1 : -2147483648 ≤ l1 ∧ l1 ≤ 2147483647) (h2 : -2147483648 ≤ l2 ∧ l2 ≤ 2147483647) {K : Int → Int → Mm → Rs} {Q : Int → Mm → Prop} (hK : ∀ a b μ, Sm μs μ → rI a → rI b → wp (K a b μ) Q) : ∀ (n : Nat) (l4 l5 l6 : Int) (μ : Mm), Sm μs μ → rI l4 → rI l5 → 0 ≤ l6 ∧ l6 ≤ 8 → 8 - l6 + 1 ≤ ((n : Nat) : Int) → wp (X11_exchange_L46 l1 l2 l3 K n l4 l5 l6 μ) Q := by
  intro n
  induction n with
  | zero => intro l4 l5 l6 μ _ _ _ hc h; exact absurd h (by have : ((0 : Nat) : Int) = 0 := rfl; omega)
  | succ n ih =>
    intro l4 l5 l6 μ hS h4 h5 hc hn
    have hn1 : ((n + 1 : Nat) : Int) = ((n : Nat) : Int) + 1 := rfl
    have e1 : iA l6 1 = l6 + 1 := iA_id (by omega) (by omega)
    show wp (if 8 ≤ l6 then _ else _) Q
    refine wp_if (fun g => ?_) (fun g => ?_)
    · exact hK l4 l5 μ hS h4 h5
    · rw [e1]
      exact exch_L59 hI h1 h2 (by omega) (fun a b μ' hS' ha hb => ih _ _ _ _ hS' ha hb (by omega) (by omega)) FU _ _ _ _ hS h4 h5 (by omega) (by rw [FU_v]; omega)
theorem t_X11_exchange {μs : Mm} {l1 l2 l3 : Int} (hI : Ir μs) (hp_l1 : -2147483648 ≤ l1 ∧ l1 ≤ 2147483647) (hp_l2 : -2147483648 ≤ l2 ∧ l2 ≤ 2147483647) (hp_l3 : -2147483648 ≤ l3 ∧ l3 ≤ 2147483647) {μ : Mm} (hS : Sm μs μ) : wp (X11_exchange l1 l2 l3 μ) (fun r μ' => Sm μs μ' ∧ (-2147483648 ≤ r ∧ r ≤ 2147483647) ∧ True) := by
  unfold X11_exchange
  refine wp_call (t_X11_isReady (l1 := l1) hI hp_l1 hS) (fun v μ2 hh => ?_)
  obtain ⟨h2, hr2, hp2⟩ := hh
  refine wp_if (fun g => ?_) (fun g => ?_)
  · exact ⟨h2, by omega, trivial⟩
  refine wp_call (t_X11_isReady (l1 := l2) hI hp_l2 h2) (fun v3 μ3 hh3 => ?_)
  obtain ⟨h3, hr3, hp3⟩ := hh3
  refine wp_if (fun g3 => ?_) (fun g3 => ?_)
  · exact ⟨h3, by omega, trivial⟩
  refine wp_if (fun g4 => ?_) (fun g4 => ?_)
  · exact ⟨h3, by omega, trivial⟩
  refine wp_calls (t_X11_in (l0 := l3) (l1 := 0) (l2 := 1) hp_l3 (by omega) (by omega) h3) (fun v5 hh5 => ?_)
  refine wp_if (fun g5 => ?_) (fun g5 => ?_)
  · exact ⟨h3, by omega, trivial⟩
  refine wp_call (t_X11_bothNow (l1 := l1) (l2 := l2) hI hp_l1 hp_l2 h3) (fun v6 μ6 hh6 => ?_)
  obtain ⟨h6, hr6, hp6⟩ := hh6
  refine exch_L46 hI hp_l1 hp_l2 (fun a b μ7 h7 ha hb => ?_) FU _ _ _ _ h6 ⟨by decide, by decide⟩ hr6 (by omega) (by rw [FU_v]; omega)
  refine wp_if (fun _ => ?_) (fun _ => ?_)
  · exact ⟨h7, by omega, trivial⟩
  refine wp_if (fun _ => ?_) (fun _ => ?_)
  · exact ⟨h7, ha, trivial⟩
  · exact ⟨h7, hb, trivial⟩
theorem pill_L {μs : Mm} (hI : Ir μs) {l1 l2 : Int} (h1 : -2147483648 ≤ l1 ∧ l1 ≤ 2147483647) {K : Int → Int → Mm → Rs} {Q : Int → Mm → Prop} (hK : ∀ a b μ, Sm μs μ → rI a → rI b → wp (K a b μ) Q) : ∀ (n : Nat) (l3 l4 l5 : Int) (μ : Mm), Sm μs μ → rI l3 → rI l4 → 0 ≤ l5 ∧ l5 ≤ 60 → 60 - l5 + 1 ≤ ((n : Nat) : Int) → wp (X11_pillar_L40 l1 l2 K n l3 l4 l5 μ) Q := by
  intro n
  induction n with
  | zero => intro l3 l4 l5 μ _ _ _ hc h; exact absurd h (by have : ((0 : Nat) : Int) = 0 := rfl; omega)
  | succ n ih =>
    intro l3 l4 l5 μ hS h3 h4 hc hn
    have hn1 : ((n + 1 : Nat) : Int) = ((n : Nat) : Int) + 1 := rfl
    show wp (if 60 ≤ l5 then _ else _) Q
    refine wp_if (fun g => ?_) (fun g => ?_)
    · exact hK l3 l4 μ hS h3 h4
    · have e1 : iA l5 1 = l5 + 1 := iA_id (by omega) (by omega)
      rw [e1]
      refine wp_calls (t_X11_isPlace (l1 := l5) (by omega) hS) (fun v hh => ?_)
      refine wp_if (fun g2 => ?_) (fun g2 => ?_)
      · exact ih _ _ _ μ hS h3 h4 (by omega) (by omega)
      · refine wp_ldv (by show 0 ≤ l5 ∧ l5 < 60; omega) (fun v2 q2 => ?_)
        refine wp_if (fun g3 => ?_) (fun g3 => ?_)
        · refine wp_stv (P := fun x => x = sM μ 82 l5.toNat 1) (by show 0 ≤ l5 ∧ l5 < 60; omega) rfl (fun μ3 e3 _ => ?_)
          have hI3 : Ir μ3 := by rw [e3]; exact Ir_82 (Ir_of hI hS) (by omega) (by omega)
          refine wp_call (t_X11_leastNow (μs := μ3) (l1 := l1) hI3 h1 (Sm_rf hI3.1)) (fun r μ4 h4' => ?_)
          obtain ⟨hS4, hr4, _⟩ := h4'
          rw [e3] at hS4
          refine wp_stv (P := fun x => x = sM μ4 82 l5.toNat 0) (by show 0 ≤ l5 ∧ l5 < 60; omega) rfl (fun μ5 e5 _ => ?_)
          have hS5 : Sm μs μ5 := by
            have := back_c hS (by decide) (fun j => by unfold scrM; omega) hS4
            rw [← q2, g3] at this
            rw [e5]; exact this
          refine wp_if (fun _ => ?_) (fun _ => ?_)
          · exact ih _ _ _ _ hS5 ⟨by omega, by omega⟩ hr4 (by omega) (by omega)
          refine wp_if (fun _ => ?_) (fun _ => ?_)
          · exact ih _ _ _ _ hS5 h3 h4 (by omega) (by omega)
          refine wp_if (fun _ => ?_) (fun _ => ?_)
          · exact ih _ _ _ _ hS5 ⟨by omega, by omega⟩ hr4 (by omega) (by omega)
          refine wp_if (fun _ => ?_) (fun _ => ?_)
          · exact ih _ _ _ _ hS5 h3 h4 (by omega) (by omega)
          · exact ih _ _ _ _ hS5 ⟨by omega, by omega⟩ hr4 (by omega) (by omega)
        · exact ih _ _ _ μ hS h3 h4 (by omega) (by omega)
theorem t_X11_pillar {μs : Mm} {l1 l2 : Int} (hI : Ir μs) (hp_l1 : -2147483648 ≤ l1 ∧ l1 ≤ 2147483647) (hp_l2 : -2147483648 ≤ l2 ∧ l2 ≤ 2147483647) {μ : Mm} (hS : Sm μs μ) : wp (X11_pillar l1 l2 μ) (fun r μ' => Sm μs μ' ∧ (-2147483648 ≤ r ∧ r ≤ 2147483647) ∧ True) := by
  unfold X11_pillar
  refine wp_call (t_X11_isReady (l1 := l1) hI hp_l1 hS) (fun v μ2 hh => ?_)
  obtain ⟨h2, hr2, hp2⟩ := hh
  refine wp_if (fun g => ?_) (fun g => ?_)
  · exact ⟨h2, by omega, trivial⟩
  refine wp_calls (t_X11_in (l0 := l2) (l1 := 0) (l2 := 1) hp_l2 (by omega) (by omega) h2) (fun v3 hh3 => ?_)
  refine wp_if (fun g2 => ?_) (fun g2 => ?_)
  · exact ⟨h2, by omega, trivial⟩
  refine wp_calls (t_X11_all h2) (fun v4 hh4 => ?_)
  refine wp_call (t_X11_leastOf (l1 := 0) (l2 := v4) hI (by omega) hh4.1 h2) (fun v5 μ5 hh5 => ?_)
  obtain ⟨h5, hr5, hp5⟩ := hh5
  refine wp_if (fun g5 => ?_) (fun g5 => ?_)
  · exact ⟨h5, by omega, trivial⟩
  refine pill_L hI hp_l1 (fun a b μ3 h3 ha hb => ?_) FU _ _ _ _ h5 ⟨by decide, by decide⟩ ⟨by decide, by decide⟩ (by omega) (by rw [FU_v]; omega)
  refine wp_if (fun _ => ?_) (fun _ => ?_)
  · exact ⟨h3, ha, trivial⟩
  refine wp_if (fun _ => ?_) (fun _ => ?_)
  · exact ⟨h3, ha, trivial⟩
  refine wp_if (fun _ => ?_) (fun _ => ?_)
  · exact ⟨h3, by omega, trivial⟩
  · exact ⟨h3, hb, trivial⟩
