/-! TOTALITY of the reference, by program (wip/gen/totm.py) -/
set_option maxHeartbeats 4000000 in
set_option maxRecDepth 100000 in
theorem t_X11_way {μs : Mm} {l1 : Int} {l2 : Int} (hI : Ir μs)  (hp_l1 : -2147483648 ≤ l1 ∧ l1 ≤ 2147483647) (hp_l2 : -2147483648 ≤ l2 ∧ l2 ≤ 2147483647) {μ : Mm} (hS : Sm μs μ) : wp (X11_way l1 l2 μ) (fun r μ' => Sm μs μ' ∧ (-2147483648 ≤ r ∧ r ≤ 2147483647) ∧ True) := by
  have hFU := FU_v
  unfold X11_way
  refine wp_calls (t_X11_isOpen (l1 := l1)  (by omega) hS) (fun v8 hh => ?_)
  obtain ⟨hr9, hp9⟩ := hh
  refine wp_if (fun g15 => ?_) (fun g15 => ?_)
  · exact ⟨hS, (by omega), trivial⟩
  · refine wp_calls (t_X11_isOpen (l1 := l2)  (by omega) hS) (fun v16 hh => ?_)
    obtain ⟨hr17, hp17⟩ := hh
    refine wp_if (fun g21 => ?_) (fun g21 => ?_)
    · exact ⟨hS, (by omega), trivial⟩
    · refine wp_call (t_X11_spread (l1 := l1) hI (by omega) hS) (fun v22 m23 hh => ?_)
      obtain ⟨h23, hr23, hp23⟩ := hh
      refine wp_ldv (by have na0 : ((aN 87 : Nat) : Int) = 60 := rfl; omega) (fun v25 q26 => ?_)
      have hrv25 := gA_11_17 h23 (l2).toNat
      replace hrv25 : -2147483648 ≤ v25 ∧ v25 ≤ 2147483647 := by rw [q26]; exact hrv25
      exact ⟨h23, (by omega), trivial⟩
set_option maxHeartbeats 4000000 in
set_option maxRecDepth 100000 in
theorem t_X11_layTimes_L2 {μs : Mm} {l1 : Int} {l2 : Int} (hI : Ir μs)  (hp_l1 : 0 ≤ l1 ∧ l1 ≤ 4) (hp_l2 : -2147483648 ≤ l2 ∧ l2 ≤ 2147483647) {mm : Int} {Q : Int → Mm → Prop} (hQ : ∀ r μ, Sm μs μ → (-2147483648 ≤ r ∧ r ≤ 2147483647) → μ 70 37 = mm → Q r μ) : ∀ (n : Nat) {l3 : Int} {μ : Mm}, Sm μs μ → (0 ≤ l3 ∧ l3 ≤ 8) → μ 70 37 = mm → 8 - l3 + 1 ≤ ((n : Nat) : Int) → wp (X11_layTimes_L2 l1 l2 n l3 μ) Q := by
  have hFU := FU_v
  intro n
  induction n with
  | zero => intro l3 μ hS hv_l3 hi hm; exact absurd hm (by  have : ((0 : Nat) : Int) = 0 := rfl; omega)
  | succ n ih =>
    intro l3 μ hS hv_l3 hi hm
    have hn1 : ((n + 1 : Nat) : Int) = ((n : Nat) : Int) + 1 := rfl
    rw [X11_layTimes_L2]
    refine wp_ldv (by have := gO_11_37 hS; have na1 : ((aN 85 : Nat) : Int) = 6 := rfl; have := hI.2.2.2.2.1; omega) (fun v33 q34 => ?_)
    have hrv33 := gA_11_15 hS (l1).toNat
    have pev33 := eqS hS (k := 85) (j := (l1).toNat) (by unfold scrM; omega)
    rw [← q34] at pev33
    replace hrv33 : 0 ≤ v33 ∧ v33 ≤ 8 := by rw [q34]; exact hrv33
    refine wp_if (fun g50 => ?_) (fun g50 => ?_)
    · exact hQ _ _ hS (by have := gO_11_37 hS; have := hI.2.2.2.2.1; omega) (by show μ 70 37 = mm; exact (by have := gO_11_37 hS; have := hI.2.2.2.2.1; omega))
    · refine wp_ldv (by have := gO_11_37 hS; have := iM_c 8 l1; have := iA_c (iM 8 l1) l3; have na3 : ((aN 84 : Nat) : Int) = 48 := rfl; have := hI.2.2.2.2.1; omega) (fun v51 q52 => ?_)
      have hrv51 := gA_11_14 hS ((iA (iM 8 l1) l3)).toNat
      replace hrv51 : -2147483648 ≤ v51 ∧ v51 ≤ 2147483647 := by rw [q52]; exact hrv51
      refine wp_if (fun g67 => ?_) (fun g67 => ?_)
      · unfold X11_layTimes_J107
        try dsimp only
        refine wp_if (fun g71 => ?_) (fun g71 => ?_)
        · refine wp_stv (P := Sm μs) (by have := gO_11_37 hS; have := gO_11_32 hS; have := eqS hS (j := 32) (k := 70) (by unfold scrM; omega); have na3 : ((aN 88 : Nat) : Int) = 8 := rfl; have := hI.2.2.2.2.1; omega) (pA_11_18  hS (by unfold scrM; omega) (by have := gO_11_37 hS; have := gO_11_32 hS; have := eqS hS (j := 32) (k := 70) (by unfold scrM; omega); have := mX_c 0 v51; have := hI.2.2.2.2.1; omega)) (fun m72 h72 he72 => ?_)
          exact ih h72 (by have := gO_11_37 hS; have := gO_11_32 hS; have := eqS hS (j := 32) (k := 70) (by unfold scrM; omega); have := iA_c l3 1; have := hI.2.2.2.2.1; omega) (by have := gO_11_37 hS; have := gO_11_32 hS; have := eqS hS (j := 32) (k := 70) (by unfold scrM; omega); have := iA_c l3 1; have := gO_11_37 h72; have : m72 70 37 = μ 70 37 := (by rw [he72, sM_a (by decide)]); have := hI.2.2.2.2.1; omega) (by have := gO_11_37 hS; have := gO_11_32 hS; have := eqS hS (j := 32) (k := 70) (by unfold scrM; omega); have := iA_c l3 1; have := hI.2.2.2.2.1; omega)
        · refine wp_ldv (by have := gO_11_37 hS; have := gO_11_32 hS; have := eqS hS (j := 32) (k := 70) (by unfold scrM; omega); have := iS_c l3 1; have na4 : ((aN 88 : Nat) : Int) = 8 := rfl; have := hI.2.2.2.2.1; omega) (fun v73 q74 => ?_)
          have hrv73 := gA_11_18 hS ((iS l3 1)).toNat
          replace hrv73 : -2147483648 ≤ v73 ∧ v73 ≤ 2147483647 := by rw [q74]; exact hrv73
          refine wp_stv (P := Sm μs) (by have := gO_11_37 hS; have := gO_11_32 hS; have := eqS hS (j := 32) (k := 70) (by unfold scrM; omega); have na3 : ((aN 88 : Nat) : Int) = 8 := rfl; have := hI.2.2.2.2.1; omega) (pA_11_18  hS (by unfold scrM; omega) (by have := gO_11_37 hS; have := gO_11_32 hS; have := eqS hS (j := 32) (k := 70) (by unfold scrM; omega); have := mX_c v73 v51; have := hI.2.2.2.2.1; omega)) (fun m76 h76 he76 => ?_)
          exact ih h76 (by have := gO_11_37 hS; have := gO_11_32 hS; have := eqS hS (j := 32) (k := 70) (by unfold scrM; omega); have := iA_c l3 1; have := hI.2.2.2.2.1; omega) (by have := gO_11_37 hS; have := gO_11_32 hS; have := eqS hS (j := 32) (k := 70) (by unfold scrM; omega); have := iA_c l3 1; have := gO_11_37 h76; have : m76 70 37 = μ 70 37 := (by rw [he76, sM_a (by decide)]); have := hI.2.2.2.2.1; omega) (by have := gO_11_37 hS; have := gO_11_32 hS; have := eqS hS (j := 32) (k := 70) (by unfold scrM; omega); have := iA_c l3 1; have := hI.2.2.2.2.1; omega)
      · refine wp_stv (P := Sm μs) (by have := gO_11_37 hS; have := gO_11_32 hS; have := eqS hS (j := 32) (k := 70) (by unfold scrM; omega); have na3 : ((aN 79 : Nat) : Int) = 5 := rfl; have := hI.2.2.2.2.1; omega) (pA_11_9  hS (by unfold scrM; omega) (by have := gO_11_37 hS; have := gO_11_32 hS; have := eqS hS (j := 32) (k := 70) (by unfold scrM; omega); have := hI.2.2.2.2.1; omega)) (fun m77 h77 he77 => ?_)
        refine wp_stv (P := Sm μs) (by have := gO_11_37 hS; have := gO_11_32 hS; have := eqS hS (j := 32) (k := 70) (by unfold scrM; omega); have na3 : ((aN 79 : Nat) : Int) = 5 := rfl; have := hI.2.2.2.2.1; omega) (pA_11_9  h77 (by unfold scrM; omega) (by have := gO_11_37 hS; have := gO_11_32 hS; have := eqS hS (j := 32) (k := 70) (by unfold scrM; omega); have := hI.2.2.2.2.1; omega)) (fun m89 h89 he89 => ?_)
        refine wp_stv (P := Sm μs) (by have := gO_11_37 hS; have := gO_11_32 hS; have := eqS hS (j := 32) (k := 70) (by unfold scrM; omega); have na3 : ((aN 79 : Nat) : Int) = 5 := rfl; have := hI.2.2.2.2.1; omega) (pA_11_9  h89 (by unfold scrM; omega) (by have := gO_11_37 hS; have := gO_11_32 hS; have := eqS hS (j := 32) (k := 70) (by unfold scrM; omega); have := hI.2.2.2.2.1; omega)) (fun m100 h100 he100 => ?_)
        refine wp_ldv (by have := gO_11_37 hS; have := gO_11_32 hS; have := eqS hS (j := 32) (k := 70) (by unfold scrM; omega); have := iM_c 8 l1; have := iA_c (iM 8 l1) l3; have na5 : ((aN 83 : Nat) : Int) = 48 := rfl; have := hI.2.2.2.2.1; omega) (fun v110 q111 => ?_)
        have hrv110 := gA_11_13 h100 ((iA (iM 8 l1) l3)).toNat
        replace hrv110 : -2147483648 ≤ v110 ∧ v110 ≤ 2147483647 := by rw [q111]; exact hrv110
        refine wp_stv (P := Sm μs) (by have := gO_11_37 hS; have := gO_11_32 hS; have := eqS hS (j := 32) (k := 70) (by unfold scrM; omega); have na3 : ((aN 79 : Nat) : Int) = 5 := rfl; have := hI.2.2.2.2.1; omega) (pA_11_9  h100 (by unfold scrM; omega) (by have := gO_11_37 hS; have := gO_11_32 hS; have := eqS hS (j := 32) (k := 70) (by unfold scrM; omega); have := hI.2.2.2.2.1; omega)) (fun m120 h120 he120 => ?_)
        refine wp_ldv (by have := gO_11_37 hS; have := gO_11_32 hS; have := eqS hS (j := 32) (k := 70) (by unfold scrM; omega); have na3 : ((aN 85 : Nat) : Int) = 6 := rfl; have := hI.2.2.2.2.1; omega) (fun v128 q129 => ?_)
        have hrv128 := gA_11_15 h120 (l1).toNat
        have pev128 := eqS h120 (k := 85) (j := (l1).toNat) (by unfold scrM; omega)
        rw [← q129] at pev128
        replace hrv128 : 0 ≤ v128 ∧ v128 ≤ 8 := by rw [q129]; exact hrv128
        refine wp_stv (P := Sm μs) (by have := gO_11_37 hS; have := gO_11_32 hS; have := eqS hS (j := 32) (k := 70) (by unfold scrM; omega); have na3 : ((aN 79 : Nat) : Int) = 5 := rfl; have := hI.2.2.2.2.1; omega) (pA_11_9  h120 (by unfold scrM; omega) (by have := gO_11_37 hS; have := gO_11_32 hS; have := eqS hS (j := 32) (k := 70) (by unfold scrM; omega); have := hI.2.2.2.2.1; omega)) (fun m136 h136 he136 => ?_)
        refine wp_call (t_X11_worthOf (l1 := (m136 70 32)) hI (by have := gO_11_37 hS; have := gO_11_32 hS; have := eqS hS (j := 32) (k := 70) (by unfold scrM; omega); have := gO_11_32 h136; have := eqS h136 (j := 32) (k := 70) (by unfold scrM; omega); have : m136 70 32 = m120 70 32 := (by rw [he136, sM_a (by decide)]); have := gO_11_32 h120; have := eqS h120 (j := 32) (k := 70) (by unfold scrM; omega); have : m120 70 32 = m100 70 32 := (by rw [he120, sM_a (by decide)]); have := gO_11_32 h100; have := eqS h100 (j := 32) (k := 70) (by unfold scrM; omega); have : m100 70 32 = m89 70 32 := (by rw [he100, sM_a (by decide)]); have := gO_11_32 h89; have := eqS h89 (j := 32) (k := 70) (by unfold scrM; omega); have : m89 70 32 = m77 70 32 := (by rw [he89, sM_a (by decide)]); have := gO_11_32 h77; have := eqS h77 (j := 32) (k := 70) (by unfold scrM; omega); have : m77 70 32 = μ 70 32 := (by rw [he77, sM_a (by decide)]); have := hI.2.2.2.2.1; omega) h136 (by have := gO_11_37 hS; have := gO_11_32 hS; have := eqS hS (j := 32) (k := 70) (by unfold scrM; omega); have := gO_11_32 h136; have := eqS h136 (j := 32) (k := 70) (by unfold scrM; omega); have : m136 70 32 = m120 70 32 := (by rw [he136, sM_a (by decide)]); have := gO_11_32 h120; have := eqS h120 (j := 32) (k := 70) (by unfold scrM; omega); have : m120 70 32 = m100 70 32 := (by rw [he120, sM_a (by decide)]); have := gO_11_32 h100; have := eqS h100 (j := 32) (k := 70) (by unfold scrM; omega); have : m100 70 32 = m89 70 32 := (by rw [he100, sM_a (by decide)]); have := gO_11_32 h89; have := eqS h89 (j := 32) (k := 70) (by unfold scrM; omega); have : m89 70 32 = m77 70 32 := (by rw [he89, sM_a (by decide)]); have := gO_11_32 h77; have := eqS h77 (j := 32) (k := 70) (by unfold scrM; omega); have : m77 70 32 = μ 70 32 := (by rw [he77, sM_a (by decide)]); have := hI.2.2.2.2.1; omega)) (fun v142 m143 hh => ?_)
        obtain ⟨h143, hr143, hp143⟩ := hh
        refine wp_ltv (fun v147 q148 => ?_)
        unfold X11_layTimes_J107
        try dsimp only
        refine wp_if (fun g154 => ?_) (fun g154 => ?_)
        · refine wp_stv (P := Sm μs) (by have := gO_11_37 hS; have := gO_11_32 hS; have := eqS hS (j := 32) (k := 70) (by unfold scrM; omega); have na3 : ((aN 88 : Nat) : Int) = 8 := rfl; have := hI.2.2.2.2.1; omega) (pA_11_18  h143 (by unfold scrM; omega) (by have := gO_11_37 hS; have := gO_11_32 hS; have := eqS hS (j := 32) (k := 70) (by unfold scrM; omega); have := mX_c 0 v147; have := mN_c 99 v142; have := mX_c (-99) (mN 99 v142); have := iA_c v51 (mX (-99) (mN 99 v142)); have := hI.2.2.2.2.1; omega)) (fun m155 h155 he155 => ?_)
          exact ih h155 (by have := gO_11_37 hS; have := gO_11_32 hS; have := eqS hS (j := 32) (k := 70) (by unfold scrM; omega); have := iA_c l3 1; have := hI.2.2.2.2.1; omega) (by have := gO_11_37 hS; have := gO_11_32 hS; have := eqS hS (j := 32) (k := 70) (by unfold scrM; omega); have := iA_c l3 1; have := gO_11_37 h155; have : m155 70 37 = m143 70 37 := (by rw [he155, sM_a (by decide)]); have := gO_11_37 h143; have := gO_11_37 h136; have : m136 70 37 = m120 70 37 := (by rw [he136, sM_a (by decide)]); have := gO_11_37 h120; have : m120 70 37 = m100 70 37 := (by rw [he120, sM_a (by decide)]); have := gO_11_37 h100; have : m100 70 37 = m89 70 37 := (by rw [he100, sM_a (by decide)]); have := gO_11_37 h89; have : m89 70 37 = m77 70 37 := (by rw [he89, sM_a (by decide)]); have := gO_11_37 h77; have : m77 70 37 = μ 70 37 := (by rw [he77, sM_a (by decide)]); have := hI.2.2.2.2.1; omega) (by have := gO_11_37 hS; have := gO_11_32 hS; have := eqS hS (j := 32) (k := 70) (by unfold scrM; omega); have := iA_c l3 1; have := hI.2.2.2.2.1; omega)
        · refine wp_ldv (by have := gO_11_37 hS; have := gO_11_32 hS; have := eqS hS (j := 32) (k := 70) (by unfold scrM; omega); have := iS_c l3 1; have na4 : ((aN 88 : Nat) : Int) = 8 := rfl; have := hI.2.2.2.2.1; omega) (fun v156 q157 => ?_)
          have hrv156 := gA_11_18 h143 ((iS l3 1)).toNat
          replace hrv156 : -2147483648 ≤ v156 ∧ v156 ≤ 2147483647 := by rw [q157]; exact hrv156
          refine wp_stv (P := Sm μs) (by have := gO_11_37 hS; have := gO_11_32 hS; have := eqS hS (j := 32) (k := 70) (by unfold scrM; omega); have na3 : ((aN 88 : Nat) : Int) = 8 := rfl; have := hI.2.2.2.2.1; omega) (pA_11_18  h143 (by unfold scrM; omega) (by have := gO_11_37 hS; have := gO_11_32 hS; have := eqS hS (j := 32) (k := 70) (by unfold scrM; omega); have := mX_c v156 v147; have := mN_c 99 v142; have := mX_c (-99) (mN 99 v142); have := iA_c v51 (mX (-99) (mN 99 v142)); have := hI.2.2.2.2.1; omega)) (fun m159 h159 he159 => ?_)
          exact ih h159 (by have := gO_11_37 hS; have := gO_11_32 hS; have := eqS hS (j := 32) (k := 70) (by unfold scrM; omega); have := iA_c l3 1; have := hI.2.2.2.2.1; omega) (by have := gO_11_37 hS; have := gO_11_32 hS; have := eqS hS (j := 32) (k := 70) (by unfold scrM; omega); have := iA_c l3 1; have := gO_11_37 h159; have : m159 70 37 = m143 70 37 := (by rw [he159, sM_a (by decide)]); have := gO_11_37 h143; have := gO_11_37 h136; have : m136 70 37 = m120 70 37 := (by rw [he136, sM_a (by decide)]); have := gO_11_37 h120; have : m120 70 37 = m100 70 37 := (by rw [he120, sM_a (by decide)]); have := gO_11_37 h100; have : m100 70 37 = m89 70 37 := (by rw [he100, sM_a (by decide)]); have := gO_11_37 h89; have : m89 70 37 = m77 70 37 := (by rw [he89, sM_a (by decide)]); have := gO_11_37 h77; have : m77 70 37 = μ 70 37 := (by rw [he77, sM_a (by decide)]); have := hI.2.2.2.2.1; omega) (by have := gO_11_37 hS; have := gO_11_32 hS; have := eqS hS (j := 32) (k := 70) (by unfold scrM; omega); have := iA_c l3 1; have := hI.2.2.2.2.1; omega)
set_option maxHeartbeats 4000000 in
set_option maxRecDepth 100000 in
theorem t_X11_layTimes {μs : Mm} {l1 : Int} {l2 : Int} (hI : Ir μs)  (hp_l1 : 0 ≤ l1 ∧ l1 ≤ 4) (hp_l2 : -2147483648 ≤ l2 ∧ l2 ≤ 2147483647) {μ : Mm} (hS : Sm μs μ) : wp (X11_layTimes l1 l2 μ) (fun r μ' => Sm μs μ' ∧ (-2147483648 ≤ r ∧ r ≤ 2147483647) ∧ μ' 70 37 = μ 70 37) := by
  have hFU := FU_v
  unfold X11_layTimes
  exact t_X11_layTimes_L2 (l1 := l1) (l2 := l2) (l3 := 0) (mm := μ 70 37) hI (by omega) (by omega) (fun r_ m_ h_ hr_ hp_ => by exact ⟨h_, (by omega), (by show m_ 70 37 = μ 70 37; exact (by have := gO_11_37 h_; have := gO_11_37 hS; omega))⟩) FU hS (by omega) (by have := gO_11_37 hS; omega) (by omega)
set_option maxHeartbeats 4000000 in
set_option maxRecDepth 100000 in
theorem t_X11_lay_L63 {μs : Mm} {l1 : Int} {l2 : Int} {l4 : Int} {l5 : Int} (hI : Ir μs)  (hp_l1 : 0 ≤ l1 ∧ l1 ≤ 4) (hp_l2 : -2147483648 ≤ l2 ∧ l2 ≤ 2147483647) (hp_l4 : 0 ≤ l4 ∧ l4 ≤ 8) (hp_l5 : -2147483648 ≤ l5 ∧ l5 ≤ 2147483647) {mm : Int} {k92 : Mm → Rs} {Q : Int → Mm → Prop} (hk_k92 : ∀ (μ : Mm), Sm μs μ → μ 70 37 = mm → wp (k92 μ) Q) : ∀ (n : Nat) {l6 : Int} {μ : Mm}, Sm μs μ → (0 ≤ l6 ∧ l6 ≤ 8) → μ 70 37 = mm → 8 - l6 + 1 ≤ ((n : Nat) : Int) → wp (X11_lay_L63 l1 l2 l4 l5 k92 n l6 μ) Q := by
  have hFU := FU_v
  intro n
  induction n with
  | zero => intro l6 μ hS hv_l6 hi hm; exact absurd hm (by  have : ((0 : Nat) : Int) = 0 := rfl; omega)
  | succ n ih =>
    intro l6 μ hS hv_l6 hi hm
    have hn1 : ((n + 1 : Nat) : Int) = ((n : Nat) : Int) + 1 := rfl
    rw [X11_lay_L63]
    refine wp_if (fun g3 => ?_) (fun g3 => ?_)
    · exact hk_k92  μ hS  (by have := gO_11_37 hS; omega)
    · refine wp_stv (P := Sm μs) (by have := gO_11_37 hS; have := iM_c 8 l4; have := iA_c (iM 8 l4) l6; have na3 : ((aN 89 : Nat) : Int) = 72 := rfl; omega) (pA_11_19  hS (by unfold scrM; omega) (by have := gO_11_37 hS; omega)) (fun m4 h4 he4 => ?_)
      exact ih h4 (by have := gO_11_37 hS; have := iA_c l6 1; omega) (by have := gO_11_37 hS; have := iA_c l6 1; have := gO_11_37 h4; have : m4 70 37 = μ 70 37 := (by rw [he4, sM_a (by decide)]); omega) (by have := gO_11_37 hS; have := iA_c l6 1; omega)
set_option maxHeartbeats 4000000 in
set_option maxRecDepth 100000 in
theorem t_X11_lay_L107 {μs : Mm} {l1 : Int} {l2 : Int} {l4 : Int} (hI : Ir μs)  (hp_l1 : 0 ≤ l1 ∧ l1 ≤ 4) (hp_l2 : -2147483648 ≤ l2 ∧ l2 ≤ 2147483647) (hp_l4 : 0 ≤ l4 ∧ l4 ≤ 8) {mm : Int} {k172 : Mm → Rs} {Q : Int → Mm → Prop} (hk_k172 : ∀ (μ : Mm), Sm μs μ → μ 70 37 = mm → wp (k172 μ) Q) : ∀ (n : Nat) {l6 : Int} {μ : Mm}, Sm μs μ → (0 ≤ l6 ∧ l6 ≤ 8) → μ 70 37 = mm → 8 - l6 + 1 ≤ ((n : Nat) : Int) → wp (X11_lay_L107 l1 l2 l4 k172 n l6 μ) Q := by
  have hFU := FU_v
  intro n
  induction n with
  | zero => intro l6 μ hS hv_l6 hi hm; exact absurd hm (by  have : ((0 : Nat) : Int) = 0 := rfl; omega)
  | succ n ih =>
    intro l6 μ hS hv_l6 hi hm
    have hn1 : ((n + 1 : Nat) : Int) = ((n : Nat) : Int) + 1 := rfl
    rw [X11_lay_L107]
    refine wp_if (fun g13 => ?_) (fun g13 => ?_)
    · exact hk_k172  μ hS  (by have := gO_11_37 hS; omega)
    · refine wp_ldv (by have := gO_11_37 hS; have := iM_c 8 l1; have := iA_c (iM 8 l1) l6; have na3 : ((aN 83 : Nat) : Int) = 48 := rfl; omega) (fun v14 q15 => ?_)
      have hrv14 := gA_11_13 hS ((iA (iM 8 l1) l6)).toNat
      replace hrv14 : -2147483648 ≤ v14 ∧ v14 ≤ 2147483647 := by rw [q15]; exact hrv14
      refine wp_calls (t_X11_placeOf (l1 := (iA 3 v14))  (by have := gO_11_37 hS; have := iA_c 3 v14; omega) hS) (fun v21 hh => ?_)
      obtain ⟨hr22, hp22⟩ := hh
      refine wp_if (fun g26 => ?_) (fun g26 => ?_)
      · refine wp_stv (P := Sm μs) (by have := gO_11_37 hS; have := iM_c 8 l4; have := iA_c (iM 8 l4) l6; have na3 : ((aN 89 : Nat) : Int) = 72 := rfl; omega) (pA_11_19  hS (by unfold scrM; omega) (by have := gO_11_37 hS; omega)) (fun m27 h27 he27 => ?_)
        exact ih h27 (by have := gO_11_37 hS; have := iA_c l6 1; omega) (by have := gO_11_37 hS; have := iA_c l6 1; have := gO_11_37 h27; have : m27 70 37 = μ 70 37 := (by rw [he27, sM_a (by decide)]); omega) (by have := gO_11_37 hS; have := iA_c l6 1; omega)
      · refine wp_ldv (by have := gO_11_37 hS; have na1 : ((aN 87 : Nat) : Int) = 60 := rfl; omega) (fun v28 q29 => ?_)
        have hrv28 := gA_11_17 hS (v21).toNat
        replace hrv28 : -2147483648 ≤ v28 ∧ v28 ≤ 2147483647 := by rw [q29]; exact hrv28
        refine wp_stv (P := Sm μs) (by have := gO_11_37 hS; have := iM_c 8 l4; have := iA_c (iM 8 l4) l6; have na3 : ((aN 89 : Nat) : Int) = 72 := rfl; omega) (pA_11_19  hS (by unfold scrM; omega) (by have := gO_11_37 hS; omega)) (fun m31 h31 he31 => ?_)
        exact ih h31 (by have := gO_11_37 hS; have := iA_c l6 1; omega) (by have := gO_11_37 hS; have := iA_c l6 1; have := gO_11_37 h31; have : m31 70 37 = μ 70 37 := (by rw [he31, sM_a (by decide)]); omega) (by have := gO_11_37 hS; have := iA_c l6 1; omega)
set_option maxHeartbeats 4000000 in
set_option maxRecDepth 100000 in
theorem t_X11_lay_L18 {μs : Mm} {l1 : Int} {l2 : Int} (hI : Ir μs)  (hp_l1 : 0 ≤ l1 ∧ l1 ≤ 4) (hp_l2 : -1 ≤ l2 ∧ l2 ≤ 59) {mm : Int} {k178 : Mm → Rs} {Q : Int → Mm → Prop} (hk_k178 : ∀ (μ : Mm), Sm μs μ → μ 70 37 = mm → wp (k178 μ) Q) (hQ : ∀ r μ, Sm μs μ → (-2147483648 ≤ r ∧ r ≤ 2147483647) → μ 70 37 = mm → Q r μ) : ∀ (n : Nat) {l4 : Int} {μ : Mm}, Sm μs μ → (0 ≤ l4 ∧ l4 ≤ 9) → μ 70 37 = mm → 9 - l4 + 1 ≤ ((n : Nat) : Int) → wp (X11_lay_L18 l1 l2 k178 n l4 μ) Q := by
  have hFU := FU_v
  intro n
  induction n with
  | zero => intro l4 μ hS hv_l4 hi hm; exact absurd hm (by  have : ((0 : Nat) : Int) = 0 := rfl; omega)
  | succ n ih =>
    intro l4 μ hS hv_l4 hi hm
    have hn1 : ((n + 1 : Nat) : Int) = ((n : Nat) : Int) + 1 := rfl
    rw [X11_lay_L18]
    refine wp_if (fun g19 => ?_) (fun g19 => ?_)
    · exact hk_k178  μ hS  (by have := gO_11_37 hS; omega)
    · refine wp_if (fun g20 => ?_) (fun g20 => ?_)
      · unfold X11_lay_J58
        try dsimp only
        refine t_X11_lay_L63 (l1 := l1) (l2 := l2) (l4 := l4) (l5 := l2) (l6 := 0) (mm := μ 70 37) hI (by have := gO_11_37 hS; omega) (by have := gO_11_37 hS; omega) (by have := gO_11_37 hS; omega) (by have := gO_11_37 hS; omega) (fun m25 h25  hp25 => ?_) FU hS (by have := gO_11_37 hS; omega) (by have := gO_11_37 hS; omega) (by have := gO_11_37 hS; omega)
        refine wp_if (fun g29 => ?_) (fun g29 => ?_)
        · exact ih h25 (by have := gO_11_37 hS; have := iA_c l4 1; omega) (by have := gO_11_37 hS; have := iA_c l4 1; have := gO_11_37 h25; omega) (by have := gO_11_37 hS; have := iA_c l4 1; omega)
        · refine wp_call (t_X11_spread (l1 := l2) hI (by have := gO_11_37 hS; omega) h25) (fun v30 m31 hh => ?_)
          obtain ⟨h31, hr31, hp31⟩ := hh
          refine t_X11_lay_L107 (l1 := l1) (l2 := l2) (l4 := l4) (l6 := 0) (mm := m31 70 37) hI (by have := gO_11_37 hS; omega) (by have := gO_11_37 hS; omega) (by have := gO_11_37 hS; omega) (fun m33 h33  hp33 => ?_) FU h31 (by have := gO_11_37 hS; omega) (by have := gO_11_37 hS; have := gO_11_37 h31; have := gO_11_37 h25; omega) (by have := gO_11_37 hS; omega)
          exact ih h33 (by have := gO_11_37 hS; have := iA_c l4 1; omega) (by have := gO_11_37 hS; have := iA_c l4 1; have := gO_11_37 h33; have := gO_11_37 h31; have := gO_11_37 h25; omega) (by have := gO_11_37 hS; have := iA_c l4 1; omega)
      · refine wp_ldv (by have := gO_11_37 hS; have := iM_c 8 l1; have := iA_c (iM 8 l1) l4; have na3 : ((aN 83 : Nat) : Int) = 48 := rfl; omega) (fun v34 q35 => ?_)
        have hrv34 := gA_11_13 hS ((iA (iM 8 l1) l4)).toNat
        replace hrv34 : -2147483648 ≤ v34 ∧ v34 ≤ 2147483647 := by rw [q35]; exact hrv34
        refine wp_calls (t_X11_placeOf (l1 := (iA 3 v34))  (by have := gO_11_37 hS; have := iA_c 3 v34; omega) hS) (fun v40 hh => ?_)
        obtain ⟨hr41, hp41⟩ := hh
        unfold X11_lay_J58
        try dsimp only
        refine t_X11_lay_L63 (l1 := l1) (l2 := l2) (l4 := l4) (l5 := v40) (l6 := 0) (mm := μ 70 37) hI (by have := gO_11_37 hS; omega) (by have := gO_11_37 hS; omega) (by have := gO_11_37 hS; omega) (by have := gO_11_37 hS; omega) (fun m48 h48  hp48 => ?_) FU hS (by have := gO_11_37 hS; omega) (by have := gO_11_37 hS; omega) (by have := gO_11_37 hS; omega)
        refine wp_if (fun g52 => ?_) (fun g52 => ?_)
        · exact ih h48 (by have := gO_11_37 hS; have := iA_c l4 1; omega) (by have := gO_11_37 hS; have := iA_c l4 1; have := gO_11_37 h48; omega) (by have := gO_11_37 hS; have := iA_c l4 1; omega)
        · refine wp_call (t_X11_spread (l1 := v40) hI (by have := gO_11_37 hS; omega) h48) (fun v53 m54 hh => ?_)
          obtain ⟨h54, hr54, hp54⟩ := hh
          refine t_X11_lay_L107 (l1 := l1) (l2 := l2) (l4 := l4) (l6 := 0) (mm := m54 70 37) hI (by have := gO_11_37 hS; omega) (by have := gO_11_37 hS; omega) (by have := gO_11_37 hS; omega) (fun m56 h56  hp56 => ?_) FU h54 (by have := gO_11_37 hS; omega) (by have := gO_11_37 hS; have := gO_11_37 h54; have := gO_11_37 h48; omega) (by have := gO_11_37 hS; omega)
          exact ih h56 (by have := gO_11_37 hS; have := iA_c l4 1; omega) (by have := gO_11_37 hS; have := iA_c l4 1; have := gO_11_37 h56; have := gO_11_37 h54; have := gO_11_37 h48; omega) (by have := gO_11_37 hS; have := iA_c l4 1; omega)
set_option maxHeartbeats 4000000 in
set_option maxRecDepth 100000 in
theorem t_X11_lay_L181 {μs : Mm} {l1 : Int} (hI : Ir μs)  (hp_l1 : 0 ≤ l1 ∧ l1 ≤ 4) {mm : Int} (hl2 : mm = μs 85 l1.toNat ∧ 0 ≤ l1 ∧ l1 < μs 70 28) {Q : Int → Mm → Prop} (hQ : ∀ r μ, Sm μs μ → (-2147483648 ≤ r ∧ r ≤ 2147483647) → μ 70 37 = mm → Q r μ) : ∀ (n : Nat) {l4 : Int} {μ : Mm}, Sm μs μ → (0 ≤ l4 ∧ l4 ≤ 8) → μ 70 37 = mm → 8 - l4 + 1 ≤ ((n : Nat) : Int) → wp (X11_lay_L181 l1 n l4 μ) Q := by
  have hFU := FU_v
  intro n
  induction n with
  | zero => intro l4 μ hS hv_l4 hi hm; exact absurd hm (by  have : ((0 : Nat) : Int) = 0 := rfl; omega)
  | succ n ih =>
    intro l4 μ hS hv_l4 hi hm
    have hn1 : ((n + 1 : Nat) : Int) = ((n : Nat) : Int) + 1 := rfl
    rw [X11_lay_L181]
    refine wp_if (fun g7 => ?_) (fun g7 => ?_)
    · exact hQ _ _ hS (by have := gO_11_37 hS; omega) (by show μ 70 37 = mm; exact (by have := gO_11_37 hS; omega))
    · refine wp_ldv (by have := gO_11_37 hS; have := iM_c 8 l1; have := iA_c (iM 8 l1) l4; have na3 : ((aN 83 : Nat) : Int) = 48 := rfl; omega) (fun v8 q9 => ?_)
      have hrv8 := gA_11_13 hS ((iA (iM 8 l1) l4)).toNat
      have pvv8 : 0 ≤ v8 ∧ v8 ≤ 7 := by rw [q9]; exact PV_at hI hS (p := l1) (k := l4) (by have := gO_11_37 hS; omega) (by have := gO_11_37 hS; omega) (by have := gO_11_37 hS; have := iM_c 8 l1; have := iA_c (iM 8 l1) l4; omega)
      replace hrv8 : -2147483648 ≤ v8 ∧ v8 ≤ 2147483647 := by rw [q9]; exact hrv8
      refine wp_ldv (by have := gO_11_37 hS; have na1 : ((aN 86 : Nat) : Int) = 8 := rfl; omega) (fun v12 q13 => ?_)
      have hrv12 := gA_11_16 hS (v8).toNat
      replace hrv12 : 0 ≤ v12 ∧ v12 ≤ 30 := by rw [q13]; exact hrv12
      refine wp_stv (P := Sm μs) (by have := gO_11_37 hS; have na1 : ((aN 90 : Nat) : Int) = 8 := rfl; omega) (pA_11_20  hS (by unfold scrM; omega) (by have := gO_11_37 hS; omega)) (fun m15 h15 he15 => ?_)
      exact ih h15 (by have := gO_11_37 hS; have := iA_c l4 1; omega) (by have := gO_11_37 hS; have := iA_c l4 1; have := gO_11_37 h15; have : m15 70 37 = μ 70 37 := (by rw [he15, sM_a (by decide)]); omega) (by have := gO_11_37 hS; have := iA_c l4 1; omega)
set_option maxHeartbeats 4000000 in
set_option maxRecDepth 100000 in
theorem t_X11_lay {μs : Mm} {l1 : Int} {l2 : Int} {l3 : Int} (hI : Ir μs)  (hp_l1 : 0 ≤ l1 ∧ l1 ≤ 4) (hp_l2 : -1 ≤ l2 ∧ l2 ≤ 59) (hp_l3 : -2147483648 ≤ l3 ∧ l3 ≤ 2147483647) {μ : Mm} (hS : Sm μs μ) (hq : 0 ≤ l1 ∧ l1 < μs 70 28) : wp (X11_lay l1 l2 l3 μ) (fun r μ' => Sm μs μ' ∧ (-2147483648 ≤ r ∧ r ≤ 2147483647) ∧ True) := by
  have hFU := FU_v
  unfold X11_lay
  refine wp_ldv (by have na0 : ((aN 85 : Nat) : Int) = 6 := rfl; omega) (fun v5 q6 => ?_)
  have hrv5 := gA_11_15 hS (l1).toNat
  have pev5 := eqS hS (k := 85) (j := (l1).toNat) (by unfold scrM; omega)
  rw [← q6] at pev5
  replace hrv5 : 0 ≤ v5 ∧ v5 ≤ 8 := by rw [q6]; exact hrv5
  refine wp_sFv (P := Sm μs) (pO_11_37  hS (by unfold scrM; omega) (by omega)) (fun m10 h10 he10 => ?_)
  refine wp_sFv (P := Sm μs) (pO_11_38  h10 (by unfold scrM; omega) (by omega)) (fun m13 h13 he13 => ?_)
  refine t_X11_lay_L18 (l1 := l1) (l2 := l2) (l4 := 0) (mm := m13 70 37) hI (by omega) (by omega) (fun m15 h15  hp15 => ?_) (fun r_ m_ h_ hr_ hp_ => by exact ⟨h_, (by omega), trivial⟩) FU h13 (by omega) (by have := gO_11_37 h13; have : m13 70 37 = m10 70 37 := (by rw [he13, sM_j (by decide)]); have := gO_11_37 h10; have : m10 70 37 = v5 := (by rw [he10, sM_s]); omega) (by omega)
  exact t_X11_lay_L181 (l1 := l1) (l4 := 0) (mm := m15 70 37) hI (by omega) (by have := gO_11_37 h15; have := gO_11_37 h13; have : m13 70 37 = m10 70 37 := (by rw [he13, sM_j (by decide)]); have := gO_11_37 h10; have : m10 70 37 = v5 := (by rw [he10, sM_s]); omega) (fun r_ m_ h_ hr_ hp_ => by exact ⟨h_, (by omega), trivial⟩) FU h15 (by omega) (by have := gO_11_37 h15; have := gO_11_37 h13; have : m13 70 37 = m10 70 37 := (by rw [he13, sM_j (by decide)]); have := gO_11_37 h10; have : m10 70 37 = v5 := (by rw [he10, sM_s]); omega) (by omega)
set_option maxHeartbeats 4000000 in
set_option maxRecDepth 100000 in
theorem t_X11_isReady {μs : Mm} {l1 : Int} (hI : Ir μs)  (hp_l1 : -2147483648 ≤ l1 ∧ l1 ≤ 2147483647) {μ : Mm} (hS : Sm μs μ) : wp (X11_isReady l1 μ) (fun r μ' => Sm μs μ' ∧ (0 ≤ r ∧ r ≤ 1) ∧ (r = 0 ∨ (0 ≤ l1 ∧ l1 ≤ 4 ∧ l1 < μs 70 28))) := by
  have hFU := FU_v
  unfold X11_isReady
  refine wp_if (fun g9 => ?_) (fun g9 => ?_)
  · exact ⟨hS, (by have := gO_11_23 hS; have := eqS hS (j := 23) (k := 70) (by unfold scrM; omega); omega), (by show (0 = 0 ∨ (0 ≤ l1 ∧ l1 ≤ 4 ∧ l1 < μs 70 28)); exact (by have := gO_11_23 hS; have := eqS hS (j := 23) (k := 70) (by unfold scrM; omega); omega))⟩
  · refine wp_calls (t_X11_isPlay (l1 := l1)  (by have := gO_11_23 hS; have := eqS hS (j := 23) (k := 70) (by unfold scrM; omega); omega) hS) (fun v10 hh => ?_)
    obtain ⟨hr11, hp11⟩ := hh
    refine wp_if (fun g18 => ?_) (fun g18 => ?_)
    · exact ⟨hS, (by have := gO_11_23 hS; have := eqS hS (j := 23) (k := 70) (by unfold scrM; omega); omega), (by show (0 = 0 ∨ (0 ≤ l1 ∧ l1 ≤ 4 ∧ l1 < μs 70 28)); exact (by have := gO_11_23 hS; have := eqS hS (j := 23) (k := 70) (by unfold scrM; omega); omega))⟩
    · refine wp_call (t_X11_layTimes (l1 := l1) (l2 := (μ 70 31)) hI (by have := gO_11_23 hS; have := eqS hS (j := 23) (k := 70) (by unfold scrM; omega); omega) (by have := gO_11_23 hS; have := eqS hS (j := 23) (k := 70) (by unfold scrM; omega); have := gO_11_31 hS; have := eqS hS (j := 31) (k := 70) (by unfold scrM; omega); omega) hS) (fun v19 m20 hh => ?_)
      obtain ⟨h20, hr20, hp20⟩ := hh
      refine wp_calls (t_X11_placeOf (l1 := 2)  (by have := gO_11_23 hS; have := eqS hS (j := 23) (k := 70) (by unfold scrM; omega); omega) h20) (fun v25 hh => ?_)
      obtain ⟨hr26, hp26⟩ := hh
      refine wp_call (t_X11_lay (l1 := l1) (l2 := v25) (l3 := (m20 70 30)) hI (by have := gO_11_23 hS; have := eqS hS (j := 23) (k := 70) (by unfold scrM; omega); omega) (by have := gO_11_23 hS; have := eqS hS (j := 23) (k := 70) (by unfold scrM; omega); omega) (by have := gO_11_23 hS; have := eqS hS (j := 23) (k := 70) (by unfold scrM; omega); have := gO_11_30 h20; have := eqS h20 (j := 30) (k := 70) (by unfold scrM; omega); omega) h20 (by have := gO_11_23 hS; have := eqS hS (j := 23) (k := 70) (by unfold scrM; omega); have := gO_11_30 h20; have := eqS h20 (j := 30) (k := 70) (by unfold scrM; omega); omega)) (fun v29 m30 hh => ?_)
      obtain ⟨h30, hr30, hp30⟩ := hh
      exact ⟨h30, (by have := gO_11_23 hS; have := eqS hS (j := 23) (k := 70) (by unfold scrM; omega); omega), (by show (1 = 0 ∨ (0 ≤ l1 ∧ l1 ≤ 4 ∧ l1 < μs 70 28)); exact (by have := gO_11_23 hS; have := eqS hS (j := 23) (k := 70) (by unfold scrM; omega); omega))⟩
set_option maxHeartbeats 4000000 in
set_option maxRecDepth 100000 in
theorem t_X11_late {μs : Mm} {l1 : Int}  (hp_l1 : 0 ≤ l1 ∧ l1 ≤ 7) {μ : Mm} (hS : Sm μs μ) : wp (X11_late l1 μ) (fun r μ' => μ' = μ ∧ (-2147483648 ≤ r ∧ r ≤ 2147483647) ∧ True) := by
  have hFU := FU_v
  unfold X11_late
  refine wp_ldv (by have na0 : ((aN 92 : Nat) : Int) = 8 := rfl; omega) (fun v3 q4 => ?_)
  have hrv3 := gA_11_22 hS (l1).toNat
  replace hrv3 : -2147483648 ≤ v3 ∧ v3 ≤ 2147483647 := by rw [q4]; exact hrv3
  refine wp_ldv (by have na0 : ((aN 88 : Nat) : Int) = 8 := rfl; omega) (fun v6 q7 => ?_)
  have hrv6 := gA_11_18 hS (l1).toNat
  replace hrv6 : -2147483648 ≤ v6 ∧ v6 ≤ 2147483647 := by rw [q7]; exact hrv6
  exact ⟨rfl, (by have := iS_c v3 v6; have := mX_c 0 (iS v3 v6); omega), trivial⟩
