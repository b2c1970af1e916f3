/-! TOTALITY of the reference, by program (wip/gen/totm.py) -/
set_option maxHeartbeats 4000000 in
set_option maxRecDepth 100000 in
theorem t_X11_tellOf_L11 {μs : Mm} {l1 : Int} {l2 : Int}  (hp_l1 : -2147483648 ≤ l1 ∧ l1 ≤ 2147483647) (hp_l2 : -2147483648 ≤ l2 ∧ l2 ≤ 2147483647) {μ : Mm} (hS : Sm μs μ) {k67 : Int → Int → Int → Mm → Rs} {Q : Int → Mm → Prop} (hk_k67 : ∀ (a0 a1 a2 : Int), (-2147483648 ≤ a0 ∧ a0 ≤ 2147483647) → (-2147483648 ≤ a1 ∧ a1 ≤ 2147483647) → (-2147483648 ≤ a2 ∧ a2 ≤ 2147483647) → True → wp (k67 a0 a1 a2 μ) Q) : ∀ (n : Nat) {l3 l4 l5 l6 : Int} , (-2147483648 ≤ l3 ∧ l3 ≤ 2147483647) → (-2147483648 ≤ l4 ∧ l4 ≤ 2147483647) → (-2147483648 ≤ l5 ∧ l5 ≤ 2147483647) → (0 ≤ l6 ∧ l6 ≤ 8) → True → 8 - l6 + 1 ≤ ((n : Nat) : Int) → wp (X11_tellOf_L11 l1 l2 k67 n l3 l4 l5 l6 μ) Q := by
  have hFU := FU_v
  intro n
  induction n with
  | zero => intro l3 l4 l5 l6 hv_l3 hv_l4 hv_l5 hv_l6 hi hm; exact absurd hm (by  have : ((0 : Nat) : Int) = 0 := rfl; omega)
  | succ n ih =>
    intro l3 l4 l5 l6 hv_l3 hv_l4 hv_l5 hv_l6 hi hm
    have hn1 : ((n + 1 : Nat) : Int) = ((n : Nat) : Int) + 1 := rfl
    rw [X11_tellOf_L11]
    refine wp_if (fun g13 => ?_) (fun g13 => ?_)
    · exact hk_k67 l3 l4 l5  (by have := gO_11_37 hS; omega) (by have := gO_11_37 hS; omega) (by have := gO_11_37 hS; omega) trivial
    · refine wp_calls (t_X11_late (l1 := l6)  (by have := gO_11_37 hS; omega) hS) (fun v14 hh => ?_)
      obtain ⟨hr15, hp15⟩ := hh
      refine wp_calls (t_X11_late (l1 := l6)  (by have := gO_11_37 hS; omega) hS) (fun v20 hh => ?_)
      obtain ⟨hr21, hp21⟩ := hh
      refine wp_calls (t_X11_late (l1 := l6)  (by have := gO_11_37 hS; omega) hS) (fun v24 hh => ?_)
      obtain ⟨hr25, hp25⟩ := hh
      refine wp_if (fun g26 => ?_) (fun g26 => ?_)
      · exact ih  (by have := gO_11_37 hS; have := iA_c l3 v14; omega) (by have := gO_11_37 hS; have := mX_c l4 v20; omega) (by have := gO_11_37 hS; have := iA_c l5 0; omega) (by have := gO_11_37 hS; have := iA_c l6 1; omega) trivial (by have := gO_11_37 hS; have := iA_c l3 v14; have := mX_c l4 v20; have := iA_c l5 0; have := iA_c l6 1; omega)
      · exact ih  (by have := gO_11_37 hS; have := iA_c l3 v14; omega) (by have := gO_11_37 hS; have := mX_c l4 v20; omega) (by have := gO_11_37 hS; have := iA_c l5 1; omega) (by have := gO_11_37 hS; have := iA_c l6 1; omega) trivial (by have := gO_11_37 hS; have := iA_c l3 v14; have := mX_c l4 v20; have := iA_c l5 1; have := iA_c l6 1; omega)
set_option maxHeartbeats 4000000 in
set_option maxRecDepth 100000 in
theorem t_X11_tellOf {μs : Mm} {l1 : Int} {l2 : Int}  (hp_l1 : -2147483648 ≤ l1 ∧ l1 ≤ 2147483647) (hp_l2 : -2147483648 ≤ l2 ∧ l2 ≤ 2147483647) {μ : Mm} (hS : Sm μs μ) (hO : OD l1 (μ 70 37)) : wp (X11_tellOf l1 l2 μ) (fun r μ' => μ' = μ ∧ (-2147483648 ≤ r ∧ r ≤ 2147483647) ∧ True) := by
  have hFU := FU_v
  unfold X11_tellOf
  refine t_X11_tellOf_L11 (l1 := l1) (l2 := l2) (l3 := 0) (l4 := 0) (l5 := 0) (l6 := 0)  (by omega) (by omega) hS (fun v6 v7 v8 hrv6 hrv7 hrv8 hp9 => ?_) FU  (by omega) (by omega) (by omega) (by omega) trivial (by omega)
  refine wp_if (fun g11 => ?_) (fun g11 => ?_)
  · exact ⟨rfl, (by omega), trivial⟩
  · refine wp_if (fun g12 => ?_) (fun g12 => ?_)
    · exact ⟨rfl, (by omega), trivial⟩
    · refine wp_if (fun g13 => ?_) (fun g13 => ?_)
      · exact ⟨rfl, (by omega), trivial⟩
      · refine wp_ldv (by have := (hO).1; have := (hO).2.2.1; have := iR_10 l1 (by omega); have na3 : ((aN 92 : Nat) : Int) = 8 := rfl; omega) (fun v14 q15 => ?_)
        have hrv14 := gA_11_22 hS ((iR l1 10)).toNat
        replace hrv14 : -2147483648 ≤ v14 ∧ v14 ≤ 2147483647 := by rw [q15]; exact hrv14
        exact ⟨rfl, (by omega), trivial⟩
set_option maxHeartbeats 4000000 in
set_option maxRecDepth 100000 in
theorem t_X11_go_L10 {μs : Mm} {l1 : Int} (hI : Ir μs)  (hp_l1 : -2147483648 ≤ l1 ∧ l1 ≤ 2147483647) {mm : Int} (hO : OD l1 mm) {Q : Int → Mm → Prop} (hQ : ∀ r μ, Sm μs μ → (0 ≤ r ∧ r ≤ 1) → μ 70 37 = mm → Q r μ) : ∀ (n : Nat) {l2 l3 l4 : Int} {μ : Mm}, Sm μs μ → (0 ≤ l2 ∧ l2 ≤ 8) → (-2147483648 ≤ l3 ∧ l3 ≤ 2147483647) → (0 ≤ l4 ∧ l4 ≤ 8) → μ 70 37 = mm → 8 - l4 + 1 ≤ ((n : Nat) : Int) → wp (X11_go_L10 l1 n l2 l3 l4 μ) Q := by
  have hFU := FU_v
  intro n
  induction n with
  | zero => intro l2 l3 l4 μ hS hv_l2 hv_l3 hv_l4 hi hm; exact absurd hm (by  have : ((0 : Nat) : Int) = 0 := rfl; omega)
  | succ n ih =>
    intro l2 l3 l4 μ hS hv_l2 hv_l3 hv_l4 hi hm
    have hn1 : ((n + 1 : Nat) : Int) = ((n : Nat) : Int) + 1 := rfl
    rw [X11_go_L10]
    refine wp_if (fun g21 => ?_) (fun g21 => ?_)
    · exact hQ _ _ hS (by have := gO_11_37 hS; omega) (by show μ 70 37 = mm; exact (by have := gO_11_37 hS; omega))
    · refine wp_calls (t_X11_nth (l1 := l1) (l2 := l4)  (by have := gO_11_37 hS; omega) (by have := gO_11_37 hS; omega) hS (by have := gO_11_37 hS; omega)) (fun v22 hh => ?_)
      obtain ⟨hr23, hp23⟩ := hh
      have hodv22 := hp23 (by have e_ : μ 70 37 = mm := (by have := gO_11_37 hS; omega); rw [e_]; exact hO)
      refine wp_ldv (by have := gO_11_37 hS; have := iM_c 8 l2; have := iA_c (iM 8 l2) v22; have na3 : ((aN 89 : Nat) : Int) = 72 := rfl; omega) (fun v32 q33 => ?_)
      have hrv32 := gA_11_19 hS ((iA (iM 8 l2) v22)).toNat
      replace hrv32 : -2147483648 ≤ v32 ∧ v32 ≤ 2147483647 := by rw [q33]; exact hrv32
      refine wp_if (fun g41 => ?_) (fun g41 => ?_)
      · exact hQ _ _ hS (by have := gO_11_37 hS; omega) (by show μ 70 37 = mm; exact (by have := gO_11_37 hS; omega))
      · refine wp_ldv (by have := gO_11_37 hS; have := iM_c 8 l2; have := iA_c (iM 8 l2) v22; have na3 : ((aN 89 : Nat) : Int) = 72 := rfl; omega) (fun v42 q43 => ?_)
        have hrv42 := gA_11_19 hS ((iA (iM 8 l2) v22)).toNat
        replace hrv42 : -2147483648 ≤ v42 ∧ v42 ≤ 2147483647 := by rw [q43]; exact hrv42
        refine wp_stv (P := Sm μs) (by have := gO_11_37 hS; have na1 : ((aN 91 : Nat) : Int) = 8 := rfl; omega) (pA_11_21  hS (by unfold scrM; omega) (by have := gO_11_37 hS; have := gO_11_38 hS; have := iM_r v42 (μ 70 38); have := iA_c l3 (iM v42 (μ 70 38)); omega)) (fun m50 h50 he50 => ?_)
        refine wp_ldv (by have := gO_11_37 hS; have na1 : ((aN 91 : Nat) : Int) = 8 := rfl; omega) (fun v56 q57 => ?_)
        have hrv56 := gA_11_21 h50 (v22).toNat
        replace hrv56 : -2147483648 ≤ v56 ∧ v56 ≤ 2147483647 := by rw [q57]; exact hrv56
        refine wp_ldv (by have := gO_11_37 hS; have na1 : ((aN 90 : Nat) : Int) = 8 := rfl; omega) (fun v62 q63 => ?_)
        have hrv62 := gA_11_20 h50 (v22).toNat
        replace hrv62 : -2147483648 ≤ v62 ∧ v62 ≤ 2147483647 := by rw [q63]; exact hrv62
        refine wp_ldv (by have := gO_11_37 hS; have na1 : ((aN 88 : Nat) : Int) = 8 := rfl; omega) (fun v67 q68 => ?_)
        have hrv67 := gA_11_18 h50 (v22).toNat
        replace hrv67 : -2147483648 ≤ v67 ∧ v67 ≤ 2147483647 := by rw [q68]; exact hrv67
        refine wp_ltv (fun v71 q72 => ?_)
        refine wp_stv (P := Sm μs) (by have := gO_11_37 hS; have na1 : ((aN 92 : Nat) : Int) = 8 := rfl; omega) (pA_11_22  h50 (by unfold scrM; omega) (by have := gO_11_37 hS; have := iA_c v56 v62; have := mX_c (iA v56 v62) v67; omega)) (fun m74 h74 he74 => ?_)
        exact ih h74 (by have := gO_11_37 hS; omega) (by have := gO_11_37 hS; have := iA_c v56 v62; have := mX_c (iA v56 v62) v67; omega) (by have := gO_11_37 hS; have := iA_c l4 1; omega) (by have := gO_11_37 hS; have := iA_c l4 1; have := gO_11_37 h74; have : m74 70 37 = m50 70 37 := (by rw [he74, sM_a (by decide)]); have := gO_11_37 h50; have : m50 70 37 = μ 70 37 := (by rw [he50, sM_a (by decide)]); have := iA_c v56 v62; have := mX_c (iA v56 v62) v67; omega) (by have := gO_11_37 hS; have := iA_c l4 1; have := iA_c v56 v62; have := mX_c (iA v56 v62) v67; omega)
set_option maxHeartbeats 4000000 in
set_option maxRecDepth 100000 in
theorem t_X11_go {μs : Mm} {l1 : Int} (hI : Ir μs)  (hp_l1 : -2147483648 ≤ l1 ∧ l1 ≤ 2147483647) {μ : Mm} (hS : Sm μs μ) (hO : OD l1 (μ 70 37)) : wp (X11_go l1 μ) (fun r μ' => Sm μs μ' ∧ (0 ≤ r ∧ r ≤ 1) ∧ μ' 70 37 = μ 70 37) := by
  have hFU := FU_v
  unfold X11_go
  exact t_X11_go_L10 (l1 := l1) (l2 := (μ 70 37)) (l3 := 0) (l4 := 0) (mm := μ 70 37) hI (by omega) hO (fun r_ m_ h_ hr_ hp_ => by exact ⟨h_, (by omega), (by show m_ 70 37 = μ 70 37; exact (by have := gO_11_37 h_; have := gO_11_37 hS; omega))⟩) FU hS (by have := gO_11_37 hS; omega) (by omega) (by omega) (by have := gO_11_37 hS; omega) (by have := gO_11_37 hS; omega)
set_option maxHeartbeats 4000000 in
set_option maxRecDepth 100000 in
theorem t_X11_order {μs : Mm} {l1 : Int} {l2 : Int} {l3 : Int} (hI : Ir μs)  (hp_l1 : -2147483648 ≤ l1 ∧ l1 ≤ 2147483647) (hp_l2 : -2147483648 ≤ l2 ∧ l2 ≤ 2147483647) (hp_l3 : -2147483648 ≤ l3 ∧ l3 ≤ 2147483647) {μ : Mm} (hS : Sm μs μ) : wp (X11_order l1 l2 l3 μ) (fun r μ' => Sm μs μ' ∧ (-2147483648 ≤ r ∧ r ≤ 2147483647) ∧ True) := by
  have hFU := FU_v
  unfold X11_order
  refine wp_call (t_X11_isReady (l1 := l1) hI (by omega) hS) (fun v11 m12 hh => ?_)
  obtain ⟨h12, hr12, hp12⟩ := hh
  refine wp_if (fun g21 => ?_) (fun g21 => ?_)
  · exact ⟨h12, (by omega), trivial⟩
  · refine wp_calls (t_X11_isOrder (l1 := l2)  (by omega) h12) (fun v22 hh => ?_)
    obtain ⟨hr23, hp23⟩ := hh
    refine wp_if (fun g30 => ?_) (fun g30 => ?_)
    · exact ⟨h12, (by omega), trivial⟩
    · refine wp_calls (t_X11_in (l0 := l3) (l1 := 0) (l2 := 3)  (by omega) (by omega) (by omega) h12) (fun v31 hh => ?_)
      obtain ⟨hr32, hp32⟩ := hh
      refine wp_if (fun g37 => ?_) (fun g37 => ?_)
      · exact ⟨h12, (by omega), trivial⟩
      · refine wp_call (t_X11_go (l1 := l2) hI (by omega) h12 (hp23.resolve_left g30)) (fun v38 m39 hh => ?_)
        obtain ⟨h39, hr39, hp39⟩ := hh
        refine wp_if (fun g42 => ?_) (fun g42 => ?_)
        · exact ⟨h39, (by omega), trivial⟩
        · refine wp_calls (t_X11_tellOf (l1 := l2) (l2 := l3)  (by omega) (by omega) h39 (by have e_ : m39 70 37 = m12 70 37 := (by have := gO_11_37 h39; have := gO_11_37 h12; omega); rw [e_]; exact (hp23.resolve_left g30))) (fun v43 hh => ?_)
          obtain ⟨hr44, hp44⟩ := hh
          exact ⟨h39, (by omega), trivial⟩
set_option maxHeartbeats 4000000 in
set_option maxRecDepth 100000 in
theorem t_X11_done {μs : Mm} {l1 : Int} {l2 : Int} {l3 : Int} {l4 : Int} (hI : Ir μs)  (hp_l1 : -2147483648 ≤ l1 ∧ l1 ≤ 2147483647) (hp_l2 : -2147483648 ≤ l2 ∧ l2 ≤ 2147483647) (hp_l3 : -2147483648 ≤ l3 ∧ l3 ≤ 2147483647) (hp_l4 : -2147483648 ≤ l4 ∧ l4 ≤ 2147483647) {μ : Mm} (hS : Sm μs μ) : wp (X11_done l1 l2 l3 l4 μ) (fun r μ' => Sm μs μ' ∧ (-2147483648 ≤ r ∧ r ≤ 2147483647) ∧ True) := by
  have hFU := FU_v
  unfold X11_done
  refine wp_call (t_X11_isReady (l1 := l1) hI (by omega) hS) (fun v15 m16 hh => ?_)
  obtain ⟨h16, hr16, hp16⟩ := hh
  refine wp_if (fun g29 => ?_) (fun g29 => ?_)
  · exact ⟨h16, (by omega), trivial⟩
  · refine wp_calls (t_X11_isOrder (l1 := l2)  (by omega) h16) (fun v30 hh => ?_)
    obtain ⟨hr31, hp31⟩ := hh
    refine wp_if (fun g42 => ?_) (fun g42 => ?_)
    · exact ⟨h16, (by omega), trivial⟩
    · refine wp_calls (t_X11_in (l0 := l3) (l1 := 0) (l2 := (iS (m16 70 37) 1))  (by omega) (by omega) (by have := gO_11_37 h16; have := iS_c (m16 70 37) 1; omega) h16) (fun v43 hh => ?_)
      obtain ⟨hr44, hp44⟩ := hh
      refine wp_if (fun g53 => ?_) (fun g53 => ?_)
      · exact ⟨h16, (by have := gO_11_37 h16; have := iS_c (m16 70 37) 1; omega), trivial⟩
      · refine wp_calls (t_X11_in (l0 := l4) (l1 := 0) (l2 := 2)  (by have := gO_11_37 h16; have := iS_c (m16 70 37) 1; omega) (by have := gO_11_37 h16; have := iS_c (m16 70 37) 1; omega) (by have := gO_11_37 h16; have := iS_c (m16 70 37) 1; omega) h16) (fun v54 hh => ?_)
        obtain ⟨hr55, hp55⟩ := hh
        refine wp_if (fun g62 => ?_) (fun g62 => ?_)
        · exact ⟨h16, (by have := gO_11_37 h16; have := iS_c (m16 70 37) 1; omega), trivial⟩
        · refine wp_call (t_X11_go (l1 := l2) hI (by have := gO_11_37 h16; have := iS_c (m16 70 37) 1; omega) h16 (hp31.resolve_left g42)) (fun v63 m64 hh => ?_)
          obtain ⟨h64, hr64, hp64⟩ := hh
          refine wp_if (fun g69 => ?_) (fun g69 => ?_)
          · exact ⟨h64, (by have := gO_11_37 h16; have := iS_c (m16 70 37) 1; omega), trivial⟩
          · refine wp_if (fun g70 => ?_) (fun g70 => ?_)
            · refine wp_ldv (by have := gO_11_37 h16; have na1 : ((aN 92 : Nat) : Int) = 8 := rfl; have := iS_c (m16 70 37) 1; omega) (fun v71 q72 => ?_)
              have hrv71 := gA_11_22 h64 (l3).toNat
              replace hrv71 : -2147483648 ≤ v71 ∧ v71 ≤ 2147483647 := by rw [q72]; exact hrv71
              exact ⟨h64, (by have := gO_11_37 h16; have := iS_c (m16 70 37) 1; omega), trivial⟩
            · refine wp_if (fun g73 => ?_) (fun g73 => ?_)
              · refine wp_calls (t_X11_late (l1 := l3)  (by have := gO_11_37 h16; have := iS_c (m16 70 37) 1; omega) h64) (fun v74 hh => ?_)
                obtain ⟨hr75, hp75⟩ := hh
                exact ⟨h64, (by have := gO_11_37 h16; have := iS_c (m16 70 37) 1; omega), trivial⟩
              · refine wp_ldv (by have := gO_11_37 h16; have na1 : ((aN 91 : Nat) : Int) = 8 := rfl; have := iS_c (m16 70 37) 1; omega) (fun v76 q77 => ?_)
                have hrv76 := gA_11_21 h64 (l3).toNat
                replace hrv76 : -2147483648 ≤ v76 ∧ v76 ≤ 2147483647 := by rw [q77]; exact hrv76
                exact ⟨h64, (by have := gO_11_37 h16; have := iS_c (m16 70 37) 1; omega), trivial⟩
set_option maxHeartbeats 4000000 in
set_option maxRecDepth 100000 in
theorem t_X11_where_L33 {μs : Mm} {l1 : Int} {l2 : Int} {l3 : Int}  (hp_l1 : 0 ≤ l1 ∧ l1 ≤ 4) (hp_l2 : -2147483648 ≤ l2 ∧ l2 ≤ 2147483647) (hp_l3 : -2147483648 ≤ l3 ∧ l3 ≤ 2147483647) {μ : Mm} (hS : Sm μs μ) (hO : OD l2 (μ 70 37)) {k91 : Mm → Rs} {k72 : Int → Mm → Rs} {Q : Int → Mm → Prop} (hk_k91 : True → wp (k91 μ) Q) (hk_k72 : ∀ (a0 : Int), (0 ≤ a0 ∧ a0 ≤ 7) → True → wp (k72 a0 μ) Q) : ∀ (n : Nat) {l4 : Int} , (0 ≤ l4 ∧ l4 ≤ 8) → True → 8 - l4 + 1 ≤ ((n : Nat) : Int) → wp (X11_where_L33 l1 l2 l3 k91 k72 n l4 μ) Q := by
  have hFU := FU_v
  intro n
  induction n with
  | zero => intro l4 hv_l4 hi hm; exact absurd hm (by  have : ((0 : Nat) : Int) = 0 := rfl; omega)
  | succ n ih =>
    intro l4 hv_l4 hi hm
    have hn1 : ((n + 1 : Nat) : Int) = ((n : Nat) : Int) + 1 := rfl
    rw [X11_where_L33]
    refine wp_if (fun g13 => ?_) (fun g13 => ?_)
    · exact hk_k91    trivial
    · refine wp_calls (t_X11_nth (l1 := l2) (l2 := l4)  (by have := gO_11_37 hS; omega) (by have := gO_11_37 hS; omega) hS (by have := gO_11_37 hS; omega)) (fun v14 hh => ?_)
      obtain ⟨hr15, hp15⟩ := hh
      have hodv14 := hp15 hO
      refine wp_ldv (by have := gO_11_37 hS; have na1 : ((aN 91 : Nat) : Int) = 8 := rfl; omega) (fun v20 q21 => ?_)
      have hrv20 := gA_11_21 hS (v14).toNat
      replace hrv20 : -2147483648 ≤ v20 ∧ v20 ≤ 2147483647 := by rw [q21]; exact hrv20
      refine wp_ldv (by have := gO_11_37 hS; have na1 : ((aN 92 : Nat) : Int) = 8 := rfl; omega) (fun v25 q26 => ?_)
      have hrv25 := gA_11_22 hS (v14).toNat
      replace hrv25 : -2147483648 ≤ v25 ∧ v25 ≤ 2147483647 := by rw [q26]; exact hrv25
      refine wp_calls (t_X11_in (l0 := l3) (l1 := v20) (l2 := v25)  (by have := gO_11_37 hS; omega) (by have := gO_11_37 hS; omega) (by have := gO_11_37 hS; omega) hS) (fun v29 hh => ?_)
      obtain ⟨hr30, hp30⟩ := hh
      refine wp_if (fun g31 => ?_) (fun g31 => ?_)
      · exact ih  (by have := gO_11_37 hS; have := iA_c l4 1; omega) trivial (by have := gO_11_37 hS; have := iA_c l4 1; omega)
      · exact hk_k72 v14  (by have := gO_11_37 hS; omega) trivial
set_option maxHeartbeats 4000000 in
set_option maxRecDepth 100000 in
theorem t_X11_where {μs : Mm} {l1 : Int} {l2 : Int} {l3 : Int} (hI : Ir μs)  (hp_l1 : -2147483648 ≤ l1 ∧ l1 ≤ 2147483647) (hp_l2 : -2147483648 ≤ l2 ∧ l2 ≤ 2147483647) (hp_l3 : -2147483648 ≤ l3 ∧ l3 ≤ 2147483647) {μ : Mm} (hS : Sm μs μ) : wp (X11_where l1 l2 l3 μ) (fun r μ' => Sm μs μ' ∧ (-2147483648 ≤ r ∧ r ≤ 2147483647) ∧ True) := by
  have hFU := FU_v
  unfold X11_where
  refine wp_call (t_X11_isReady (l1 := l1) hI (by omega) hS) (fun v12 m13 hh => ?_)
  obtain ⟨h13, hr13, hp13⟩ := hh
  refine wp_if (fun g23 => ?_) (fun g23 => ?_)
  · exact ⟨h13, (by omega), trivial⟩
  · refine wp_calls (t_X11_isOrder (l1 := l2)  (by omega) h13) (fun v24 hh => ?_)
    obtain ⟨hr25, hp25⟩ := hh
    refine wp_if (fun g33 => ?_) (fun g33 => ?_)
    · exact ⟨h13, (by omega), trivial⟩
    · refine wp_if (fun g34 => ?_) (fun g34 => ?_)
      · exact ⟨h13, (by omega), trivial⟩
      · refine wp_call (t_X11_go (l1 := l2) hI (by omega) h13 (hp25.resolve_left g33)) (fun v35 m36 hh => ?_)
        obtain ⟨h36, hr36, hp36⟩ := hh
        refine wp_if (fun g42 => ?_) (fun g42 => ?_)
        · exact ⟨h36, (by omega), trivial⟩
        · refine t_X11_where_L33 (l1 := l1) (l2 := l2) (l3 := l3) (l4 := 0)  (by omega) (by omega) (by omega) h36 (by have e_ : m36 70 37 = m13 70 37 := (by have := gO_11_37 h36; have := gO_11_37 h13; omega); rw [e_]; exact (hp25.resolve_left g33)) (fun hp43 => ?_) (fun v45 hrv45 hp46 => ?_) FU  (by omega) trivial (by omega)
          · refine wp_ldv (by have := ((hp25.resolve_left g33)).1; have := ((hp25.resolve_left g33)).2.2.1; have := iR_10 l2 (by omega); have na3 : ((aN 92 : Nat) : Int) = 8 := rfl; omega) (fun v48 q49 => ?_)
            have hrv48 := gA_11_22 h36 ((iR l2 10)).toNat
            replace hrv48 : -2147483648 ≤ v48 ∧ v48 ≤ 2147483647 := by rw [q49]; exact hrv48
            refine wp_if (fun g50 => ?_) (fun g50 => ?_)
            · exact ⟨h36, (by omega), trivial⟩
            · exact ⟨h36, (by omega), trivial⟩
          · refine wp_ldv (by have := iM_c 8 l1; have := iA_c (iM 8 l1) v45; have na2 : ((aN 83 : Nat) : Int) = 48 := rfl; omega) (fun v51 q52 => ?_)
            have hrv51 := gA_11_13 h36 ((iA (iM 8 l1) v45)).toNat
            replace hrv51 : -2147483648 ≤ v51 ∧ v51 ≤ 2147483647 := by rw [q52]; exact hrv51
            exact ⟨h36, (by omega), trivial⟩
set_option maxHeartbeats 4000000 in
set_option maxRecDepth 100000 in
theorem t_X11_search_L38 {μs : Mm} {l1 : Int} {l2 : Int} {l3 : Int} {l4 : Int} {l5 : Int} {l6 : Int} (hI : Ir μs) {N : Int} {rec : Int → Int → Int → Int → Int → Int → Mm → Rs} (hrec : ∀ (l1 : Int) (l2 : Int) (l3 : Int) (l4 : Int) (l5 : Int) (l6 : Int) (μ : Mm), Sm μs μ → (-2147483648 ≤ l1 ∧ l1 ≤ 2147483647) → (0 ≤ l2 ∧ l2 ≤ 255) → (0 ≤ l3 ∧ l3 ≤ 8) → (-2147483648 ≤ l4 ∧ l4 ≤ 2147483647) → (-2147483648 ≤ l5 ∧ l5 ≤ 2147483647) → (-2147483648 ≤ l6 ∧ l6 ≤ 2147483647) → pc l2 + 1 ≤ N → wp (rec l1 l2 l3 l4 l5 l6 μ) (fun r μ' => Sm μs μ' ∧ (-2147483648 ≤ r ∧ r ≤ 2147483647) ∧ μ' 70 37 = μ 70 37))  (hp_l1 : -2147483648 ≤ l1 ∧ l1 ≤ 2147483647) (hp_l2 : 0 ≤ l2 ∧ l2 ≤ 255) (hp_l3 : 0 ≤ l3 ∧ l3 ≤ 8) (hp_l4 : -2147483648 ≤ l4 ∧ l4 ≤ 2147483647) (hp_l5 : -2147483648 ≤ l5 ∧ l5 ≤ 2147483647) (hp_l6 : -2147483648 ≤ l6 ∧ l6 ≤ 2147483647) (hl : pc l2 ≤ N) {mm : Int} {Q : Int → Mm → Prop} (hQ : ∀ r μ, Sm μs μ → (-2147483648 ≤ r ∧ r ≤ 2147483647) → μ 70 37 = mm → Q r μ) : ∀ (n : Nat) {l7 : Int} {μ : Mm}, Sm μs μ → (0 ≤ l7 ∧ l7 ≤ 8) → μ 70 37 = mm → 8 - l7 + 1 ≤ ((n : Nat) : Int) → wp (X11_search_L38 rec l1 l2 l3 l4 l5 l6 n l7 μ) Q := by
  have hFU := FU_v
  intro n
  induction n with
  | zero => intro l7 μ hS hv_l7 hi hm; exact absurd hm (by  have : ((0 : Nat) : Int) = 0 := rfl; omega)
  | succ n ih =>
    intro l7 μ hS hv_l7 hi hm
    have hn1 : ((n + 1 : Nat) : Int) = ((n : Nat) : Int) + 1 := rfl
    rw [X11_search_L38]
    refine wp_if (fun g15 => ?_) (fun g15 => ?_)
    · exact hQ _ _ hS (by have := gO_11_37 hS; omega) (by show μ 70 37 = mm; exact (by have := gO_11_37 hS; omega))
    · refine wp_calls (t_X11_has (l0 := l2) (l1 := l7)  (by have := gO_11_37 hS; omega) (by have := gO_11_37 hS; omega) hS) (fun v16 hh => ?_)
      obtain ⟨hr17, hp17⟩ := hh
      refine wp_if (fun g23 => ?_) (fun g23 => ?_)
      · unfold X11_search_J72
        try dsimp only
        refine wp_if (fun g36 => ?_) (fun g36 => ?_)
        · exact ih hS (by have := gO_11_37 hS; have := iA_c l7 1; omega) (by have := gO_11_37 hS; have := iA_c l7 1; omega) (by have := gO_11_37 hS; have := iA_c l7 1; omega)
        · refine wp_ldv (by have := gO_11_37 hS; have na1 : ((aN 90 : Nat) : Int) = 8 := rfl; omega) (fun v37 q38 => ?_)
          have hrv37 := gA_11_20 hS (l7).toNat
          replace hrv37 : -2147483648 ≤ v37 ∧ v37 ≤ 2147483647 := by rw [q38]; exact hrv37
          refine wp_ldv (by have := gO_11_37 hS; have na1 : ((aN 88 : Nat) : Int) = 8 := rfl; omega) (fun v50 q51 => ?_)
          have hrv50 := gA_11_18 hS (l7).toNat
          replace hrv50 : -2147483648 ≤ v50 ∧ v50 ≤ 2147483647 := by rw [q51]; exact hrv50
          refine wp_ltv (fun v62 q63 => ?_)
          refine wp_ldv (by have := gO_11_37 hS; have na1 : ((aN 88 : Nat) : Int) = 8 := rfl; omega) (fun v73 q74 => ?_)
          have hrv73 := gA_11_18 hS (l7).toNat
          replace hrv73 : -2147483648 ≤ v73 ∧ v73 ≤ 2147483647 := by rw [q74]; exact hrv73
          refine wp_if (fun g83 => ?_) (fun g83 => ?_)
          · unfold X11_search_J162
            try dsimp only
            refine wp_call (hrec l1 (bA l2 (bX (bL 1 l7) (-1))) l7 v62 (iA l5 (iS v62 v73)) (iA (iM 10 l6) l7) μ hS (by have := gO_11_37 hS; omega) (by have := gO_11_37 hS; have := bL_r 1 l7; have := bX_r (bL 1 l7) (-1); have := pcl (x := l2) (c := l7) (by omega) (by omega); omega) (by have := gO_11_37 hS; omega) (by have := gO_11_37 hS; have := gO_11_38 hS; have := iM_c (-1) (μ 70 38); have := iA_c l4 (iM (-1) (μ 70 38)); have := iA_c (iA l4 (iM (-1) (μ 70 38))) v37; have := mX_c (iA (iA l4 (iM (-1) (μ 70 38))) v37) v50; omega) (by have := gO_11_37 hS; have := gO_11_38 hS; have := iS_c v62 v73; have := iA_c l5 (iS v62 v73); have := iM_c (-1) (μ 70 38); have := iA_c l4 (iM (-1) (μ 70 38)); have := iA_c (iA l4 (iM (-1) (μ 70 38))) v37; have := mX_c (iA (iA l4 (iM (-1) (μ 70 38))) v37) v50; omega) (by have := gO_11_37 hS; have := iM_c 10 l6; have := iA_c (iM 10 l6) l7; omega) (by have := gO_11_37 hS; have := pcl (x := l2) (c := l7) (by omega) (by omega); omega)) (fun v86 m87 hh => ?_)
            obtain ⟨h87, hr87, hp87⟩ := hh
            exact ih h87 (by have := gO_11_37 hS; have := iA_c l7 1; omega) (by have := gO_11_37 hS; have := iA_c l7 1; have := gO_11_37 h87; omega) (by have := gO_11_37 hS; have := iA_c l7 1; omega)
          · refine wp_if (fun g88 => ?_) (fun g88 => ?_)
            · unfold X11_search_J162
              try dsimp only
              refine wp_call (hrec l1 (bA l2 (bX (bL 1 l7) (-1))) l7 v62 (mX l5 (iS v62 v73)) (iA (iM 10 l6) l7) μ hS (by have := gO_11_37 hS; omega) (by have := gO_11_37 hS; have := bL_r 1 l7; have := bX_r (bL 1 l7) (-1); have := pcl (x := l2) (c := l7) (by omega) (by omega); omega) (by have := gO_11_37 hS; omega) (by have := gO_11_37 hS; have := gO_11_38 hS; have := iM_c (-1) (μ 70 38); have := iA_c l4 (iM (-1) (μ 70 38)); have := iA_c (iA l4 (iM (-1) (μ 70 38))) v37; have := mX_c (iA (iA l4 (iM (-1) (μ 70 38))) v37) v50; omega) (by have := gO_11_37 hS; have := gO_11_38 hS; have := iS_c v62 v73; have := mX_c l5 (iS v62 v73); have := iM_c (-1) (μ 70 38); have := iA_c l4 (iM (-1) (μ 70 38)); have := iA_c (iA l4 (iM (-1) (μ 70 38))) v37; have := mX_c (iA (iA l4 (iM (-1) (μ 70 38))) v37) v50; omega) (by have := gO_11_37 hS; have := iM_c 10 l6; have := iA_c (iM 10 l6) l7; omega) (by have := gO_11_37 hS; have := pcl (x := l2) (c := l7) (by omega) (by omega); omega)) (fun v91 m92 hh => ?_)
              obtain ⟨h92, hr92, hp92⟩ := hh
              exact ih h92 (by have := gO_11_37 hS; have := iA_c l7 1; omega) (by have := gO_11_37 hS; have := iA_c l7 1; have := gO_11_37 h92; omega) (by have := gO_11_37 hS; have := iA_c l7 1; omega)
            · refine wp_if (fun g93 => ?_) (fun g93 => ?_)
              · unfold X11_search_J161
                try dsimp only
                unfold X11_search_J162
                try dsimp only
                refine wp_call (hrec l1 (bA l2 (bX (bL 1 l7) (-1))) l7 v62 (iA l5 0) (iA (iM 10 l6) l7) μ hS (by have := gO_11_37 hS; have := iS_c v62 v73; omega) (by have := gO_11_37 hS; have := bL_r 1 l7; have := bX_r (bL 1 l7) (-1); have := pcl (x := l2) (c := l7) (by omega) (by omega); have := iS_c v62 v73; omega) (by have := gO_11_37 hS; have := iS_c v62 v73; omega) (by have := gO_11_37 hS; have := gO_11_38 hS; have := iM_c (-1) (μ 70 38); have := iA_c l4 (iM (-1) (μ 70 38)); have := iA_c (iA l4 (iM (-1) (μ 70 38))) v37; have := mX_c (iA (iA l4 (iM (-1) (μ 70 38))) v37) v50; have := iS_c v62 v73; omega) (by have := gO_11_37 hS; have := iA_c l5 0; have := iS_c v62 v73; omega) (by have := gO_11_37 hS; have := iM_c 10 l6; have := iA_c (iM 10 l6) l7; have := iS_c v62 v73; omega) (by have := gO_11_37 hS; have := pcl (x := l2) (c := l7) (by omega) (by omega); omega)) (fun v98 m99 hh => ?_)
                obtain ⟨h99, hr99, hp99⟩ := hh
                exact ih h99 (by have := gO_11_37 hS; have := iA_c l7 1; have := iS_c v62 v73; omega) (by have := gO_11_37 hS; have := iA_c l7 1; have := gO_11_37 h99; have := iS_c v62 v73; omega) (by have := gO_11_37 hS; have := iA_c l7 1; have := iS_c v62 v73; omega)
              · unfold X11_search_J161
                try dsimp only
                unfold X11_search_J162
                try dsimp only
                refine wp_call (hrec l1 (bA l2 (bX (bL 1 l7) (-1))) l7 v62 (iA l5 1) (iA (iM 10 l6) l7) μ hS (by have := gO_11_37 hS; have := iS_c v62 v73; omega) (by have := gO_11_37 hS; have := bL_r 1 l7; have := bX_r (bL 1 l7) (-1); have := pcl (x := l2) (c := l7) (by omega) (by omega); have := iS_c v62 v73; omega) (by have := gO_11_37 hS; have := iS_c v62 v73; omega) (by have := gO_11_37 hS; have := gO_11_38 hS; have := iM_c (-1) (μ 70 38); have := iA_c l4 (iM (-1) (μ 70 38)); have := iA_c (iA l4 (iM (-1) (μ 70 38))) v37; have := mX_c (iA (iA l4 (iM (-1) (μ 70 38))) v37) v50; have := iS_c v62 v73; omega) (by have := gO_11_37 hS; have := iA_c l5 1; have := iS_c v62 v73; omega) (by have := gO_11_37 hS; have := iM_c 10 l6; have := iA_c (iM 10 l6) l7; have := iS_c v62 v73; omega) (by have := gO_11_37 hS; have := pcl (x := l2) (c := l7) (by omega) (by omega); omega)) (fun v104 m105 hh => ?_)
                obtain ⟨h105, hr105, hp105⟩ := hh
                exact ih h105 (by have := gO_11_37 hS; have := iA_c l7 1; have := iS_c v62 v73; omega) (by have := gO_11_37 hS; have := iA_c l7 1; have := gO_11_37 h105; have := iS_c v62 v73; omega) (by have := gO_11_37 hS; have := iA_c l7 1; have := iS_c v62 v73; omega)
      · refine wp_ldv (by have := gO_11_37 hS; have := iM_c 8 l3; have := iA_c (iM 8 l3) l7; have na3 : ((aN 89 : Nat) : Int) = 72 := rfl; omega) (fun v106 q107 => ?_)
        have hrv106 := gA_11_19 hS ((iA (iM 8 l3) l7)).toNat
        replace hrv106 : -2147483648 ≤ v106 ∧ v106 ≤ 2147483647 := by rw [q107]; exact hrv106
        unfold X11_search_J72
        try dsimp only
        refine wp_if (fun g122 => ?_) (fun g122 => ?_)
        · exact ih hS (by have := gO_11_37 hS; have := iA_c l7 1; omega) (by have := gO_11_37 hS; have := iA_c l7 1; omega) (by have := gO_11_37 hS; have := iA_c l7 1; omega)
        · refine wp_ldv (by have := gO_11_37 hS; have na1 : ((aN 90 : Nat) : Int) = 8 := rfl; omega) (fun v123 q124 => ?_)
          have hrv123 := gA_11_20 hS (l7).toNat
          replace hrv123 : -2147483648 ≤ v123 ∧ v123 ≤ 2147483647 := by rw [q124]; exact hrv123
          refine wp_ldv (by have := gO_11_37 hS; have na1 : ((aN 88 : Nat) : Int) = 8 := rfl; omega) (fun v136 q137 => ?_)
          have hrv136 := gA_11_18 hS (l7).toNat
          replace hrv136 : -2147483648 ≤ v136 ∧ v136 ≤ 2147483647 := by rw [q137]; exact hrv136
          refine wp_ltv (fun v148 q149 => ?_)
          refine wp_ldv (by have := gO_11_37 hS; have na1 : ((aN 88 : Nat) : Int) = 8 := rfl; omega) (fun v159 q160 => ?_)
          have hrv159 := gA_11_18 hS (l7).toNat
          replace hrv159 : -2147483648 ≤ v159 ∧ v159 ≤ 2147483647 := by rw [q160]; exact hrv159
          refine wp_if (fun g169 => ?_) (fun g169 => ?_)
          · unfold X11_search_J162
            try dsimp only
            refine wp_call (hrec l1 (bA l2 (bX (bL 1 l7) (-1))) l7 v148 (iA l5 (iS v148 v159)) (iA (iM 10 l6) l7) μ hS (by have := gO_11_37 hS; omega) (by have := gO_11_37 hS; have := bL_r 1 l7; have := bX_r (bL 1 l7) (-1); have := pcl (x := l2) (c := l7) (by omega) (by omega); omega) (by have := gO_11_37 hS; omega) (by have := gO_11_37 hS; have := gO_11_38 hS; have := iM_r v106 (μ 70 38); have := iA_c l4 (iM v106 (μ 70 38)); have := iA_c (iA l4 (iM v106 (μ 70 38))) v123; have := mX_c (iA (iA l4 (iM v106 (μ 70 38))) v123) v136; omega) (by have := gO_11_37 hS; have := gO_11_38 hS; have := iS_c v148 v159; have := iA_c l5 (iS v148 v159); have := iM_r v106 (μ 70 38); have := iA_c l4 (iM v106 (μ 70 38)); have := iA_c (iA l4 (iM v106 (μ 70 38))) v123; have := mX_c (iA (iA l4 (iM v106 (μ 70 38))) v123) v136; omega) (by have := gO_11_37 hS; have := iM_c 10 l6; have := iA_c (iM 10 l6) l7; omega) (by have := gO_11_37 hS; have := pcl (x := l2) (c := l7) (by omega) (by omega); omega)) (fun v172 m173 hh => ?_)
            obtain ⟨h173, hr173, hp173⟩ := hh
            exact ih h173 (by have := gO_11_37 hS; have := iA_c l7 1; omega) (by have := gO_11_37 hS; have := iA_c l7 1; have := gO_11_37 h173; omega) (by have := gO_11_37 hS; have := iA_c l7 1; omega)
          · refine wp_if (fun g174 => ?_) (fun g174 => ?_)
            · unfold X11_search_J162
              try dsimp only
              refine wp_call (hrec l1 (bA l2 (bX (bL 1 l7) (-1))) l7 v148 (mX l5 (iS v148 v159)) (iA (iM 10 l6) l7) μ hS (by have := gO_11_37 hS; omega) (by have := gO_11_37 hS; have := bL_r 1 l7; have := bX_r (bL 1 l7) (-1); have := pcl (x := l2) (c := l7) (by omega) (by omega); omega) (by have := gO_11_37 hS; omega) (by have := gO_11_37 hS; have := gO_11_38 hS; have := iM_r v106 (μ 70 38); have := iA_c l4 (iM v106 (μ 70 38)); have := iA_c (iA l4 (iM v106 (μ 70 38))) v123; have := mX_c (iA (iA l4 (iM v106 (μ 70 38))) v123) v136; omega) (by have := gO_11_37 hS; have := gO_11_38 hS; have := iS_c v148 v159; have := mX_c l5 (iS v148 v159); have := iM_r v106 (μ 70 38); have := iA_c l4 (iM v106 (μ 70 38)); have := iA_c (iA l4 (iM v106 (μ 70 38))) v123; have := mX_c (iA (iA l4 (iM v106 (μ 70 38))) v123) v136; omega) (by have := gO_11_37 hS; have := iM_c 10 l6; have := iA_c (iM 10 l6) l7; omega) (by have := gO_11_37 hS; have := pcl (x := l2) (c := l7) (by omega) (by omega); omega)) (fun v177 m178 hh => ?_)
              obtain ⟨h178, hr178, hp178⟩ := hh
              exact ih h178 (by have := gO_11_37 hS; have := iA_c l7 1; omega) (by have := gO_11_37 hS; have := iA_c l7 1; have := gO_11_37 h178; omega) (by have := gO_11_37 hS; have := iA_c l7 1; omega)
            · refine wp_if (fun g179 => ?_) (fun g179 => ?_)
              · unfold X11_search_J161
                try dsimp only
                unfold X11_search_J162
                try dsimp only
                refine wp_call (hrec l1 (bA l2 (bX (bL 1 l7) (-1))) l7 v148 (iA l5 0) (iA (iM 10 l6) l7) μ hS (by have := gO_11_37 hS; have := iS_c v148 v159; omega) (by have := gO_11_37 hS; have := bL_r 1 l7; have := bX_r (bL 1 l7) (-1); have := pcl (x := l2) (c := l7) (by omega) (by omega); have := iS_c v148 v159; omega) (by have := gO_11_37 hS; have := iS_c v148 v159; omega) (by have := gO_11_37 hS; have := gO_11_38 hS; have := iM_r v106 (μ 70 38); have := iA_c l4 (iM v106 (μ 70 38)); have := iA_c (iA l4 (iM v106 (μ 70 38))) v123; have := mX_c (iA (iA l4 (iM v106 (μ 70 38))) v123) v136; have := iS_c v148 v159; omega) (by have := gO_11_37 hS; have := iA_c l5 0; have := iS_c v148 v159; omega) (by have := gO_11_37 hS; have := iM_c 10 l6; have := iA_c (iM 10 l6) l7; have := iS_c v148 v159; omega) (by have := gO_11_37 hS; have := pcl (x := l2) (c := l7) (by omega) (by omega); omega)) (fun v184 m185 hh => ?_)
                obtain ⟨h185, hr185, hp185⟩ := hh
                exact ih h185 (by have := gO_11_37 hS; have := iA_c l7 1; have := iS_c v148 v159; omega) (by have := gO_11_37 hS; have := iA_c l7 1; have := gO_11_37 h185; have := iS_c v148 v159; omega) (by have := gO_11_37 hS; have := iA_c l7 1; have := iS_c v148 v159; omega)
              · unfold X11_search_J161
                try dsimp only
                unfold X11_search_J162
                try dsimp only
                refine wp_call (hrec l1 (bA l2 (bX (bL 1 l7) (-1))) l7 v148 (iA l5 1) (iA (iM 10 l6) l7) μ hS (by have := gO_11_37 hS; have := iS_c v148 v159; omega) (by have := gO_11_37 hS; have := bL_r 1 l7; have := bX_r (bL 1 l7) (-1); have := pcl (x := l2) (c := l7) (by omega) (by omega); have := iS_c v148 v159; omega) (by have := gO_11_37 hS; have := iS_c v148 v159; omega) (by have := gO_11_37 hS; have := gO_11_38 hS; have := iM_r v106 (μ 70 38); have := iA_c l4 (iM v106 (μ 70 38)); have := iA_c (iA l4 (iM v106 (μ 70 38))) v123; have := mX_c (iA (iA l4 (iM v106 (μ 70 38))) v123) v136; have := iS_c v148 v159; omega) (by have := gO_11_37 hS; have := iA_c l5 1; have := iS_c v148 v159; omega) (by have := gO_11_37 hS; have := iM_c 10 l6; have := iA_c (iM 10 l6) l7; have := iS_c v148 v159; omega) (by have := gO_11_37 hS; have := pcl (x := l2) (c := l7) (by omega) (by omega); omega)) (fun v190 m191 hh => ?_)
                obtain ⟨h191, hr191, hp191⟩ := hh
                exact ih h191 (by have := gO_11_37 hS; have := iA_c l7 1; have := iS_c v148 v159; omega) (by have := gO_11_37 hS; have := iA_c l7 1; have := gO_11_37 h191; have := iS_c v148 v159; omega) (by have := gO_11_37 hS; have := iA_c l7 1; have := iS_c v148 v159; omega)
