/-! A FRESH OBJECT: one call of each method, both systems alike -/
def mo (μ : Mm) : Prop := ∀ k, 70 ≤ k → μ k = μ0 k
theorem mo_0 : mo μ0 := fun _ _ => rfl
theorem mo_sM {μ : Mm} {a j : Nat} {v : Int} (h : mo μ) (ha : a < 70) : mo (sM μ a j v) := fun k hk => by
  rw [← h k hk]
  funext i
  exact sM_a (by omega)
def ok2 (f g : Mm → Rs) : Prop := ∃ r μ1 μ2, f μ0 = some (r, μ1) ∧ g μ1 = some (r, μ2)
theorem ok2_of {f g : Mm → Rs} {r : Int} {μ1 μ2 : Mm} (h1 : f μ0 = some (r, μ1)) (h2 : g μ1 = some (r, μ2)) : ok2 f g := ⟨r, μ1, μ2, h1, h2⟩
def eqB (f g : Mm → Rs) : Bool := match f μ0 with
  | none => false
  | some q => match g q.2 with
    | none => false
    | some q2 => decide (q.1 = q2.1)
theorem ok2_b {f g : Mm → Rs} (h : eqB f g = true) : ok2 f g := by
  unfold eqB at h
  match h1 : f μ0, h with
  | none, h => cases h
  | some q, h =>
    dsimp only at h
    match h2 : g q.2, h with
    | none, h => cases h
    | some q2, h =>
      have h3 : q.1 = q2.1 := of_decide_eq_true h
      exact ⟨q.1, q.2, q2.2, h1, by rw [h3]; exact h2⟩
theorem z00 : ((0 : Int) = 0) = True := eq_true rfl
theorem z10 : ((1 : Int) = 0) = False := eq_false (by decide)
theorem zmm : ((-1 : Int) = -1) = True := eq_true rfl
theorem z0m : ((0 : Int) = -1) = False := eq_false (by decide)
/-! the fresh cells -/
theorem f_cl : μ0 5 3 = -1 ∧ μ0 5 4 = 0 ∧ μ0 9 4 = 0 ∧ μ0 0 15 = 0 ∧ μ0 0 16 = 0 ∧ μ0 0 17 = -1 ∧ μ0 1 1 = 0 := by decide +kernel
theorem f_m : μ0 70 2 = 0 ∧ μ0 70 13 = 0 ∧ μ0 70 23 = 0 ∧ μ0 70 28 = 0 := by decide +kernel
theorem f_6 : ∀ j, j < 60 → μ0 6 j = -1 := by decide +kernel
theorem f_7 : ∀ j, j < 8 → μ0 7 j = -1 := by decide +kernel
/-! the class -/
theorem c_stands : X0_stands 5 μ0 = some (0, μ0) := by
  unfold X0_stands
  rw [if_pos (by rw [f_cl.2.1]; decide)]
theorem c_lay (a : Int) : X10_lay a μ0 = some (0, μ0) := by
  unfold X10_lay
  rw [c_stands, bd_some, if_pos rfl]
theorem c_runs (a b : Int) : X10_runs a b μ0 = some (0, μ0) := by
  unfold X10_runs
  rw [c_lay, bd_some, if_pos rfl]
theorem c_half (a : Int) (μ : Mm) : X10_isHalf a μ = some (1, μ) ∨ X10_isHalf a μ = some (0, μ) := by
  unfold X10_isHalf
  by_cases h : a = 0
  · rw [if_pos h]; exact Or.inl rfl
  · rw [if_neg h]
    by_cases h2 : a = 1
    · rw [if_pos h2]; exact Or.inl rfl
    · rw [if_neg h2]; exact Or.inr rfl
theorem c_play (a : Int) : X10_isPlay a μ0 = some (0, μ0) := by
  unfold X10_isPlay
  by_cases h : a < 0
  · rw [if_pos h]
  · rw [if_neg h, if_pos (by rw [f_cl.2.2.2.1]; omega)]
theorem c_place (a : Int) : X0_placeOf 5 a μ0 = some (-1, μ0) := by
  unfold X0_placeOf
  by_cases h : a < 0
  · rw [if_pos h]
  · rw [if_neg h]
    by_cases h2 : 8 ≤ a
    · rw [if_pos h2]
    · rw [if_neg h2]
      unfold ldA
      rw [if_pos (by show 0 ≤ a ∧ a < 8; omega), f_7 _ (by omega)]
theorem c_cell (a : Int) : X0_cellAt 5 a μ0 = some (-1, μ0) := by
  unfold X0_cellAt
  by_cases h : a < 0
  · rw [if_pos h]
  · rw [if_neg h]
    by_cases h2 : 60 ≤ a
    · rw [if_pos h2]
    · rw [if_neg h2]
      unfold ldA
      rw [if_pos (by show 0 ≤ a ∧ a < 60; omega), f_6 _ (by omega)]
theorem c_open (a : Int) {μ : Mm} (h6 : μ 6 = μ0 6) : X0_isOpen 5 a μ = some (0, μ) := by
  unfold X0_isOpen
  by_cases h : a < 0
  · rw [if_pos h]
  · rw [if_neg h]
    by_cases h2 : 60 ≤ a
    · rw [if_pos h2]
    · rw [if_neg h2]
      unfold ldA
      rw [if_pos (by show 0 ≤ a ∧ a < 60; omega), h6, f_6 _ (by omega)]
      dsimp only
      rw [if_pos rfl]
theorem meas_L2 (l1 : Nat) (l2 : Int) (K : Mm → Rs) : ∀ (d : Nat) (μ : Mm) (n : Nat), d ≤ 60 → d < n → ∃ μ', X9_measure_L2 l1 l2 K n (60 - (d : Int)) μ = K μ' ∧ (∀ k, k ≠ 46 → μ' k = μ k) ∧ (∀ j : Nat, 60 ≤ j + d → j < 60 → μ' 46 j = -1) ∧ (∀ j : Nat, j + d < 60 → μ' 46 j = μ 46 j) := by
  intro d
  induction d with
  | zero =>
    intro μ n _ hn
    obtain ⟨m, rfl, -⟩ := lt_fuel hn
    refine ⟨μ, ?_, fun _ _ => rfl, fun j h1 h2 => by omega, fun _ _ => rfl⟩
    show (if 60 ≤ (60 - ((0 : Nat) : Int)) then _ else _) = _
    rw [if_pos (by omega)]
  | succ d ih =>
    intro μ n hd hn
    obtain ⟨m, rfl, hm⟩ := lt_fuel hn
    obtain ⟨μ', e1, e2, e3, e4⟩ := ih (sM μ 46 (60 - (d + 1)) (-1)) m (by omega) (by omega)
    refine ⟨μ', ?_, fun k hk => ?_, fun j h1 h2 => ?_, fun j h1 => ?_⟩
    · show (if 60 ≤ (60 - ((d + 1 : Nat) : Int)) then _ else _) = _
      rw [if_neg (by omega)]
      unfold stA
      rw [if_pos (by show 0 ≤ (60 - ((d + 1 : Nat) : Int)) ∧ (60 - ((d + 1 : Nat) : Int)) < 60; omega)]
      have ea : iA (60 - ((d + 1 : Nat) : Int)) 1 = 60 - (d : Int) := by rw [iA_id (by omega) (by omega)]; omega
      have eb : (60 - ((d + 1 : Nat) : Int)).toNat = 60 - (d + 1) := by omega
      rw [ea, eb]
      exact e1
    · rw [e2 k hk]
      funext i
      exact sM_a hk
    · by_cases hj : 60 ≤ j + d
      · exact e3 j hj h2
      · rw [e4 j (by omega), sM_if, if_pos (by omega)]
    · rw [e4 j (by omega), sM_if, if_neg (by omega)]
theorem c_meas (a : Int) : ∃ μ', X9_measure 5 a μ0 = some (0, μ') ∧ (∀ k, k ≠ 46 → k ≠ 45 → μ' k = μ0 k) ∧ (∀ j : Nat, j < 60 → μ' 46 j = -1) := by
  obtain ⟨μ', e1, e2, e3, -⟩ := meas_L2 5 a (fun μ4 => sF μ4 45 2 0 fun μ5 => bd (X9_reach 5 a 0 μ5) fun v6 μ7 => X9_measure_L35 5 FU 0 μ7) 60 μ0 FU (by omega) (by decide)
  have h6 : (sM μ' 45 2 0) 6 = μ0 6 := by
    rw [← e2 6 (by decide)]
    funext i
    exact sM_a (by decide)
  refine ⟨sM μ' 45 2 0, ?_, fun k h1 h2 => ?_, fun j hj => ?_⟩
  · refine e1.trans ?_
    unfold sF
    dsimp only
    have hr : X9_reach 5 a 0 (sM μ' 45 2 0) = some (0, sM μ' 45 2 0) := by
      unfold X9_reach
      rw [c_open a h6, bd_some, if_pos rfl]
    rw [hr, bd_some]
    show (if (sM μ' 45 2 0) 45 2 ≤ 0 then _ else _) = _
    rw [sM_s, if_pos (by decide)]
  · rw [← e2 k h1]
    funext i
    exact sM_a h2
  · rw [sM_a (by decide)]
    exact e3 j (by omega) hj
theorem c_steps (a : Int) {μ : Mm} (h : ∀ j : Nat, j < 60 → μ 46 j = -1) : X9_stepsTo a μ = some (-1, μ) := by
  unfold X9_stepsTo
  by_cases h1 : a < 0
  · rw [if_pos h1]
  · rw [if_neg h1]
    by_cases h2 : 60 ≤ a
    · rw [if_pos h2]
    · rw [if_neg h2]
      unfold ldA
      rw [if_pos (by show 0 ≤ a ∧ a < 60; omega), h _ (by omega)]
/-! the reference -/
section M
variable {μ : Mm} (h : mo μ)
theorem m_r (h : mo μ) : μ 70 2 = 0 ∧ μ 70 13 = 0 ∧ μ 70 23 = 0 ∧ μ 70 28 = 0 := by
  rw [h 70 (by decide)]
  exact f_m
theorem m_isPlace (h : mo μ) (a : Int) (ha : rI a) : X11_isPlace a μ = some (0, μ) := by
  unfold X11_isPlace
  by_cases h1 : a < 0
  · rw [if_pos h1]
  · rw [if_neg h1, if_pos]
    rw [(m_r h).2.2.1, iD_id (by omega) ha.2 (by decide)]
    exact Int.ediv_nonneg (by omega) (by decide)
theorem m_isOpen (h : mo μ) (a : Int) (ha : rI a) : X11_isOpen a μ = some (0, μ) := by
  unfold X11_isOpen
  rw [m_isPlace h a ha, bd_some, if_pos rfl]
theorem m_placeL (h : mo μ) (a : Int) : ∀ (d : Nat) (n : Nat), d ≤ 60 → d < n → X11_placeOf_L4 a n (-1) (60 - (d : Int)) μ = some (-1, μ) := by
  intro d
  induction d with
  | zero =>
    intro n _ hn
    obtain ⟨m, rfl, -⟩ := lt_fuel hn
    show (if 60 ≤ (60 - ((0 : Nat) : Int)) then _ else _) = _
    rw [if_pos (by omega)]
  | succ d ih =>
    intro n hd hn
    obtain ⟨m, rfl, hm⟩ := lt_fuel hn
    show (if 60 ≤ (60 - ((d + 1 : Nat) : Int)) then _ else _) = _
    have ea : iA (60 - ((d + 1 : Nat) : Int)) 1 = 60 - (d : Int) := by rw [iA_id (by omega) (by omega)]; omega
    rw [if_neg (by omega), m_isPlace h _ ⟨by omega, by omega⟩, bd_some, if_pos rfl, ea]
    exact ih m (by omega) (by omega)
theorem m_placeOf (h : mo μ) (a : Int) : X11_placeOf a μ = some (-1, μ) := m_placeL h a 60 FU (by omega) (by decide)
theorem m_isCrank (h : mo μ) (a : Int) : X11_isCrank a μ = some (0, μ) := by
  unfold X11_isCrank X11_in
  by_cases h1 : a < 0
  · rw [if_pos h1, bd_some, if_pos rfl]
  · rw [if_neg h1]
    by_cases h2 : 7 < a
    · rw [if_pos h2, bd_some, if_pos rfl]
    · rw [if_neg h2, bd_some, if_neg (by decide), m_placeOf h, bd_some, if_pos rfl]
theorem m_ready (h : mo μ) (a : Int) : X11_isReady a μ = some (0, μ) := by
  unfold X11_isReady
  rw [if_pos (m_r h).2.2.1]
theorem m_play (h : mo μ) (a : Int) : X11_isPlay a μ = some (0, μ) := by
  unfold X11_isPlay
  rw [(m_r h).2.2.2]
  have e : X11_in a 0 (iS 0 1) μ = some (0, μ) := by
    unfold X11_in
    by_cases h1 : a < 0
    · rw [if_pos h1]
    · rw [if_neg h1, if_pos]
      rw [show iS 0 1 = -1 by decide]
      omega
  rw [e, bd_some]
  rfl
end M
/-! the calls -/
theorem o_feed (a b c d e : Int) : ok2 (X10_feed a b c d e) (X11_feed a b c d e) := by
  have hb := nzc_b (LB a b c d e)
  have hl : (LB a b c d e).length = 20 := rfl
  rw [hl] at hb
  have e1 := feed_eq a b c d e μ0 (by rw [f_cl.2.2.2.2.2.2]; decide) (by rw [f_cl.2.2.2.2.2.2]; decide)
  rw [f_cl.2.2.2.2.2.2, if_pos (by show 0 + nzc (LB a b c d e) ≤ 160; omega)] at e1
  have hm : ∀ (l : List Int) (μ : Mm), mo μ → mo (l.foldl (putB 1 1 2) μ) := by
    intro l
    induction l with
    | nil => intro μ h; exact h
    | cons b l ih =>
      intro μ h
      refine ih _ ?_
      unfold putB
      split
      · exact h
      · exact mo_sM (mo_sM h (by decide)) (by decide)
  have h70 := m_r (hm (four a ++ (four b ++ (four c ++ (four d ++ four e)))) μ0 mo_0)
  have e2 := mfeed_eq a b c d e ((four a ++ (four b ++ (four c ++ (four d ++ four e)))).foldl (putB 1 1 2) μ0) (by rw [h70.1]; decide) (by rw [h70.1]; decide)
  rw [h70.1, if_pos (by omega)] at e2
  exact ok2_of e1 e2
theorem o_end (a : Int) : ok2 (X10_end a) (X11_end a) := by
  have c1 := f_cl.2.2.2.2.2.2
  by_cases h1 : a < 0
  · refine ok2_of (r := 0) (μ1 := μ0) (μ2 := μ0) ?_ ?_
    · unfold X10_end X7_cut
      rw [if_pos h1]
      rfl
    · unfold X11_end
      rw [if_pos h1]
  · by_cases h2 : a ≤ 0
    · refine ok2_of (r := 1) (μ1 := sM μ0 1 1 a) (μ2 := sM (sM μ0 1 1 a) 70 2 a) ?_ ?_
      · unfold X10_end X7_cut
        rw [if_neg h1, if_pos (by rw [c1]; exact h2)]
        rfl
      · unfold X11_end
        rw [if_neg h1, if_pos (by rw [sM_a (by decide), f_m.1]; exact h2)]
        rfl
    · refine ok2_of (r := 0) (μ1 := μ0) (μ2 := μ0) ?_ ?_
      · unfold X10_end X7_cut
        rw [if_neg h1, if_neg (by rw [c1]; exact h2)]
        rfl
      · unfold X11_end
        rw [if_neg h1, if_neg (by rw [f_m.1]; exact h2)]
theorem c_sort {a : Int} (h0 : a ≠ 0) (h1 : a ≠ 1) (h2 : a ≠ 2) (μ : Mm) : X10_isSort a μ = some (0, μ) := by
  unfold X10_isSort
  by_cases h : a < 0
  · rw [if_pos h]
  · rw [if_neg h, if_pos (by omega)]
theorem b_f0 : eqB (X10_fault 0) (X11_fault 0) = true := by decide +kernel
theorem b_f1 : eqB (X10_fault 1) (X11_fault 1) = true := by decide +kernel
theorem b_f2 : eqB (X10_fault 2) (X11_fault 2) = true := by decide +kernel
theorem b_t0 : eqB (X10_text 0) (X11_text 0) = true := by decide +kernel
theorem b_t1 : eqB (X10_text 1) (X11_text 1) = true := by decide +kernel
theorem b_t2 : eqB (X10_text 2) (X11_text 2) = true := by decide +kernel
theorem o_fault (a : Int) : ok2 (X10_fault a) (X11_fault a) := by
  by_cases h0 : a = 0
  · rw [h0]; exact ok2_b b_f0
  · by_cases h1 : a = 1
    · rw [h1]; exact ok2_b b_f1
    · by_cases h2 : a = 2
      · rw [h2]; exact ok2_b b_f2
      · refine ok2_of (r := -2) (μ1 := μ0) (μ2 := μ0) ?_ ?_
        · unfold X10_fault
          rw [c_sort h0 h1 h2, bd_some, if_pos rfl]
        · unfold X11_fault
          rw [if_neg h0, if_neg h1, if_neg h2]
theorem o_text (a : Int) : ok2 (X10_text a) (X11_text a) := by
  by_cases h0 : a = 0
  · rw [h0]; exact ok2_b b_t0
  · by_cases h1 : a = 1
    · rw [h1]; exact ok2_b b_t1
    · by_cases h2 : a = 2
      · rw [h2]; exact ok2_b b_t2
      · refine ok2_of (r := -1) (μ1 := μ0) (μ2 := μ0) ?_ ?_
        · unfold X10_text
          rw [c_sort h0 h1 h2, bd_some, if_pos rfl]
        · unfold X11_text X11_text_J22 X11_text_J69
          rw [if_neg h0, if_neg h1, if_neg h2]
theorem o_at (a : Int) (ha : rI a) : ok2 (X10_at a) (X11_at a) := by
  refine ok2_of (r := -1) (μ1 := μ0) (μ2 := μ0) ?_ ?_
  · unfold X10_at
    rw [c_cell, bd_some]
  · unfold X11_at
    rw [m_isPlace mo_0 a ha, bd_some, if_pos rfl]
theorem o_way (a b : Int) (ha : rI a) : ok2 (X10_way a b) (X11_way a b) := by
  obtain ⟨μ', e1, e2, e3⟩ := c_meas a
  refine ok2_of (r := -1) (μ1 := μ') (μ2 := μ') ?_ ?_
  · unfold X10_way
    rw [e1, bd_some, c_steps b e3, bd_some]
  · unfold X11_way
    rw [m_isOpen (fun k hk => e2 k (by omega) (by omega)) a ha, bd_some, if_pos rfl]
theorem o_cue (a b c : Int) : ok2 (X10_cue a b c) (X11_cue a b c) := by
  refine ok2_of (r := -1) (μ1 := μ0) (μ2 := μ0) ?_ ?_
  · unfold X10_cue
    rw [c_play, bd_some, if_pos rfl]
  · unfold X11_cue
    rw [m_play mo_0, bd_some, if_pos rfl]
theorem o_set (a b : Int) : ok2 (X10_set a b) (X11_set a b) := by
  by_cases h0 : a = 0
  · subst h0
    refine ok2_of (r := 0) (μ1 := μ0) (μ2 := μ0) ?_ ?_
    · unfold X10_set X0_tellStoop
      rw [if_pos rfl, c_stands, bd_some, if_pos rfl]
      rfl
    · unfold X11_set
      rw [if_pos rfl, if_pos f_m.2.2.1]
  · by_cases h1 : a = 1
    · subst h1
      by_cases hb : 0 ≤ b ∧ b ≤ 99
      · refine ok2_of (r := 1) (μ1 := sM μ0 5 8 b) (μ2 := sM (sM (sM (sM μ0 5 8 b) 70 30 (sM μ0 5 8 b 70 30)) 70 31 b) 70 32 (sM (sM (sM μ0 5 8 b) 70 30 (sM μ0 5 8 b 70 30)) 70 31 b 70 32)) ?_ ?_
        · unfold X10_set X0_tellNight
          rw [if_neg h0, if_pos rfl, if_neg (by omega), if_pos hb.2]
          rfl
        · unfold X11_set X11_set_J11 X11_in
          rw [if_neg h0, if_neg (by decide), if_neg (by decide), bd_some, if_neg (by decide), if_neg h0, if_pos rfl]
          unfold X11_set_J39 X11_set_J64 X11_in
          rw [if_neg h0, if_pos rfl, if_neg (by omega), if_neg (by omega), bd_some, if_neg (by decide), if_neg h0]
          unfold X11_set_J85 X11_set_J102 sF
          dsimp only
          rw [if_pos rfl, if_neg (by decide)]
      · refine ok2_of (r := 0) (μ1 := μ0) (μ2 := μ0) ?_ ?_
        · unfold X10_set X0_tellNight
          rw [if_neg h0, if_pos rfl]
          by_cases h2 : b < 0
          · rw [if_pos h2]; rfl
          · rw [if_neg h2, if_neg (by omega)]; rfl
        · unfold X11_set X11_set_J11 X11_in
          rw [if_neg h0, if_neg (by decide), if_neg (by decide), bd_some, if_neg (by decide), if_neg h0, if_pos rfl]
          unfold X11_set_J39 X11_set_J64 X11_in
          rw [if_neg h0, if_pos rfl]
          by_cases h2 : b < 0
          · rw [if_pos h2, bd_some, if_pos rfl]
          · rw [if_neg h2, if_pos (by omega), bd_some, if_pos rfl]
    · by_cases h2 : a = 2
      · subst h2
        by_cases hb : b = -1
        · subst hb
          exact ok2_b (by decide +kernel)
        · refine ok2_of (r := 0) (μ1 := μ0) (μ2 := μ0) ?_ ?_
          · unfold X10_set
            rw [if_neg h0, if_neg h1, if_pos rfl]
            by_cases h3 : b < -1
            · rw [if_pos h3]
            · rw [if_neg h3, if_neg (by rw [f_cl.2.2.2.2.1]; omega)]
          · unfold X11_set X11_set_J11 X11_in
            rw [if_neg h0, if_neg (by decide), if_neg (by decide), bd_some, if_neg (by decide), if_neg h0, if_neg h1]
            unfold X11_set_J39 X11_set_J64 X11_in
            rw [if_neg h0, if_neg h1, f_m.2.1, show iS 0 1 = -1 by decide]
            by_cases h3 : b < -1
            · rw [if_pos h3, bd_some, if_pos rfl]
            · rw [if_neg h3, if_pos (by omega), bd_some, if_pos rfl]
      · refine ok2_of (r := 0) (μ1 := μ0) (μ2 := μ0) ?_ ?_
        · unfold X10_set
          rw [if_neg h0, if_neg h1, if_neg h2]
        · unfold X11_set X11_set_J11 X11_in
          rw [if_neg h0]
          by_cases h3 : a < 0
          · rw [if_pos h3, bd_some, if_pos rfl]
          · rw [if_neg h3, if_pos (by omega), bd_some, if_pos rfl]
theorem o_wind (a b : Int) : ok2 (X10_wind a b) (X11_wind a b) := by
  refine ok2_of (r := 0) (μ1 := μ0) (μ2 := μ0) ?_ ?_
  · unfold X10_wind X0_tellWind
    rw [c_place, bd_some, if_pos rfl]
    rfl
  · unfold X11_wind
    rw [m_isCrank mo_0, bd_some, if_pos rfl]
theorem o_swap (a b : Int) : ok2 (X10_swap a b) (X11_swap a b) := by
  refine ok2_of (r := 0) (μ1 := μ0) (μ2 := μ0) ?_ ?_
  · unfold X10_swap X0_exchangeCranks
    rw [c_place, bd_some, c_place, bd_some, if_pos rfl]
    rfl
  · unfold X11_swap
    rw [m_isCrank mo_0, bd_some, if_pos rfl]
theorem o_knock (a : Int) (ha : rI a) : ok2 (X10_knock a) (X11_knock a) := by
  refine ok2_of (r := 0) (μ1 := μ0) (μ2 := μ0) ?_ ?_
  · unfold X10_knock X0_takePost
    rw [c_cell, bd_some, if_neg (by decide)]
    rfl
  · unfold X11_knock
    rw [m_isPlace mo_0 a ha, bd_some, if_pos rfl]
theorem o_order (a0 a1 a2 : Int) : ok2 (X10_order a0 a1 a2) (X11_order a0 a1 a2) := by
  refine ok2_of (r := -1) (μ1 := μ0) (μ2 := μ0) ?_ ?_
  · unfold X10_order
    simp only [bd_some, c_runs, c_lay, c_open _ (rfl : μ0 6 = μ0 6), z00, z10, if_true, if_false, ite_self]
  · unfold X11_order
    rw [m_ready mo_0, bd_some, if_pos rfl]
theorem o_done (a0 a1 a2 a3 : Int) : ok2 (X10_done a0 a1 a2 a3) (X11_done a0 a1 a2 a3) := by
  refine ok2_of (r := -1) (μ1 := μ0) (μ2 := μ0) ?_ ?_
  · unfold X10_done
    simp only [bd_some, c_runs, c_lay, c_open _ (rfl : μ0 6 = μ0 6), z00, z10, if_true, if_false, ite_self]
  · unfold X11_done
    rw [m_ready mo_0, bd_some, if_pos rfl]
theorem o_where (a0 a1 a2 : Int) : ok2 (X10_where a0 a1 a2) (X11_where a0 a1 a2) := by
  refine ok2_of (r := -1) (μ1 := μ0) (μ2 := μ0) ?_ ?_
  · unfold X10_where
    simp only [bd_some, c_runs, c_lay, c_open _ (rfl : μ0 6 = μ0 6), z00, z10, if_true, if_false, ite_self]
  · unfold X11_where
    rw [m_ready mo_0, bd_some, if_pos rfl]
theorem o_best (a0 a1 a2 : Int) : ok2 (X10_best a0 a1 a2) (X11_best a0 a1 a2) := by
  refine ok2_of (r := -1) (μ1 := μ0) (μ2 := μ0) ?_ ?_
  · unfold X10_best
    rcases c_half a2 μ0 with h | h
    · simp only [h, bd_some, c_runs, c_lay, c_open _ (rfl : μ0 6 = μ0 6), z00, z10, if_true, if_false, ite_self]
    · simp only [h, bd_some, c_runs, c_lay, c_open _ (rfl : μ0 6 = μ0 6), z00, z10, if_true, if_false, ite_self]
  · unfold X11_best
    rw [m_ready mo_0, bd_some, if_pos rfl]
theorem o_met (a0 a1 : Int) : ok2 (X10_met a0 a1) (X11_met a0 a1) := by
  refine ok2_of (r := -1) (μ1 := μ0) (μ2 := μ0) ?_ ?_
  · unfold X10_met
    simp only [bd_some, c_runs, c_lay, c_open _ (rfl : μ0 6 = μ0 6), z00, z10, if_true, if_false, ite_self]
  · unfold X11_met
    rw [m_ready mo_0, bd_some, if_pos rfl]
theorem o_knot (a0 : Int) : ok2 (X10_knot a0) (X11_knot a0) := by
  refine ok2_of (r := -1) (μ1 := μ0) (μ2 := μ0) ?_ ?_
  · unfold X10_knot
    simp only [bd_some, c_runs, c_lay, c_open _ (rfl : μ0 6 = μ0 6), z00, z10, if_true, if_false, ite_self]
  · unfold X11_knot
    rw [m_ready mo_0, bd_some, if_pos rfl]
theorem o_age (a0 : Int) : ok2 (X10_age a0) (X11_age a0) := by
  refine ok2_of (r := -1) (μ1 := μ0) (μ2 := μ0) ?_ ?_
  · unfold X10_age
    simp only [bd_some, c_runs, c_lay, c_open _ (rfl : μ0 6 = μ0 6), z00, z10, if_true, if_false, ite_self]
  · unfold X11_age
    rw [m_ready mo_0, bd_some, if_pos rfl]
theorem o_post (a0 a1 : Int) : ok2 (X10_post a0 a1) (X11_post a0 a1) := by
  refine ok2_of (r := -1) (μ1 := μ0) (μ2 := μ0) ?_ ?_
  · unfold X10_post
    rcases c_half a1 μ0 with h | h
    · simp only [h, bd_some, c_runs, c_lay, c_open _ (rfl : μ0 6 = μ0 6), z00, z10, if_true, if_false, ite_self]
    · simp only [h, bd_some, c_runs, c_lay, c_open _ (rfl : μ0 6 = μ0 6), z00, z10, if_true, if_false, ite_self]
  · unfold X11_post
    rw [m_ready mo_0, bd_some, if_pos rfl]
theorem o_rope (a0 a1 : Int) : ok2 (X10_rope a0 a1) (X11_rope a0 a1) := by
  refine ok2_of (r := -1) (μ1 := μ0) (μ2 := μ0) ?_ ?_
  · unfold X10_rope
    rcases c_half a1 μ0 with h | h
    · simp only [h, bd_some, c_runs, c_lay, c_open _ (rfl : μ0 6 = μ0 6), z00, z10, if_true, if_false, ite_self]
    · simp only [h, bd_some, c_runs, c_lay, c_open _ (rfl : μ0 6 = μ0 6), z00, z10, if_true, if_false, ite_self]
  · unfold X11_rope
    rw [m_ready mo_0, bd_some, if_pos rfl]
theorem o_exchange (a0 a1 a2 : Int) : ok2 (X10_exchange a0 a1 a2) (X11_exchange a0 a1 a2) := by
  refine ok2_of (r := -1) (μ1 := μ0) (μ2 := μ0) ?_ ?_
  · unfold X10_exchange
    rcases c_half a2 μ0 with h | h
    · simp only [h, bd_some, c_runs, c_lay, c_open _ (rfl : μ0 6 = μ0 6), z00, z10, if_true, if_false, ite_self]
    · simp only [h, bd_some, c_runs, c_lay, c_open _ (rfl : μ0 6 = μ0 6), z00, z10, if_true, if_false, ite_self]
  · unfold X11_exchange
    rw [m_ready mo_0, bd_some, if_pos rfl]
theorem o_skip (a0 a1 a2 : Int) : ok2 (X10_skip a0 a1 a2) (X11_skip a0 a1 a2) := by
  refine ok2_of (r := -1) (μ1 := μ0) (μ2 := μ0) ?_ ?_
  · unfold X10_skip
    simp only [bd_some, c_runs, c_lay, c_open _ (rfl : μ0 6 = μ0 6), z00, z10, if_true, if_false, ite_self]
  · unfold X11_skip
    rw [m_ready mo_0, bd_some, if_pos rfl]
theorem o_nights (a0 a1 a2 : Int) : ok2 (X10_nights a0 a1 a2) (X11_nights a0 a1 a2) := by
  refine ok2_of (r := -1) (μ1 := μ0) (μ2 := μ0) ?_ ?_
  · unfold X10_nights
    rcases c_half a2 μ0 with h | h
    · simp only [h, bd_some, c_runs, c_lay, c_open _ (rfl : μ0 6 = μ0 6), z00, z10, if_true, if_false, ite_self]
    · simp only [h, bd_some, c_runs, c_lay, c_open _ (rfl : μ0 6 = μ0 6), z00, z10, if_true, if_false, ite_self]
  · unfold X11_nights
    rw [m_ready mo_0, bd_some, if_pos rfl]
theorem o_fit (a0 a1 : Int) : ok2 (X10_fit a0 a1) (X11_fit a0 a1) := by
  refine ok2_of (r := -1) (μ1 := μ0) (μ2 := μ0) ?_ ?_
  · unfold X10_fit
    simp only [bd_some, c_runs, c_lay, c_open _ (rfl : μ0 6 = μ0 6), z00, z10, if_true, if_false, ite_self]
  · unfold X11_fit
    rw [m_ready mo_0, bd_some, if_pos rfl]
theorem o_boy (a0 a1 a2 a3 : Int) : ok2 (X10_boy a0 a1 a2 a3) (X11_boy a0 a1 a2 a3) := by
  refine ok2_of (r := -1) (μ1 := μ0) (μ2 := μ0) ?_ ?_
  · unfold X10_boy
    rcases c_half a3 μ0 with h | h
    · simp only [h, bd_some, c_runs, c_lay, c_open _ (rfl : μ0 6 = μ0 6), z00, z10, if_true, if_false, ite_self]
    · simp only [h, bd_some, c_runs, c_lay, c_open _ (rfl : μ0 6 = μ0 6), z00, z10, if_true, if_false, ite_self]
  · unfold X11_boy
    rw [m_ready mo_0, bd_some, if_pos rfl]
theorem o_walk (a0 a1 a2 : Int) : ok2 (X10_walk a0 a1 a2) (X11_walk a0 a1 a2) := by
  refine ok2_of (r := -1) (μ1 := μ0) (μ2 := μ0) ?_ ?_
  · unfold X10_walk
    rcases c_half a2 μ0 with h | h
    · simp only [h, bd_some, c_runs, c_lay, c_open _ (rfl : μ0 6 = μ0 6), z00, z10, if_true, if_false, ite_self]
    · simp only [h, bd_some, c_runs, c_lay, c_open _ (rfl : μ0 6 = μ0 6), z00, z10, if_true, if_false, ite_self]
  · unfold X11_walk
    rw [m_ready mo_0, bd_some, if_pos rfl]
theorem o_mend (a0 a1 a2 : Int) : ok2 (X10_mend a0 a1 a2) (X11_mend a0 a1 a2) := by
  refine ok2_of (r := -1) (μ1 := μ0) (μ2 := μ0) ?_ ?_
  · unfold X10_mend
    rcases c_half a2 μ0 with h | h
    · simp only [h, bd_some, c_runs, c_lay, c_open _ (rfl : μ0 6 = μ0 6), z00, z10, if_true, if_false, ite_self]
    · simp only [h, bd_some, c_runs, c_lay, c_open _ (rfl : μ0 6 = μ0 6), z00, z10, if_true, if_false, ite_self]
  · unfold X11_mend
    rw [m_ready mo_0, bd_some, if_pos rfl]
theorem o_slack (a0 a1 : Int) : ok2 (X10_slack a0 a1) (X11_slack a0 a1) := by
  refine ok2_of (r := -1) (μ1 := μ0) (μ2 := μ0) ?_ ?_
  · unfold X10_slack
    simp only [bd_some, c_runs, c_lay, c_open _ (rfl : μ0 6 = μ0 6), z00, z10, if_true, if_false, ite_self]
  · unfold X11_slack
    rw [m_ready mo_0, bd_some, if_pos rfl]
theorem o_urgent (a0 : Int) : ok2 (X10_urgent a0) (X11_urgent a0) := by
  refine ok2_of (r := -1) (μ1 := μ0) (μ2 := μ0) ?_ ?_
  · unfold X10_urgent
    simp only [bd_some, c_runs, c_lay, c_open _ (rfl : μ0 6 = μ0 6), z00, z10, if_true, if_false, ite_self]
  · unfold X11_urgent
    rw [m_ready mo_0, bd_some, if_pos rfl]
theorem o_pillar (a0 a1 : Int) : ok2 (X10_pillar a0 a1) (X11_pillar a0 a1) := by
  refine ok2_of (r := -1) (μ1 := μ0) (μ2 := μ0) ?_ ?_
  · unfold X10_pillar
    rcases c_half a1 μ0 with h | h
    · simp only [h, bd_some, c_runs, c_lay, c_open _ (rfl : μ0 6 = μ0 6), z00, z10, if_true, if_false, ite_self]
    · simp only [h, bd_some, c_runs, c_lay, c_open _ (rfl : μ0 6 = μ0 6), z00, z10, if_true, if_false, ite_self]
  · unfold X11_pillar
    rw [m_ready mo_0, bd_some, if_pos rfl]
theorem o_thud (a b : Int) : ok2 (X10_thud a b) (X11_thud a b) := by
  refine ok2_of (r := -1) (μ1 := μ0) (μ2 := μ0) ?_ ?_
  · unfold X10_thud
    simp only [c_place, bd_some, zmm, if_true, ite_self]
  · unfold X11_thud
    rw [m_isCrank mo_0, bd_some, if_pos rfl]
theorem o_out (a : Int) : ok2 (X10_out a) (X11_out a) := by
  obtain ⟨μ', e1, e2, e3⟩ := c_meas (-1)
  refine ok2_of (r := -1) (μ1 := μ') (μ2 := μ') ?_ ?_
  · unfold X10_out
    rw [c_place, bd_some, e1, bd_some, c_steps _ e3, bd_some]
  · unfold X11_out
    rw [m_isCrank (fun k hk => e2 k (by omega) (by omega)), bd_some, if_pos rfl]
theorem o_first : ok2 X10_first X11_first := ok2_b (by decide +kernel)
theorem o_dead : ok2 X10_dead X11_dead := ok2_b (by decide +kernel)
theorem o_image : ok2 X10_image X11_image := ok2_b (by decide +kernel)
theorem o_back : ok2 X10_back X11_back := ok2_b (by decide +kernel)
theorem b_c0 : eqB (X10_count 0) (X11_count 0) = true := by decide +kernel
theorem b_c1 : eqB (X10_count 1) (X11_count 1) = true := by decide +kernel
theorem b_c2 : eqB (X10_count 2) (X11_count 2) = true := by decide +kernel
theorem b_c3 : eqB (X10_count 3) (X11_count 3) = true := by decide +kernel
theorem b_c4 : eqB (X10_count 4) (X11_count 4) = true := by decide +kernel
theorem b_c5 : eqB (X10_count 5) (X11_count 5) = true := by decide +kernel
theorem b_c6 : eqB (X10_count 6) (X11_count 6) = true := by decide +kernel
theorem b_c7 : eqB (X10_count 7) (X11_count 7) = true := by decide +kernel
theorem b_c8 : eqB (X10_count 8) (X11_count 8) = true := by decide +kernel
theorem o_count (a : Int) : ok2 (X10_count a) (X11_count a) := by
  by_cases h0 : a = 0
  · rw [h0]; exact ok2_b b_c0
  by_cases h1 : a = 1
  · rw [h1]; exact ok2_b b_c1
  by_cases h2 : a = 2
  · rw [h2]; exact ok2_b b_c2
  by_cases h3 : a = 3
  · rw [h3]; exact ok2_b b_c3
  by_cases h4 : a = 4
  · rw [h4]; exact ok2_b b_c4
  by_cases h5 : a = 5
  · rw [h5]; exact ok2_b b_c5
  by_cases h6 : a = 6
  · rw [h6]; exact ok2_b b_c6
  by_cases h7 : a = 7
  · rw [h7]; exact ok2_b b_c7
  by_cases h8 : a = 8
  · rw [h8]; exact ok2_b b_c8
  refine ok2_of (r := -1000000) (μ1 := μ0) (μ2 := μ0) ?_ ?_
  · unfold X10_count
    rw [if_neg h0, if_neg h1, if_neg h2, if_neg h3, if_neg h4, if_neg h5, if_neg h6, if_neg h7, if_neg h8]
  · unfold X11_count
    rw [if_neg h0, if_neg h1, if_neg h2, if_neg h3, if_neg h4, if_neg h5, if_neg h6, if_neg h7, if_neg h8]
theorem o_crank (a : Int) : ∃ w μ1 b μ2 t μ3, X0_placeOf 5 a μ0 = some (w, μ1) ∧ X11_crank a μ1 = some (b, μ2) ∧ X11_thrown μ2 = some (t, μ3) ∧ t = (if w = -1 then 1 else 0) ∧ rI w ∧ rI b ∧ (w ≠ -1 → b = w) := by
  have h1 : X11_crank a μ0 = some (0, sM μ0 70 0 1) := by
    unfold X11_crank
    rw [m_isCrank mo_0, bd_some, if_pos rfl]
    unfold X11_crank_J14 sF
    dsimp only
    rw [if_pos (sM_s _ _ _ _)]
  refine ⟨-1, μ0, 0, sM μ0 70 0 1, 1, sM μ0 70 0 1, c_place a, h1, ?_, rfl, ⟨by decide, by decide⟩, ⟨by decide, by decide⟩, fun h => absurd rfl h⟩
  unfold X11_thrown
  rw [sM_s]
theorem sI_0 {Inv' : Mm → Prop} (hT : ∀ μ, Inv' μ) {f g : Mm → Rs} (h : ok2 f g) : sI (fun μ => μ = μ0) Inv' f g := by
  intro μ hμ
  subst hμ
  obtain ⟨r, μ1, μ2, h1, h2⟩ := h
  exact ⟨r, μ1, μ2, h1, h2, hT _⟩
theorem sAll_0 {Inv' : Mm → Prop} (hT : ∀ μ, Inv' μ) : sAll (fun μ => μ = μ0) Inv' := by
  refine ⟨fun μ _ => hT μ, ?_, fun a0 r0 a1 r1 a2 r2 a3 r3 a4 r4 => sI_0 hT (o_feed a0 a1 a2 a3 a4), fun a0 r0 => sI_0 hT (o_end a0), fun a0 r0 => sI_0 hT (o_fault a0), fun a0 r0 => sI_0 hT (o_text a0), fun a0 r0 => sI_0 hT (o_at a0 r0), fun a0 r0 a1 r1 => sI_0 hT (o_way a0 a1 r0), fun a0 r0 a1 r1 a2 r2 => sI_0 hT (o_cue a0 a1 a2), fun a0 r0 a1 r1 => sI_0 hT (o_set a0 a1), fun a0 r0 a1 r1 => sI_0 hT (o_wind a0 a1), fun a0 r0 a1 r1 => sI_0 hT (o_swap a0 a1), fun a0 r0 => sI_0 hT (o_knock a0 r0), fun a0 r0 a1 r1 a2 r2 => sI_0 hT (o_order a0 a1 a2), fun a0 r0 a1 r1 a2 r2 a3 r3 => sI_0 hT (o_done a0 a1 a2 a3), fun a0 r0 a1 r1 a2 r2 => sI_0 hT (o_where a0 a1 a2), fun a0 r0 a1 r1 a2 r2 => sI_0 hT (o_best a0 a1 a2), fun a0 r0 a1 r1 => sI_0 hT (o_met a0 a1), fun a0 r0 => sI_0 hT (o_knot a0), fun a0 r0 => sI_0 hT (o_age a0), sI_0 hT (o_first), fun a0 r0 a1 r1 => sI_0 hT (o_post a0 a1), fun a0 r0 a1 r1 => sI_0 hT (o_rope a0 a1), fun a0 r0 a1 r1 a2 r2 => sI_0 hT (o_exchange a0 a1 a2), fun a0 r0 a1 r1 a2 r2 => sI_0 hT (o_skip a0 a1 a2), fun a0 r0 a1 r1 a2 r2 => sI_0 hT (o_nights a0 a1 a2), fun a0 r0 a1 r1 => sI_0 hT (o_thud a0 a1), fun a0 r0 a1 r1 => sI_0 hT (o_fit a0 a1), fun a0 r0 a1 r1 a2 r2 a3 r3 => sI_0 hT (o_boy a0 a1 a2 a3), fun a0 r0 => sI_0 hT (o_out a0), fun a0 r0 a1 r1 a2 r2 => sI_0 hT (o_walk a0 a1 a2), fun a0 r0 a1 r1 a2 r2 => sI_0 hT (o_mend a0 a1 a2), fun a0 r0 a1 r1 => sI_0 hT (o_slack a0 a1), fun a0 r0 => sI_0 hT (o_urgent a0), sI_0 hT (o_dead), fun a0 r0 a1 r1 => sI_0 hT (o_pillar a0 a1), sI_0 hT (o_image), sI_0 hT (o_back), fun a0 r0 => sI_0 hT (o_count a0)⟩
  intro a _ μ hμ
  subst hμ
  obtain ⟨w, μ1, b, μ2, t, μ3, h1, h2, h3, h4, h5, h6, h7⟩ := o_crank a
  exact ⟨w, μ1, b, μ2, t, μ3, h1, h2, h3, hT _, h4, h5, h6, h7⟩
