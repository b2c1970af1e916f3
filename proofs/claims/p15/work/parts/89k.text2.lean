/-! a PLAY is taken, a LAW is taken, TEXT -/
theorem kD_pl : ∀ m, m < 5 → kD (18 + 3 * m) = (13, 3) := by decide
theorem kD_ltx : ∀ m, m < 4 → kD (37 + 2 * m) = (17, 2) := by decide
theorem kD_lw : ∀ m, m < 4 → kD (38 + 2 * m) = (0, 160) := by decide
def WTP (m k j : Nat) : Prop := k = 3 ∨ (18 + 3 * m ≤ k ∧ k ≤ 20 + 3 * m) ∨ (k = 0 ∧ j = 15) ∨ (k = 1 ∧ j = 1)
theorem k_tp {t : Nat → Int} {n m : Nat} {μ : Mm} (hBx : Bx μ) (h : Ta t n μ) (hm : m < 5) (h15 : μ 0 15 = (m : Int)) {L : List (Int × Int)} (hL : plS t n = some L) : ∃ ν, X10_takePlay μ = some ((m : Int), ν) ∧ hasP ν (18 + 3 * m) 0 L ∧ ν 0 15 = ((m + 1 : Nat) : Int) ∧ ν 1 1 = 0 ∧ fw (WTP m) μ ν ∧ Bx ν := by
  obtain ⟨ν', p', f, e, hf, hp⟩ := playC (l0 := 18 + 3 * m) h.2.2.2.2.2 (kD_pl m hm) (Ta_Tx h)
  rw [hL] at hp
  have hf' : ∀ k j, ¬ (18 + 3 * m ≤ k ∧ k ≤ 18 + 3 * m + 2) → ν' k j = sM μ 3 0 1 k j := fun k j hn => hf k j hn
  have o1 : ∀ k j, k ≠ 3 → ¬ (18 + 3 * m ≤ k ∧ k ≤ 18 + 3 * m + 2) → cr ν' p' f k j = μ k j := fun k j h3 h5 => by
    rw [cr_c h3, hf' k j h5, sM_a h3]
  have bA : Bx (cr ν' p' f) := by
    have t1 := t_X3_read (W := W70) (l0 := 18 + 3 * m) scr_70 (fun k j _ h2 => by unfold W70; omega) (kD_pl m hm) (St_rf (bx_open hBx))
    rw [e, wp_some] at t1
    exact t1.1.1
  refine ⟨sM (sM (cr ν' p' f) 1 1 0) 0 15 ((m + 1 : Nat) : Int), ?_, ⟨?_, fun i hi => ?_⟩, ?_, ?_, ?_, bxS (bxS bA (by decide) (by decide) (by decide) (by decide)) (show (0 : Int) ≤ ((m + 1 : Nat) : Int) ∧ ((m + 1 : Nat) : Int) ≤ 5 by omega) (by decide) (by decide) (by decide)⟩
  · have e15 : cr (sM μ 3 0 1) 0 (-1) 0 15 = (m : Int) := by rw [cr_c (by decide), sM_a (by decide)]; exact h15
    unfold X10_takePlay
    rw [h15, if_pos (by omega), open_eq, bd_some, e15]
    unfold aL
    rw [if_pos (by show (0 : Int) ≤ (m : Int) ∧ (m : Int) < 5; omega), Int.toNat_natCast]
    have ea : aE 17 m = 18 + 3 * m := rfl
    rw [ea]
    dsimp only
    rw [e, bd_some]
    unfold X7_cut sF
    try dsimp only
    rw [if_neg (by decide), if_pos (by rw [o1 1 1 (by decide) (by omega), h.2.1]; omega)]
    try dsimp only
    rw [bd_some, sM_a (show (0 : Nat) ≠ 1 by decide), o1 0 15 (by decide) (by omega), h15, iA_nat (by omega), sM_s, ei3 (by omega)]
  · rw [sM_a (by omega), sM_a (by omega), cr_c (by omega)]; exact hp.2.1
  · rw [sM_a (by omega), sM_a (by omega), cr_c (by omega), sM_a (by omega), sM_a (by omega), cr_c (by omega)]; exact hp.2.2 i hi
  · rw [sM_s]
  · rw [sM_a (by decide), sM_s]
  · exact fw_sM (fw_sM (fun k j hn => o1 k j (fun z => hn (by unfold WTP; omega)) (fun z => hn (by unfold WTP; omega))) (by unfold WTP; omega)) (by unfold WTP; omega)
def WY (m k j : Nat) : Prop := WTP m k j ∨ wPl m k j ∨ (k = 70 ∧ (j = 2 ∨ j = 28))
theorem J69_1 (μ : Mm) : X11_text_J69 1 μ = some (-1, μ) := by unfold X11_text_J69; rw [if_neg (by decide)]
theorem x_pl {t : Nat → Int} {n m : Nat} {μ : Mm} (hI : Inv μ) (h : Ta t n μ) (hm : m < 5) (h15 : μ 0 15 = (m : Int)) (h28 : μ 70 28 = (m : Int)) {L : List (Int × Int)} (hL : plS t n = some L) : ∃ r ν μ', X10_takePlay μ = some (r, ν) ∧ X11_text 1 ν = some (r, μ') ∧ Inv μ' := by
  obtain ⟨ν, e1, c1, c2, c3, cf, hBx⟩ := k_tp hI.1 h hm h15 hL
  have o1 : ∀ k j, 70 ≤ k → ν k j = μ k j := fun k j hk => cf k j (by unfold WTP; omega)
  have hB1 : Bm ν := fun k j hk => by rw [o1 k j hk]; exact hI.2.1.1 k j hk
  have hTm' : Tm t n ν := ⟨h.1, by rw [o1 70 2 (by decide)]; exact h.2.2.1, fun j hj => by rw [o1 71 j (by decide)]; exact h.2.2.2.2.1 j hj⟩
  obtain ⟨f, μ', a, e2, ha, hf, h4, hr⟩ := playM h.2.2.2.2.2 (l := m) (by omega) hB1 hTm'
  rw [hL] at hr
  obtain ⟨r0, r1⟩ := hr
  have h160 := h.1
  obtain ⟨l1, l2, l3⟩ := plS_J hL
  have e28 : ma μ' a 70 28 = (m : Int) := by rw [ma_j (by decide), hf.2 70 28 (by unfold wPl; omega), o1 70 28 (by decide)]; exact h28
  have e28' : sM (ma μ' a) 70 2 0 70 28 = (m : Int) := by rw [sM_j (by decide)]; exact e28
  have e4 : X11_text 1 ν = some ((m : Int), sM (sM (ma μ' a) 70 2 0) 70 28 ((m + 1 : Nat) : Int)) := by
    unfold X11_text
    rw [if_neg (by decide)]
    unfold X11_text_J22
    rw [if_pos rfl, o1 70 28 (by decide), h28, if_neg (by omega), e2, bd_some, if_pos r0]
    unfold sF
    dsimp only
    rw [e28', iA_nat (by omega), sM_s, ei3 (by omega)]
  refine ⟨_, ν, _, e1, e4, ?_⟩
  generalize hξ : sM (sM (ma μ' a) 70 2 0) 70 28 ((m + 1 : Nat) : Int) = ξ
  have x70 : ∀ k j, k ≠ 70 → ξ k j = μ' k j := fun k j hk => by rw [← hξ, sM_a hk, sM_a hk, ma_c hk]
  have o2 : ∀ k j, k < 70 → ξ k j = ν k j := fun k j hk => by rw [x70 k j (by omega), hf.2 k j (by unfold wPl; omega)]
  have x28 : ξ 70 28 = ((m + 1 : Nat) : Int) := by rw [← hξ, sM_s]
  have x2 : ξ 70 2 = 0 := by rw [← hξ, sM_j (by decide), sM_s]
  have hfw : fw (WY m) μ ξ := fun k j hn => by
    unfold WY at hn
    by_cases c : k = 70
    · subst c
      rw [← hξ, sM_j (by omega), sM_j (by omega), ma_j (fun z => hn (Or.inr (Or.inl (by unfold wPl; omega)))), hf.2 70 j (fun z => hn (Or.inr (Or.inl z))), o1 70 j (by decide)]
    · rw [x70 k j c, hf.2 k j (fun z => hn (Or.inr (Or.inl z))), cf k j (fun z => hn (Or.inl z))]
  have hB2 : Bm ξ := by
    rw [← hξ]
    exact Bm_sM (Bm_sM (Bm_ma hf.1 (by omega)) (show (0 : Int) ≤ 0 ∧ (0 : Int) ≤ 160 by decide)) (show (0 : Int) ≤ ((m + 1 : Nat) : Int) ∧ ((m + 1 : Nat) : Int) ≤ 5 by omega)
  have w0 : ∀ k j, k ≠ 3 → ¬ (18 ≤ k ∧ k ≤ 32) → ¬ (k = 0 ∧ j = 15) → ¬ (k = 1 ∧ j = 1) → ¬ (k = 70 ∧ (j = 2 ∨ j = 3 ∨ j = 4 ∨ j = 28)) → ¬ (83 ≤ k ∧ k ≤ 85) → ξ k j = μ k j := fun k j g1 g2 g3 g4 g5 g6 => hfw k j (by unfold WY WTP wPl; omega)
  have hPm : hasM ξ m 0 L := ⟨by rw [x70 85 m (by decide)]; exact r1.1, fun i hi => by rw [x70 83 _ (by decide), x70 84 _ (by decide)]; exact r1.2 i hi⟩
  have hPc : hasP ξ (18 + 3 * m) 0 L := ⟨by rw [o2 _ _ (by omega)]; exact c1.1, fun i hi => by rw [o2 _ _ (by omega), o2 _ _ (by omega)]; exact c1.2 i hi⟩
  have hPl : Pl ξ := by
    obtain ⟨k, p1, p2, p3, p4⟩ := hI.2.2.2.1
    have ek : k = m := by omega
    subst ek
    refine ⟨k + 1, by omega, ?_, x28, fun p hp => ?_⟩
    · rw [o2 0 15 (by decide), c2]
    · by_cases c : p = k
      · rw [c]; exact ⟨L, l1, l2, hPc, hPm⟩
      · obtain ⟨L', g1, g2, g3, g4⟩ := p4 p (by omega)
        refine ⟨L', g1, g2, ⟨?_, fun i hi => ?_⟩, ⟨?_, fun i hi => ?_⟩⟩
        · rw [hfw _ _ (by unfold WY WTP wPl; omega)]; exact g3.1
        · rw [hfw _ _ (by unfold WY WTP wPl; omega), hfw _ _ (by unfold WY WTP wPl; omega)]; exact g3.2 i hi
        · rw [hfw _ _ (by unfold WY WTP wPl; omega)]; exact g4.1
        · rw [hfw _ _ (by unfold WY WTP wPl; omega), hfw _ _ (by unfold WY WTP wPl; omega)]; exact g4.2 i hi
  have hIr : Ir ξ := by
    refine Ir_gen hI.2.1 hB2 (fun p k hp hk => ?_) (w0 70 23 (by decide) (by decide) (by decide) (by decide) (by decide) (by decide)) (w0 70 24 (by decide) (by decide) (by decide) (by decide) (by decide) (by decide)) (w0 70 53 (by decide) (by decide) (by decide) (by decide) (by decide) (by decide)) (w0 70 32 (by decide) (by decide) (by decide) (by decide) (by decide) (by decide)) (by rw [w0 70 13 (by decide) (by decide) (by decide) (by decide) (by decide) (by decide)]; exact Int.le_refl _) (fun j => w0 82 j (by decide) (by decide) (by omega) (by omega) (by omega) (by decide)) (fun j => w0 96 j (by decide) (by decide) (by omega) (by omega) (by omega) (by decide)) (fun l q1 q2 => ?_)
    · rw [x28] at hp
      by_cases c : p = m
      · rw [c] at hk ⊢
        have h85 : ξ 85 m = ((0 + L.length : Nat) : Int) := hPm.1
        have hi : k < L.length := by omega
        have hk2 := (hPm.2 k hi).1
        rw [Nat.zero_add] at hk2
        rw [hk2]
        have := plOK_at l3 hi
        exact ⟨this.1, this.2.1⟩
      · have hb : μ 85 p ≤ 8 := (hI.2.1.1 85 p (by decide)).2
        rw [hfw 85 p (by unfold WY WTP wPl; omega)] at hk
        rw [hfw 83 _ (by unfold WY WTP wPl; omega)]
        exact hI.2.1.2.1 p k (by omega) hk
    · rw [w0 70 13 (by decide) (by decide) (by decide) (by decide) (by decide) (by decide)] at q2
      exact LawOK_congr (hI.2.1.2.2.2.2.2.1 l q1 q2) (agr_of l (fun k j g1 g2 => w0 k j (by omega) (by omega) (by omega) (by omega) (by omega) (by omega)))
  refine Inv_W hI (Bx_congr hBx o2) hIr hfw (Or.inr ⟨0, by decide, ?_, x2, fun j hj => absurd hj (by omega)⟩) (Or.inr hPl) (Or.inl ?_) (Or.inl ?_) (Or.inl ?_) (Or.inl ?_) (Or.inl ?_)
  · rw [o2 1 1 (by decide), c3]; rfl
  · intro k j g; unfold kLw at g; unfold WY WTP wPl; omega
  · intro k j g; unfold kCl at g; unfold WY WTP wPl; omega
  · intro k j g; unfold kH at g; unfold WY WTP wPl; omega
  · intro k j g; unfold kI at g; unfold WY WTP wPl; omega
  · intro k j g; unfold kU at g; unfold WY WTP wPl; omega
def WTL (m k j : Nat) : Prop := (37 + 2 * m ≤ k ∧ k ≤ 38 + 2 * m) ∨ (k = 0 ∧ j = 16) ∨ (k = 1 ∧ j = 1)
theorem k_tl {n m : Nat} {μ : Mm} (hBx : Bx μ) (h : μ 1 1 = (n : Int)) (hm : m < 4) (h16 : μ 0 16 = (m : Int)) : ∃ ν, X10_takeLaw μ = some ((m : Int), ν) ∧ ν (37 + 2 * m) 1 = (n : Int) ∧ (∀ j, ν (38 + 2 * m) j = if (j : Int) < 160 then μ 2 j else μ (38 + 2 * m) j) ∧ ν 0 16 = ((m + 1 : Nat) : Int) ∧ ν 1 1 = 0 ∧ fw (WTL m) μ ν ∧ Bx ν := by
  have hk := kD_lw m hm
  have hk160 : aN (38 + 2 * m) = 160 := by unfold aN; rw [hk]
  have e11 : ∀ j, cA_ μ 2 (38 + 2 * m) 160 1 j = μ 1 j := fun j => cA_o (by omega) j
  have ec : X7_copy (37 + 2 * m) 1 μ = some (0, sM (cA_ μ 2 (38 + 2 * m) 160) (37 + 2 * m) 1 (n : Int)) := by
    unfold X7_copy cpA sF
    have e38 : 37 + 2 * m + 1 = 38 + 2 * m := by omega
    rw [e38, if_pos ⟨by decide, by decide, by rw [hk160]; decide⟩]
    show some (0, sM (cA_ μ 2 (38 + 2 * m) 160) (37 + 2 * m) 1 (cA_ μ 2 (38 + 2 * m) 160 1 1)) = _
    rw [e11 1, h]
  have bA : Bx (sM (cA_ μ 2 (38 + 2 * m) 160) (37 + 2 * m) 1 (n : Int)) := by
    have t1 := t_X7_copy (W := W70) (l0 := 37 + 2 * m) (l1 := 1) scr_70 (fun k j _ h2 => by unfold W70; omega) (kD_ltx m hm) (by decide) (St_rf hBx)
    rw [ec, wp_some] at t1
    exact t1.1.1
  refine ⟨sM (sM (sM (cA_ μ 2 (38 + 2 * m) 160) (37 + 2 * m) 1 (n : Int)) 1 1 0) 0 16 ((m + 1 : Nat) : Int), ?_, ?_, fun j => ?_, ?_, ?_, ?_, bxS (bxS bA (by decide) (by decide) (by decide) (by decide)) (show (0 : Int) ≤ ((m + 1 : Nat) : Int) ∧ ((m + 1 : Nat) : Int) ≤ 4 by omega) (by decide) (by decide) (by decide)⟩
  · unfold X10_takeLaw
    rw [h16, if_pos (by omega)]
    unfold aL
    rw [if_pos (by show (0 : Int) ≤ (m : Int) ∧ (m : Int) < 4; omega), Int.toNat_natCast]
    have ea : aE 36 m = 37 + 2 * m := rfl
    rw [ea]
    dsimp only
    rw [ec, bd_some]
    unfold X7_cut sF
    try dsimp only
    rw [if_neg (by decide), if_pos (by rw [sM_a (by omega), e11 1, h]; omega)]
    try dsimp only
    have e016 : sM (sM (cA_ μ 2 (38 + 2 * m) 160) (37 + 2 * m) 1 (n : Int)) 1 1 0 0 16 = (m : Int) := by
      rw [sM_a (by decide), sM_a (by omega), cA_o (by omega), h16]
    rw [bd_some, e016, iA_nat (by omega), sM_s, ei3 (by omega)]
  · rw [sM_a (by omega), sM_a (by omega), sM_s]
  · rw [sM_a (by omega), sM_a (by omega), sM_a (by omega)]
    by_cases c : (j : Int) < 160
    · rw [if_pos c, cA_i c]
    · rw [if_neg c, cA_e c]
  · rw [sM_s]
  · rw [sM_a (by decide), sM_s]
  · refine fw_sM (fw_sM (fw_sM (fun k j hn => ?_) (by unfold WTL; omega)) (by unfold WTL; omega)) (by unfold WTL; omega)
    exact cA_o (fun z => hn (by unfold WTL; omega)) j
def WZ (m k j : Nat) : Prop := WTL m k j ∨ wLq m k j ∨ (k = 70 ∧ (j = 2 ∨ j = 13))
theorem x_lw {t : Nat → Int} {n m : Nat} {μ : Mm} (hI : Inv μ) (h : Ta t n μ) (hm : m < 4) (h16 : μ 0 16 = (m : Int)) (h13 : μ 70 13 = (m : Int)) (ht : ∀ j, t j = if (j : Int) < 160 then μ 2 j else μ (38 + 2 * m) j) {L : List (Cd × Cd)} (hL : lawS t n = some L) : ∃ r ν μ', X10_takeLaw μ = some (r, ν) ∧ X11_text 2 ν = some (r, μ') ∧ Inv μ' := by
  obtain ⟨ν, e1, c1, c2, c3, c4, cf, hBx⟩ := k_tl hI.1 h.2.1 hm h16
  have o1 : ∀ k j, 70 ≤ k → ν k j = μ k j := fun k j hk => cf k j (by unfold WTL; omega)
  have hB1 : Bm ν := fun k j hk => by rw [o1 k j hk]; exact hI.2.1.1 k j hk
  have hTm' : Tm t n ν := ⟨h.1, by rw [o1 70 2 (by decide)]; exact h.2.2.1, fun j hj => by rw [o1 71 j (by decide)]; exact h.2.2.2.2.1 j hj⟩
  have hr := rdLawM h.2.2.2.2.2 (q := m) (by omega) hB1 hTm'
  rw [hL] at hr
  obtain ⟨μ', a, e2, b1, b2, ha, b4⟩ := hr
  have h160 := h.1
  have b2' : ∀ k j, ¬ wF2 m 0 0 k j → ¬ (k = 70 ∧ j = 14) → μ' k j = ν k j := fun k j g1 g2 => by
    rw [b2 k j g1]
    unfold sM
    rw [if_neg g2]
  have e13 : ma μ' a 70 13 = (m : Int) := by rw [ma_j (by decide), b2' 70 13 (by unfold wF2 wKd; omega) (by decide), o1 70 13 (by decide)]; exact h13
  have e13' : sM (ma μ' a) 70 2 0 70 13 = (m : Int) := by rw [sM_j (by decide)]; exact e13
  have e4 : X11_text 2 ν = some ((m : Int), sM (sM (ma μ' a) 70 2 0) 70 13 ((m + 1 : Nat) : Int)) := by
    unfold X11_text
    rw [if_neg (by decide)]
    unfold X11_text_J22
    rw [if_neg (by decide)]
    unfold X11_text_J69
    rw [if_pos rfl, o1 70 13 (by decide), h13, if_neg (by omega), e2, bd_some, if_pos rfl]
    unfold sF
    dsimp only
    rw [e13', iA_nat (by omega), sM_s, ei3 (by omega)]
  refine ⟨_, ν, _, e1, e4, ?_⟩
  generalize hξ : sM (sM (ma μ' a) 70 2 0) 70 13 ((m + 1 : Nat) : Int) = ξ
  have x70 : ∀ k j, k ≠ 70 → ξ k j = μ' k j := fun k j hk => by rw [← hξ, sM_a hk, sM_a hk, ma_c hk]
  have o2 : ∀ k j, k < 70 → ξ k j = ν k j := fun k j hk => by rw [x70 k j (by omega), b2' k j (by unfold wF2 wKd; omega) (by omega)]
  have x13 : ξ 70 13 = ((m + 1 : Nat) : Int) := by rw [← hξ, sM_s]
  have x2 : ξ 70 2 = 0 := by rw [← hξ, sM_j (by decide), sM_s]
  have hfw : fw (WZ m) μ ξ := fun k j hn => by
    unfold WZ wLq at hn
    by_cases c : k = 70
    · subst c
      rw [← hξ, sM_j (by omega), sM_j (by omega), ma_j (fun z => hn (Or.inr (Or.inl (Or.inl (by unfold wF2; omega))))), b2' 70 j (fun z => hn (Or.inr (Or.inl (Or.inl z)))) (fun z => hn (Or.inr (Or.inl (Or.inr z)))), o1 70 j (by decide)]
    · rw [x70 k j c, b2' k j (fun z => hn (Or.inr (Or.inl (Or.inl z)))) (fun z => c z.1), cf k j (fun z => hn (Or.inl z))]
  have hB2 : Bm ξ := by
    rw [← hξ]
    exact Bm_sM (Bm_sM (Bm_ma b1 (by omega)) (show (0 : Int) ≤ 0 ∧ (0 : Int) ≤ 160 by decide)) (show (0 : Int) ≤ ((m + 1 : Nat) : Int) ∧ ((m + 1 : Nat) : Int) ≤ 4 by omega)
  have hR : rowsAt ξ m 0 0 L := rows_agr (agr_of _ (fun k j g1 g2 => x70 k j (by omega))) _ _ _ b4
  have hag : ∀ q : Int, 0 ≤ q → q < (m : Int) → agr q ξ μ := fun q q0 q1 => ⟨fun j j1 j2 => ⟨hfw 72 j (by unfold WZ WTL wLq wF2 wKd; omega), hfw 73 j (by unfold WZ WTL wLq wF2 wKd; omega)⟩, hfw 75 _ (by unfold WZ WTL wLq wF2 wKd; omega), fun j j1 j2 => ⟨hfw 76 j (by unfold WZ WTL wLq wF2 wKd; omega), hfw 77 j (by unfold WZ WTL wLq wF2 wKd; omega), hfw 78 j (by unfold WZ WTL wLq wF2 wKd; omega)⟩⟩
  have hLw : Lw ξ := by
    obtain ⟨k, p1, p2, p3, p4⟩ := hI.2.2.2.2.1
    have ek : k = m := by omega
    subst ek
    refine ⟨k + 1, by omega, ?_, x13, fun q hq => ?_⟩
    · rw [o2 0 16 (by decide), c3]
    · by_cases c : q = k
      · rw [c]
        have et : ∀ j, ξ (38 + 2 * k) j = t j := fun j => by rw [o2 _ j (by omega), c2 j, ht j]
        exact ⟨n, L, h160, by rw [o2 _ _ (by omega)]; exact c1, fun j hj => by rw [et]; exact h.2.2.2.2.2 j hj, by rw [lawS_congr et]; exact hL, hR⟩
      · obtain ⟨n', L', g1, g2, g3, g4, g5⟩ := p4 q (by omega)
        have eb : ∀ j, ξ (38 + 2 * q) j = μ (38 + 2 * q) j := fun j => hfw _ j (by unfold WZ WTL wLq wF2 wKd; omega)
        exact ⟨n', L', g1, by rw [hfw _ _ (by unfold WZ WTL wLq wF2 wKd; omega)]; exact g2, fun j hj => by rw [eb]; exact g3 j hj, by rw [lawS_congr eb]; exact g4, rows_agr (hag (q : Int) (by omega) (by omega)) _ _ _ g5⟩
  have w0 : ∀ k j, ¬ (37 ≤ k ∧ k ≤ 44) → ¬ (k = 0 ∧ j = 16) → ¬ (k = 1 ∧ j = 1) → ¬ (k = 70 ∧ (j = 2 ∨ j = 3 ∨ j = 4 ∨ j = 5 ∨ j = 13 ∨ j = 14)) → ¬ (72 ≤ k ∧ k ≤ 78) → ξ k j = μ k j := fun k j g1 g2 g3 g4 g5 => hfw k j (by unfold WZ WTL wLq wF2 wKd; omega)
  have hIr : Ir ξ := by
    refine Ir_gen hI.2.1 hB2 (fun p k hp hk => ?_) (w0 70 23 (by decide) (by decide) (by decide) (by decide) (by decide)) (w0 70 24 (by decide) (by decide) (by decide) (by decide) (by decide)) (w0 70 53 (by decide) (by decide) (by decide) (by decide) (by decide)) (w0 70 32 (by decide) (by decide) (by decide) (by decide) (by decide)) (by rw [x13, h13]; omega) (fun j => w0 82 j (by decide) (by omega) (by omega) (by omega) (by decide)) (fun j => w0 96 j (by decide) (by omega) (by omega) (by omega) (by decide)) (fun l q1 q2 => ?_)
    · rw [w0 70 28 (by decide) (by decide) (by decide) (by decide) (by decide)] at hp
      rw [w0 85 p (by decide) (by omega) (by omega) (by omega) (by decide)] at hk
      rw [w0 83 _ (by decide) (by omega) (by omega) (by omega) (by decide)]
      exact hI.2.1.2.1 p k hp hk
    · rw [x13] at q2
      by_cases c : l = (m : Int)
      · rw [c]; exact LawOK_rows (by omega) hR
      · exact LawOK_congr (hI.2.1.2.2.2.2.2.1 l q1 (by omega)) (hag l q1 (by omega))
  refine Inv_W hI (Bx_congr hBx o2) hIr hfw (Or.inr ⟨0, by decide, ?_, x2, fun j hj => absurd hj (by omega)⟩) (Or.inl ?_) (Or.inr hLw) (Or.inl ?_) (Or.inl ?_) (Or.inl ?_) (Or.inl ?_)
  · rw [o2 1 1 (by decide), c4]; rfl
  · intro k j g; unfold kP at g; unfold WZ WTL wLq wF2 wKd; omega
  · intro k j g; unfold kCl at g; unfold WZ WTL wLq wF2 wKd; omega
  · intro k j g; unfold kH at g; unfold WZ WTL wLq wF2 wKd; omega
  · intro k j g; unfold kI at g; unfold WZ WTL wLq wF2 wKd; omega
  · intro k j g; unfold kU at g; unfold WZ WTL wLq wF2 wKd; omega
theorem text_no {s : Int} {μ ν : Mm} {f : Int} (h : 0 ≤ s ∧ s ≤ 2) (e : X10_faultOfTape s μ = some (f, ν)) (hf : f ≠ -1) : X10_text s μ = some (-1, ν) := by
  unfold X10_text
  rw [is_srt h, bd_some, if_neg (by decide), e, bd_some, if_neg hf]
theorem m_text : ∀ a0, rI a0 → sI Inv Inv (X10_text a0) (X11_text a0) := by
  intro s hs μ hI
  obtain ⟨n, n1, n2, n3, n4⟩ := id hI.2.2.1
  by_cases c : 0 ≤ s ∧ s ≤ 2
  · by_cases c0 : s = 0
    · subst c0
      have hT : Ta (μ 2) n μ := Ta_of hI n2 (fun j _ => rfl)
      obtain ⟨f, ν, e, hf⟩ := c_f0 hT
      have g := fot_S hs hI.1 e
      have hI1 := Inv_St hI g
      have hT1 := Ta_scr hT g
      cases hq : celS (μ 2) n with
      | none =>
        have hf' : f ≠ -1 := fun z => hf.mp z hq
        obtain ⟨f2, ξ, e2, b1, b2, _, b3⟩ := m_rd0 hI1.2.1.1 hT1
        rw [hq] at b3
        refine ⟨-1, ν, ξ, text_no c e hf', ?_, Inv_WR (mp := 5) (ml := 4) hI1 (hI1.2.1.1 70 28 (by decide)).2 (hI1.2.1.1 70 13 (by decide)).2 b1 (b2 5 4)⟩
        unfold X11_text
        have b3' : f2 ≠ -1 := b3
        rw [if_pos rfl, e2, bd_some, if_neg b3']
        unfold X11_text_J22 X11_text_J69
        rw [if_neg (by decide), if_neg (by decide)]
      | some q =>
        have hf' : f = -1 := hf.mpr (by rw [hq]; simp)
        have et : ∀ r ν2, X10_takeCellar ν = some (r, ν2) → X10_text 0 μ = some (r, ν2) := fun r ν2 e2 => by
          unfold X10_text
          rw [is_srt c, bd_some, if_neg (by decide), e, bd_some, if_pos hf', if_pos rfl, e2, bd_some]
        obtain ⟨r, ν2, ξ, e2, e3, hx⟩ := x_cel hI1 hT1 hq
        exact ⟨r, ν2, ξ, et r ν2 e2, e3, hx⟩
    · by_cases c1 : s = 1
      · subst c1
        have hT : Ta (μ 2) n μ := Ta_of hI n2 (fun j _ => rfl)
        obtain ⟨f, ν, e, hf⟩ := c_f1 hT
        have g := fot_S hs hI.1 e
        have hI1 := Inv_St hI g
        have hT1 := Ta_scr hT g
        obtain ⟨m, p1, p2, p3, _⟩ := id hI1.2.2.2.1
        by_cases cm : m < 5
        · cases hq : plS (μ 2) n with
          | none =>
            have hf' : f ≠ -1 := fun z => hf.mp z hq
            obtain ⟨f2, ξ, e2, b1, b2, _, b3⟩ := m_rd1 hI1.2.1.1 hT1 (l := m) p1
            rw [hq] at b3
            refine ⟨-1, ν, ξ, text_no c e hf', ?_, Inv_WR (mp := m) (ml := 4) hI1 (by omega) (hI1.2.1.1 70 13 (by decide)).2 b1 (b2 4)⟩
            unfold X11_text
            have b3' : f2 ≠ -1 := b3
            rw [if_neg (by decide)]
            unfold X11_text_J22
            rw [if_pos rfl, p3, if_neg (by omega), e2, bd_some, if_neg b3', J69_1]
          | some L =>
            have hf' : f = -1 := hf.mpr (by rw [hq]; simp)
            have et : ∀ r ν2, X10_takePlay ν = some (r, ν2) → X10_text 1 μ = some (r, ν2) := fun r ν2 e2 => by
              unfold X10_text
              rw [is_srt c, bd_some, if_neg (by decide), e, bd_some, if_pos hf', if_neg (by decide), if_pos rfl, e2, bd_some]
            obtain ⟨r, ν2, ξ, e2, e3, hx⟩ := x_pl hI1 hT1 cm p2 p3 hq
            exact ⟨r, ν2, ξ, et r ν2 e2, e3, hx⟩
        · have e1 : X10_text 1 μ = some (-1, ν) := by
            by_cases cf : f = -1
            · unfold X10_text
              rw [is_srt c, bd_some, if_neg (by decide), e, bd_some, if_pos cf, if_neg (by decide), if_pos rfl]
              unfold X10_takePlay
              rw [p2, if_neg (by omega), bd_some]
            · exact text_no c e cf
          have e2 : X11_text 1 ν = some (-1, ν) := by
            unfold X11_text
            rw [if_neg (by decide)]
            unfold X11_text_J22
            rw [if_pos rfl, p3, if_pos (by omega), J69_1]
          exact ⟨_, _, _, e1, e2, hI1⟩
      · have c2 : s = 2 := by omega
        subst c2
        obtain ⟨m, p1, p2, p3, _⟩ := id hI.2.2.2.2.1
        have hT : Ta (fun j => if (j : Int) < 160 then μ 2 j else μ (38 + 2 * m) j) n μ := Ta_of hI n2 (fun j hj => by
          show μ 2 j = if (j : Int) < 160 then μ 2 j else μ (38 + 2 * m) j
          rw [if_pos (by omega)])
        obtain ⟨f, ν, e, hf⟩ := c_f2 hI.1 hT (s := 2) (by decide) (by decide)
        have g := fot_S hs hI.1 e
        have hI1 := Inv_St hI g
        have hT1 := Ta_scr hT g
        have q2 : ν 0 16 = (m : Int) := by rw [g.2 0 16 (by unfold scr; omega)]; exact p2
        have q3 : ν 70 13 = (m : Int) := by rw [g.2 70 13 (by unfold scr; omega)]; exact p3
        by_cases cm : m < 4
        · cases hq : lawS (fun j => if (j : Int) < 160 then μ 2 j else μ (38 + 2 * m) j) n with
          | none =>
            have hf' : f ≠ -1 := fun z => hf.mp z hq
            obtain ⟨f2, ξ, e2, b1, b2, _, b3⟩ := m_rd2 hI1.2.1.1 hT1 (q := m) p1
            rw [hq] at b3
            refine ⟨-1, ν, ξ, text_no c e hf', ?_, Inv_WR (mp := 5) (ml := m) hI1 (hI1.2.1.1 70 28 (by decide)).2 (by omega) b1 (b2 5)⟩
            unfold X11_text
            have b3' : f2 ≠ -1 := b3
            rw [if_neg (by decide)]
            unfold X11_text_J22
            rw [if_neg (by decide)]
            unfold X11_text_J69
            rw [if_pos rfl, q3, if_neg (by omega), e2, bd_some, if_neg b3']
          | some L =>
            have hf' : f = -1 := hf.mpr (by rw [hq]; simp)
            have et : ∀ r ν2, X10_takeLaw ν = some (r, ν2) → X10_text 2 μ = some (r, ν2) := fun r ν2 e2 => by
              unfold X10_text
              rw [is_srt c, bd_some, if_neg (by decide), e, bd_some, if_pos hf', if_neg (by decide), if_neg (by decide), e2, bd_some]
            obtain ⟨r, ν2, ξ, e2, e3, hx⟩ := x_lw hI1 hT1 cm q2 q3 (fun j => by
              show (if (j : Int) < 160 then μ 2 j else μ (38 + 2 * m) j) = _
              rw [g.2 2 j (by unfold scr; omega), g.2 (38 + 2 * m) j (by unfold scr; omega)]) hq
            exact ⟨r, ν2, ξ, et r ν2 e2, e3, hx⟩
        · have e1 : X10_text 2 μ = some (-1, ν) := by
            by_cases cf : f = -1
            · unfold X10_text
              rw [is_srt c, bd_some, if_neg (by decide), e, bd_some, if_pos cf, if_neg (by decide), if_neg (by decide)]
              unfold X10_takeLaw
              rw [q2, if_neg (by omega), bd_some]
            · exact text_no c e cf
          have e2 : X11_text 2 ν = some (-1, ν) := by
            unfold X11_text
            rw [if_neg (by decide)]
            unfold X11_text_J22
            rw [if_neg (by decide)]
            unfold X11_text_J69
            rw [if_pos rfl, q3, if_pos (by omega)]
          exact ⟨_, _, _, e1, e2, hI1⟩
  · have e1 : X10_text s μ = some (-1, μ) := by
      unfold X10_text
      rw [no_srt c, bd_some, if_pos rfl]
    have e2 : X11_text s μ = some (-1, μ) := by
      unfold X11_text
      rw [if_neg (by omega)]
      unfold X11_text_J22
      rw [if_neg (by omega)]
      unfold X11_text_J69
      rw [if_neg (by omega)]
    exact ⟨_, _, _, e1, e2, hI⟩
/-! CRANK -/
theorem cr_70 {μ : Mm} (hI : Inv μ) {v : Int} (hv : rI v) : Inv (sM μ 70 0 v) := by
  have e : ∀ k j, ¬ (k = 70 ∧ j = 0) → sM μ 70 0 v k j = μ k j := fun k j h => by unfold sM; rw [if_neg h]
  exact Inv_congr hI (Bx_congr hI.1 (fun k j h => e k j (by omega))) (Ir_congr hI.2.1 (Bm_sM hI.2.1.1 hv) (fun k j h => e k j (by unfold perI at h; omega))) (fun k j h => e k j (by unfold kep at h; omega))
theorem m_crank {a : Int} (ha : rI a) {μ : Mm} (hI : Inv μ) : ∃ w b μ2, X0_placeOf 5 a μ = some (w, μ) ∧ X11_crank a μ = some (b, μ2) ∧ Inv μ2 ∧ (w = -1 → μ2 70 0 = 1) ∧ (w ≠ -1 → μ2 70 0 = 0 ∧ b = w) ∧ rI w ∧ rI b := by
  obtain ⟨w, e0, hw⟩ := crk hI ha
  have hc := crk_m (μ := μ) (ν := μ) (fun k j _ => rfl) ha hw
  by_cases c1 : w = -1
  · refine ⟨w, 0, sM μ 70 0 1, e0, ?_, cr_70 hI (by unfold rI; omega), fun _ => sM_s _ _ _ _, fun h => absurd c1 h, by rw [c1]; exact ⟨by decide, by decide⟩, ⟨by decide, by decide⟩⟩
    unfold X11_crank
    rw [hc, bd_some, if_pos (by rw [if_pos c1])]
    unfold X11_crank_J14 sF
    dsimp only
    rw [if_pos (sM_s _ _ _ _)]
  · rcases hw with ⟨h, _⟩ | ⟨ha0, ha7, p, hp, ip, ep, ew, _⟩
    · exact absurd h c1
    · have hI2 : Inv (sM μ 70 0 0) := cr_70 hI (by unfold rI; omega)
      refine ⟨w, w, sM μ 70 0 0, e0, ?_, hI2, fun h => absurd h c1, fun _ => ⟨sM_s _ _ _ _, rfl⟩, by rw [ew]; exact ⟨by omega, by omega⟩, by rw [ew]; exact ⟨by omega, by omega⟩⟩
      unfold X11_crank
      rw [hc, bd_some, if_neg (by rw [if_neg c1]; decide)]
      unfold X11_crank_J14 sF
      have i1 : iA 3 a = 3 + a := iA_id (by omega) (by omega)
      have ip2 : isP (sM μ 70 0 0) p := (isP_congr (sM_j (by decide)) (sM_j (by decide)) p).mpr ip
      dsimp only
      rw [if_neg (by rw [sM_s]; decide), i1, plc_at hI2.2.1.2.2.2.2.2.2.1 hp ip2 (by rw [sM_a (by decide)]; exact ep) (by omega), bd_some, ew]
/-! AT, COUNT: what both tell -/
theorem m_at : ∀ a0, rI a0 → sI Inv Inv (X10_at a0) (X11_at a0) := by
  intro a ha μ hI
  obtain ⟨h1, _⟩ := hI.2.2.2.2.2.1
  by_cases c0 : 0 ≤ a ∧ a < 60
  · obtain ⟨p, rfl⟩ : ∃ p : Nat, a = (p : Int) := ⟨a.toNat, by omega⟩
    have hp : p < 60 := by omega
    have e1 : X10_at (p : Int) μ = some (μ 6 p, μ) := by
      unfold X10_at X0_cellAt ldA
      rw [if_neg (by omega), if_neg (by omega), if_pos (by show (0 : Int) ≤ (p : Int) ∧ (p : Int) < 60; omega), Int.toNat_natCast, bd_some]
    have e2 : X11_at (p : Int) μ = some (μ 6 p, μ) := by
      unfold X11_at
      by_cases ip : isP μ p
      · rw [isPl_y hp ip, bd_some, if_neg (by decide)]
        unfold ldA
        rw [if_pos (by show (0 : Int) ≤ (p : Int) ∧ (p : Int) < 60; omega), Int.toNat_natCast]
        have h : μ 6 p = μ 82 p := (h1 p hp).1 ip
        rw [h]
      · have h : μ 6 p = -1 := (h1 p hp).2 ip
        rw [isPl_n hp ip, bd_some, if_pos rfl, h]
    exact ⟨_, _, _, e1, e2, hI⟩
  · have e1 : X10_at a μ = some (-1, μ) := by
      unfold X10_at X0_cellAt
      by_cases c : a < 0
      · rw [if_pos c, bd_some]
      · rw [if_neg c, if_pos (by omega), bd_some]
    have e2 : X11_at a μ = some (-1, μ) := by
      unfold X11_at
      rw [isPl_no hI.2.1.1 ha (by omega), bd_some, if_pos rfl]
    exact ⟨_, _, _, e1, e2, hI⟩
theorem crks_L {μ : Mm} (hK : Kc μ 5 82 86 30 31) (hI : Inv μ) : ∀ (d i fuel : Nat), i + d = 8 → d < fuel → X11_cranks_L4 fuel (cnt isX (μ 7) i) (i : Int) μ = some (cnt isX (μ 7) 8, μ) := by
  intro d
  induction d with
  | zero =>
    intro i fuel hi hf
    obtain ⟨g, rfl, _⟩ := lt_fuel hf
    show (if 8 ≤ (i : Int) then _ else _) = _
    rw [if_pos (by omega)]
    have : i = 8 := by omega
    rw [this]
  | succ d ih =>
    intro i fuel hi hf
    obtain ⟨g, rfl, _⟩ := lt_fuel hf
    have hb := cnt_b (P := isX) (f := μ 7) i
    have e0 : iA (cnt isX (μ 7) i) 0 = cnt isX (μ 7) i := by rw [iA_id (by omega) (by omega)]; omega
    have e1 : iA (cnt isX (μ 7) i) 1 = cnt isX (μ 7) i + 1 := iA_id (by omega) (by omega)
    have es : cnt isX (μ 7) (i + 1) = cnt isX (μ 7) i + (if isX (μ 7 i) then 1 else 0) := rfl
    have hn := ih (i + 1) g (by omega) (by omega)
    rw [es] at hn
    have ha : rI (i : Int) := ⟨by omega, by omega⟩
    obtain ⟨w, ew, hw⟩ := crk hI ha
    have hc := crk_m (μ := μ) (ν := μ) (fun k j _ => rfl) ha hw
    have e7 : w = μ 7 i := by
      have : X0_placeOf 5 (i : Int) μ = some (μ 7 i, μ) := by
        unfold X0_placeOf ldA
        rw [if_neg (by omega), if_neg (by omega), if_pos (by show (0 : Int) ≤ (i : Int) ∧ (i : Int) < 8; omega), Int.toNat_natCast]
      rw [this] at ew
      cases ew
      rfl
    show (if 8 ≤ (i : Int) then _ else _) = _
    rw [if_neg (by omega), hc, bd_some]
    rw [e7]
    by_cases c : μ 7 i = -1
    · rw [c] at hn ⊢
      rw [if_pos (by rw [if_pos rfl]), e0, iA_nat (by omega)]
      rw [if_neg (by decide)] at hn
      have z : cnt isX (μ 7) i + 0 = cnt isX (μ 7) i := by omega
      rw [z] at hn
      exact hn
    · rw [if_neg (by rw [if_neg c]; decide), e1, iA_nat (by omega)]
      rw [isX_i c, if_pos rfl] at hn
      exact hn
theorem crks_eq {μ : Mm} (hI : Inv μ) : X11_cranks μ = some (cnt isX (μ 7) 8, μ) := crks_L hI.2.2.2.2.2.1 hI 8 0 FU rfl (by decide)
theorem m_count : ∀ a0, rI a0 → sI Inv Inv (X10_count a0) (X11_count a0) := by
  intro a ha μ hI
  have hK := hI.2.2.2.2.2.1
  have h6 : μ 5 5 = cnt isX (μ 7) 8 := hK.2.2.2.2.2.1
  have h7 : μ 5 6 = cnt is1 (μ 6) 60 := hK.2.2.2.2.2.2.1
  have h8 : μ 5 7 = μ 70 30 := hK.2.2.2.2.2.2.2.1
  have h9 : μ 5 8 = μ 70 31 := hK.2.2.2.2.2.2.2.2.1
  obtain ⟨n1, _, t1, t2, _⟩ := id hI.2.2.1
  obtain ⟨n2, _, p1, p2, _⟩ := id hI.2.2.2.1
  obtain ⟨n3, _, l1, l2, _⟩ := id hI.2.2.2.2.1
  obtain ⟨n4, _, u1, u2, _⟩ := id hI.2.2.2.2.2.2.2.2
  have hw : μ 0 17 = μ 70 32 := hI.2.2.2.2.2.2.1
  have hp : X11_posts μ = some (cnt is1 (μ 6) 60, μ) := posts_eq hK.1
  have hc := crks_eq hI
  by_cases c0 : a = 0
  · refine ⟨μ 5 5, μ, μ, ?_, ?_, hI⟩
    · unfold X10_count
      rw [if_pos c0]
    · unfold X11_count
      rw [if_pos c0, hc, bd_some, ← h6]
  by_cases c1 : a = 1
  · refine ⟨μ 0 15, μ, μ, ?_, ?_, hI⟩
    · unfold X10_count
      rw [if_neg c0, if_pos c1]
    · unfold X11_count
      rw [if_neg c0, if_pos c1, p2, ← p1]
  by_cases c2 : a = 2
  · refine ⟨μ 0 16, μ, μ, ?_, ?_, hI⟩
    · unfold X10_count
      rw [if_neg c0, if_neg c1, if_pos c2]
    · unfold X11_count
      rw [if_neg c0, if_neg c1, if_pos c2, l2, ← l1]
  by_cases c3 : a = 3
  · refine ⟨μ 1 1, μ, μ, ?_, ?_, hI⟩
    · unfold X10_count
      rw [if_neg c0, if_neg c1, if_neg c2, if_pos c3]
    · unfold X11_count
      rw [if_neg c0, if_neg c1, if_neg c2, if_pos c3, t2, ← t1]
  by_cases c4 : a = 4
  · refine ⟨μ 5 7, μ, μ, ?_, ?_, hI⟩
    · unfold X10_count
      rw [if_neg c0, if_neg c1, if_neg c2, if_neg c3, if_pos c4]
    · unfold X11_count
      rw [if_neg c0, if_neg c1, if_neg c2, if_neg c3, if_pos c4, ← h8]
  by_cases c5 : a = 5
  · refine ⟨μ 5 8, μ, μ, ?_, ?_, hI⟩
    · unfold X10_count
      rw [if_neg c0, if_neg c1, if_neg c2, if_neg c3, if_neg c4, if_pos c5]
    · unfold X11_count
      rw [if_neg c0, if_neg c1, if_neg c2, if_neg c3, if_neg c4, if_pos c5, ← h9]
  by_cases c6 : a = 6
  · refine ⟨μ 0 17, μ, μ, ?_, ?_, hI⟩
    · unfold X10_count
      rw [if_neg c0, if_neg c1, if_neg c2, if_neg c3, if_neg c4, if_neg c5, if_pos c6]
    · unfold X11_count
      rw [if_neg c0, if_neg c1, if_neg c2, if_neg c3, if_neg c4, if_neg c5, if_pos c6, ← hw]
  by_cases c7 : a = 7
  · refine ⟨μ 67 2, μ, μ, ?_, ?_, hI⟩
    · unfold X10_count
      rw [if_neg c0, if_neg c1, if_neg c2, if_neg c3, if_neg c4, if_neg c5, if_neg c6, if_pos c7]
    · unfold X11_count
      rw [if_neg c0, if_neg c1, if_neg c2, if_neg c3, if_neg c4, if_neg c5, if_neg c6, if_pos c7, u2, ← u1]
  by_cases c8 : a = 8
  · refine ⟨μ 5 6, μ, μ, ?_, ?_, hI⟩
    · unfold X10_count
      rw [if_neg c0, if_neg c1, if_neg c2, if_neg c3, if_neg c4, if_neg c5, if_neg c6, if_neg c7, if_pos c8]
    · unfold X11_count
      rw [if_neg c0, if_neg c1, if_neg c2, if_neg c3, if_neg c4, if_neg c5, if_neg c6, if_neg c7, if_pos c8, hp, bd_some, ← h7]
  refine ⟨-1000000, μ, μ, ?_, ?_, hI⟩
  · unfold X10_count
    rw [if_neg c0, if_neg c1, if_neg c2, if_neg c3, if_neg c4, if_neg c5, if_neg c6, if_neg c7, if_neg c8]
  · unfold X11_count
    rw [if_neg c0, if_neg c1, if_neg c2, if_neg c3, if_neg c4, if_neg c5, if_neg c6, if_neg c7, if_neg c8]
/-! WAYS: how far a place is, by steps over open places -/
def adj (q p : Nat) : Prop := q + 10 = p ∨ p + 10 = q ∨ q + 1 = p ∨ p + 1 = q
def lv (O : Nat → Prop) (s : Nat) : Nat → Nat → Prop
  | 0, p => p = s
  | n + 1, p => O p ∧ ∃ q, lv O s n q ∧ adj q p
/-- f tells how far each place is from s, -1: it can't be come to -/
def ds (O : Nat → Prop) (s : Nat) (f : Nat → Int) : Prop := ∀ p, p < 60 → (f p = -1 ∧ ∀ n, ¬ lv O s n p) ∨ (∃ n : Nat, f p = (n : Int) ∧ lv O s n p ∧ ∀ m, m < n → ¬ lv O s m p)
theorem ds_u {O : Nat → Prop} {s : Nat} {f g : Nat → Int} (hf : ds O s f) (hg : ds O s g) {p : Nat} (hp : p < 60) : f p = g p := by
  rcases hf p hp with ⟨h1, h2⟩ | ⟨n, h1, h2, h3⟩
  · rcases hg p hp with ⟨k1, _⟩ | ⟨m, _, k2, _⟩
    · rw [h1, k1]
    · exact absurd k2 (h2 m)
  · rcases hg p hp with ⟨_, k2⟩ | ⟨m, k1, k2, k3⟩
    · exact absurd h2 (k2 n)
    · have h4 : n = m := by
        rcases Nat.lt_trichotomy n m with h | h | h
        · exact absurd h2 (k3 n h)
        · exact h
        · exact absurd k2 (h3 m h)
      rw [h1, k1, h4]
theorem lv_c {O O' : Nat → Prop} {s : Nat} (h : ∀ p, O p ↔ O' p) : ∀ n p, lv O s n p ↔ lv O' s n p := by
  intro n
  induction n with
  | zero => intro p; exact Iff.rfl
  | succ n ih =>
    intro p
    show (O p ∧ ∃ q, lv O s n q ∧ adj q p) ↔ (O' p ∧ ∃ q, lv O' s n q ∧ adj q p)
    rw [h p]
    exact ⟨fun z => ⟨z.1, z.2.elim (fun q y => ⟨q, (ih q).mp y.1, y.2⟩)⟩, fun z => ⟨z.1, z.2.elim (fun q y => ⟨q, (ih q).mpr y.1, y.2⟩)⟩⟩
theorem ds_c {O O' : Nat → Prop} {s : Nat} {f : Nat → Int} (h : ∀ p, O p ↔ O' p) (hd : ds O s f) : ds O' s f := by
  intro p hp
  rcases hd p hp with ⟨h1, h2⟩ | ⟨n, h1, h2, h3⟩
  · exact Or.inl ⟨h1, fun n z => h2 n ((lv_c h n p).mpr z)⟩
  · exact Or.inr ⟨n, h1, (lv_c h n p).mp h2, fun m hm z => h3 m hm ((lv_c h m p).mpr z)⟩
theorem ds_g {O : Nat → Prop} {s : Nat} {f g : Nat → Int} (h : ∀ p, p < 60 → g p = f p) (hd : ds O s f) : ds O s g := fun p hp => by rw [h p hp]; exact hd p hp
theorem ds_b {O : Nat → Prop} {s : Nat} {f : Nat → Int} (hd : ds O s f) {p : Nat} (hp : p < 60) : -1 ≤ f p := by
  rcases hd p hp with ⟨h1, _⟩ | ⟨n, h1, _⟩ <;> omega
/-- a place of the CELLAR l0 of the class, open -/
def opC (l0 : Nat) (μ : Mm) (p : Nat) : Prop := p < 60 ∧ μ (l0 + 1) p ≠ -1 ∧ μ (l0 + 1) p ≠ 1
/-- a place of the reference, open -/
def opM (μ : Mm) (p : Nat) : Prop := p < 60 ∧ isP μ p ∧ μ 82 p ≠ 1
theorem cel60 {l0 : Nat} (hk : kD l0 = (10, 9)) : aN (l0 + 1) = 60 ∧ aN (l0 + 2) = 8 ∧ aN (l0 + 3) = 8 ∧ l0 + 3 < 17 := by
  have h : ∀ l, l < 98 → kD l = (10, 9) → aN (l + 1) = 60 ∧ aN (l + 2) = 8 ∧ aN (l + 3) = 8 ∧ l + 3 < 17 := by decide +kernel
  by_cases c : l0 < 98
  · exact h l0 c hk
  · have e : kD l0 = (99, 0) := by
      unfold kD
      rw [List.getD_eq_getElem?_getD, List.getElem?_eq_none (by have : kL.length = 98 := rfl; omega)]
      rfl
    rw [e] at hk
    cases hk
theorem opC_y {l0 : Nat} (hk : kD l0 = (10, 9)) {μ : Mm} {p : Nat} (h : opC l0 μ p) : X0_isOpen l0 (p : Int) μ = some (1, μ) := by
  obtain ⟨h1, h2, h3⟩ := h
  have e : aN (l0 + 1) = 60 := (cel60 hk).1
  unfold X0_isOpen ldA
  rw [if_neg (by omega), if_neg (by omega), if_pos (by rw [e]; omega), Int.toNat_natCast]
  dsimp only
  rw [if_neg h2, if_pos (by rw [e]; omega), if_neg h3]
theorem opC_n {l0 : Nat} (hk : kD l0 = (10, 9)) {μ : Mm} {a : Int} (h : ∀ p : Nat, a = (p : Int) → ¬ opC l0 μ p) : X0_isOpen l0 a μ = some (0, μ) := by
  have e : aN (l0 + 1) = 60 := (cel60 hk).1
  unfold X0_isOpen ldA
  by_cases c1 : a < 0
  · rw [if_pos c1]
  by_cases c2 : 60 ≤ a
  · rw [if_neg c1, if_pos c2]
  rw [if_neg c1, if_neg c2, if_pos (by rw [e]; omega)]
  dsimp only
  by_cases c3 : μ (l0 + 1) a.toNat = -1
  · rw [if_pos c3]
  · rw [if_neg c3, if_pos (by rw [e]; omega)]
    by_cases c4 : μ (l0 + 1) a.toNat = 1
    · rw [if_pos c4]
    · exact absurd ⟨by omega, c3, c4⟩ (h a.toNat (by omega))
def isNo (x : Int) : Bool := decide (x = -1)
theorem isNo_y : isNo (-1) = true := by decide
theorem isNo_n {x : Int} (h : x ≠ -1) : isNo x = false := by unfold isNo; exact decide_eq_false h
theorem cnt_pos {P : Int → Bool} {f : Nat → Int} {j : Nat} (h : P (f j) = true) : ∀ n, j < n → 1 ≤ cnt P f n := by
  intro n
  induction n with
  | zero => intro hj; exact absurd hj (by omega)
  | succ n ih =>
    intro hj
    have hb := cnt_b (P := P) (f := f) n
    show 1 ≤ cnt P f n + (if P (f n) then 1 else 0)
    by_cases c : j = n
    · rw [← c, if_pos h]
      rw [← c] at hb
      omega
    · have := ih (by omega)
      split <;> omega
def fW (k j : Nat) : Prop := k = 46 ∨ k = 47 ∨ (k = 45 ∧ j = 2)
/-- the search in breadth: what has been reached stands in the row of places -/
def BI (O : Nat → Prop) (s : Nat) (ν : Mm) (n : Nat) : Prop := ν 45 2 = (n : Int) ∧ (n : Int) + cnt isNo (ν 46) 60 = 60 ∧ (∀ i, i < n → ∃ p d : Nat, p < 60 ∧ ν 47 i = (p : Int) ∧ ν 46 p = (d : Int) ∧ lv O s d p) ∧ (∀ p, p < 60 → ν 46 p ≠ -1 → ∃ i, i < n ∧ ν 47 i = (p : Int)) ∧ (∀ i j, i ≤ j → j < n → ν 46 (ν 47 i).toNat ≤ ν 46 (ν 47 j).toNat) ∧ (∀ i, i < n → ν 46 (ν 47 i).toNat ≤ (i : Int))
def UB (D : Int) (ν : Mm) (n : Nat) : Prop := ∀ i, i < n → ν 46 (ν 47 i).toNat ≤ D + 1
def Ex (ν ν' : Mm) (n n' : Nat) : Prop := n ≤ n' ∧ (∀ p, p < 60 → ν 46 p ≠ -1 → ν' 46 p = ν 46 p) ∧ (∀ i, i < n → ν' 47 i = ν 47 i) ∧ fw fW ν ν'
theorem Ex_rf {ν : Mm} {n : Nat} : Ex ν ν n n := ⟨Nat.le_refl _, fun _ _ _ => rfl, fun _ _ => rfl, fw_rf⟩
theorem Ex_tr {ν ν1 ν2 : Mm} {n n1 n2 : Nat} (h : Ex ν ν1 n n1) (h2 : Ex ν1 ν2 n1 n2) : Ex ν ν2 n n2 := by
  refine ⟨Nat.le_trans h.1 h2.1, fun p hp hn => ?_, fun i hi => ?_, fw_tr h.2.2.2 h2.2.2.2⟩
  · have e := h.2.1 p hp hn
    rw [h2.2.1 p hp (by rw [e]; exact hn), e]
  · rw [h2.2.2.1 i (Nat.lt_of_lt_of_le hi h.1), h.2.2.1 i hi]
theorem BI_add {O : Nat → Prop} {s : Nat} {ν : Mm} {n : Nat} {D d p : Nat} (hB : BI O s ν n) (hU : UB (D : Int) ν n) (hp : p < 60) (hf : ν 46 p = -1) (hl : lv O s d p) (hd : (D : Int) ≤ (d : Int) ∧ (d : Int) ≤ (D : Int) + 1) (hm : ∀ i, i < n → ν 46 (ν 47 i).toNat ≤ (d : Int)) (hdn : d ≤ n) : n < 60 ∧ BI O s (sM (sM (sM ν 46 p (d : Int)) 47 n (p : Int)) 45 2 ((n + 1 : Nat) : Int)) (n + 1) ∧ UB (D : Int) (sM (sM (sM ν 46 p (d : Int)) 47 n (p : Int)) 45 2 ((n + 1 : Nat) : Int)) (n + 1) ∧ Ex ν (sM (sM (sM ν 46 p (d : Int)) 47 n (p : Int)) 45 2 ((n + 1 : Nat) : Int)) n (n + 1) := by
  obtain ⟨b1, b2, b3, b4, b5, b6⟩ := hB
  have hc := cnt_pos (P := isNo) (f := ν 46) (j := p) (by rw [hf]; rfl) 60 hp
  have f46 : ∀ j, sM (sM (sM ν 46 p (d : Int)) 47 n (p : Int)) 45 2 ((n + 1 : Nat) : Int) 46 j = if j = p then (d : Int) else ν 46 j := fun j => by rw [sM_a (by decide), sM_a (by decide), sM_if]
  have f47 : ∀ j, sM (sM (sM ν 46 p (d : Int)) 47 n (p : Int)) 45 2 ((n + 1 : Nat) : Int) 47 j = if j = n then (p : Int) else ν 47 j := fun j => by rw [sM_a (by decide), sM_if, sM_a (by decide)]
  have v : ∀ i, i < n → ∃ p' d' : Nat, p' < 60 ∧ p' ≠ p ∧ ν 47 i = (p' : Int) ∧ ν 46 p' = (d' : Int) ∧ lv O s d' p' := fun i hi => by
    obtain ⟨p', d', h1, h2, h3, h4⟩ := b3 i hi
    exact ⟨p', d', h1, fun e => by rw [e, hf] at h3; omega, h2, h3, h4⟩
  generalize hν : sM (sM (sM ν 46 p (d : Int)) 47 n (p : Int)) 45 2 ((n + 1 : Nat) : Int) = ν' at f46 f47 ⊢
  have w : ∀ i, i < n → ν' 46 (ν' 47 i).toNat = ν 46 (ν 47 i).toNat := fun i hi => by
    obtain ⟨p', d', h1, h1', h2, h3, h4⟩ := v i hi
    rw [f47, if_neg (by omega), h2, Int.toNat_natCast, f46, if_neg h1']
  have wn : ν' 46 (ν' 47 n).toNat = (d : Int) := by rw [f47, if_pos rfl, Int.toNat_natCast, f46, if_pos rfl]
  refine ⟨by omega, ⟨by rw [← hν, sM_s], ?_, fun i hi => ?_, fun q hq hn => ?_, fun i j hij hj => ?_, fun i hi => ?_⟩, fun i hi => ?_, ⟨by omega, fun q hq hn => ?_, fun i hi => ?_, ?_⟩⟩
  · have e : cnt isNo (ν' 46) 60 = cnt isNo (fun j => if j = p then (d : Int) else ν 46 j) 60 := cnt_congr 60 (fun j _ => f46 j)
    rw [e, cnt_upd, if_pos hp, hf, isNo_y, isNo_n (by omega)]
    show ((n + 1 : Nat) : Int) + (cnt isNo (ν 46) 60 + (0 - 1)) = 60
    omega
  · by_cases c : i = n
    · exact ⟨p, d, hp, by rw [f47, if_pos c], by rw [f46, if_pos rfl], hl⟩
    · obtain ⟨p', d', h1, h1', h2, h3, h4⟩ := v i (by omega)
      exact ⟨p', d', h1, by rw [f47, if_neg c]; exact h2, by rw [f46, if_neg h1']; exact h3, h4⟩
  · rw [f46] at hn
    by_cases c : q = p
    · exact ⟨n, by omega, by rw [f47, if_pos rfl, c]⟩
    · rw [if_neg c] at hn
      obtain ⟨i, h1, h2⟩ := b4 q hq hn
      exact ⟨i, by omega, by rw [f47, if_neg (by omega)]; exact h2⟩
  · by_cases c : j = n
    · rw [c, wn]
      by_cases c2 : i = n
      · rw [c2, wn]; exact Int.le_refl _
      · rw [w i (by omega)]; exact hm i (by omega)
    · rw [w i (by omega), w j (by omega)]; exact b5 i j hij (by omega)
  · by_cases c : i = n
    · rw [c, wn]; omega
    · rw [w i (by omega)]; exact b6 i (by omega)
  · by_cases c : i = n
    · rw [c, wn]; exact hd.2
    · rw [w i (by omega)]; exact hU i (by omega)
  · rw [f46, if_neg (fun e => hn (by rw [e]; exact hf))]
  · rw [f47, if_neg (by omega)]
  · rw [← hν]
    exact fw_sM (fw_sM (fw_sM fw_rf (Or.inl rfl)) (Or.inr (Or.inl rfl))) (Or.inr (Or.inr ⟨rfl, rfl⟩))
theorem UB_all {O : Nat → Prop} {s : Nat} {ν : Mm} {n : Nat} {D : Int} (hB : BI O s ν n) (hU : UB D ν n) {p : Nat} (hp : p < 60) (hn : ν 46 p ≠ -1) : ν 46 p ≤ D + 1 := by
  obtain ⟨i, h1, h2⟩ := hB.2.2.2.1 p hp hn
  have := hU i h1
  rw [h2, Int.toNat_natCast] at this
  exact this
theorem opC_f {l0 : Nat} (hk : kD l0 = (10, 9)) {ν ν' : Mm} (h : fw fW ν ν') (p : Nat) : opC l0 ν' p ↔ opC l0 ν p := by
  have hl := (cel60 hk).2.2.2
  unfold opC
  rw [h (l0 + 1) p (by unfold fW; omega)]
/-- one place more is looked at, from a place D off -/
theorem rchC {l0 : Nat} (hk : kD l0 = (10, 9)) {O : Nat → Prop} {s : Nat} {ν : Mm} {n D v : Nat} (hO : ∀ p, opC l0 ν p ↔ O p) (hB : BI O s ν n) (hU : UB (D : Int) ν n) (hv : lv O s D v) (hDn : D + 1 ≤ n) {a : Int} (ha : ∀ p : Nat, a = (p : Int) → adj v p) :
    ∃ ν' n', X9_reach l0 a ((D + 1 : Nat) : Int) ν = some (0, ν') ∧ BI O s ν' n' ∧ UB (D : Int) ν' n' ∧ Ex ν ν' n n' ∧ ∀ p : Nat, a = (p : Int) → O p → ν' 46 p ≠ -1 ∧ ν' 46 p ≤ (D : Int) + 1 := by
  by_cases c : ∃ p : Nat, a = (p : Int) ∧ opC l0 ν p
  · obtain ⟨p, rfl, hop⟩ := c
    have hp : p < 60 := hop.1
    have e : X9_reach l0 (p : Int) ((D + 1 : Nat) : Int) ν = if ν 46 p = -1 then (if 60 ≤ (ν 45 2) then (some (0, ν)) else (stA ν 46 (p : Int) ((D + 1 : Nat) : Int) fun μ9 => stA μ9 47 (μ9 45 2) (p : Int) fun μ11 => sF μ11 45 2 (iA (μ11 45 2) 1) fun μ13 => some (0, μ13))) else some (0, ν) := by
      unfold X9_reach
      rw [opC_y hk hop, bd_some, if_neg (by decide)]
      unfold ldA
      rw [if_pos (by show (0 : Int) ≤ (p : Int) ∧ (p : Int) < 60; omega), Int.toNat_natCast]
    rw [e]
    by_cases c2 : ν 46 p = -1
    · obtain ⟨h60, g1, g2, g3⟩ := BI_add (d := D + 1) hB hU hp c2 ⟨(hO p).mp hop, v, hv, ha p rfl⟩ (by omega) (fun i hi => by have := hU i hi; omega) hDn
      refine ⟨_, n + 1, ?_, g1, g2, g3, fun p' e' _ => ?_⟩
      · rw [if_pos c2, hB.1, if_neg (by omega)]
        unfold stA sF
        rw [if_pos (by show (0 : Int) ≤ (p : Int) ∧ (p : Int) < 60; omega), Int.toNat_natCast]
        dsimp only
        rw [sM_a (by decide), hB.1, if_pos (by show (0 : Int) ≤ (n : Int) ∧ (n : Int) < 60; omega), Int.toNat_natCast, sM_a (by decide), sM_a (by decide), hB.1, iA_nat (by omega)]
      · have e2 : p' = p := by omega
        rw [e2, sM_a (by decide), sM_a (by decide), sM_s]
        exact ⟨by omega, by omega⟩
    · refine ⟨ν, n, by rw [if_neg c2], hB, hU, Ex_rf, fun p' e' _ => ?_⟩
      have e2 : p' = p := by omega
      rw [e2]
      exact ⟨c2, UB_all hB hU hp c2⟩
  · refine ⟨ν, n, ?_, hB, hU, Ex_rf, fun p e h => absurd ⟨p, e, (hO p).mpr h⟩ c⟩
    unfold X9_reach
    rw [opC_n hk (fun p e h => c ⟨p, e, h⟩), bd_some, if_pos rfl]
def PrB (O : Nat → Prop) (ν : Mm) (h : Nat) : Prop := ∀ i, i < h → ∀ p, p < 60 → O p → adj (ν 47 i).toNat p → ν 46 p ≠ -1 ∧ ν 46 p ≤ ν 46 (ν 47 i).toNat + 1
theorem stp_eq {ν : Mm} {p : Nat} (hp : p < 60) : X9_stepsTo (p : Int) ν = some (ν 46 p, ν) := by
  unfold X9_stepsTo ldA
  rw [if_neg (by omega), if_neg (by omega), if_pos (by show (0 : Int) ≤ (p : Int) ∧ (p : Int) < 60; omega), Int.toNat_natCast]
theorem stp_no {ν : Mm} {a : Int} (h : ¬ (0 ≤ a ∧ a < 60)) : X9_stepsTo a ν = some (-1, ν) := by
  unfold X9_stepsTo
  by_cases c : a < 0
  · rw [if_pos c]
  · rw [if_neg c, if_pos (by omega)]
theorem meaC_L {l0 : Nat} (hk : kD l0 = (10, 9)) {O : Nat → Prop} {s : Nat} : ∀ (r h fuel n : Nat) (ν : Mm), h + r = 60 → r < fuel → (∀ p, opC l0 ν p ↔ O p) → (∀ p, O p → p < 60) → BI O s ν n → h ≤ n → (h < n → UB (ν 46 (ν 47 h).toNat) ν n) → PrB O ν h → ∃ ν' n', X9_measure_L35 l0 fuel (h : Int) ν = some (0, ν') ∧ BI O s ν' n' ∧ PrB O ν' n' ∧ Ex ν ν' n n' := by
  intro r
  induction r with
  | zero =>
    intro h fuel n ν hr hf hO hO6 hB hh hU hP
    obtain ⟨g, rfl, _⟩ := lt_fuel hf
    have hb := cnt_b (P := isNo) (f := ν 46) 60
    have h2 := hB.2.1
    have en : n = h := by omega
    refine ⟨ν, n, ?_, hB, by rw [en]; exact hP, Ex_rf⟩
    show (if (ν 45 2) ≤ (h : Int) then _ else _) = _
    rw [hB.1, if_pos (by omega)]
  | succ r ih =>
    intro h fuel n ν hr hf hO hO6 hB hh hU hP
    obtain ⟨g, rfl, _⟩ := lt_fuel hf
    by_cases c : h = n
    · refine ⟨ν, n, ?_, hB, by rw [← c]; exact hP, Ex_rf⟩
      show (if (ν 45 2) ≤ (h : Int) then _ else _) = _
      rw [hB.1, if_pos (by omega)]
    · have hlt : h < n := by omega
      obtain ⟨v, D, hv, e47, e46, hlv⟩ := hB.2.2.1 h hlt
      have hU' : UB (D : Int) ν n := by
        have := hU hlt
        rw [e47, Int.toNat_natCast, e46] at this
        exact this
      have a1 : ∀ p : Nat, (v : Int) - 10 = (p : Int) → adj v p := fun p e => Or.inr (Or.inl (by omega))
      have a2 : ∀ p : Nat, (v : Int) - 1 = (p : Int) → adj v p := fun p e => Or.inr (Or.inr (Or.inr (by omega)))
      have a3 : ∀ p : Nat, (v : Int) + 1 = (p : Int) → adj v p := fun p e => Or.inr (Or.inr (Or.inl (by omega)))
      have a4 : ∀ p : Nat, (v : Int) + 10 = (p : Int) → adj v p := fun p e => Or.inl (by omega)
      have hDh : (D : Int) ≤ (h : Int) := by
        have := hB.2.2.2.2.2 h hlt
        rw [e47, Int.toNat_natCast, e46] at this
        exact this
      obtain ⟨ν1, n1, r1, b1, u1, x1, p1⟩ := rchC hk hO hB hU' hlv (by omega) a1
      have hO1 : ∀ p, opC l0 ν1 p ↔ O p := fun p => (opC_f hk x1.2.2.2 p).trans (hO p)
      obtain ⟨ν2, n2, r2, b2, u2, x2, p2⟩ := rchC hk hO1 b1 u1 hlv (by have := x1.1; omega) a2
      have hO2 : ∀ p, opC l0 ν2 p ↔ O p := fun p => (opC_f hk x2.2.2.2 p).trans (hO1 p)
      obtain ⟨ν3, n3, r3, b3, u3, x3, p3⟩ := rchC hk hO2 b2 u2 hlv (by have := x1.1; have := x2.1; omega) a3
      have hO3 : ∀ p, opC l0 ν3 p ↔ O p := fun p => (opC_f hk x3.2.2.2 p).trans (hO2 p)
      obtain ⟨ν4, n4, r4, b4, u4, x4, p4⟩ := rchC hk hO3 b3 u3 hlv (by have := x1.1; have := x2.1; have := x3.1; omega) a4
      have hO4 : ∀ p, opC l0 ν4 p ↔ O p := fun p => (opC_f hk x4.2.2.2 p).trans (hO3 p)
      have x34 := Ex_tr x3 x4
      have x24 := Ex_tr x2 x34
      have x14 := Ex_tr x1 x24
      have e47' : ν4 47 h = (v : Int) := (x14.2.2.1 h hlt).trans e47
      have e46' : ν4 46 v = (D : Int) := (x14.2.1 v hv (by rw [e46]; omega)).trans e46
      have up : ∀ {νa : Mm} {na : Nat} {p : Nat}, p < 60 → Ex νa ν4 na n4 → (νa 46 p ≠ -1 ∧ νa 46 p ≤ (D : Int) + 1) → ν4 46 p ≠ -1 ∧ ν4 46 p ≤ (D : Int) + 1 := fun hp x z => by
        rw [x.2.1 _ hp z.1]; exact z
      have hP4 : PrB O ν4 (h + 1) := by
        intro i hi p hp hop had
        by_cases ci : i = h
        · rw [ci, e47', Int.toNat_natCast] at had ⊢
          rw [e46']
          rcases had with k | k | k | k
          · exact p4 p (by omega) hop
          · exact up hp x24 (p1 p (by omega) hop)
          · exact up hp x4 (p3 p (by omega) hop)
          · exact up hp x34 (p2 p (by omega) hop)
        · have hi' : i < h := by omega
          have ei := x14.2.2.1 i (by omega)
          obtain ⟨v', D', hv', e47i, e46i, _⟩ := hB.2.2.1 i (by omega)
          rw [ei] at had ⊢
          have z := hP i hi' p hp hop had
          have es : ν4 46 (ν 47 i).toNat = ν 46 (ν 47 i).toNat := by
            rw [e47i, Int.toNat_natCast]
            exact x14.2.1 v' hv' (by rw [e46i]; omega)
          rw [es, x14.2.1 p hp z.1]
          exact z
      obtain ⟨ν5, n5, r5, b5, pr5, x5⟩ := ih (h + 1) g n4 ν4 (by omega) (by omega) hO4 hO6 b4 (by have := x14.1; omega) (fun hlt4 => fun i hi => by
        have z1 := u4 i hi
        have z2 := b4.2.2.2.2.1 h (h + 1) (by omega) hlt4
        rw [e47', Int.toNat_natCast, e46'] at z2
        omega) hP4
      refine ⟨ν5, n5, ?_, b5, pr5, Ex_tr x14 x5⟩
      rw [← r5]
      have hb := cnt_b (P := isNo) (f := ν 46) 60
      have h2 := hB.2.1
      have eD : iA (D : Int) 1 = ((D + 1 : Nat) : Int) := iA_nat (by omega)
      show (if (ν 45 2) ≤ (h : Int) then _ else _) = _
      rw [hB.1, if_neg (by omega), if_neg (by omega)]
      unfold ldA
      rw [if_pos (by show (0 : Int) ≤ (h : Int) ∧ (h : Int) < 60; omega), Int.toNat_natCast, e47]
      dsimp only
      rw [stp_eq hv, bd_some, e46, eD, iS_id (by omega) (by omega), r1, bd_some, iS_id (by omega) (by omega), r2, bd_some, iA_id (by omega) (by omega), r3, bd_some, iA_id (by omega) (by omega), r4, bd_some, iA_nat (by omega)]
theorem mea_2 {l0 : Nat} {a : Int} (K : Mm → Rs) : ∀ (d i fuel : Nat) (ν : Mm), i + d = 60 → d < fuel → ∃ ν', X9_measure_L2 l0 a K fuel (i : Int) ν = K ν' ∧ (∀ k j, k ≠ 46 → ν' k j = ν k j) ∧ (∀ j, j < i → ν' 46 j = ν 46 j) ∧ ∀ j, i ≤ j → j < 60 → ν' 46 j = -1 := by
  intro d
  induction d with
  | zero =>
    intro i fuel ν hi hf
    obtain ⟨g, rfl, _⟩ := lt_fuel hf
    refine ⟨ν, ?_, fun _ _ _ => rfl, fun _ _ => rfl, fun j h1 h2 => absurd h1 (by omega)⟩
    show (if 60 ≤ (i : Int) then _ else _) = _
    rw [if_pos (by omega)]
  | succ d ih =>
    intro i fuel ν hi hf
    obtain ⟨g, rfl, _⟩ := lt_fuel hf
    obtain ⟨ν', r1, r3, r4, r5⟩ := ih (i + 1) g (sM ν 46 i (-1)) (by omega) (by omega)
    refine ⟨ν', ?_, fun k j hk => by rw [r3 k j hk, sM_a hk], fun j hj => by rw [r4 j (by omega), sM_j (by omega)], fun j h1 h2 => ?_⟩
    · rw [← r1]
      show (if 60 ≤ (i : Int) then _ else _) = _
      rw [if_neg (by omega)]
      unfold stA
      rw [if_pos (by show (0 : Int) ≤ (i : Int) ∧ (i : Int) < 60; omega), Int.toNat_natCast, iA_nat (by omega)]
    · by_cases c : j = i
      · rw [c, r4 i (by omega), sM_s]
      · exact r5 j (by omega) h2
theorem BI_0 {O : Nat → Prop} {s : Nat} {ν : Mm} (h : ν 45 2 = 0) (h2 : ∀ j, j < 60 → ν 46 j = -1) : BI O s ν 0 := by
  refine ⟨h, ?_, fun i hi => absurd hi (by omega), fun p hp hn => absurd (h2 p hp) hn, fun i j _ hj => absurd hj (by omega), fun i hi => absurd hi (by omega)⟩
  have e : cnt isNo (ν 46) 60 = cnt isNo (fun _ => -1) 60 := cnt_congr 60 (fun j hj => h2 j hj)
  rw [e]
  decide
/-- WAYS from a place of the CELLAR l0: how far each is -/
theorem meaC2 {l0 : Nat} (hk : kD l0 = (10, 9)) {μ : Mm} {s : Nat} (hs : opC l0 μ s) : ∃ ν, X9_measure l0 (s : Int) μ = some (0, ν) ∧ fw fW μ ν ∧ ds (opC l0 μ) s (ν 46) ∧ ∀ p, p < 60 → ν 46 p ≤ 59 := by
  obtain ⟨ν0, e0, o0, _, m0⟩ := mea_2 (l0 := l0) (a := (s : Int)) (fun μ4 => sF μ4 45 2 0 fun μ5 => bd (X9_reach l0 (s : Int) 0 μ5) fun v6 μ7 => X9_measure_L35 l0 FU 0 μ7) 60 0 FU μ rfl (by decide)
  have hs6 := hs.1
  have hB0 : BI (opC l0 μ) s (sM ν0 45 2 0) 0 := BI_0 (sM_s _ _ _ _) (fun j hj => by rw [sM_a (by decide)]; exact m0 j (Nat.zero_le _) hj)
  have f0 : fw fW μ (sM ν0 45 2 0) := fun k j hn => by
    have : sM ν0 45 2 0 k j = ν0 k j := by unfold sM; rw [if_neg (fun z => hn (Or.inr (Or.inr z)))]
    rw [this, o0 k j (fun z => hn (Or.inl z))]
  have hO0 : ∀ p, opC l0 (sM ν0 45 2 0) p ↔ opC l0 μ p := opC_f hk f0
  have hU0 : UB ((0 : Nat) : Int) (sM ν0 45 2 0) 0 := fun i hi => absurd hi (by omega)
  obtain ⟨h60, b1, u1, x1⟩ := BI_add (d := 0) hB0 hU0 hs6 (by rw [sM_a (by decide)]; exact m0 s (Nat.zero_le _) hs6) (show lv (opC l0 μ) s 0 s from rfl) ⟨Int.le_refl _, by decide⟩ (fun i hi => absurd hi (by omega)) (Nat.le_refl _)
  have er : X9_reach l0 (s : Int) 0 (sM ν0 45 2 0) = some (0, sM (sM (sM (sM ν0 45 2 0) 46 s ((0 : Nat) : Int)) 47 0 (s : Int)) 45 2 ((0 + 1 : Nat) : Int)) := by
    unfold X9_reach
    rw [opC_y hk ((hO0 s).mpr hs), bd_some, if_neg (by decide)]
    unfold ldA stA sF
    rw [if_pos (by show (0 : Int) ≤ (s : Int) ∧ (s : Int) < 60; omega), Int.toNat_natCast]
    dsimp only
    rw [sM_a (show (46 : Nat) ≠ 45 by decide), m0 s (Nat.zero_le _) hs6, if_pos rfl, sM_s, if_neg (by decide), if_pos (by show (0 : Int) ≤ (s : Int) ∧ (s : Int) < 60; omega)]
    have q : sM (sM ν0 45 2 0) 46 s 0 45 2 = 0 := by rw [sM_a (by decide), sM_s]
    rw [q, if_pos (by decide)]
    have q2 : sM (sM (sM ν0 45 2 0) 46 s 0) 47 0 (s : Int) 45 2 = 0 := by rw [sM_a (by decide), q]
    have q3 : sM (sM (sM ν0 45 2 0) 46 s 0) 47 (0 : Int).toNat (s : Int) 45 2 = 0 := q2
    rw [q3]
    rfl
  have hO1 := fun p => (opC_f hk x1.2.2.2 p).trans (hO0 p)
  have w0 : sM (sM (sM (sM ν0 45 2 0) 46 s ((0 : Nat) : Int)) 47 0 (s : Int)) 45 2 ((0 + 1 : Nat) : Int) 47 0 = (s : Int) := by rw [sM_a (by decide), sM_s]
  have w1 : sM (sM (sM (sM ν0 45 2 0) 46 s ((0 : Nat) : Int)) 47 0 (s : Int)) 45 2 ((0 + 1 : Nat) : Int) 46 s = 0 := by rw [sM_a (by decide), sM_a (by decide), sM_s]; rfl
  obtain ⟨ν', n', r', b', p', x'⟩ := meaC_L hk (O := opC l0 μ) (s := s) 60 0 FU 1 _ rfl (by decide) hO1 (fun p h => h.1) b1 (by decide) (fun _ => by
    rw [w0, Int.toNat_natCast, w1]; exact u1) (fun i hi => absurd hi (by omega))
  refine ⟨ν', ?_, fw_tr f0 (fw_tr x1.2.2.2 x'.2.2.2), ?_, fun p hp => ?_⟩
  · unfold X9_measure
    have e0' := e0
    rw [show (((0 : Nat) : Int)) = 0 from rfl] at e0'
    rw [e0', sF_r, er, bd_some]
    exact r'
  · have hz : ∀ m p, p < 60 → lv (opC l0 μ) s m p → ν' 46 p ≠ -1 ∧ ν' 46 p ≤ (m : Int) := by
      intro m
      induction m with
      | zero =>
        intro p hp h
        have e : p = s := h
        rw [e, x'.2.1 s hs6 (by rw [w1]; decide), w1]
        exact ⟨by decide, by decide⟩
      | succ m ih =>
        intro p hp h
        obtain ⟨hop, q, hq, had⟩ := h
        have hq6 : q < 60 := by
          cases m with
          | zero => have e : q = s := hq; omega
          | succ m => exact hq.1.1
        obtain ⟨z1, z2⟩ := ih q hq6 hq
        obtain ⟨i, i1, i2⟩ := b'.2.2.2.1 q hq6 z1
        have z3 := p' i i1 p hp hop (by rw [i2, Int.toNat_natCast]; exact had)
        rw [i2, Int.toNat_natCast] at z3
        exact ⟨z3.1, by omega⟩
    intro p hp
    by_cases c : ν' 46 p = -1
    · exact Or.inl ⟨c, fun n h => (hz n p hp h).1 c⟩
    · obtain ⟨i, i1, i2⟩ := b'.2.2.2.1 p hp c
      obtain ⟨p2, d, h1, h2, h3, h4⟩ := b'.2.2.1 i i1
      have e : p2 = p := by omega
      rw [e] at h3 h4
      exact Or.inr ⟨d, h3, h4, fun m hm h => by have := (hz m p hp h).2; omega⟩
  · by_cases c : ν' 46 p = -1
    · rw [c]; decide
    · obtain ⟨i, i1, i2⟩ := b'.2.2.2.1 p hp c
      have z := b'.2.2.2.2.2 i i1
      rw [i2, Int.toNat_natCast] at z
      have z2 := b'.2.1
      have z3 := cnt_b (P := isNo) (f := ν' 46) 60
      omega
theorem meaC {l0 : Nat} (hk : kD l0 = (10, 9)) {μ : Mm} {s : Nat} (hs : opC l0 μ s) : ∃ ν, X9_measure l0 (s : Int) μ = some (0, ν) ∧ fw fW μ ν ∧ ds (opC l0 μ) s (ν 46) := by
  obtain ⟨ν, h1, h2, h3, _⟩ := meaC2 hk hs
  exact ⟨ν, h1, h2, h3⟩
theorem ds_hi {l0 : Nat} (hk : kD l0 = (10, 9)) {μ : Mm} {s : Nat} (hs : opC l0 μ s) {f : Nat → Int} (hd : ds (opC l0 μ) s f) {p : Nat} (hp : p < 60) : f p ≤ 59 := by
  obtain ⟨ν, _, _, h3, h4⟩ := meaC2 hk hs
  rw [ds_u hd h3 hp]
  exact h4 p hp
/-- from no open place there is no WAY -/
theorem meaC_no {l0 : Nat} (hk : kD l0 = (10, 9)) {μ : Mm} {a : Int} (hs : ∀ p : Nat, a = (p : Int) → ¬ opC l0 μ p) : ∃ ν, X9_measure l0 a μ = some (0, ν) ∧ fw fW μ ν ∧ ∀ p, p < 60 → ν 46 p = -1 := by
  obtain ⟨ν0, e0, o0, _, m0⟩ := mea_2 (l0 := l0) (a := a) (fun μ4 => sF μ4 45 2 0 fun μ5 => bd (X9_reach l0 a 0 μ5) fun v6 μ7 => X9_measure_L35 l0 FU 0 μ7) 60 0 FU μ rfl (by decide)
  have f0 : fw fW μ (sM ν0 45 2 0) := fun k j hn => by
    have : sM ν0 45 2 0 k j = ν0 k j := by unfold sM; rw [if_neg (fun z => hn (Or.inr (Or.inr z)))]
    rw [this, o0 k j (fun z => hn (Or.inl z))]
  have hO0 : ∀ p, opC l0 (sM ν0 45 2 0) p ↔ opC l0 μ p := opC_f hk f0
  refine ⟨sM ν0 45 2 0, ?_, f0, fun p hp => by rw [sM_a (by decide)]; exact m0 p (Nat.zero_le _) hp⟩
  unfold X9_measure
  have e0' := e0
  rw [show (((0 : Nat) : Int)) = 0 from rfl] at e0'
  have er : X9_reach l0 a 0 (sM ν0 45 2 0) = some (0, sM ν0 45 2 0) := by
    unfold X9_reach
    rw [opC_n hk (fun p e h => hs p e ((hO0 p).mp h)), bd_some, if_pos rfl]
  rw [e0', sF_r, er, bd_some]
  obtain ⟨g, eg, _⟩ := lt_fuel (n := FU) (d := 0) (by decide)
  rw [eg]
  show (if (sM ν0 45 2 0 45 2) ≤ (0 : Int) then _ else _) = _
  rw [sM_s, if_pos (by decide)]
/-! WAYS in the reference: by rounds -/
theorem isPl_n2 {μ : Mm} (h6 : μ 70 23 ≤ 6) {a : Int} (ha : rI a) (h : ∀ p : Nat, a = (p : Int) → ¬ (p < 60 ∧ isP μ p)) : X11_isPlace a μ = some (0, μ) := by
  by_cases c : a < 0
  · unfold X11_isPlace
    rw [if_pos c]
  · by_cases c2 : 60 ≤ a
    · unfold X11_isPlace
      have h10 := (iD_10 a ha).1
      rw [if_neg c, if_pos (by omega)]
    · obtain ⟨p, rfl⟩ : ∃ p : Nat, a = (p : Int) := ⟨a.toNat, by omega⟩
      exact isPl_n (by omega) (fun z => h p rfl ⟨by omega, z⟩)
/-- what looking at one place does -/
def RE (O : Nat → Prop) (a v : Int) (ν ν' : Mm) : Prop := (∀ k, k ≠ 87 → ν' k = ν k) ∧ (∀ p, p < 60 → (ν 87 p ≠ -1 → ν' 87 p = ν 87 p) ∧ (ν 87 p = -1 → (a = (p : Int) → O p → ν' 87 p = v) ∧ (¬ (a = (p : Int) ∧ O p) → ν' 87 p = -1)))
theorem opM_f {ν ν' : Mm} (h : ∀ k, k ≠ 87 → ν' k = ν k) (p : Nat) : opM ν' p ↔ opM ν p := by
  unfold opM isP
  rw [h 70 (by decide), h 82 (by decide)]
theorem rchM {O : Nat → Prop} {ν : Mm} (h6 : ν 70 23 ≤ 6) (hO : ∀ p, opM ν p ↔ O p) {a v : Int} (ha : rI a) : ∃ ν', X11_reach a v ν = some (0, ν') ∧ RE O a v ν ν' := by
  by_cases c : ∃ p : Nat, a = (p : Int) ∧ p < 60 ∧ isP ν p
  · obtain ⟨p, rfl, hp, ip⟩ := c
    have e : X11_reach (p : Int) v ν = if ν 82 p = 1 then some (0, ν) else (if ν 87 p = -1 then some (0, sM ν 87 p v) else some (0, ν)) := by
      unfold X11_reach
      rw [isPl_y hp ip, bd_some, if_neg (by decide)]
      unfold ldA stA
      rw [if_pos (by show (0 : Int) ≤ (p : Int) ∧ (p : Int) < 60; omega), Int.toNat_natCast]
      dsimp only
      by_cases c1 : ν 82 p = 1
      · rw [if_pos c1, if_pos c1]
      · rw [if_neg c1, if_neg c1, if_pos (by show (0 : Int) ≤ (p : Int) ∧ (p : Int) < 60; omega)]
        by_cases c2 : ν 87 p = -1
        · rw [if_pos c2, if_pos c2, if_pos (by show (0 : Int) ≤ (p : Int) ∧ (p : Int) < 60; omega)]
        · rw [if_neg c2, if_neg c2]
    rw [e]
    by_cases c1 : ν 82 p = 1
    · refine ⟨ν, by rw [if_pos c1], fun _ _ => rfl, fun q hq => ⟨fun _ => rfl, fun z => ⟨fun e2 ho => ?_, fun _ => z⟩⟩⟩
      have e3 : q = p := by omega
      rw [e3] at ho
      exact absurd c1 ((hO p).mpr ho).2.2
    · rw [if_neg c1]
      by_cases c2 : ν 87 p = -1
      · refine ⟨sM ν 87 p v, by rw [if_pos c2], fun k hk => by funext j; exact sM_a hk, fun q hq => ⟨fun z => ?_, fun z => ⟨fun e2 _ => ?_, fun n => ?_⟩⟩⟩
        · rw [sM_if, if_neg (fun e3 => z (by rw [e3]; exact c2))]
        · rw [sM_if, if_pos (by omega)]
        · have e3 : q ≠ p := fun e3 => n ⟨by rw [e3], (hO q).mp (by rw [e3]; exact ⟨hp, ip, c1⟩)⟩
          rw [sM_if, if_neg e3]; exact z
      · refine ⟨ν, by rw [if_neg c2], fun _ _ => rfl, fun q hq => ⟨fun _ => rfl, fun z => ⟨fun e2 _ => ?_, fun _ => z⟩⟩⟩
        have e3 : q = p := by omega
        rw [e3] at z
        exact absurd z c2
  · refine ⟨ν, ?_, fun _ _ => rfl, fun q hq => ⟨fun _ => rfl, fun z => ⟨fun e2 ho => ?_, fun _ => z⟩⟩⟩
    · unfold X11_reach
      rw [isPl_n2 h6 ha (fun p e h => c ⟨p, e, h.1, h.2⟩), bd_some, if_pos rfl]
    · have := (hO q).mpr ho
      exact absurd ⟨q, e2, this.1, this.2.1⟩ c
/-- the round n, over the places ahead of k -/
def SI (O : Nat → Prop) (n k : Nat) (ν ν' : Mm) : Prop := (∀ c, c ≠ 87 → ν' c = ν c) ∧ (∀ p, p < 60 → (ν 87 p ≠ -1 → ν' 87 p = ν 87 p) ∧ (ν 87 p = -1 → ((O p ∧ ∃ q, q < k ∧ ν 87 q = (n : Int) ∧ adj q p) → ν' 87 p = ((n + 1 : Nat) : Int)) ∧ (¬ (O p ∧ ∃ q, q < k ∧ ν 87 q = (n : Int) ∧ adj q p) → ν' 87 p = -1)))
def fS (n k : Nat) (f : Int) (ν : Mm) : Prop := (f = 1 ∧ ∃ q, q < k ∧ ν 87 q = (n : Int)) ∨ (f = 0 ∧ ∀ q, q < k → ν 87 q ≠ (n : Int))
theorem SI_0 {O : Nat → Prop} {n : Nat} {ν : Mm} : SI O n 0 ν ν :=
  ⟨fun _ _ => rfl, fun p hp => ⟨fun _ => rfl, fun z => ⟨fun h => h.2.elim (fun q y => absurd y.1 (by omega)), fun _ => z⟩⟩⟩
/-- four places are looked at -/
theorem four4 {O : Nat → Prop} {a1 a2 a3 a4 v : Int} (hv : v ≠ -1) {ν ν1 ν2 ν3 ν4 : Mm} (h1 : RE O a1 v ν ν1) (h2 : RE O a2 v ν1 ν2) (h3 : RE O a3 v ν2 ν3) (h4 : RE O a4 v ν3 ν4) : (∀ c, c ≠ 87 → ν4 c = ν c) ∧ ∀ p, p < 60 → (ν 87 p ≠ -1 → ν4 87 p = ν 87 p) ∧ (ν 87 p = -1 → ((O p ∧ (a1 = (p : Int) ∨ a2 = (p : Int) ∨ a3 = (p : Int) ∨ a4 = (p : Int))) → ν4 87 p = v) ∧ (¬ (O p ∧ (a1 = (p : Int) ∨ a2 = (p : Int) ∨ a3 = (p : Int) ∨ a4 = (p : Int))) → ν4 87 p = -1)) := by
  refine ⟨fun c hc => by rw [h4.1 c hc, h3.1 c hc, h2.1 c hc, h1.1 c hc], fun p hp => ?_⟩
  have k1 := h1.2 p hp
  have k2 := h2.2 p hp
  have k3 := h3.2 p hp
  have k4 := h4.2 p hp
  have st : ∀ {x : Mm} , x 87 p = v → x 87 p ≠ -1 := fun e => by rw [e]; exact hv
  constructor
  · intro z
    have e1 := k1.1 z
    have e2 := k2.1 (by rw [e1]; exact z)
    have e3 := k3.1 (by rw [e2, e1]; exact z)
    have e4 := k4.1 (by rw [e3, e2, e1]; exact z)
    rw [e4, e3, e2, e1]
  · intro z
    by_cases o : O p
    · by_cases c1 : a1 = (p : Int)
      · have e1 := (k1.2 z).1 c1 o
        have e2 := k2.1 (st e1)
        have e3 := k3.1 (by rw [e2]; exact st e1)
        have e4 := k4.1 (by rw [e3, e2]; exact st e1)
        exact ⟨fun _ => by rw [e4, e3, e2, e1], fun n => absurd ⟨o, Or.inl c1⟩ n⟩
      · have e1 := (k1.2 z).2 (fun y => c1 y.1)
        by_cases c2 : a2 = (p : Int)
        · have e2 := (k2.2 e1).1 c2 o
          have e3 := k3.1 (st e2)
          have e4 := k4.1 (by rw [e3]; exact st e2)
          exact ⟨fun _ => by rw [e4, e3, e2], fun n => absurd ⟨o, Or.inr (Or.inl c2)⟩ n⟩
        · have e2 := (k2.2 e1).2 (fun y => c2 y.1)
          by_cases c3 : a3 = (p : Int)
          · have e3 := (k3.2 e2).1 c3 o
            have e4 := k4.1 (st e3)
            exact ⟨fun _ => by rw [e4, e3], fun n => absurd ⟨o, Or.inr (Or.inr (Or.inl c3))⟩ n⟩
          · have e3 := (k3.2 e2).2 (fun y => c3 y.1)
            by_cases c4 : a4 = (p : Int)
            · have e4 := (k4.2 e3).1 c4 o
              exact ⟨fun _ => e4, fun n => absurd ⟨o, Or.inr (Or.inr (Or.inr c4))⟩ n⟩
            · have e4 := (k4.2 e3).2 (fun y => c4 y.1)
              refine ⟨fun y => ?_, fun _ => e4⟩
              rcases y.2 with y | y | y | y
              · exact absurd y c1
              · exact absurd y c2
              · exact absurd y c3
              · exact absurd y c4
    · have e1 := (k1.2 z).2 (fun y => o y.2)
      have e2 := (k2.2 e1).2 (fun y => o y.2)
      have e3 := (k3.2 e2).2 (fun y => o y.2)
      have e4 := (k4.2 e3).2 (fun y => o y.2)
      exact ⟨fun y => absurd y.1 o, fun _ => e4⟩
theorem J104_eq {K : Int → Int → Mm → Rs} {l2 l3 l4 s1 : Int} {μ ν3 ν4 : Mm} {s2 : Int} (h3 : X11_reach s1 (iA l3 1) μ = some (0, ν3)) (hs : s2 = if 9 ≤ (iR l4 10) then -1 else iA l4 1) (h4 : X11_reach s2 (iA l3 1) ν3 = some (0, ν4)) : X11_spread_J104 K l2 l3 l4 s1 μ = K l2 (iA l4 1) ν4 := by
  unfold X11_spread_J104
  rw [h3, bd_some]
  by_cases c : 9 ≤ (iR l4 10)
  · rw [if_pos c] at hs ⊢
    rw [← hs, h4, bd_some]
  · rw [if_neg c] at hs ⊢
    rw [← hs, h4, bd_some]
theorem iA_n2 {p : Nat} (h : p ≤ 2000000) : iA (p : Int) 1 = ((p + 1 : Nat) : Int) := by
  rw [iA_id (by omega) (by omega)]
  rfl
theorem L43_p {O : Nat → Prop} {n : Nat} (hn : n ≤ 1000000) {K : Int → Mm → Rs} {ν : Mm} (h6 : ν 70 23 ≤ 6) (h9 : ν 70 24 ≤ 9) (hO : ∀ p, opM ν p ↔ O p) (hq8 : ∀ q, q < 60 → ν 87 q = (n : Int) → O q) {q : Int × Mm} : ∀ (fuel k : Nat) (l2 : Int) (ν' : Mm), X11_spread_L43 (n : Int) K fuel l2 (k : Int) ν' = some q → k ≤ 60 → SI O n k ν ν' → fS n k l2 ν → ∃ f ν'', K f ν'' = some q ∧ SI O n 60 ν ν'' ∧ fS n 60 f ν := by
  intro fuel
  induction fuel with
  | zero => intro k l2 ν' e; cases e
  | succ fuel ih =>
    intro k l2 ν' e hk hS hF
    have e' : (if 60 ≤ (k : Int) then (K l2 ν') else (ldA ν' 87 (k : Int) fun v10 => if v10 = (n : Int) then (bd (X11_reach (iS (k : Int) 10) (iA (n : Int) 1) ν') fun v13 μ14 => bd (X11_reach (iA (k : Int) 10) (iA (n : Int) 1) μ14) fun v16 μ17 => if (iR (k : Int) 10) ≤ 0 then (X11_spread_J104 (fun w2 w4 μq => X11_spread_L43 (n : Int) K fuel w2 w4 μq) 1 (n : Int) (k : Int) (-1) μ17) else (X11_spread_J104 (fun w2 w4 μq => X11_spread_L43 (n : Int) K fuel w2 w4 μq) 1 (n : Int) (k : Int) (iS (k : Int) 1) μ17)) else (X11_spread_L43 (n : Int) K fuel l2 (iA (k : Int) 1) ν'))) = some q := e
    by_cases c : k = 60
    · rw [if_pos (by omega)] at e'
      subst c
      exact ⟨l2, ν', e', hS, hF⟩
    · have hk6 : k < 60 := by omega
      rw [if_neg (by omega)] at e'
      unfold ldA at e'
      rw [if_pos (by show (0 : Int) ≤ (k : Int) ∧ (k : Int) < 60; omega), Int.toNat_natCast] at e'
      dsimp only at e'
      have hO' : ∀ p, opM ν' p ↔ O p := fun p => (opM_f hS.1 p).trans (hO p)
      have g6 : ν' 70 23 ≤ 6 := by rw [hS.1 70 (by decide)]; exact h6
      have ek : iA (k : Int) 1 = ((k + 1 : Nat) : Int) := iA_nat (by omega)
      have en : iA (n : Int) 1 = ((n + 1 : Nat) : Int) := iA_n2 (by omega)
      have iff : ν' 87 k = (n : Int) ↔ ν 87 k = (n : Int) := by
        have z := hS.2 k hk6
        by_cases y : ν 87 k = -1
        · have z2 := z.2 y
          by_cases x : (O k ∧ ∃ q, q < k ∧ ν 87 q = (n : Int) ∧ adj q k)
          · rw [z2.1 x, y]
            exact ⟨fun w => absurd w (by omega), fun w => absurd w (by omega)⟩
          · rw [z2.2 x, y]
        · rw [z.1 y]
      by_cases c2 : ν' 87 k = (n : Int)
      · have c3 := iff.mp c2
        rw [if_pos c2, en] at e'
        have d10 := iR_10 (k : Int) ⟨by omega, by omega⟩
        have hm : iR (k : Int) 10 = (k : Int) % 10 := d10.2.2.resolve_left (by omega)
        rw [hm, iS_id (a := (k : Int)) (b := 10) (by omega) (by omega), iA_id (a := (k : Int)) (b := 10) (by omega) (by omega), iS_id (a := (k : Int)) (b := 1) (by omega) (by omega)] at e'
        obtain ⟨ν1, r1, s1⟩ := rchM g6 hO' (a := (k : Int) - 10) (v := ((n + 1 : Nat) : Int)) ⟨by omega, by omega⟩
        have hO1 : ∀ p, opM ν1 p ↔ O p := fun p => (opM_f s1.1 p).trans (hO' p)
        have g61 : ν1 70 23 ≤ 6 := by rw [s1.1 70 (by decide)]; exact g6
        obtain ⟨ν2, r2, s2⟩ := rchM g61 hO1 (a := (k : Int) + 10) (v := ((n + 1 : Nat) : Int)) ⟨by omega, by omega⟩
        have hO2 : ∀ p, opM ν2 p ↔ O p := fun p => (opM_f s2.1 p).trans (hO1 p)
        have g62 : ν2 70 23 ≤ 6 := by rw [s2.1 70 (by decide)]; exact g61
        rw [r1, bd_some, r2, bd_some] at e'
        obtain ⟨a3, ha3⟩ : ∃ a3 : Int, a3 = if (k : Int) % 10 ≤ 0 then -1 else (k : Int) - 1 := ⟨_, rfl⟩
        obtain ⟨a4, ha4⟩ : ∃ a4 : Int, a4 = if 9 ≤ (k : Int) % 10 then -1 else (k : Int) + 1 := ⟨_, rfl⟩
        have b3 : rI a3 := by rw [ha3]; unfold rI; split <;> omega
        have b4 : rI a4 := by rw [ha4]; unfold rI; split <;> omega
        obtain ⟨ν3, r3, s3⟩ := rchM g62 hO2 (a := a3) (v := ((n + 1 : Nat) : Int)) b3
        have hO3 : ∀ p, opM ν3 p ↔ O p := fun p => (opM_f s3.1 p).trans (hO2 p)
        have g63 : ν3 70 23 ≤ 6 := by rw [s3.1 70 (by decide)]; exact g62
        obtain ⟨ν4, r4, s4⟩ := rchM g63 hO3 (a := a4) (v := ((n + 1 : Nat) : Int)) b4
        have e4 : X11_spread_L43 (n : Int) K fuel 1 ((k + 1 : Nat) : Int) ν4 = some q := by
          have ej := J104_eq (K := fun w2 w4 μq => X11_spread_L43 (n : Int) K fuel w2 w4 μq) (l2 := 1) (l3 := (n : Int)) (l4 := (k : Int)) (s1 := a3) (μ := ν2) (ν3 := ν3) (ν4 := ν4) (s2 := a4) (by rw [en]; exact r3) (by rw [ha4, hm, ek, ← ek, iA_id (by omega) (by omega)]) (by rw [en]; exact r4)
          rw [ek] at ej
          by_cases c5 : (k : Int) % 10 ≤ 0
          · rw [if_pos c5] at e' ha3
            rw [← ha3, ej] at e'
            exact e'
          · rw [if_neg c5] at e' ha3
            rw [← ha3, ej] at e'
            exact e'
        have hf := four4 (by omega) s1 s2 s3 s4
        have had : ∀ p, p < 60 → O p → (((k : Int) - 10 = (p : Int) ∨ (k : Int) + 10 = (p : Int) ∨ a3 = (p : Int) ∨ a4 = (p : Int)) ↔ adj k p) := by
          intro p hp hop
          have ip := ((hO p).mpr hop).2.1
          have w8 : ((p % 10 : Nat) : Int) < ν 70 24 := ip.2
          have w9 : ((k % 10 : Nat) : Int) < ν 70 24 := ((hO k).mpr (hq8 k hk6 c3)).2.1.2
          rw [ha3, ha4]
          unfold adj
          constructor
          · rintro (z | z | z | z)
            · omega
            · omega
            · split at z <;> omega
            · split at z <;> omega
          · rintro (z | z | z | z)
            · right; left; omega
            · left; omega
            · right; right; right; rw [if_neg (by omega)]; omega
            · right; right; left; rw [if_neg (by omega)]; omega
        refine ih (k + 1) 1 ν4 e4 (by omega) ⟨fun c hc => by rw [hf.1 c hc, hS.1 c hc], fun p hp => ?_⟩ (Or.inl ⟨rfl, k, by omega, c3⟩)
        have z := hS.2 p hp
        have y := hf.2 p hp
        constructor
        · intro x
          rw [y.1 (by rw [z.1 x]; exact x), z.1 x]
        · intro x
          by_cases w : (O p ∧ ∃ q, q < k ∧ ν 87 q = (n : Int) ∧ adj q p)
          · have z2 := (z.2 x).1 w
            have y2 := y.1 (by rw [z2]; omega)
            rw [y2, z2]
            exact ⟨fun _ => rfl, fun v => absurd ⟨w.1, w.2.elim (fun q u => ⟨q, by omega, u.2⟩)⟩ v⟩
          · have z2 := (z.2 x).2 w
            have y2 := y.2 z2
            by_cases o : O p
            · by_cases u : adj k p
              · rw [y2.1 ⟨o, (had p hp o).mpr u⟩]
                exact ⟨fun _ => rfl, fun v => absurd ⟨o, k, by omega, c3, u⟩ v⟩
              · rw [y2.2 (fun v => u ((had p hp o).mp v.2))]
                refine ⟨fun v => ?_, fun _ => rfl⟩
                obtain ⟨_, q', q1, q2, q3⟩ := v
                by_cases qk : q' = k
                · rw [qk] at q3; exact absurd q3 u
                · exact absurd ⟨o, q', by omega, q2, q3⟩ w
            · rw [y2.2 (fun v => o v.1)]
              exact ⟨fun v => absurd v.1 o, fun _ => rfl⟩
      · have c3 : ν 87 k ≠ (n : Int) := fun z => c2 (iff.mpr z)
        rw [if_neg c2, ek] at e'
        refine ih (k + 1) l2 ν' e' (by omega) ⟨hS.1, fun p hp => ?_⟩ ?_
        · have z := hS.2 p hp
          refine ⟨z.1, fun x => ⟨fun w => (z.2 x).1 ⟨w.1, ?_⟩, fun w => (z.2 x).2 (fun v => w ⟨v.1, v.2.elim (fun q u => ⟨q, by omega, u.2⟩)⟩)⟩⟩
          obtain ⟨q', q1, q2, q3⟩ := w.2
          by_cases qk : q' = k
          · rw [qk] at q2; exact absurd q2 c3
          · exact ⟨q', by omega, q2, q3⟩
        · rcases hF with ⟨f1, q', q1, q2⟩ | ⟨f1, f2⟩
          · exact Or.inl ⟨f1, q', by omega, q2⟩
          · refine Or.inr ⟨f1, fun q' q1 => ?_⟩
            by_cases qk : q' = k
            · rw [qk]; exact c3
            · exact f2 q' (by omega)
def LM (O : Nat → Prop) (s n : Nat) (ν : Mm) : Prop := ∀ p, p < 60 → (ν 87 p = -1 ∧ ∀ m, m ≤ n → ¬ lv O s m p) ∨ (∃ d : Nat, d ≤ n ∧ ν 87 p = (d : Int) ∧ lv O s d p ∧ ∀ m, m < d → ¬ lv O s m p)
theorem lv_60 {O : Nat → Prop} (hO : ∀ p, O p → p < 60) {s : Nat} (hs : s < 60) {n p : Nat} (h : lv O s n p) : p < 60 := by
  cases n with
  | zero => have e : p = s := h; omega
  | succ n => exact hO p h.1
theorem LM_n {O : Nat → Prop} (hO : ∀ p, O p → p < 60) {s n : Nat} (hs : s < 60) {ν ν' : Mm} (h : LM O s n ν) (hS : SI O n 60 ν ν') : LM O s (n + 1) ν' := by
  intro p hp
  have z := hS.2 p hp
  rcases h p hp with ⟨h1, h2⟩ | ⟨d, h0, h1, h2, h3⟩
  · by_cases c : (O p ∧ ∃ q, q < 60 ∧ ν 87 q = (n : Int) ∧ adj q p)
    · obtain ⟨o, q, q1, q2, q3⟩ := c
      refine Or.inr ⟨n + 1, Nat.le_refl _, (z.2 h1).1 ⟨o, q, q1, q2, q3⟩, ⟨o, q, ?_, q3⟩, fun m hm => h2 m (by omega)⟩
      rcases h q q1 with ⟨k1, _⟩ | ⟨d, _, k1, k2, _⟩
      · omega
      · have e : d = n := by omega
        rw [← e]; exact k2
    · refine Or.inl ⟨(z.2 h1).2 c, fun m hm hl => ?_⟩
      by_cases cm : m ≤ n
      · exact h2 m cm hl
      · have e : m = n + 1 := by omega
        rw [e] at hl
        obtain ⟨o, q, q2, q3⟩ := hl
        have q1 := lv_60 hO hs q2
        rcases h q q1 with ⟨_, k2⟩ | ⟨d, d0, k1, k2, k3⟩
        · exact k2 n (Nat.le_refl _) q2
        · by_cases cd : d = n
          · exact c ⟨o, q, q1, by rw [k1, cd], q3⟩
          · exact h2 (d + 1) (by omega) ⟨o, q, k2, q3⟩
  · exact Or.inr ⟨d, by omega, by rw [z.1 (by omega)]; exact h1, h2, h3⟩
theorem LM_e {O : Nat → Prop} (hO : ∀ p, O p → p < 60) {s n : Nat} (hs : s < 60) {ν : Mm} (h : LM O s n ν) (hn : ∀ q, q < 60 → ν 87 q ≠ (n : Int)) : ds O s (ν 87) := by
  have k : ∀ m p, p < 60 → lv O s m p → ν 87 p ≠ -1 := by
    intro m
    induction m with
    | zero =>
      intro p hp hl e
      rcases h p hp with ⟨_, h2⟩ | ⟨d, _, h1, _⟩
      · exact h2 0 (Nat.zero_le _) hl
      · omega
    | succ m ih =>
      intro p hp hl e
      obtain ⟨o, q, q2, q3⟩ := hl
      have q1 := lv_60 hO hs q2
      rcases h p hp with ⟨_, h2⟩ | ⟨d, _, h1, _⟩
      · rcases h q q1 with ⟨k1, _⟩ | ⟨d, d0, k1, k2, _⟩
        · exact ih q q1 q2 k1
        · have : d ≠ n := fun z => hn q q1 (by rw [k1, z])
          exact h2 (d + 1) (by omega) ⟨o, q, k2, q3⟩
      · omega
  intro p hp
  rcases h p hp with ⟨h1, _⟩ | ⟨d, _, h1, h2, h3⟩
  · exact Or.inl ⟨h1, fun m hl => k m p hp hl h1⟩
  · exact Or.inr ⟨d, h1, h2, h3⟩
theorem L34_p {O : Nat → Prop} (hO6 : ∀ p, O p → p < 60) {s : Nat} (hs : s < 60) (hOs : O s) {r : Int} {μ' : Mm} : ∀ (fuel n : Nat) (l2 : Int) (ν : Mm), X11_spread_L34 fuel l2 (n : Int) ν = some (r, μ') → n + fuel ≤ 1000000 → ν 70 23 ≤ 6 → ν 70 24 ≤ 9 → (∀ p, opM ν p ↔ O p) → LM O s n ν → (l2 = 0 → ds O s (ν 87)) → ds O s (μ' 87) ∧ ∀ c, c ≠ 87 → μ' c = ν c := by
  intro fuel
  induction fuel with
  | zero => intro n l2 ν e; cases e
  | succ fuel ih =>
    intro n l2 ν e hb h6 h9 hO hL h0
    have e' : (if l2 = 0 then (some (0, ν)) else (X11_spread_L43 (n : Int) (fun v30 μ31 => X11_spread_L34 fuel v30 (iA (n : Int) 1) μ31) FU 0 0 ν)) = some (r, μ') := e
    by_cases c : l2 = 0
    · rw [if_pos c] at e'
      cases e'
      exact ⟨h0 c, fun _ _ => rfl⟩
    · rw [if_neg c] at e'
      have e2 : X11_spread_L43 (n : Int) (fun v30 μ31 => X11_spread_L34 fuel v30 (iA (n : Int) 1) μ31) FU 0 ((0 : Nat) : Int) ν = some (r, μ') := e'
      obtain ⟨f, ν', e3, hS, hF⟩ := L43_p (by omega) h6 h9 hO (fun q hq e => by
        rcases hL q hq with ⟨h1, _⟩ | ⟨d, _, h1, h2, _⟩
        · omega
        · cases d with
          | zero => have e3 : q = s := h2; rw [e3]; exact hOs
          | succ d => exact h2.1) FU 0 0 ν e2 (by decide) SI_0 (Or.inr ⟨rfl, fun q hq => absurd hq (by omega)⟩)
      rw [iA_n2 (by omega)] at e3
      have hO' : ∀ p, opM ν' p ↔ O p := fun p => (opM_f hS.1 p).trans (hO p)
      have hL' := LM_n hO6 hs hL hS
      have fin := ih (n + 1) f ν' e3 (by omega) (by rw [hS.1 70 (by decide)]; exact h6) (by rw [hS.1 70 (by decide)]; exact h9) hO' hL' (fun hf => ?_)
      · exact ⟨fin.1, fun c hc => by rw [fin.2 c hc, hS.1 c hc]⟩
      · rcases hF with ⟨f1, _⟩ | ⟨_, f2⟩
        · omega
        · refine ds_g (fun p hp => ?_) (LM_e hO6 hs hL f2)
          have z := hS.2 p hp
          by_cases y : ν 87 p = -1
          · rw [(z.2 y).2 (fun w => w.2.elim (fun q u => f2 q u.1 u.2.1)), y]
          · exact z.1 y
theorem L2_p {s : Nat} (K : Mm → Rs) {q : Int × Mm} : ∀ (fuel k : Nat) (ν : Mm), X11_spread_L2 (s : Int) K fuel (k : Int) ν = some q → k ≤ 60 → ∃ ν', K ν' = some q ∧ (∀ c, c ≠ 87 → ν' c = ν c) ∧ (∀ j, j < k → ν' 87 j = ν 87 j) ∧ ∀ j, k ≤ j → j < 60 → ν' 87 j = if j = s then 0 else -1 := by
  intro fuel
  induction fuel with
  | zero => intro k ν e; cases e
  | succ fuel ih =>
    intro k ν e hk
    have e' : (if 60 ≤ (k : Int) then (K ν) else (if (k : Int) = (s : Int) then (stA ν 87 (k : Int) 0 fun μ5 => X11_spread_L2 (s : Int) K fuel (iA (k : Int) 1) μ5) else (stA ν 87 (k : Int) (-1) fun μ3 => X11_spread_L2 (s : Int) K fuel (iA (k : Int) 1) μ3))) = some q := e
    by_cases c : k = 60
    · rw [if_pos (by omega)] at e'
      exact ⟨ν, e', fun _ _ => rfl, fun _ _ => rfl, fun j h1 h2 => absurd h1 (by omega)⟩
    · rw [if_neg (by omega)] at e'
      have step : ∀ v : Int, v = (if k = s then 0 else -1) → X11_spread_L2 (s : Int) K fuel ((k + 1 : Nat) : Int) (sM ν 87 k v) = some q → ∃ ν', K ν' = some q ∧ (∀ c, c ≠ 87 → ν' c = ν c) ∧ (∀ j, j < k → ν' 87 j = ν 87 j) ∧ ∀ j, k ≤ j → j < 60 → ν' 87 j = if j = s then 0 else -1 := by
        intro v hv e2
        obtain ⟨ν', g1, g2, g3, g4⟩ := ih (k + 1) _ e2 (by omega)
        refine ⟨ν', g1, fun c hc => ?_, fun j hj => ?_, fun j h1 h2 => ?_⟩
        · rw [g2 c hc]; funext i; exact sM_a hc
        · rw [g3 j (by omega), sM_j (by omega)]
        · by_cases cj : j = k
          · rw [cj, g3 k (by omega), sM_s]; exact hv
          · exact g4 j (by omega) h2
      unfold stA at e'
      by_cases c2 : k = s
      · rw [if_pos (by omega), if_pos (by show (0 : Int) ≤ (k : Int) ∧ (k : Int) < 60; omega), Int.toNat_natCast, iA_nat (by omega)] at e'
        exact step 0 (by rw [if_pos c2]) e'
      · rw [if_neg (by omega), if_pos (by show (0 : Int) ≤ (k : Int) ∧ (k : Int) < 60; omega), Int.toNat_natCast, iA_nat (by omega)] at e'
        exact step (-1) (by rw [if_neg c2]) e'
/-- WAYS from a place, in the reference: how far each is -/
theorem sprM {μ : Mm} (hB : Bm μ) {s : Nat} (hsO : opM μ s) : ∃ r ν, X11_spread (s : Int) μ = some (r, ν) ∧ (∀ c, c ≠ 87 → ν c = μ c) ∧ (∀ j, rI (ν 87 j)) ∧ ds (opM μ) s (ν 87) := by
  have hs := hsO.1
  obtain ⟨r, ν, e, h1, h2⟩ := wp_ex (w_spread (s : Int) hB)
  refine ⟨r, ν, e, h1, h2, ?_⟩
  have e' : X11_spread_L2 (s : Int) (fun μ7 => X11_spread_L34 FU 1 0 μ7) FU ((0 : Nat) : Int) μ = some (r, ν) := e
  obtain ⟨ν', g1, g2, _, g4⟩ := L2_p _ FU 0 μ e' (by decide)
  have g1' : X11_spread_L34 FU 1 ((0 : Nat) : Int) ν' = some (r, ν) := g1
  have hO : ∀ p, opM ν' p ↔ opM μ p := opM_f g2
  have e70 : ν' 70 = μ 70 := g2 70 (by decide)
  refine (L34_p (fun p h => h.1) hs hsO FU 0 1 ν' g1' (by decide) (by rw [e70]; exact (hB 70 23 (by decide)).2) (by rw [e70]; exact (hB 70 24 (by decide)).2) hO (fun p hp => ?_) (fun z => absurd z (by decide))).1
  have h4 := g4 p (Nat.zero_le _) hp
  by_cases c : p = s
  · rw [if_pos c] at h4
    exact Or.inr ⟨0, Nat.le_refl _, h4, c, fun m hm => absurd hm (by omega)⟩
  · rw [if_neg c] at h4
    refine Or.inl ⟨h4, fun m hm hl => ?_⟩
    have e0 : m = 0 := by omega
    rw [e0] at hl
    exact c hl
/-! WAY, OUT, DEAD -/
/-- the CELLAR l0 of the class is the reference's, place by place -/
def Cp (l0 : Nat) (μ : Mm) : Prop := ∀ p, p < 60 → (isP μ p → μ (l0 + 1) p = μ 82 p) ∧ (¬ isP μ p → μ (l0 + 1) p = -1)
theorem Cp_op {l0 : Nat} {μ : Mm} (hB : Bm μ) (h : Cp l0 μ) (p : Nat) : opC l0 μ p ↔ opM μ p := by
  unfold opC opM
  by_cases hp : p < 60
  · have k := h p hp
    have b : 0 ≤ μ 82 p ∧ μ 82 p ≤ 10 := hB 82 p (by decide)
    by_cases ip : isP μ p
    · rw [k.1 ip]
      exact ⟨fun z => ⟨z.1, ip, z.2.2⟩, fun z => ⟨z.1, by omega, z.2.2⟩⟩
    · rw [k.2 ip]
      exact ⟨fun z => absurd rfl z.2.1, fun z => absurd z.2.1 ip⟩
  · exact ⟨fun z => absurd z.1 hp, fun z => absurd z.1 hp⟩
theorem Kc_Cp {μ : Mm} {s g : Nat} (h : Kc μ 5 82 86 s g) : Cp 5 μ := h.1
theorem Cp_c {l0 : Nat} {μ ν : Mm} (h : Cp l0 μ) (e1 : ∀ j, ν (l0 + 1) j = μ (l0 + 1) j) (e2 : ∀ j, ν 82 j = μ 82 j) (e3 : ν 70 23 = μ 70 23) (e4 : ν 70 24 = μ 70 24) : Cp l0 ν := fun p hp => by
  rw [isP_congr e3 e4 p, e1, e2]; exact h p hp
theorem isO_y {μ : Mm} {p : Nat} (h : opM μ p) : X11_isOpen (p : Int) μ = some (1, μ) := by
  obtain ⟨hp, ip, h1⟩ := h
  unfold X11_isOpen
  rw [isPl_y hp ip, bd_some, if_neg (by decide)]
  unfold ldA
  rw [if_pos (by show (0 : Int) ≤ (p : Int) ∧ (p : Int) < 60; omega), Int.toNat_natCast]
  dsimp only
  rw [if_neg h1]
theorem isO_n {μ : Mm} (hB : Bm μ) {a : Int} (ha : rI a) (h : ∀ p : Nat, a = (p : Int) → ¬ opM μ p) : X11_isOpen a μ = some (0, μ) := by
  unfold X11_isOpen
  by_cases c : ∃ p : Nat, a = (p : Int) ∧ p < 60 ∧ isP μ p
  · obtain ⟨p, rfl, hp, ip⟩ := c
    rw [isPl_y hp ip, bd_some, if_neg (by decide)]
    unfold ldA
    rw [if_pos (by show (0 : Int) ≤ (p : Int) ∧ (p : Int) < 60; omega), Int.toNat_natCast]
    dsimp only
    by_cases c1 : μ 82 p = 1
    · rw [if_pos c1]
    · exact absurd ⟨hp, ip, c1⟩ (h p rfl)
  · rw [isPl_n2 (hB 70 23 (by decide)).2 ha (fun p e z => c ⟨p, e, z.1, z.2⟩), bd_some, if_pos rfl]
theorem fW_scr : ∀ k j, fW k j → scr k j := fun k j h => by unfold fW at h; unfold scr; omega
/-- both measure from the same place: the same number of steps to each -/
theorem both {l0 : Nat} (hk : kD l0 = (10, 9)) {μ : Mm} (hB : Bm μ) (hC : Cp l0 μ) {s : Nat} (hs : opM μ s) {ν0 : Mm} (e : ∀ k j, 70 ≤ k → k ≠ 87 → ν0 k j = μ k j) (hB0 : Bm ν0) : ∃ ν r ξ, X9_measure l0 (s : Int) μ = some (0, ν) ∧ fw fW μ ν ∧ X11_spread (s : Int) ν0 = some (r, ξ) ∧ (∀ c, c ≠ 87 → ξ c = ν0 c) ∧ (∀ j, rI (ξ 87 j)) ∧ ds (opM μ) s (ν 46) ∧ ds (opM μ) s (ξ 87) := by
  obtain ⟨ν, e1, f1, d1⟩ := meaC hk ((Cp_op hB hC s).mpr hs)
  have hs0 : opM ν0 s := by
    unfold opM isP at hs ⊢
    rw [e 70 23 (by decide) (by decide), e 70 24 (by decide) (by decide), e 82 s (by decide) (by decide)]
    exact hs
  obtain ⟨r, ξ, e2, f2, g2, d2⟩ := sprM hB0 hs0
  refine ⟨ν, r, ξ, e1, f1, e2, f2, g2, ds_c (Cp_op hB hC) d1, ds_c (fun p => ?_) d2⟩
  unfold opM isP
  rw [e 70 23 (by decide) (by decide), e 70 24 (by decide) (by decide), e 82 p (by decide) (by decide)]
theorem Bm_fw {μ ν : Mm} (h : Bm μ) (hf : fw fW μ ν) : Bm ν := fun k j hk => by rw [hf k j (by unfold fW; omega)]; exact h k j hk
theorem ds_no {O : Nat → Prop} {s : Nat} (hs : s < 60) {f : Nat → Int} (hd : ds O s f) {p : Nat} (hp : p < 60) (h : f p ≠ -1) : p = s ∨ O p := by
  rcases hd p hp with ⟨h1, _⟩ | ⟨n, _, h2, _⟩
  · exact absurd h1 h
  · cases n with
    | zero => exact Or.inl h2
    | succ n => exact Or.inr h2.1
theorem Sm_87 {ν ξ : Mm} (hB : Bm ν) (f : ∀ c, c ≠ 87 → ξ c = ν c) (g : ∀ j, rI (ξ 87 j)) : Sm ν ξ := by
  refine ⟨fun k j hk => ?_, fun k j hn => by rw [f k (fun z => hn (by unfold scrM; omega))]⟩
  by_cases ck : k = 87
  · rw [ck]; exact g j
  · rw [f k ck]; exact hB k j hk
theorem m_way : ∀ a0, rI a0 → ∀ a1, rI a1 → sI Inv Inv (X10_way a0 a1) (X11_way a0 a1) := by
  intro a ha b hb μ hI
  have hC := Kc_Cp hI.2.2.2.2.2.1
  have hB := hI.2.1.1
  have k5 : kD 5 = (10, 9) := by decide
  by_cases ca : ∃ p : Nat, a = (p : Int) ∧ opM μ p
  · obtain ⟨p, rfl, hop⟩ := ca
    obtain ⟨ν, e1, f1, d1⟩ := meaC k5 ((Cp_op hB hC p).mpr hop)
    have d1 := ds_c (Cp_op hB hC) d1
    have t1 := t_X10_way (W := scr) (μs := μ) (hW := fun _ _ h => h) (hp_l1 := ha) (hp_l2 := hb) (St_rf hI.1)
    by_cases cb : 0 ≤ b ∧ b < 60
    · obtain ⟨q, rfl⟩ : ∃ q : Nat, b = (q : Int) := ⟨b.toNat, by omega⟩
      have hq : q < 60 := by omega
      have r1 : X10_way (p : Int) (q : Int) μ = some (ν 46 q, ν) := by
        unfold X10_way
        rw [e1, bd_some, stp_eq hq, bd_some]
      rw [r1, wp_some] at t1
      have hI1 := Inv_St hI t1.1
      have o : ∀ x, opM ν x ↔ opM μ x := fun x => by
        unfold opM isP
        rw [f1 70 23 (by unfold fW; omega), f1 70 24 (by unfold fW; omega), f1 82 x (by unfold fW; omega)]
      by_cases cq : opM μ q
      · obtain ⟨r, ξ, e2, f2, g2, d2⟩ := sprM hI1.2.1.1 ((o p).mpr hop)
        have d2 := ds_c o d2
        have r2 : X11_way (p : Int) (q : Int) ν = some (ξ 87 q, ξ) := by
          unfold X11_way
          rw [isO_y ((o p).mpr hop), bd_some, if_neg (by decide), isO_y ((o q).mpr cq), bd_some, if_neg (by decide), e2, bd_some]
          unfold ldA
          rw [if_pos (by show (0 : Int) ≤ (q : Int) ∧ (q : Int) < 60; omega), Int.toNat_natCast]
        exact ⟨_, _, _, r1, by rw [r2, ds_u d1 d2 hq], Inv_Sm hI1 (Sm_87 hI1.2.1.1 f2 g2)⟩
      · have nq : ∀ x : Nat, (q : Int) = (x : Int) → ¬ opM ν x := fun x e h => by
          have e2 : x = q := by omega
          rw [e2] at h
          exact cq ((o q).mp h)
        have r2 : X11_way (p : Int) (q : Int) ν = some (-1, ν) := by
          unfold X11_way
          rw [isO_y ((o p).mpr hop), bd_some, if_neg (by decide), isO_n hI1.2.1.1 hb nq, bd_some, if_pos rfl]
        have z : ν 46 q = -1 := Classical.byContradiction (fun n => by
          rcases ds_no hop.1 d1 hq n with h | h
          · rw [h] at cq; exact cq hop
          · exact cq h)
        exact ⟨_, _, _, r1, by rw [r2, z], hI1⟩
    · have r1 : X10_way (p : Int) b μ = some (-1, ν) := by
        unfold X10_way
        rw [e1, bd_some, stp_no cb, bd_some]
      rw [r1, wp_some] at t1
      have hI1 := Inv_St hI t1.1
      have o : ∀ x, opM ν x ↔ opM μ x := fun x => by
        unfold opM isP
        rw [f1 70 23 (by unfold fW; omega), f1 70 24 (by unfold fW; omega), f1 82 x (by unfold fW; omega)]
      have r2 : X11_way (p : Int) b ν = some (-1, ν) := by
        unfold X11_way
        rw [isO_y ((o p).mpr hop), bd_some, if_neg (by decide), isO_n hI1.2.1.1 hb (fun x e h => cb (by have := h.1; omega)), bd_some, if_pos rfl]
      exact ⟨_, _, _, r1, r2, hI1⟩
  · obtain ⟨ν, e1, f1, n1⟩ := meaC_no k5 (a := a) (fun p e h => ca ⟨p, e, (Cp_op hB hC p).mp h⟩)
    have t1 := t_X10_way (W := scr) (μs := μ) (hW := fun _ _ h => h) (hp_l1 := ha) (hp_l2 := hb) (St_rf hI.1)
    have r1 : X10_way a b μ = some (-1, ν) := by
      unfold X10_way
      rw [e1, bd_some]
      by_cases cb : 0 ≤ b ∧ b < 60
      · obtain ⟨q, rfl⟩ : ∃ q : Nat, b = (q : Int) := ⟨b.toNat, by omega⟩
        rw [stp_eq (by omega), bd_some, n1 q (by omega)]
      · rw [stp_no cb, bd_some]
    rw [r1, wp_some] at t1
    have hI1 := Inv_St hI t1.1
    have r2 : X11_way a b ν = some (-1, ν) := by
      unfold X11_way
      rw [isO_n hI1.2.1.1 ha (fun p e h => ca ⟨p, e, by
        unfold opM isP at h ⊢
        rw [f1 70 23 (by unfold fW; omega), f1 70 24 (by unfold fW; omega), f1 82 p (by unfold fW; omega)] at h
        exact h⟩), bd_some, if_pos rfl]
    exact ⟨_, _, _, r1, r2, hI1⟩
theorem opM_fw {μ ν : Mm} (f1 : fw fW μ ν) (x : Nat) : opM ν x ↔ opM μ x := by
  unfold opM isP
  rw [f1 70 23 (by unfold fW; omega), f1 70 24 (by unfold fW; omega), f1 82 x (by unfold fW; omega)]
/-- where START is, to both -/
theorem strt {μ : Mm} (hI : Inv μ) (h : μ 70 23 ≠ 0) : ∃ s : Nat, s < 60 ∧ isP μ s ∧ μ 82 s = 2 ∧ μ 5 3 = (s : Int) := by
  obtain ⟨s, h1, h2, h3⟩ := hI.2.1.2.2.1 h
  exact ⟨s, h1, h2, h3, (hI.2.2.2.2.2.1.2.1 s h1).mp ⟨h2, h3⟩⟩
theorem m_out : ∀ a0, rI a0 → sI Inv Inv (X10_out a0) (X11_out a0) := by
  intro a ha μ hI
  have hC := Kc_Cp hI.2.2.2.2.2.1
  have hB := hI.2.1.1
  have k5 : kD 5 = (10, 9) := by decide
  have t1 := t_X10_out (W := scr) (μs := μ) (hW := fun _ _ h => h) (hp_l1 := ha) (St_rf hI.1)
  obtain ⟨w, e0, hw⟩ := crk hI ha
  rcases hw with ⟨hw1, hw2⟩ | ⟨ha0, ha7, p, hp, ip, ep, ew, _⟩
  · obtain ⟨ν, e1, f1, n1⟩ := meaC_no k5 (μ := μ) (a := -1) (fun p e => absurd e (by omega))
    have r1 : X10_out a μ = some (-1, ν) := by
      unfold X10_out
      rw [e0, hw1, bd_some, e1, bd_some]
      by_cases cb : 0 ≤ ν 5 3 ∧ ν 5 3 < 60
      · obtain ⟨q, hq⟩ : ∃ q : Nat, ν 5 3 = (q : Int) := ⟨(ν 5 3).toNat, by omega⟩
        rw [hq, stp_eq (by omega), bd_some, n1 q (by omega)]
      · rw [stp_no cb, bd_some]
    rw [r1, wp_some] at t1
    have hI1 := Inv_St hI t1.1
    have r2 : X11_out a ν = some (-1, ν) := by
      unfold X11_out
      have hc := crk_m (μ := μ) (ν := ν) (fun k j hk => f1 k j (by unfold fW; omega)) ha (Or.inl ⟨hw1, hw2⟩)
      rw [hc, bd_some, if_pos (by rw [if_pos hw1])]
    exact ⟨_, _, _, r1, r2, hI1⟩
  · have hop : opM μ p := ⟨hp, ip, by omega⟩
    obtain ⟨ν, e1, f1, d1⟩ := meaC k5 ((Cp_op hB hC p).mpr hop)
    have d1 := ds_c (Cp_op hB hC) d1
    obtain ⟨s, s1, s2, s3, s4⟩ := strt hI (by have := ip.1; omega)
    have r1 : X10_out a μ = some (ν 46 s, ν) := by
      unfold X10_out
      rw [e0, ew, bd_some, e1, bd_some, f1 5 3 (by unfold fW; omega), s4, stp_eq s1, bd_some]
    rw [r1, wp_some] at t1
    have hI1 := Inv_St hI t1.1
    obtain ⟨r, ξ, e2, f2, g2, d2⟩ := sprM hI1.2.1.1 ((opM_fw f1 p).mpr hop)
    have d2 := ds_c (opM_fw f1) d2
    have i : ∀ x, isP ν x ↔ isP μ x := isP_congr (f1 70 23 (by unfold fW; omega)) (f1 70 24 (by unfold fW; omega))
    have u82 : ∀ x, ν 82 x = μ 82 x := fun x => f1 82 x (by unfold fW; omega)
    have hc := crk_m (μ := μ) (ν := ν) (fun k j hk => f1 k j (by unfold fW; omega)) ha (Or.inr ⟨ha0, ha7, p, hp, ip, ep, ew, by
      have := (hI.2.2.2.2.2.1.2.2.1 a.toNat (by omega) p hp).mp ⟨ip, by rw [ep]; omega⟩
      exact this⟩)
    have hU2 : UQ ξ 82 := UQ_congr hI1.2.1.2.2.2.2.2.2.1 (by rw [f2 70 (by decide)]) (by rw [f2 70 (by decide)]) (fun x => by rw [f2 82 (by decide)])
    have r2 : X11_out a ν = some (ξ 87 s, ξ) := by
      unfold X11_out
      rw [hc, bd_some, if_neg (by rw [if_neg (by omega)]; decide), iA_id (by omega) (by omega), plc_at hI1.2.1.2.2.2.2.2.2.1 hp ((i p).mpr ip) (by rw [u82]; exact ep) (by omega), bd_some, e2, bd_some, plc_at hU2 s1 ((isP_congr (by rw [f2 70 (by decide)]) (by rw [f2 70 (by decide)]) s).mpr ((i s).mpr s2)) (by rw [f2 82 (by decide), u82]; exact s3) (by decide), bd_some]
      unfold ldA
      rw [if_pos (by show (0 : Int) ≤ (s : Int) ∧ (s : Int) < 60; omega), Int.toNat_natCast]
    exact ⟨_, _, _, r1, by rw [r2, ds_u d1 d2 s1], Inv_Sm hI1 (Sm_87 hI1.2.1.1 f2 g2)⟩
/-- how many open places ahead of k can't be come to -/
def dc (c f : Nat → Int) : Nat → Int
  | 0 => 0
  | k + 1 => dc c f k + (if c k = -1 then 0 else if c k = 1 then 0 else if f k = -1 then 1 else 0)
theorem dc_b {c f : Nat → Int} : ∀ k : Nat, 0 ≤ dc c f k ∧ dc c f k ≤ (k : Int) := by
  intro k
  induction k with
  | zero => exact ⟨Int.le_refl _, Int.le_refl _⟩
  | succ k ih =>
    show 0 ≤ dc c f k + (if c k = -1 then 0 else if c k = 1 then 0 else if f k = -1 then 1 else 0) ∧ dc c f k + (if c k = -1 then 0 else if c k = 1 then 0 else if f k = -1 then 1 else 0) ≤ ((k + 1 : Nat) : Int)
    split
    · omega
    · split
      · omega
      · split <;> omega
theorem deadC_L {ν : Mm} : ∀ (d i fuel : Nat), i + d = 60 → d < fuel → X10_dead_L34 fuel (dc (ν 6) (ν 46) i) (i : Int) ν = some (dc (ν 6) (ν 46) 60, ν) := by
  intro d
  induction d with
  | zero =>
    intro i fuel hi hf
    obtain ⟨g, rfl, _⟩ := lt_fuel hf
    show (if 60 ≤ (i : Int) then _ else _) = _
    rw [if_pos (by omega)]
    have : i = 60 := by omega
    rw [this]
  | succ d ih =>
    intro i fuel hi hf
    obtain ⟨g, rfl, _⟩ := lt_fuel hf
    have hb := dc_b (c := ν 6) (f := ν 46) i
    have e1 : iA (dc (ν 6) (ν 46) i) 1 = dc (ν 6) (ν 46) i + 1 := iA_id (by omega) (by omega)
    have hn := ih (i + 1) g (by omega) (by omega)
    have es : dc (ν 6) (ν 46) (i + 1) = dc (ν 6) (ν 46) i + (if ν 6 i = -1 then 0 else if ν 6 i = 1 then 0 else if ν 46 i = -1 then 1 else 0) := rfl
    rw [es] at hn
    have z : dc (ν 6) (ν 46) i + 0 = dc (ν 6) (ν 46) i := by omega
    show (if 60 ≤ (i : Int) then _ else _) = _
    rw [if_neg (by omega)]
    by_cases c : opC 5 ν i
    · have c6 : ν 6 i ≠ -1 := c.2.1
      have c7 : ν 6 i ≠ 1 := c.2.2
      rw [opC_y (by decide) c, bd_some, if_neg (by decide), stp_eq (by omega), bd_some, iA_nat (by omega)]
      rw [if_neg c6, if_neg c7] at hn
      by_cases c8 : ν 46 i = -1
      · rw [if_pos c8] at hn ⊢
        rw [e1]; exact hn
      · rw [if_neg c8] at hn ⊢
        rw [z] at hn; exact hn
    · have nc : ∀ p : Nat, (i : Int) = (p : Int) → ¬ opC 5 ν p := fun p e h => by
        have e2 : p = i := by omega
        rw [e2] at h
        exact c h
      rw [opC_n (by decide) nc, bd_some, if_pos rfl, iA_nat (by omega)]
      by_cases c6 : ν 6 i = -1
      · rw [if_pos c6, z] at hn; exact hn
      · rw [if_neg c6] at hn
        by_cases c7 : ν 6 i = 1
        · rw [if_pos c7, z] at hn; exact hn
        · exact absurd ⟨by omega, c6, c7⟩ c
theorem deadM_L {ξ : Mm} (hB : Bm ξ) {c f : Nat → Int} (hC : ∀ p, p < 60 → (isP ξ p → c p = ξ 82 p) ∧ (¬ isP ξ p → c p = -1)) (hf' : ∀ p, p < 60 → f p = ξ 87 p) : ∀ (d i fuel : Nat), i + d = 60 → d < fuel → X11_dead_L22 fuel (dc c f i) (i : Int) ξ = some (dc c f 60, ξ) := by
  intro d
  induction d with
  | zero =>
    intro i fuel hi hf
    obtain ⟨g, rfl, _⟩ := lt_fuel hf
    show (if 60 ≤ (i : Int) then _ else _) = _
    rw [if_pos (by omega)]
    have : i = 60 := by omega
    rw [this]
  | succ d ih =>
    intro i fuel hi hf
    obtain ⟨g, rfl, _⟩ := lt_fuel hf
    have hb := dc_b (c := c) (f := f) i
    have e0 : iA (dc c f i) 0 = dc c f i := by rw [iA_id (by omega) (by omega)]; omega
    have e1 : iA (dc c f i) 1 = dc c f i + 1 := iA_id (by omega) (by omega)
    have hn := ih (i + 1) g (by omega) (by omega)
    have es : dc c f (i + 1) = dc c f i + (if c i = -1 then 0 else if c i = 1 then 0 else if f i = -1 then 1 else 0) := rfl
    rw [es] at hn
    have z : dc c f i + 0 = dc c f i := by omega
    have hi6 : i < 60 := by omega
    have k := hC i hi6
    have b82 : 0 ≤ ξ 82 i ∧ ξ 82 i ≤ 10 := hB 82 i (by decide)
    show (if 60 ≤ (i : Int) then _ else _) = _
    rw [if_neg (by omega)]
    by_cases co : opM ξ i
    · rw [isO_y co, bd_some, if_neg (by decide)]
      unfold ldA
      rw [if_pos (by show (0 : Int) ≤ (i : Int) ∧ (i : Int) < 60; omega), Int.toNat_natCast]
      dsimp only
      rw [iA_nat (by omega), e0, e1, ← hf' i hi6]
      rw [k.1 co.2.1, if_neg (by omega), if_neg co.2.2] at hn
      by_cases c8 : f i = -1
      · rw [if_pos c8] at hn ⊢; exact hn
      · rw [if_neg c8] at hn ⊢; rw [z] at hn; exact hn
    · have nc : ∀ p : Nat, (i : Int) = (p : Int) → ¬ opM ξ p := fun p e h => by
        have e2 : p = i := by omega
        rw [e2] at h
        exact co h
      rw [isO_n hB ⟨by omega, by omega⟩ nc, bd_some, if_pos rfl, iA_nat (by omega), e0]
      by_cases ip : isP ξ i
      · rw [k.1 ip, if_neg (by omega)] at hn
        by_cases c7 : ξ 82 i = 1
        · rw [if_pos c7, z] at hn; exact hn
        · exact absurd ⟨hi6, ip, c7⟩ co
      · rw [k.2 ip, if_pos rfl, z] at hn; exact hn
theorem m_dead : sI Inv Inv X10_dead X11_dead := by
  intro μ hI
  have hC := Kc_Cp hI.2.2.2.2.2.1
  have hB := hI.2.1.1
  have k5 : kD 5 = (10, 9) := by decide
  have t1 := t_X10_dead (W := scr) (μs := μ) (hW := fun _ _ h => h) (St_rf hI.1)
  have hs := stands_5 hI
  by_cases c : μ 70 23 = 0
  · rw [if_pos c] at hs
    have e1 : X10_dead μ = some (-1, μ) := by
      unfold X10_dead
      rw [hs, bd_some, if_pos rfl]
    have e2 : X11_dead μ = some (-1, μ) := by
      unfold X11_dead
      rw [if_pos c]
    exact ⟨_, _, _, e1, e2, hI⟩
  · rw [if_neg c] at hs
    obtain ⟨s, s1, s2, s3, s4⟩ := strt hI c
    have hop : opM μ s := ⟨s1, s2, by omega⟩
    obtain ⟨ν, e1, f1, d1⟩ := meaC k5 ((Cp_op hB hC s).mpr hop)
    have d1 := ds_c (Cp_op hB hC) d1
    have r1 : X10_dead μ = some (dc (ν 6) (ν 46) 60, ν) := by
      unfold X10_dead
      rw [hs, bd_some, if_neg (by decide), s4, e1, bd_some]
      exact deadC_L 60 0 FU rfl (by decide)
    rw [r1, wp_some] at t1
    have hI1 := Inv_St hI t1.1
    obtain ⟨r, ξ, e2, f2, g2, d2⟩ := sprM hI1.2.1.1 ((opM_fw f1 s).mpr hop)
    have d2 := ds_c (opM_fw f1) d2
    have i : ∀ x, isP ν x ↔ isP μ x := isP_congr (f1 70 23 (by unfold fW; omega)) (f1 70 24 (by unfold fW; omega))
    have hBx : Bm ξ := fun k j hk => by
      by_cases ck : k = 87
      · rw [ck]; exact g2 j
      · rw [f2 k ck]; exact hI1.2.1.1 k j hk
    have r2 : X11_dead ν = some (dc (ν 6) (ν 46) 60, ξ) := by
      unfold X11_dead
      rw [if_neg (by rw [f1 70 23 (by unfold fW; omega)]; exact c), plc_at hI1.2.1.2.2.2.2.2.2.1 s1 ((i s).mpr s2) (by rw [f1 82 s (by unfold fW; omega)]; exact s3) (by decide), bd_some, e2, bd_some]
      refine deadM_L hBx (fun p hp => ?_) (fun p hp => ds_u d1 d2 hp) 60 0 FU rfl (by decide)
      rw [isP_congr (by rw [f2 70 (by decide)]) (by rw [f2 70 (by decide)]) p, f2 82 (by decide)]
      exact (Cp_c hC (fun j => f1 6 j (by unfold fW; omega)) (fun j => f1 82 j (by unfold fW; omega)) (f1 70 23 (by unfold fW; omega)) (f1 70 24 (by unfold fW; omega))) p hp
    exact ⟨_, _, _, r1, r2, Inv_Sm hI1 (Sm_87 hI1.2.1.1 f2 g2)⟩
/-! TIMES: the class's and the reference's -/
def en5 (t k n c l : Int) (i : Nat) : Int := if i = 0 then t else if i = 1 then k else if i = 2 then n else if i = 3 then c else if i = 4 then l else 0
theorem ev1_c {e e' : Nat → Int} (h : ∀ i, i < 5 → e i = e' i) {x : Int × Int} (hx : okx x) (s : List Int) : ev1 e x s = ev1 e' x s := by
  unfold ev1
  rcases hx with ⟨h0, _⟩ | ⟨h1, h2, h3⟩ | ⟨h1, h2, _⟩
  · rw [if_pos h0, if_pos h0]
  · rw [if_neg (by omega), if_pos h1, if_neg (by omega), if_pos h1, h x.2.toNat (by omega)]
  · rw [if_neg (by omega), if_neg (by omega), if_neg (by omega), if_neg (by omega)]
theorem ev_c {e e' : Nat → Int} (h : ∀ i, i < 5 → e i = e' i) : ∀ (c : Cd) (s : List Int), (∀ x, x ∈ c → okx x) → ev e c s = ev e' c s := by
  intro c
  induction c with
  | nil => intro s _; rfl
  | cons x c ih =>
    intro s hx
    show ev e c (ev1 e x s) = ev e' c (ev1 e' x s)
    rw [ev1_c h (hx x (List.mem_cons_self ..)), ih _ (fun y hy => hx y (List.mem_cons_of_mem _ hy))]
theorem vl_c {e e' : Nat → Int} (h : ∀ i, i < 5 → e i = e' i) {c : Cd} (hg : gd c) : vl e c = vl e' c := by
  unfold vl
  rw [ev_c h c [] hg.2.2.2.1]
theorem lawV_e {e e' : Nat → Int} (h : ∀ i, i < 5 → e i = e' i) : ∀ (L : List (Cd × Cd)), (∀ x, x ∈ L → (x.1 = [] ∨ gd x.1) ∧ gd x.2) → lawV e L = lawV e' L := by
  intro L
  induction L with
  | nil => intro _; rfl
  | cons x L ih =>
    intro hx
    have h1 := hx x (List.mem_cons_self ..)
    have h2 := ih (fun y hy => hx y (List.mem_cons_of_mem _ hy))
    show (if x.1 = [] then vl e x.2 else if vl e x.1 = 0 then lawV e L else vl e x.2) = (if x.1 = [] then vl e' x.2 else if vl e' x.1 = 0 then lawV e' L else vl e' x.2)
    rw [h2, vl_c h h1.2]
    rcases h1.1 with h3 | h3
    · rw [if_pos h3, if_pos h3]
    · rw [vl_c h h3]
theorem rows_gd {μ : Mm} {q : Nat} : ∀ (L : List (Cd × Cd)) (g i : Nat), rowsAt μ q g i L → ∀ x, x ∈ L → (x.1 = [] ∨ gd x.1) ∧ gd x.2 := by
  intro L
  induction L with
  | nil => intro g i _ x hx; exact nomatch hx
  | cons y L ih =>
    intro g i h x hx
    obtain ⟨⟨_, _, _, _, h5, h6, _⟩, h11⟩ := h
    rcases List.mem_cons.mp hx with e | e
    · rw [e]; exact ⟨h6, h5⟩
    · exact ih _ _ h11 x e
/-- what a LAW adds -/
def wrt (H : Option (List (Cd × Cd))) (e : Nat → Int) : Int := match H with
  | none => 0
  | some LW => mX (-99) (mN 99 (lawV e LW))
theorem wrt_b (H : Option (List (Cd × Cd))) (e : Nat → Int) : -99 ≤ wrt H e ∧ wrt H e ≤ 99 := by
  unfold wrt
  cases H with
  | none => exact (show (-99 : Int) ≤ 0 ∧ (0 : Int) ≤ 99 by decide)
  | some LW =>
    show -99 ≤ mX (-99) (mN 99 (lawV e LW)) ∧ mX (-99) (mN 99 (lawV e LW)) ≤ 99
    rw [mX_eq, mN_eq]; omega
def vT (H : Option (List (Cd × Cd))) (n : Int) (L : List (Int × Int)) (k : Nat) : Int := (L.getD k (0, 0)).2 + wrt H (en5 (L.getD k (0, 0)).2 (k : Int) n (L.getD k (0, 0)).1 (L.length : Int))
def pv (H : Option (List (Cd × Cd))) (n : Int) (L : List (Int × Int)) : Nat → Int
  | 0 => 0
  | k + 1 => mX (pv H n L k) (vT H n L k)
/-- the TIME of the CUE k -/
def tmF (H : Option (List (Cd × Cd))) (n : Int) (L : List (Int × Int)) (k : Nat) : Int := pv H n L (k + 1)
theorem vT_b {H : Option (List (Cd × Cd))} {n : Int} {L : List (Int × Int)} (hL : plOK L) {k : Nat} (hk : k < L.length) : -99 ≤ vT H n L k ∧ vT H n L k ≤ 1098 := by
  have h1 := plOK_at hL hk
  have h2 := wrt_b H (en5 (L.getD k (0, 0)).2 (k : Int) n (L.getD k (0, 0)).1 (L.length : Int))
  unfold vT
  omega
theorem pv_b {H : Option (List (Cd × Cd))} {n : Int} {L : List (Int × Int)} (hL : plOK L) : ∀ k, k ≤ L.length → 0 ≤ pv H n L k ∧ pv H n L k ≤ 1098 := by
  intro k
  induction k with
  | zero => intro _; exact ⟨Int.le_refl _, (show (0 : Int) ≤ 1098 by decide)⟩
  | succ k ih =>
    intro hk
    have h1 := ih (by omega)
    have h2 := vT_b (H := H) (n := n) hL (k := k) (by omega)
    show 0 ≤ mX (pv H n L k) (vT H n L k) ∧ mX (pv H n L k) (vT H n L k) ≤ 1098
    rw [mX_eq]; omega
theorem pv_mono {H : Option (List (Cd × Cd))} {n : Int} {L : List (Int × Int)} (k : Nat) : pv H n L k ≤ pv H n L (k + 1) := by
  show pv H n L k ≤ mX (pv H n L k) (vT H n L k)
  rw [mX_eq]; omega
theorem tm_b {H : Option (List (Cd × Cd))} {n : Int} {L : List (Int × Int)} (hL : plOK L) {k : Nat} (hk : k < L.length) : 0 ≤ tmF H n L k ∧ tmF H n L k ≤ 1098 := pv_b hL (k + 1) (by omega)
/-- the LAW that holds, to both -/
def HL (μ : Mm) (H : Option (List (Cd × Cd))) : Prop := (μ 70 32 = -1 ∧ H = none) ∨ ∃ (q n : Nat) (LW : List (Cd × Cd)), q < 4 ∧ μ 70 32 = (q : Int) ∧ H = some LW ∧ n ≤ 160 ∧ μ (37 + 2 * q) 1 = (n : Int) ∧ (∀ j, j < n → 1 ≤ μ (38 + 2 * q) j ∧ μ (38 + 2 * q) j ≤ 255) ∧ lawS (μ (38 + 2 * q)) n = some LW ∧ rowsAt μ q 0 0 LW
theorem inv_HL {μ : Mm} (hI : Inv μ) : ∃ H, HL μ H := by
  have h32 : -1 ≤ μ 70 32 ∧ μ 70 32 ≤ 3 := hI.2.1.1 70 32 (by decide)
  have h13 := hI.2.1.2.2.2.2.1
  obtain ⟨m, l1, l2, l3, l4⟩ := hI.2.2.2.2.1
  by_cases c : μ 70 32 = -1
  · exact ⟨none, Or.inl ⟨c, rfl⟩⟩
  · obtain ⟨n, LW, g1, g2, g3, g4, g5⟩ := l4 (μ 70 32).toNat (by omega)
    exact ⟨some LW, Or.inr ⟨(μ 70 32).toNat, n, LW, by omega, by omega, rfl, g1, g2, g3, g4, g5⟩⟩
/-- where the class finds it -/
def hC (μ : Mm) : Int := if μ 70 32 = -1 then -1 else ((37 + 2 * (μ 70 32).toNat : Nat) : Int)
theorem holds_eq {μ : Mm} (hI : Inv μ) : X10_lawThatHolds μ = some (hC μ, μ) := by
  have h32 : -1 ≤ μ 70 32 ∧ μ 70 32 ≤ 3 := hI.2.1.1 70 32 (by decide)
  have h13 := hI.2.1.2.2.2.2.1
  have hw : μ 0 17 = μ 70 32 := hI.2.2.2.2.2.2.1
  obtain ⟨m, l1, l2, l3, _⟩ := hI.2.2.2.2.1
  unfold X10_lawThatHolds hC
  rw [hw]
  by_cases c : μ 70 32 = -1
  · rw [if_pos (by omega), if_pos c]
  · have e36 : ((aN 36 : Nat) : Int) = 4 := rfl
    rw [if_neg (by omega), if_neg (by omega), if_neg (by rw [e36]; omega), if_neg c]
    unfold aL
    rw [if_pos (by show 0 ≤ μ 70 32 ∧ μ 70 32 < 4; omega)]
    rfl
def Wt (k _ : Nat) : Prop := k = 3 ∨ k = 4 ∨ k = 50
theorem open_l (l : Nat) (μ : Mm) : X4_open l μ = some (0, cr (sM μ 3 0 (l : Int)) 0 (-1)) := rfl
theorem J101_eq {K : Int → Int → Mm → Rs} {l1 : Nat} {l2 l5 l7 : Int} {k : Nat} (hk : k < 8) {μ : Mm} : X2_fillTimes_J101 K l1 l2 50 l5 (k : Int) l7 μ = K (mX l5 l7) ((k + 1 : Nat) : Int) (sM μ 50 k (mX l5 l7)) := by
  unfold X2_fillTimes_J101 stA
  rw [if_pos (by show (0 : Int) ≤ (k : Int) ∧ (k : Int) < 8; omega), Int.toNat_natCast, iA_nat (by omega)]
theorem pl_60 {l1 : Nat} (hk : kD l1 = (13, 3)) : aN (l1 + 1) = 8 ∧ aN (l1 + 2) = 8 ∧ 5 ≤ l1 ∧ l1 + 2 < 45 := by
  have h : ∀ l, l < 98 → kD l = (13, 3) → aN (l + 1) = 8 ∧ aN (l + 2) = 8 ∧ 5 ≤ l ∧ l + 2 < 45 := by decide +kernel
  by_cases c : l1 < 98
  · exact h l1 c hk
  · have e : kD l1 = (99, 0) := by
      unfold kD
      rw [List.getD_eq_getElem?_getD, List.getElem?_eq_none (by have : kL.length = 98 := rfl; omega)]
      rfl
    rw [e] at hk
    cases hk
theorem kD_lt2 : ∀ q, q < 4 → kD (37 + 2 * q) = (17, 2) := by decide
theorem fillC_L {μ : Mm} {H : Option (List (Cd × Cd))} (hH : HL μ H) {l1 : Nat} (hk : kD l1 = (13, 3)) {L : List (Int × Int)} (hP : hasP μ l1 0 L) (hl8 : L.length ≤ 8) (hL : plOK L) {n : Int} (hn : 0 ≤ n ∧ n ≤ 99) : ∀ (r k fuel : Nat) (ν : Mm), k + r = L.length → r < fuel → fw Wt μ ν → ν 4 3 = n → ν 4 5 = (L.length : Int) → ∃ ν', X2_fillTimes_L19 l1 (hC μ) 50 fuel (pv H n L k) (k : Int) ν = some (0, ν') ∧ fw Wt μ ν' ∧ (∀ j, j < k → ν' 50 j = ν 50 j) ∧ ∀ j, k ≤ j → j < L.length → ν' 50 j = tmF H n L j := by
  obtain ⟨p1, p2, p3, p4⟩ := pl_60 hk
  have size : ∀ {ν : Mm}, fw Wt μ ν → ν l1 2 = (L.length : Int) := fun h => by
    rw [h l1 2 (by unfold Wt; omega), hP.1, Nat.zero_add]
  intro r
  induction r with
  | zero =>
    intro k fuel ν hr hf hw h3 h5
    obtain ⟨g, rfl, _⟩ := lt_fuel hf
    refine ⟨ν, ?_, hw, fun _ _ => rfl, fun j h1 h2 => absurd h1 (by omega)⟩
    show (if (ν l1 2) ≤ (k : Int) then _ else _) = _
    rw [size hw, if_pos (by omega)]
  | succ r ih =>
    intro k fuel ν hr hf hw h3 h5
    obtain ⟨g, rfl, _⟩ := lt_fuel hf
    have hk8 : k < 8 := by omega
    have hkl : k < L.length := by omega
    have hb := plOK_at hL hkl
    have hPk := hP.2 k hkl
    rw [Nat.zero_add] at hPk
    have n1 : ν (l1 + 1) k = (L.getD k (0, 0)).1 := by rw [hw _ _ (by unfold Wt; omega)]; exact hPk.1
    have n2 : ν (l1 + 2) k = (L.getD k (0, 0)).2 := by rw [hw _ _ (by unfold Wt; omega)]; exact hPk.2
    have e50 : ((aN 50 : Nat) : Int) = 8 := rfl
    have hpv := pv_b (H := H) (n := n) hL k (by omega)
    have hvT := vT_b (H := H) (n := n) hL hkl
    -- the three letters written
    obtain ⟨ν1, hν1⟩ : ∃ ν1, ν1 = sM (sM (sM ν 4 1 (L.getD k (0, 0)).2) 4 2 (k : Int)) 4 4 (L.getD k (0, 0)).1 := ⟨_, rfl⟩
    have w1 : fw Wt μ ν1 := by
      rw [hν1]
      exact fw_sM (fw_sM (fw_sM hw (Or.inr (Or.inl rfl))) (Or.inr (Or.inl rfl))) (Or.inr (Or.inl rfl))
    have f1 : ν1 4 1 = (L.getD k (0, 0)).2 ∧ ν1 4 2 = (k : Int) ∧ ν1 4 3 = n ∧ ν1 4 4 = (L.getD k (0, 0)).1 ∧ ν1 4 5 = (L.length : Int) := by
      rw [hν1]
      refine ⟨?_, ?_, ?_, ?_, ?_⟩
      · rw [sM_j (by decide), sM_j (by decide), sM_s]
      · rw [sM_j (by decide), sM_s]
      · rw [sM_j (by decide), sM_j (by decide), sM_j (by decide)]; exact h3
      · rw [sM_s]
      · rw [sM_j (by decide), sM_j (by decide), sM_j (by decide)]; exact h5
    have f50 : ∀ j, ν1 50 j = ν 50 j := fun j => by rw [hν1, sM_a (by decide), sM_a (by decide), sM_a (by decide)]
    have e1 : X2_fillTimes_L19 l1 (hC μ) 50 (g + 1) (pv H n L k) (k : Int) ν = if hC μ = -1 then (X2_fillTimes_J101 (fun w5 w6 μq => X2_fillTimes_L19 l1 (hC μ) 50 g w5 w6 μq) l1 (hC μ) 50 (pv H n L k) (k : Int) (ν1 4 1) ν1) else (kC (hC μ) (17, 2) fun _ => bd (X4_open ((hC μ).toNat) ν1) fun v16 μ17 => bd (X2_worth μ17) fun v19 μ20 => lt_ (iA (ν1 4 1) (mX (-99) (mN 99 v19))) fun v22 => X2_fillTimes_J101 (fun w5 w6 μq => X2_fillTimes_L19 l1 (hC μ) 50 g w5 w6 μq) l1 (hC μ) 50 (pv H n L k) (k : Int) v22 μ20) := by
      show (if (ν l1 2) ≤ (k : Int) then _ else _) = _
      rw [size hw, if_neg (by omega), e50, if_neg (by omega)]
      unfold ldA sF
      rw [if_pos (by rw [p2]; omega), Int.toNat_natCast, n2]
      dsimp only
      have n1' : sM (sM ν 4 1 (L.getD k (0, 0)).2) 4 2 (k : Int) (l1 + 1) k = (L.getD k (0, 0)).1 := by rw [sM_a (by omega), sM_a (by omega)]; exact n1
      rw [if_pos (by rw [p1]; omega), n1', ← hν1]
    -- what goes on
    have go : ∀ (v : Int) (ν2 : Mm), v = vT H n L k → fw Wt μ ν2 → ν2 4 3 = n → ν2 4 5 = (L.length : Int) → (∀ j, ν2 50 j = ν 50 j) → ∃ ν', X2_fillTimes_J101 (fun w5 w6 μq => X2_fillTimes_L19 l1 (hC μ) 50 g w5 w6 μq) l1 (hC μ) 50 (pv H n L k) (k : Int) v ν2 = some (0, ν') ∧ fw Wt μ ν' ∧ (∀ j, j < k → ν' 50 j = ν 50 j) ∧ ∀ j, k ≤ j → j < L.length → ν' 50 j = tmF H n L j := by
      intro v ν2 hv w2 g3 g5 g50
      rw [J101_eq hk8, hv]
      obtain ⟨ν', r1, r2, r3, r4⟩ := ih (k + 1) g (sM ν2 50 k (mX (pv H n L k) (vT H n L k))) (by omega) (by omega) (fw_sM w2 (Or.inr (Or.inr rfl))) (by rw [sM_a (by decide)]; exact g3) (by rw [sM_a (by decide)]; exact g5)
      refine ⟨ν', r1, r2, fun j hj => by rw [r3 j (by omega), sM_j (by omega), g50], fun j j1 j2 => ?_⟩
      by_cases c : j = k
      · rw [c, r3 k (by omega), sM_s]; rfl
      · exact r4 j (by omega) j2
    rw [e1]
    rcases hH with ⟨h1, h2⟩ | ⟨q, m, LW, q1, q2, q3, q4, q5, q6, q7, q8⟩
    · have ec : hC μ = -1 := by unfold hC; rw [if_pos h1]
      rw [if_pos ec]
      refine go _ ν1 ?_ w1 f1.2.2.1 f1.2.2.2.2 f50
      rw [f1.1]
      unfold vT
      rw [h2]
      show _ = _ + (0 : Int)
      omega
    · have ec : hC μ = ((37 + 2 * q : Nat) : Int) := by
        unfold hC
        rw [if_neg (by omega), q2, Int.toNat_natCast]
      have kq := kD_lt2 q q1
      obtain ⟨ν2, hν2⟩ : ∃ ν2, ν2 = sM ν1 3 0 ((37 + 2 * q : Nat) : Int) := ⟨_, rfl⟩
      have w2 : fw Wt μ ν2 := by rw [hν2]; exact fw_sM w1 (Or.inl rfl)
      have hTx : Tx (μ (38 + 2 * q)) m ν2 := by
        refine ⟨q4, 37 + 2 * q, by rw [hν2, sM_s], kq, ?_, fun j hj => ?_⟩
        · rw [w2 _ _ (by unfold Wt; omega)]; exact q5
        · have e38 : 37 + 2 * q + 1 = 38 + 2 * q := by omega
          rw [w2 _ _ (by unfold Wt; omega), e38]
      have o4 : ∀ i, ν2 4 i = ν1 4 i := fun i => by rw [hν2, sM_a (by decide)]
      have henv : ∀ i, i < 5 → envC ν2 i = en5 (L.getD k (0, 0)).2 (k : Int) n (L.getD k (0, 0)).1 (L.length : Int) i := by
        intro i hi
        show ν2 4 (i + 1) = _
        rw [o4]
        have hi' : i = 0 ∨ i = 1 ∨ i = 2 ∨ i = 3 ∨ i = 4 := by omega
        rcases hi' with rfl | rfl | rfl | rfl | rfl
        · exact f1.1
        · exact f1.2.1
        · exact f1.2.2.1
        · exact f1.2.2.2.1
        · exact f1.2.2.2.2
      have hE : eOK (envC ν2) := by
        intro i hi
        rw [henv i hi]
        have hi' : i = 0 ∨ i = 1 ∨ i = 2 ∨ i = 3 ∨ i = 4 := by omega
        rcases hi' with rfl | rfl | rfl | rfl | rfl
        · show -2147483648 ≤ (L.getD k (0, 0)).2 ∧ (L.getD k (0, 0)).2 ≤ 2147483647
          omega
        · show -2147483648 ≤ (k : Int) ∧ (k : Int) ≤ 2147483647
          omega
        · show -2147483648 ≤ n ∧ n ≤ 2147483647
          omega
        · show -2147483648 ≤ (L.getD k (0, 0)).1 ∧ (L.getD k (0, 0)).1 ≤ 2147483647
          omega
        · show -2147483648 ≤ (L.length : Int) ∧ (L.length : Int) ≤ 2147483647
          omega
      have hW := worthC hTx q6 hE
      rw [q7] at hW
      obtain ⟨p', hW⟩ := hW
      have ev : lawV (envC ν2) LW = lawV (en5 (L.getD k (0, 0)).2 (k : Int) n (L.getD k (0, 0)).1 (L.length : Int)) LW := lawV_e henv LW (rows_gd LW _ _ q8)
      have w3 : fw Wt μ (cr ν2 p' (-1)) := by
        unfold cr
        exact fw_sM (fw_sM w2 (Or.inl rfl)) (Or.inl rfl)
      rw [if_neg (by rw [ec]; omega)]
      unfold kC
      rw [ec, Int.toNat_natCast, if_pos kq, open_l, bd_some, ← hν2, hW, bd_some, f1.1, ← ec]
      unfold lt_
      refine go _ _ ?_ w3 (by rw [cr_c (by decide), o4]; exact f1.2.2.1) (by rw [cr_c (by decide), o4]; exact f1.2.2.2.2) (fun j => by rw [cr_c (by decide), hν2, sM_a (by decide), f50])
      rw [ev]
      have hwb := wrt_b H (en5 (L.getD k (0, 0)).2 (k : Int) n (L.getD k (0, 0)).1 (L.length : Int))
      rw [q3] at hwb
      unfold vT
      rw [q3]
      have e9 : wrt (some LW) (en5 (L.getD k (0, 0)).2 (k : Int) n (L.getD k (0, 0)).1 (L.length : Int)) = mX (-99) (mN 99 (lawV (en5 (L.getD k (0, 0)).2 (k : Int) n (L.getD k (0, 0)).1 (L.length : Int)) LW)) := rfl
      rw [e9] at hwb ⊢
      exact iA_id (by omega) (by omega)
theorem fillC {μ : Mm} {H : Option (List (Cd × Cd))} (hH : HL μ H) {l1 : Nat} (hk : kD l1 = (13, 3)) {L : List (Int × Int)} (hP : hasP μ l1 0 L) (hl8 : L.length ≤ 8) (hL : plOK L) {n : Int} (hn : 0 ≤ n ∧ n ≤ 99) : ∃ ν, X2_fillTimes l1 (hC μ) n 50 μ = some (0, ν) ∧ fw Wt μ ν ∧ ∀ j, j < L.length → ν 50 j = tmF H n L j := by
  have hp := pl_60 hk
  have e5 : sM μ 4 3 n l1 2 = (L.length : Int) := by rw [sM_a (by omega), hP.1, Nat.zero_add]
  obtain ⟨ν, r1, r2, _, r4⟩ := fillC_L hH hk hP hl8 hL hn L.length 0 FU (sM (sM μ 4 3 n) 4 5 (L.length : Int)) (by omega) (by show L.length < 1000000; omega) (fw_sM (fw_sM fw_rf (Or.inr (Or.inl rfl))) (Or.inr (Or.inl rfl))) (by rw [sM_j (by decide), sM_s]) (by rw [sM_s])
  refine ⟨ν, ?_, r2, fun j hj => r4 j (Nat.zero_le _) hj⟩
  unfold X2_fillTimes
  rw [sF_r, sF_r, e5]
  exact r1
/-! the reference -/
def Wm (k _ : Nat) : Prop := k = 79 ∨ k = 80 ∨ k = 88
theorem J107_eq {K : Int → Mm → Rs} {l1 l2 v : Int} {k : Nat} (hk : k < 8) {μ : Mm} : X11_layTimes_J107 K l1 l2 (k : Int) v μ = K ((k + 1 : Nat) : Int) (sM μ 88 k (mX (if k = 0 then 0 else μ 88 (k - 1)) v)) := by
  unfold X11_layTimes_J107 ldA stA
  by_cases c : k = 0
  · subst c
    rw [if_pos rfl, if_pos (by decide)]
    rfl
  · have e : iS (k : Int) 1 = ((k - 1 : Nat) : Int) := by rw [iS_id (by omega) (by omega)]; omega
    rw [if_neg (by omega), e, if_pos (by show (0 : Int) ≤ ((k - 1 : Nat) : Int) ∧ ((k - 1 : Nat) : Int) < 8; omega), Int.toNat_natCast, if_neg c]
    dsimp only
    rw [if_pos (by show (0 : Int) ≤ (k : Int) ∧ (k : Int) < 8; omega), Int.toNat_natCast, iA_nat (by omega)]
theorem layT_L {μ : Mm} {H : Option (List (Cd × Cd))} (hH : HL μ H) {p : Nat} (hp : p ≤ 4) {L : List (Int × Int)} (hM : hasM μ p 0 L) (hl8 : L.length ≤ 8) (hL : plOK L) {n : Int} (hn : 0 ≤ n ∧ n ≤ 99) : ∀ (r k fuel : Nat) (ν : Mm), k + r = L.length → r < fuel → Bm ν → fw Wm μ ν → (∀ j, j < k → ν 88 j = tmF H n L j) → ∃ ν', X11_layTimes_L2 (p : Int) n fuel (k : Int) ν = some (0, ν') ∧ Bm ν' ∧ fw Wm μ ν' ∧ ∀ j, j < L.length → ν' 88 j = tmF H n L j := by
  have size : ∀ {ν : Mm}, fw Wm μ ν → ν 85 p = (L.length : Int) := fun h => by
    rw [h 85 p (by unfold Wm; omega), hM.1, Nat.zero_add]
  intro r
  induction r with
  | zero =>
    intro k fuel ν hr hf hB hw h88
    obtain ⟨g, rfl, _⟩ := lt_fuel hf
    refine ⟨ν, ?_, hB, hw, fun j hj => h88 j (by omega)⟩
    show ldA ν 85 (p : Int) _ = _
    unfold ldA
    rw [if_pos (by show (0 : Int) ≤ (p : Int) ∧ (p : Int) < 6; omega), Int.toNat_natCast, size hw]
    dsimp only
    rw [if_pos (by omega)]
  | succ r ih =>
    intro k fuel ν hr hf hB hw h88
    obtain ⟨g, rfl, _⟩ := lt_fuel hf
    have hk8 : k < 8 := by omega
    have hkl : k < L.length := by omega
    have hb := plOK_at hL hkl
    have hMk := hM.2 k hkl
    rw [Nat.zero_add] at hMk
    have n1 : ν 83 (8 * p + k) = (L.getD k (0, 0)).1 := by rw [hw _ _ (by unfold Wm; omega)]; exact hMk.1
    have n2 : ν 84 (8 * p + k) = (L.getD k (0, 0)).2 := by rw [hw _ _ (by unfold Wm; omega)]; exact hMk.2
    have hvT := vT_b (H := H) (n := n) hL hkl
    have hpv := pv_b (H := H) (n := n) hL k (by omega)
    have e1 : X11_layTimes_L2 (p : Int) n (g + 1) (k : Int) ν = if (ν 70 32) = (-1) then (X11_layTimes_J107 (fun w3 μq => X11_layTimes_L2 (p : Int) n g w3 μq) (p : Int) n (k : Int) (L.getD k (0, 0)).2 ν) else (bd (X11_worthOf (ν 70 32) (sM (sM (sM (sM (sM ν 79 0 (L.getD k (0, 0)).2) 79 1 (k : Int)) 79 2 n) 79 3 (L.getD k (0, 0)).1) 79 4 (L.length : Int))) fun v28 μ29 => lt_ (iA (L.getD k (0, 0)).2 (mX (-99) (mN 99 v28))) fun v31 => X11_layTimes_J107 (fun w3 μq => X11_layTimes_L2 (p : Int) n g w3 μq) (p : Int) n (k : Int) v31 μ29) := by
      show ldA ν 85 (p : Int) _ = _
      unfold ldA
      rw [if_pos (by show (0 : Int) ≤ (p : Int) ∧ (p : Int) < 6; omega), Int.toNat_natCast, size hw]
      dsimp only
      rw [if_neg (by omega), iA_off (l := p) (k := k) (by omega) (by omega), if_pos (by show (0 : Int) ≤ ((8 * p + k : Nat) : Int) ∧ ((8 * p + k : Nat) : Int) < 48; omega), Int.toNat_natCast, n2]
      by_cases c : ν 70 32 = -1
      · rw [if_pos c, if_pos c]
      · rw [if_neg c, if_neg c]
        unfold stA
        rw [if_pos (by decide)]
        try dsimp only
        rw [if_pos (by decide)]
        try dsimp only
        rw [if_pos (by decide)]
        try dsimp only
        rw [if_pos (by show (0 : Int) ≤ ((8 * p + k : Nat) : Int) ∧ ((8 * p + k : Nat) : Int) < 48; omega)]
        try dsimp only
        rw [if_pos (by decide)]
        try dsimp only
        rw [if_pos (by show (0 : Int) ≤ (p : Int) ∧ (p : Int) < 6; omega)]
        try dsimp only
        rw [if_pos (by decide)]
        have a83 : ∀ (x : Mm), x 83 (8 * p + k) = x 83 (8 * p + k) := fun _ => rfl
        have z83 : sM (sM (sM ν 79 (0 : Int).toNat (L.getD k (0, 0)).2) 79 (1 : Int).toNat (k : Int)) 79 (2 : Int).toNat n 83 (8 * p + k) = (L.getD k (0, 0)).1 := by rw [sM_a (by decide), sM_a (by decide), sM_a (by decide)]; exact n1
        have z85 : sM (sM (sM (sM ν 79 (0 : Int).toNat (L.getD k (0, 0)).2) 79 (1 : Int).toNat (k : Int)) 79 (2 : Int).toNat n) 79 (3 : Int).toNat (L.getD k (0, 0)).1 85 p = (L.length : Int) := by rw [sM_a (by decide), sM_a (by decide), sM_a (by decide), sM_a (by decide)]; exact size hw
        rw [z83, z85]
        have z32 : sM (sM (sM (sM (sM ν 79 (0 : Int).toNat (L.getD k (0, 0)).2) 79 (1 : Int).toNat (k : Int)) 79 (2 : Int).toNat n) 79 (3 : Int).toNat (L.getD k (0, 0)).1) 79 (4 : Int).toNat (L.length : Int) 70 32 = ν 70 32 := by rw [sM_a (by decide), sM_a (by decide), sM_a (by decide), sM_a (by decide), sM_a (by decide)]
        rw [z32]
        rfl
    have go : ∀ (v : Int) (ν2 : Mm), v = vT H n L k → Bm ν2 → fw Wm μ ν2 → (∀ j, ν2 88 j = ν 88 j) → ∃ ν', X11_layTimes_J107 (fun w3 μq => X11_layTimes_L2 (p : Int) n g w3 μq) (p : Int) n (k : Int) v ν2 = some (0, ν') ∧ Bm ν' ∧ fw Wm μ ν' ∧ ∀ j, j < L.length → ν' 88 j = tmF H n L j := by
      intro v ν2 hv hB2 w2 g88
      have ep : (if k = 0 then 0 else ν2 88 (k - 1)) = pv H n L k := by
        by_cases c : k = 0
        · rw [if_pos c, c]; rfl
        · rw [if_neg c, g88, h88 (k - 1) (by omega)]
          have : k - 1 + 1 = k := by omega
          unfold tmF
          rw [this]
      have et : tmF H n L k = mX (pv H n L k) (vT H n L k) := rfl
      have hb3 := tm_b (H := H) (n := n) hL hkl
      rw [J107_eq hk8, ep, hv, ← et]
      refine ih (k + 1) g _ (by omega) (by omega) (Bm_sM hB2 (show (-2147483648 : Int) ≤ tmF H n L k ∧ tmF H n L k ≤ 2147483647 by omega)) (fw_sM w2 (Or.inr (Or.inr rfl))) (fun j hj => ?_)
      by_cases c : j = k
      · rw [c, sM_s]
      · rw [sM_j c, g88, h88 j (by omega)]
    rw [e1]
    rcases hH with ⟨h1, h2⟩ | ⟨q, m, LW, q1, q2, q3, q4, q5, q6, q7, q8⟩
    · rw [if_pos (by rw [hw 70 32 (by unfold Wm; omega)]; exact h1)]
      refine go _ ν ?_ hB hw (fun _ => rfl)
      unfold vT
      rw [h2]
      show _ = _ + (0 : Int)
      omega
    · have e32 : ν 70 32 = (q : Int) := by rw [hw 70 32 (by unfold Wm; omega)]; exact q2
      rw [if_neg (by omega), e32]
      obtain ⟨ν1, hν1⟩ : ∃ ν1, ν1 = sM (sM (sM (sM (sM ν 79 0 (L.getD k (0, 0)).2) 79 1 (k : Int)) 79 2 n) 79 3 (L.getD k (0, 0)).1) 79 4 (L.length : Int) := ⟨_, rfl⟩
      rw [← hν1]
      have hB1 : Bm ν1 := by
        rw [hν1]
        exact Bm_sM (Bm_sM (Bm_sM (Bm_sM (Bm_sM hB (show (-2147483648 : Int) ≤ (L.getD k (0, 0)).2 ∧ (L.getD k (0, 0)).2 ≤ 2147483647 by omega)) (show (-2147483648 : Int) ≤ (k : Int) ∧ (k : Int) ≤ 2147483647 by omega)) (show (-2147483648 : Int) ≤ n ∧ n ≤ 2147483647 by omega)) (show (-2147483648 : Int) ≤ (L.getD k (0, 0)).1 ∧ (L.getD k (0, 0)).1 ≤ 2147483647 by omega)) (show (-2147483648 : Int) ≤ (L.length : Int) ∧ (L.length : Int) ≤ 2147483647 by omega)
      have w1 : fw Wm μ ν1 := by
        rw [hν1]
        exact fw_sM (fw_sM (fw_sM (fw_sM (fw_sM hw (Or.inl rfl)) (Or.inl rfl)) (Or.inl rfl)) (Or.inl rfl)) (Or.inl rfl)
      have hR1 : rowsAt ν1 q 0 0 LW := rows_agr (agr_of _ (fun k j h1 h2 => w1 k j (by unfold Wm; omega))) _ _ _ q8
      obtain ⟨ν2, g1, g2, g3, g4⟩ := worthM (by omega) hB1 hR1
      have hB2 : Bm ν2 := fun k j hk => by
        by_cases c : k = 80
        · rw [c]; exact g3 j
        · rw [g2 k j c]; exact hB1 k j hk
      have w2 : fw Wm μ ν2 := fun k j hn2 => by rw [g2 k j (fun z => hn2 (Or.inr (Or.inl z))), w1 k j hn2]
      rw [g1, bd_some]
      unfold lt_
      refine go _ ν2 ?_ hB2 w2 (fun j => by rw [g2 88 j (by unfold f80; decide), hν1, sM_a (by decide), sM_a (by decide), sM_a (by decide), sM_a (by decide), sM_a (by decide)])
      have henv : ∀ i, i < 5 → ν1 79 i = en5 (L.getD k (0, 0)).2 (k : Int) n (L.getD k (0, 0)).1 (L.length : Int) i := by
        intro i hi
        rw [hν1]
        have hi' : i = 0 ∨ i = 1 ∨ i = 2 ∨ i = 3 ∨ i = 4 := by omega
        rcases hi' with rfl | rfl | rfl | rfl | rfl
        · rw [sM_j (by decide), sM_j (by decide), sM_j (by decide), sM_j (by decide), sM_s]; rfl
        · rw [sM_j (by decide), sM_j (by decide), sM_j (by decide), sM_s]; rfl
        · rw [sM_j (by decide), sM_j (by decide), sM_s]; rfl
        · rw [sM_j (by decide), sM_s]; rfl
        · rw [sM_s]; rfl
      have ev : lawV (ν1 79) LW = lawV (en5 (L.getD k (0, 0)).2 (k : Int) n (L.getD k (0, 0)).1 (L.length : Int)) LW := lawV_e henv LW (rows_gd LW _ _ q8)
      rw [ev]
      have hwb := wrt_b H (en5 (L.getD k (0, 0)).2 (k : Int) n (L.getD k (0, 0)).1 (L.length : Int))
      rw [q3] at hwb
      unfold vT
      rw [q3]
      have e9 : wrt (some LW) (en5 (L.getD k (0, 0)).2 (k : Int) n (L.getD k (0, 0)).1 (L.length : Int)) = mX (-99) (mN 99 (lawV (en5 (L.getD k (0, 0)).2 (k : Int) n (L.getD k (0, 0)).1 (L.length : Int)) LW)) := rfl
      rw [e9] at hwb ⊢
      exact iA_id (by omega) (by omega)
theorem layT {μ : Mm} (hB : Bm μ) {H : Option (List (Cd × Cd))} (hH : HL μ H) {p : Nat} (hp : p ≤ 4) {L : List (Int × Int)} (hM : hasM μ p 0 L) (hl8 : L.length ≤ 8) (hL : plOK L) {n : Int} (hn : 0 ≤ n ∧ n ≤ 99) : ∃ ν, X11_layTimes (p : Int) n μ = some (0, ν) ∧ Bm ν ∧ fw Wm μ ν ∧ ∀ j, j < L.length → ν 88 j = tmF H n L j :=
  layT_L hH hp hM hl8 hL hn L.length 0 FU μ (by omega) (by show L.length < 1000000; omega) hB fw_rf (fun j hj => absurd hj (by omega))
