/-! a PLAY is taken, a LAW is taken, TEXT -/
theorem kD_pl : ∀ m, m < 5 → kD (18 + 3 * m) = (13, 3) := by decide
theorem kD_ltx : ∀ m, m < 4 → kD (37 + 2 * m) = (17, 2) := by decide
theorem kD_lw : ∀ m, m < 4 → kD (38 + 2 * m) = (0, 160) := by decide
def WTP (m k j : Nat) : Prop := k = 3 ∨ (18 + 3 * m ≤ k ∧ k ≤ 20 + 3 * m) ∨ (k = 0 ∧ j = 15) ∨ (k = 1 ∧ j = 1)
theorem k_tp {t : Nat → Int} {n m : Nat} {μ : Mm} (hBx : Bx μ) (h : Ta t n μ) (hm : m < 5) (h15 : μ 0 15 = (m : Int)) {L : List (Int × Int)} (hL : plS t n = some L) : ∃ ν, X10_takePlay μ = some ((m : Int), ν) ∧ hasP ν (18 + 3 * m) 0 L ∧ ν 0 15 = ((m + 1 : Nat) : Int) ∧ ν 1 1 = 0 ∧ fw (WTP m) μ ν ∧ Bx ν := by
  obtain ⟨ν', p', f, e, hf, hp⟩ := playC (l0 := 18 + 3 * m) h.2.2.2.2.2 (kD_pl m hm) (Ta_Tx h)
  rw [hL] at hp
  have hf' : ∀ k j, ¬ (18 + 3 * m ≤ k ∧ k ≤ 18 + 3 * m + 2) → ν' k j = sM μ 3 0 1 k j := fun k j hn => hf k j hn
  have o1 : ∀ k j, k ≠ 3 → ¬ (18 + 3 * m ≤ k ∧ k ≤ 18 + 3 * m + 2) → cr ν' p' f k j = μ k j := fun k j h3 h5 => by
    rw [cr_c h3, hf' k j h5, sM_a h3]
  have bA : Bx (cr ν' p' f) := by
    have t1 := t_X3_read (W := W70) (l0 := 18 + 3 * m) scr_70 (fun k j _ h2 => by unfold W70; omega) (kD_pl m hm) (St_rf (bx_open hBx))
    rw [e, wp_some] at t1
    exact t1.1.1
  refine ⟨sM (sM (cr ν' p' f) 1 1 0) 0 15 ((m + 1 : Nat) : Int), ?_, ⟨?_, fun i hi => ?_⟩, ?_, ?_, ?_, bxS (bxS bA (by decide) (by decide) (by decide) (by decide)) (show (0 : Int) ≤ ((m + 1 : Nat) : Int) ∧ ((m + 1 : Nat) : Int) ≤ 5 by omega) (by decide) (by decide) (by decide)⟩
  · have e15 : cr (sM μ 3 0 1) 0 (-1) 0 15 = (m : Int) := by rw [cr_c (by decide), sM_a (by decide)]; exact h15
    unfold X10_takePlay
    rw [h15, if_pos (by omega), open_eq, bd_some, e15]
    unfold aL
    rw [if_pos (by show (0 : Int) ≤ (m : Int) ∧ (m : Int) < 5; omega), Int.toNat_natCast]
    have ea : aE 17 m = 18 + 3 * m := rfl
    rw [ea]
    dsimp only
    rw [e, bd_some]
    unfold X7_cut sF
    try dsimp only
    rw [if_neg (by decide), if_pos (by rw [o1 1 1 (by decide) (by omega), h.2.1]; omega)]
    try dsimp only
    rw [bd_some, sM_a (show (0 : Nat) ≠ 1 by decide), o1 0 15 (by decide) (by omega), h15, iA_nat (by omega), sM_s, ei3 (by omega)]
  · rw [sM_a (by omega), sM_a (by omega), cr_c (by omega)]; exact hp.2.1
  · rw [sM_a (by omega), sM_a (by omega), cr_c (by omega), sM_a (by omega), sM_a (by omega), cr_c (by omega)]; exact hp.2.2 i hi
  · rw [sM_s]
  · rw [sM_a (by decide), sM_s]
  · exact fw_sM (fw_sM (fun k j hn => o1 k j (fun z => hn (by unfold WTP; omega)) (fun z => hn (by unfold WTP; omega))) (by unfold WTP; omega)) (by unfold WTP; omega)
def WY (m k j : Nat) : Prop := WTP m k j ∨ wPl m k j ∨ (k = 70 ∧ (j = 2 ∨ j = 28))
theorem J69_1 (μ : Mm) : X11_text_J69 1 μ = some (-1, μ) := by unfold X11_text_J69; rw [if_neg (by decide)]
theorem x_pl {t : Nat → Int} {n m : Nat} {μ : Mm} (hI : Inv μ) (h : Ta t n μ) (hm : m < 5) (h15 : μ 0 15 = (m : Int)) (h28 : μ 70 28 = (m : Int)) {L : List (Int × Int)} (hL : plS t n = some L) : ∃ r ν μ', X10_takePlay μ = some (r, ν) ∧ X11_text 1 ν = some (r, μ') ∧ Inv μ' := by
  obtain ⟨ν, e1, c1, c2, c3, cf, hBx⟩ := k_tp hI.1 h hm h15 hL
  have o1 : ∀ k j, 70 ≤ k → ν k j = μ k j := fun k j hk => cf k j (by unfold WTP; omega)
  have hB1 : Bm ν := fun k j hk => by rw [o1 k j hk]; exact hI.2.1.1 k j hk
  have hTm' : Tm t n ν := ⟨h.1, by rw [o1 70 2 (by decide)]; exact h.2.2.1, fun j hj => by rw [o1 71 j (by decide)]; exact h.2.2.2.2.1 j hj⟩
  obtain ⟨f, μ', a, e2, ha, hf, h4, hr⟩ := playM h.2.2.2.2.2 (l := m) (by omega) hB1 hTm'
  rw [hL] at hr
  obtain ⟨r0, r1⟩ := hr
  have h160 := h.1
  obtain ⟨l1, l2, l3⟩ := plS_J hL
  have e28 : ma μ' a 70 28 = (m : Int) := by rw [ma_j (by decide), hf.2 70 28 (by unfold wPl; omega), o1 70 28 (by decide)]; exact h28
  have e28' : sM (ma μ' a) 70 2 0 70 28 = (m : Int) := by rw [sM_j (by decide)]; exact e28
  have e4 : X11_text 1 ν = some ((m : Int), sM (sM (ma μ' a) 70 2 0) 70 28 ((m + 1 : Nat) : Int)) := by
    unfold X11_text
    rw [if_neg (by decide)]
    unfold X11_text_J22
    rw [if_pos rfl, o1 70 28 (by decide), h28, if_neg (by omega), e2, bd_some, if_pos r0]
    unfold sF
    dsimp only
    rw [e28', iA_nat (by omega), sM_s, ei3 (by omega)]
  refine ⟨_, ν, _, e1, e4, ?_⟩
  generalize hξ : sM (sM (ma μ' a) 70 2 0) 70 28 ((m + 1 : Nat) : Int) = ξ
  have x70 : ∀ k j, k ≠ 70 → ξ k j = μ' k j := fun k j hk => by rw [← hξ, sM_a hk, sM_a hk, ma_c hk]
  have o2 : ∀ k j, k < 70 → ξ k j = ν k j := fun k j hk => by rw [x70 k j (by omega), hf.2 k j (by unfold wPl; omega)]
  have x28 : ξ 70 28 = ((m + 1 : Nat) : Int) := by rw [← hξ, sM_s]
  have x2 : ξ 70 2 = 0 := by rw [← hξ, sM_j (by decide), sM_s]
  have hfw : fw (WY m) μ ξ := fun k j hn => by
    unfold WY at hn
    by_cases c : k = 70
    · subst c
      rw [← hξ, sM_j (by omega), sM_j (by omega), ma_j (fun z => hn (Or.inr (Or.inl (by unfold wPl; omega)))), hf.2 70 j (fun z => hn (Or.inr (Or.inl z))), o1 70 j (by decide)]
    · rw [x70 k j c, hf.2 k j (fun z => hn (Or.inr (Or.inl z))), cf k j (fun z => hn (Or.inl z))]
  have hB2 : Bm ξ := by
    rw [← hξ]
    exact Bm_sM (Bm_sM (Bm_ma hf.1 (by omega)) (show (0 : Int) ≤ 0 ∧ (0 : Int) ≤ 160 by decide)) (show (0 : Int) ≤ ((m + 1 : Nat) : Int) ∧ ((m + 1 : Nat) : Int) ≤ 5 by omega)
  have w0 : ∀ k j, k ≠ 3 → ¬ (18 ≤ k ∧ k ≤ 32) → ¬ (k = 0 ∧ j = 15) → ¬ (k = 1 ∧ j = 1) → ¬ (k = 70 ∧ (j = 2 ∨ j = 3 ∨ j = 4 ∨ j = 28)) → ¬ (83 ≤ k ∧ k ≤ 85) → ξ k j = μ k j := fun k j g1 g2 g3 g4 g5 g6 => hfw k j (by unfold WY WTP wPl; omega)
  have hPm : hasM ξ m 0 L := ⟨by rw [x70 85 m (by decide)]; exact r1.1, fun i hi => by rw [x70 83 _ (by decide), x70 84 _ (by decide)]; exact r1.2 i hi⟩
  have hPc : hasP ξ (18 + 3 * m) 0 L := ⟨by rw [o2 _ _ (by omega)]; exact c1.1, fun i hi => by rw [o2 _ _ (by omega), o2 _ _ (by omega)]; exact c1.2 i hi⟩
  have hPl : Pl ξ := by
    obtain ⟨k, p1, p2, p3, p4⟩ := hI.2.2.2.1
    have ek : k = m := by omega
    subst ek
    refine ⟨k + 1, by omega, ?_, x28, fun p hp => ?_⟩
    · rw [o2 0 15 (by decide), c2]
    · by_cases c : p = k
      · rw [c]; exact ⟨L, l1, l2, hPc, hPm⟩
      · obtain ⟨L', g1, g2, g3, g4⟩ := p4 p (by omega)
        refine ⟨L', g1, g2, ⟨?_, fun i hi => ?_⟩, ⟨?_, fun i hi => ?_⟩⟩
        · rw [hfw _ _ (by unfold WY WTP wPl; omega)]; exact g3.1
        · rw [hfw _ _ (by unfold WY WTP wPl; omega), hfw _ _ (by unfold WY WTP wPl; omega)]; exact g3.2 i hi
        · rw [hfw _ _ (by unfold WY WTP wPl; omega)]; exact g4.1
        · rw [hfw _ _ (by unfold WY WTP wPl; omega), hfw _ _ (by unfold WY WTP wPl; omega)]; exact g4.2 i hi
  have hIr : Ir ξ := by
    refine Ir_gen hI.2.1 hB2 (fun p k hp hk => ?_) (w0 70 23 (by decide) (by decide) (by decide) (by decide) (by decide) (by decide)) (w0 70 24 (by decide) (by decide) (by decide) (by decide) (by decide) (by decide)) (w0 70 53 (by decide) (by decide) (by decide) (by decide) (by decide) (by decide)) (w0 70 32 (by decide) (by decide) (by decide) (by decide) (by decide) (by decide)) (by rw [w0 70 13 (by decide) (by decide) (by decide) (by decide) (by decide) (by decide)]; exact Int.le_refl _) (fun j => w0 82 j (by decide) (by decide) (by omega) (by omega) (by omega) (by decide)) (fun j => w0 96 j (by decide) (by decide) (by omega) (by omega) (by omega) (by decide)) (fun l q1 q2 => ?_)
    · rw [x28] at hp
      by_cases c : p = m
      · rw [c] at hk ⊢
        have h85 : ξ 85 m = ((0 + L.length : Nat) : Int) := hPm.1
        have hi : k < L.length := by omega
        have hk2 := (hPm.2 k hi).1
        rw [Nat.zero_add] at hk2
        rw [hk2]
        have := plOK_at l3 hi
        exact ⟨this.1, this.2.1⟩
      · have hb : μ 85 p ≤ 8 := (hI.2.1.1 85 p (by decide)).2
        rw [hfw 85 p (by unfold WY WTP wPl; omega)] at hk
        rw [hfw 83 _ (by unfold WY WTP wPl; omega)]
        exact hI.2.1.2.1 p k (by omega) hk
    · rw [w0 70 13 (by decide) (by decide) (by decide) (by decide) (by decide) (by decide)] at q2
      exact LawOK_congr (hI.2.1.2.2.2.2.2.1 l q1 q2) (agr_of l (fun k j g1 g2 => w0 k j (by omega) (by omega) (by omega) (by omega) (by omega) (by omega)))
  refine Inv_W hI (Bx_congr hBx o2) hIr hfw (Or.inr ⟨0, by decide, ?_, x2, fun j hj => absurd hj (by omega)⟩) (Or.inr hPl) (Or.inl ?_) (Or.inl ?_) (Or.inl ?_) (Or.inl ?_) (Or.inl ?_)
  · rw [o2 1 1 (by decide), c3]; rfl
  · intro k j g; unfold kLw at g; unfold WY WTP wPl; omega
  · intro k j g; unfold kCl at g; unfold WY WTP wPl; omega
  · intro k j g; unfold kH at g; unfold WY WTP wPl; omega
  · intro k j g; unfold kI at g; unfold WY WTP wPl; omega
  · intro k j g; unfold kU at g; unfold WY WTP wPl; omega
def WTL (m k j : Nat) : Prop := (37 + 2 * m ≤ k ∧ k ≤ 38 + 2 * m) ∨ (k = 0 ∧ j = 16) ∨ (k = 1 ∧ j = 1)
theorem k_tl {n m : Nat} {μ : Mm} (hBx : Bx μ) (h : μ 1 1 = (n : Int)) (hm : m < 4) (h16 : μ 0 16 = (m : Int)) : ∃ ν, X10_takeLaw μ = some ((m : Int), ν) ∧ ν (37 + 2 * m) 1 = (n : Int) ∧ (∀ j, ν (38 + 2 * m) j = if (j : Int) < 160 then μ 2 j else μ (38 + 2 * m) j) ∧ ν 0 16 = ((m + 1 : Nat) : Int) ∧ ν 1 1 = 0 ∧ fw (WTL m) μ ν ∧ Bx ν := by
  have hk := kD_lw m hm
  have hk160 : aN (38 + 2 * m) = 160 := by unfold aN; rw [hk]
  have e11 : ∀ j, cA_ μ 2 (38 + 2 * m) 160 1 j = μ 1 j := fun j => cA_o (by omega) j
  have ec : X7_copy (37 + 2 * m) 1 μ = some (0, sM (cA_ μ 2 (38 + 2 * m) 160) (37 + 2 * m) 1 (n : Int)) := by
    unfold X7_copy cpA sF
    have e38 : 37 + 2 * m + 1 = 38 + 2 * m := by omega
    rw [e38, if_pos ⟨by decide, by decide, by rw [hk160]; decide⟩]
    show some (0, sM (cA_ μ 2 (38 + 2 * m) 160) (37 + 2 * m) 1 (cA_ μ 2 (38 + 2 * m) 160 1 1)) = _
    rw [e11 1, h]
  have bA : Bx (sM (cA_ μ 2 (38 + 2 * m) 160) (37 + 2 * m) 1 (n : Int)) := by
    have t1 := t_X7_copy (W := W70) (l0 := 37 + 2 * m) (l1 := 1) scr_70 (fun k j _ h2 => by unfold W70; omega) (kD_ltx m hm) (by decide) (St_rf hBx)
    rw [ec, wp_some] at t1
    exact t1.1.1
  refine ⟨sM (sM (sM (cA_ μ 2 (38 + 2 * m) 160) (37 + 2 * m) 1 (n : Int)) 1 1 0) 0 16 ((m + 1 : Nat) : Int), ?_, ?_, fun j => ?_, ?_, ?_, ?_, bxS (bxS bA (by decide) (by decide) (by decide) (by decide)) (show (0 : Int) ≤ ((m + 1 : Nat) : Int) ∧ ((m + 1 : Nat) : Int) ≤ 4 by omega) (by decide) (by decide) (by decide)⟩
  · unfold X10_takeLaw
    rw [h16, if_pos (by omega)]
    unfold aL
    rw [if_pos (by show (0 : Int) ≤ (m : Int) ∧ (m : Int) < 4; omega), Int.toNat_natCast]
    have ea : aE 36 m = 37 + 2 * m := rfl
    rw [ea]
    dsimp only
    rw [ec, bd_some]
    unfold X7_cut sF
    try dsimp only
    rw [if_neg (by decide), if_pos (by rw [sM_a (by omega), e11 1, h]; omega)]
    try dsimp only
    have e016 : sM (sM (cA_ μ 2 (38 + 2 * m) 160) (37 + 2 * m) 1 (n : Int)) 1 1 0 0 16 = (m : Int) := by
      rw [sM_a (by decide), sM_a (by omega), cA_o (by omega), h16]
    rw [bd_some, e016, iA_nat (by omega), sM_s, ei3 (by omega)]
  · rw [sM_a (by omega), sM_a (by omega), sM_s]
  · rw [sM_a (by omega), sM_a (by omega), sM_a (by omega)]
    by_cases c : (j : Int) < 160
    · rw [if_pos c, cA_i c]
    · rw [if_neg c, cA_e c]
  · rw [sM_s]
  · rw [sM_a (by decide), sM_s]
  · refine fw_sM (fw_sM (fw_sM (fun k j hn => ?_) (by unfold WTL; omega)) (by unfold WTL; omega)) (by unfold WTL; omega)
    exact cA_o (fun z => hn (by unfold WTL; omega)) j
def WZ (m k j : Nat) : Prop := WTL m k j ∨ wLq m k j ∨ (k = 70 ∧ (j = 2 ∨ j = 13))
theorem x_lw {t : Nat → Int} {n m : Nat} {μ : Mm} (hI : Inv μ) (h : Ta t n μ) (hm : m < 4) (h16 : μ 0 16 = (m : Int)) (h13 : μ 70 13 = (m : Int)) (ht : ∀ j, t j = if (j : Int) < 160 then μ 2 j else μ (38 + 2 * m) j) {L : List (Cd × Cd)} (hL : lawS t n = some L) : ∃ r ν μ', X10_takeLaw μ = some (r, ν) ∧ X11_text 2 ν = some (r, μ') ∧ Inv μ' := by
  obtain ⟨ν, e1, c1, c2, c3, c4, cf, hBx⟩ := k_tl hI.1 h.2.1 hm h16
  have o1 : ∀ k j, 70 ≤ k → ν k j = μ k j := fun k j hk => cf k j (by unfold WTL; omega)
  have hB1 : Bm ν := fun k j hk => by rw [o1 k j hk]; exact hI.2.1.1 k j hk
  have hTm' : Tm t n ν := ⟨h.1, by rw [o1 70 2 (by decide)]; exact h.2.2.1, fun j hj => by rw [o1 71 j (by decide)]; exact h.2.2.2.2.1 j hj⟩
  have hr := rdLawM h.2.2.2.2.2 (q := m) (by omega) hB1 hTm'
  rw [hL] at hr
  obtain ⟨μ', a, e2, b1, b2, ha, b4⟩ := hr
  have h160 := h.1
  have b2' : ∀ k j, ¬ wF2 m 0 0 k j → ¬ (k = 70 ∧ j = 14) → μ' k j = ν k j := fun k j g1 g2 => by
    rw [b2 k j g1]
    unfold sM
    rw [if_neg g2]
  have e13 : ma μ' a 70 13 = (m : Int) := by rw [ma_j (by decide), b2' 70 13 (by unfold wF2 wKd; omega) (by decide), o1 70 13 (by decide)]; exact h13
  have e13' : sM (ma μ' a) 70 2 0 70 13 = (m : Int) := by rw [sM_j (by decide)]; exact e13
  have e4 : X11_text 2 ν = some ((m : Int), sM (sM (ma μ' a) 70 2 0) 70 13 ((m + 1 : Nat) : Int)) := by
    unfold X11_text
    rw [if_neg (by decide)]
    unfold X11_text_J22
    rw [if_neg (by decide)]
    unfold X11_text_J69
    rw [if_pos rfl, o1 70 13 (by decide), h13, if_neg (by omega), e2, bd_some, if_pos rfl]
    unfold sF
    dsimp only
    rw [e13', iA_nat (by omega), sM_s, ei3 (by omega)]
  refine ⟨_, ν, _, e1, e4, ?_⟩
  generalize hξ : sM (sM (ma μ' a) 70 2 0) 70 13 ((m + 1 : Nat) : Int) = ξ
  have x70 : ∀ k j, k ≠ 70 → ξ k j = μ' k j := fun k j hk => by rw [← hξ, sM_a hk, sM_a hk, ma_c hk]
  have o2 : ∀ k j, k < 70 → ξ k j = ν k j := fun k j hk => by rw [x70 k j (by omega), b2' k j (by unfold wF2 wKd; omega) (by omega)]
  have x13 : ξ 70 13 = ((m + 1 : Nat) : Int) := by rw [← hξ, sM_s]
  have x2 : ξ 70 2 = 0 := by rw [← hξ, sM_j (by decide), sM_s]
  have hfw : fw (WZ m) μ ξ := fun k j hn => by
    unfold WZ wLq at hn
    by_cases c : k = 70
    · subst c
      rw [← hξ, sM_j (by omega), sM_j (by omega), ma_j (fun z => hn (Or.inr (Or.inl (Or.inl (by unfold wF2; omega))))), b2' 70 j (fun z => hn (Or.inr (Or.inl (Or.inl z)))) (fun z => hn (Or.inr (Or.inl (Or.inr z)))), o1 70 j (by decide)]
    · rw [x70 k j c, b2' k j (fun z => hn (Or.inr (Or.inl (Or.inl z)))) (fun z => c z.1), cf k j (fun z => hn (Or.inl z))]
  have hB2 : Bm ξ := by
    rw [← hξ]
    exact Bm_sM (Bm_sM (Bm_ma b1 (by omega)) (show (0 : Int) ≤ 0 ∧ (0 : Int) ≤ 160 by decide)) (show (0 : Int) ≤ ((m + 1 : Nat) : Int) ∧ ((m + 1 : Nat) : Int) ≤ 4 by omega)
  have hR : rowsAt ξ m 0 0 L := rows_agr (agr_of _ (fun k j g1 g2 => x70 k j (by omega))) _ _ _ b4
  have hag : ∀ q : Int, 0 ≤ q → q < (m : Int) → agr q ξ μ := fun q q0 q1 => ⟨fun j j1 j2 => ⟨hfw 72 j (by unfold WZ WTL wLq wF2 wKd; omega), hfw 73 j (by unfold WZ WTL wLq wF2 wKd; omega)⟩, hfw 75 _ (by unfold WZ WTL wLq wF2 wKd; omega), fun j j1 j2 => ⟨hfw 76 j (by unfold WZ WTL wLq wF2 wKd; omega), hfw 77 j (by unfold WZ WTL wLq wF2 wKd; omega), hfw 78 j (by unfold WZ WTL wLq wF2 wKd; omega)⟩⟩
  have hLw : Lw ξ := by
    obtain ⟨k, p1, p2, p3, p4⟩ := hI.2.2.2.2.1
    have ek : k = m := by omega
    subst ek
    refine ⟨k + 1, by omega, ?_, x13, fun q hq => ?_⟩
    · rw [o2 0 16 (by decide), c3]
    · by_cases c : q = k
      · rw [c]
        have et : ∀ j, ξ (38 + 2 * k) j = t j := fun j => by rw [o2 _ j (by omega), c2 j, ht j]
        exact ⟨n, L, h160, by rw [o2 _ _ (by omega)]; exact c1, fun j hj => by rw [et]; exact h.2.2.2.2.2 j hj, by rw [lawS_congr et]; exact hL, hR⟩
      · obtain ⟨n', L', g1, g2, g3, g4, g5⟩ := p4 q (by omega)
        have eb : ∀ j, ξ (38 + 2 * q) j = μ (38 + 2 * q) j := fun j => hfw _ j (by unfold WZ WTL wLq wF2 wKd; omega)
        exact ⟨n', L', g1, by rw [hfw _ _ (by unfold WZ WTL wLq wF2 wKd; omega)]; exact g2, fun j hj => by rw [eb]; exact g3 j hj, by rw [lawS_congr eb]; exact g4, rows_agr (hag (q : Int) (by omega) (by omega)) _ _ _ g5⟩
  have w0 : ∀ k j, ¬ (37 ≤ k ∧ k ≤ 44) → ¬ (k = 0 ∧ j = 16) → ¬ (k = 1 ∧ j = 1) → ¬ (k = 70 ∧ (j = 2 ∨ j = 3 ∨ j = 4 ∨ j = 5 ∨ j = 13 ∨ j = 14)) → ¬ (72 ≤ k ∧ k ≤ 78) → ξ k j = μ k j := fun k j g1 g2 g3 g4 g5 => hfw k j (by unfold WZ WTL wLq wF2 wKd; omega)
  have hIr : Ir ξ := by
    refine Ir_gen hI.2.1 hB2 (fun p k hp hk => ?_) (w0 70 23 (by decide) (by decide) (by decide) (by decide) (by decide)) (w0 70 24 (by decide) (by decide) (by decide) (by decide) (by decide)) (w0 70 53 (by decide) (by decide) (by decide) (by decide) (by decide)) (w0 70 32 (by decide) (by decide) (by decide) (by decide) (by decide)) (by rw [x13, h13]; omega) (fun j => w0 82 j (by decide) (by omega) (by omega) (by omega) (by decide)) (fun j => w0 96 j (by decide) (by omega) (by omega) (by omega) (by decide)) (fun l q1 q2 => ?_)
    · rw [w0 70 28 (by decide) (by decide) (by decide) (by decide) (by decide)] at hp
      rw [w0 85 p (by decide) (by omega) (by omega) (by omega) (by decide)] at hk
      rw [w0 83 _ (by decide) (by omega) (by omega) (by omega) (by decide)]
      exact hI.2.1.2.1 p k hp hk
    · rw [x13] at q2
      by_cases c : l = (m : Int)
      · rw [c]; exact LawOK_rows (by omega) hR
      · exact LawOK_congr (hI.2.1.2.2.2.2.2.1 l q1 (by omega)) (hag l q1 (by omega))
  refine Inv_W hI (Bx_congr hBx o2) hIr hfw (Or.inr ⟨0, by decide, ?_, x2, fun j hj => absurd hj (by omega)⟩) (Or.inl ?_) (Or.inr hLw) (Or.inl ?_) (Or.inl ?_) (Or.inl ?_) (Or.inl ?_)
  · rw [o2 1 1 (by decide), c4]; rfl
  · intro k j g; unfold kP at g; unfold WZ WTL wLq wF2 wKd; omega
  · intro k j g; unfold kCl at g; unfold WZ WTL wLq wF2 wKd; omega
  · intro k j g; unfold kH at g; unfold WZ WTL wLq wF2 wKd; omega
  · intro k j g; unfold kI at g; unfold WZ WTL wLq wF2 wKd; omega
  · intro k j g; unfold kU at g; unfold WZ WTL wLq wF2 wKd; omega
theorem text_no {s : Int} {μ ν : Mm} {f : Int} (h : 0 ≤ s ∧ s ≤ 2) (e : X10_faultOfTape s μ = some (f, ν)) (hf : f ≠ -1) : X10_text s μ = some (-1, ν) := by
  unfold X10_text
  rw [is_srt h, bd_some, if_neg (by decide), e, bd_some, if_neg hf]
theorem m_text : ∀ a0, rI a0 → sI Inv Inv (X10_text a0) (X11_text a0) := by
  intro s hs μ hI
  obtain ⟨n, n1, n2, n3, n4⟩ := id hI.2.2.1
  by_cases c : 0 ≤ s ∧ s ≤ 2
  · by_cases c0 : s = 0
    · subst c0
      have hT : Ta (μ 2) n μ := Ta_of hI n2 (fun j _ => rfl)
      obtain ⟨f, ν, e, hf⟩ := c_f0 hT
      have g := fot_S hs hI.1 e
      have hI1 := Inv_St hI g
      have hT1 := Ta_scr hT g
      cases hq : celS (μ 2) n with
      | none =>
        have hf' : f ≠ -1 := fun z => hf.mp z hq
        obtain ⟨f2, ξ, e2, b1, b2, _, b3⟩ := m_rd0 hI1.2.1.1 hT1
        rw [hq] at b3
        refine ⟨-1, ν, ξ, text_no c e hf', ?_, Inv_WR (mp := 5) (ml := 4) hI1 (hI1.2.1.1 70 28 (by decide)).2 (hI1.2.1.1 70 13 (by decide)).2 b1 (b2 5 4)⟩
        unfold X11_text
        have b3' : f2 ≠ -1 := b3
        rw [if_pos rfl, e2, bd_some, if_neg b3']
        unfold X11_text_J22 X11_text_J69
        rw [if_neg (by decide), if_neg (by decide)]
      | some q =>
        have hf' : f = -1 := hf.mpr (by rw [hq]; simp)
        have et : ∀ r ν2, X10_takeCellar ν = some (r, ν2) → X10_text 0 μ = some (r, ν2) := fun r ν2 e2 => by
          unfold X10_text
          rw [is_srt c, bd_some, if_neg (by decide), e, bd_some, if_pos hf', if_pos rfl, e2, bd_some]
        obtain ⟨r, ν2, ξ, e2, e3, hx⟩ := x_cel hI1 hT1 hq
        exact ⟨r, ν2, ξ, et r ν2 e2, e3, hx⟩
    · by_cases c1 : s = 1
      · subst c1
        have hT : Ta (μ 2) n μ := Ta_of hI n2 (fun j _ => rfl)
        obtain ⟨f, ν, e, hf⟩ := c_f1 hT
        have g := fot_S hs hI.1 e
        have hI1 := Inv_St hI g
        have hT1 := Ta_scr hT g
        obtain ⟨m, p1, p2, p3, _⟩ := id hI1.2.2.2.1
        by_cases cm : m < 5
        · cases hq : plS (μ 2) n with
          | none =>
            have hf' : f ≠ -1 := fun z => hf.mp z hq
            obtain ⟨f2, ξ, e2, b1, b2, _, b3⟩ := m_rd1 hI1.2.1.1 hT1 (l := m) p1
            rw [hq] at b3
            refine ⟨-1, ν, ξ, text_no c e hf', ?_, Inv_WR (mp := m) (ml := 4) hI1 (by omega) (hI1.2.1.1 70 13 (by decide)).2 b1 (b2 4)⟩
            unfold X11_text
            have b3' : f2 ≠ -1 := b3
            rw [if_neg (by decide)]
            unfold X11_text_J22
            rw [if_pos rfl, p3, if_neg (by omega), e2, bd_some, if_neg b3', J69_1]
          | some L =>
            have hf' : f = -1 := hf.mpr (by rw [hq]; simp)
            have et : ∀ r ν2, X10_takePlay ν = some (r, ν2) → X10_text 1 μ = some (r, ν2) := fun r ν2 e2 => by
              unfold X10_text
              rw [is_srt c, bd_some, if_neg (by decide), e, bd_some, if_pos hf', if_neg (by decide), if_pos rfl, e2, bd_some]
            obtain ⟨r, ν2, ξ, e2, e3, hx⟩ := x_pl hI1 hT1 cm p2 p3 hq
            exact ⟨r, ν2, ξ, et r ν2 e2, e3, hx⟩
        · have e1 : X10_text 1 μ = some (-1, ν) := by
            by_cases cf : f = -1
            · unfold X10_text
              rw [is_srt c, bd_some, if_neg (by decide), e, bd_some, if_pos cf, if_neg (by decide), if_pos rfl]
              unfold X10_takePlay
              rw [p2, if_neg (by omega), bd_some]
            · exact text_no c e cf
          have e2 : X11_text 1 ν = some (-1, ν) := by
            unfold X11_text
            rw [if_neg (by decide)]
            unfold X11_text_J22
            rw [if_pos rfl, p3, if_pos (by omega), J69_1]
          exact ⟨_, _, _, e1, e2, hI1⟩
      · have c2 : s = 2 := by omega
        subst c2
        obtain ⟨m, p1, p2, p3, _⟩ := id hI.2.2.2.2.1
        have hT : Ta (fun j => if (j : Int) < 160 then μ 2 j else μ (38 + 2 * m) j) n μ := Ta_of hI n2 (fun j hj => by
          show μ 2 j = if (j : Int) < 160 then μ 2 j else μ (38 + 2 * m) j
          rw [if_pos (by omega)])
        obtain ⟨f, ν, e, hf⟩ := c_f2 hI.1 hT (s := 2) (by decide) (by decide)
        have g := fot_S hs hI.1 e
        have hI1 := Inv_St hI g
        have hT1 := Ta_scr hT g
        have q2 : ν 0 16 = (m : Int) := by rw [g.2 0 16 (by unfold scr; omega)]; exact p2
        have q3 : ν 70 13 = (m : Int) := by rw [g.2 70 13 (by unfold scr; omega)]; exact p3
        by_cases cm : m < 4
        · cases hq : lawS (fun j => if (j : Int) < 160 then μ 2 j else μ (38 + 2 * m) j) n with
          | none =>
            have hf' : f ≠ -1 := fun z => hf.mp z hq
            obtain ⟨f2, ξ, e2, b1, b2, _, b3⟩ := m_rd2 hI1.2.1.1 hT1 (q := m) p1
            rw [hq] at b3
            refine ⟨-1, ν, ξ, text_no c e hf', ?_, Inv_WR (mp := 5) (ml := m) hI1 (hI1.2.1.1 70 28 (by decide)).2 (by omega) b1 (b2 5)⟩
            unfold X11_text
            have b3' : f2 ≠ -1 := b3
            rw [if_neg (by decide)]
            unfold X11_text_J22
            rw [if_neg (by decide)]
            unfold X11_text_J69
            rw [if_pos rfl, q3, if_neg (by omega), e2, bd_some, if_neg b3']
          | some L =>
            have hf' : f = -1 := hf.mpr (by rw [hq]; simp)
            have et : ∀ r ν2, X10_takeLaw ν = some (r, ν2) → X10_text 2 μ = some (r, ν2) := fun r ν2 e2 => by
              unfold X10_text
              rw [is_srt c, bd_some, if_neg (by decide), e, bd_some, if_pos hf', if_neg (by decide), if_neg (by decide), e2, bd_some]
            obtain ⟨r, ν2, ξ, e2, e3, hx⟩ := x_lw hI1 hT1 cm q2 q3 (fun j => by
              show (if (j : Int) < 160 then μ 2 j else μ (38 + 2 * m) j) = _
              rw [g.2 2 j (by unfold scr; omega), g.2 (38 + 2 * m) j (by unfold scr; omega)]) hq
            exact ⟨r, ν2, ξ, et r ν2 e2, e3, hx⟩
        · have e1 : X10_text 2 μ = some (-1, ν) := by
            by_cases cf : f = -1
            · unfold X10_text
              rw [is_srt c, bd_some, if_neg (by decide), e, bd_some, if_pos cf, if_neg (by decide), if_neg (by decide)]
              unfold X10_takeLaw
              rw [q2, if_neg (by omega), bd_some]
            · exact text_no c e cf
          have e2 : X11_text 2 ν = some (-1, ν) := by
            unfold X11_text
            rw [if_neg (by decide)]
            unfold X11_text_J22
            rw [if_neg (by decide)]
            unfold X11_text_J69
            rw [if_pos rfl, q3, if_pos (by omega)]
          exact ⟨_, _, _, e1, e2, hI1⟩
  · have e1 : X10_text s μ = some (-1, μ) := by
      unfold X10_text
      rw [no_srt c, bd_some, if_pos rfl]
    have e2 : X11_text s μ = some (-1, μ) := by
      unfold X11_text
      rw [if_neg (by omega)]
      unfold X11_text_J22
      rw [if_neg (by omega)]
      unfold X11_text_J69
      rw [if_neg (by omega)]
    exact ⟨_, _, _, e1, e2, hI⟩
