/-! CUE -/
theorem inv_play {μ : Mm} (hI : Inv μ) {p : Nat} (hp : (p : Int) < μ 70 28) : p ≤ 4 ∧ (p : Int) < μ 0 15 ∧ ∃ L : List (Int × Int), 1 ≤ L.length ∧ L.length ≤ 8 ∧ hasP μ (18 + 3 * p) 0 L ∧ hasM μ p 0 L ∧ plOK L := by
  obtain ⟨m, h1, h2, h3, h4⟩ := hI.2.2.2.1
  obtain ⟨L, l1, l2, l3, l4⟩ := h4 p (by omega)
  refine ⟨by omega, by omega, L, l1, l2, l3, l4, fun x hx => ?_⟩
  obtain ⟨i, hi, e⟩ := List.getElem_of_mem hx
  have e2 : L.getD i (0, 0) = x := by rw [← e]; simp [List.getD, hi]
  have h := l3.2 i hi
  rw [e2, Nat.zero_add] at h
  have hp5 : p < 5 := by omega
  have b1 : ∀ p, p < 5 → bx (18 + 3 * p + 1) 0 = (0, 7) ∧ bx (18 + 3 * p + 2) 0 = (0, 999) ∧ (kD (18 + 3 * p + 1)).1 = 0 ∧ (kD (18 + 3 * p + 2)).1 = 0 := by decide +kernel
  obtain ⟨c1, c2, c3, c4⟩ := b1 p hp5
  have d1 : bx (18 + 3 * p + 1) i = bx (18 + 3 * p + 1) 0 := by unfold bx; rw [if_pos (by omega), if_pos (by omega)]
  have d2 : bx (18 + 3 * p + 2) i = bx (18 + 3 * p + 2) 0 := by unfold bx; rw [if_pos (by omega), if_pos (by omega)]
  have b3 := hI.1.1 (18 + 3 * p + 1) i (by omega)
  have b4 := hI.1.1 (18 + 3 * p + 2) i (by omega)
  rw [d1, c1, h.1] at b3
  rw [d2, c2, h.2] at b4
  exact ⟨b3.1, b3.2, b4.1, b4.2⟩
theorem isPlC {μ : Mm} (hI : Inv μ) (a : Int) : X10_isPlay a μ = some (b2 (0 ≤ a ∧ a < μ 70 28), μ) := by
  obtain ⟨m, h1, h2, h3, _⟩ := hI.2.2.2.1
  have e17 : ((aN 17 : Nat) : Int) = 5 := rfl
  unfold X10_isPlay
  by_cases c : a < 0
  · rw [if_pos c, b2_f (by omega)]
  · rw [if_neg c]
    by_cases c2 : μ 0 15 ≤ a
    · rw [if_pos c2, b2_f (by omega)]
    · rw [if_neg c2, if_neg (by rw [e17]; omega), b2_t (by omega)]
theorem isPlM {μ : Mm} (hB : Bm μ) (a : Int) : X11_isPlay a μ = some (b2 (0 ≤ a ∧ a < μ 70 28), μ) := by
  have hb : 0 ≤ μ 70 28 ∧ μ 70 28 ≤ 5 := hB 70 28 (by decide)
  unfold X11_isPlay
  rw [in_eq, bd_some, rZ_b (b2_01 _), iS_id (by omega) (by omega)]
  have e : b2 (0 ≤ a ∧ a ≤ μ 70 28 - 1) = b2 (0 ≤ a ∧ a < μ 70 28) := b2_congr (by omega)
  rw [e]
theorem Wt_scr : ∀ k j, Wt k j → scr k j := fun k j h => by unfold Wt at h; unfold scr; omega
theorem Wm_scrM : ∀ k j, Wm k j → scrM k j := fun k j h => by unfold Wm at h; unfold scrM; omega
theorem Sm_Wm {μ ν : Mm} (hB : Bm ν) (h : fw Wm μ ν) : Sm μ ν := ⟨hB, fun k j hn => h k j (fun z => hn (Wm_scrM k j z))⟩
theorem m_cue : ∀ a0, rI a0 → ∀ a1, rI a1 → ∀ a2, rI a2 → sI Inv Inv (X10_cue a0 a1 a2) (X11_cue a0 a1 a2) := by
  intro a ha b hb c hc μ hI
  have t1 := t_X10_cue (W := scr) (μs := μ) (hW := fun _ _ h => h) (hp_l1 := ha) (hp_l2 := hb) (hp_l3 := hc) (St_rf hI.1)
  by_cases cp : 0 ≤ a ∧ a < μ 70 28
  · obtain ⟨p, rfl⟩ : ∃ p : Nat, a = (p : Int) := ⟨a.toNat, by omega⟩
    obtain ⟨p4, p15, L, l1, l2, l3, l4, l5⟩ := inv_play hI cp.2
    obtain ⟨H, hH⟩ := inv_HL hI
    have h31 : 0 ≤ μ 70 31 ∧ μ 70 31 ≤ 99 := hI.2.1.1 70 31 (by decide)
    have h58 : μ 5 8 = μ 70 31 := hI.2.2.2.2.2.1.2.2.2.2.2.2.2.2.1
    have e85 : μ 85 p = (L.length : Int) := by rw [l4.1, Nat.zero_add]
    have e2 : μ (18 + 3 * p) 2 = (L.length : Int) := by rw [l3.1, Nat.zero_add]
    have a17 : ∀ f : Nat → Rs, aL 17 (p : Int) f = f (18 + 3 * p) := fun f => by
      unfold aL
      rw [if_pos (by show (0 : Int) ≤ (p : Int) ∧ (p : Int) < 5; omega), Int.toNat_natCast]
      rfl
    have c0 : X10_cue (p : Int) b c μ = if b = (-1) then (if c = 0 then (some (μ (18 + 3 * p) 2, μ)) else (X10_cue_J33 (p : Int) b c (18 + 3 * p) μ)) else (X10_cue_J33 (p : Int) b c (18 + 3 * p) μ) := by
      unfold X10_cue
      rw [isPlC hI, b2_t cp, bd_some, if_neg (by decide), a17]
    have d85 : ∀ f : Int → Rs, ldA μ 85 (p : Int) f = f (L.length : Int) := fun f => by
      unfold ldA
      rw [if_pos (by show (0 : Int) ≤ (p : Int) ∧ (p : Int) < 6; omega), Int.toNat_natCast, e85]
    have m0 : ∀ ν : Mm, Inv ν → (∀ k j, 70 ≤ k → ν k j = μ k j) → X11_cue (p : Int) b c ν = if ¬ (0 ≤ c ∧ c ≤ 2) then some (-1, ν) else (if ¬ (-1 ≤ b ∧ b ≤ (L.length : Int) - 1) then some (-1, ν) else (if b = -1 then (if c = 0 then X11_cue_J44 (p : Int) b c ν else some (-1, ν)) else X11_cue_J44 (p : Int) b c ν)) := by
      intro ν hν e70
      have f85 : ν 85 p = (L.length : Int) := by rw [e70 85 p (by decide)]; exact e85
      unfold X11_cue
      rw [isPlM hν.2.1.1, b2_t (by rw [e70 70 28 (by decide)]; exact cp), bd_some, if_neg (by decide)]
      by_cases cc : 0 ≤ c ∧ c ≤ 2
      · rw [in_rg _ cc, bd_some, if_neg (by decide), if_neg (fun z => z cc)]
        unfold ldA
        rw [if_pos (by show (0 : Int) ≤ (p : Int) ∧ (p : Int) < 6; omega), Int.toNat_natCast, f85]
        dsimp only
        rw [iS_id (by omega) (by omega)]
        by_cases cb : -1 ≤ b ∧ b ≤ (L.length : Int) - 1
        · rw [in_rg _ cb, bd_some, if_neg (by decide), if_neg (show ¬ ¬ (-1 ≤ b ∧ b ≤ (L.length : Int) - 1) from fun z => z cb)]
        · rw [in_no _ cb, bd_some, if_pos rfl, if_pos cb]
      · rw [in_no _ cc, bd_some, if_pos rfl, if_pos cc]
    have stay : ∀ r, X10_cue (p : Int) b c μ = some (r, μ) → (∃ ξ, X11_cue (p : Int) b c μ = some (r, ξ) ∧ Inv ξ) → ∃ r μ1 μ2, X10_cue (p : Int) b c μ = some (r, μ1) ∧ X11_cue (p : Int) b c μ1 = some (r, μ2) ∧ Inv μ2 := fun r e h => h.elim (fun ξ z => ⟨r, μ, ξ, e, z.1, z.2⟩)
    have lay : ∀ ν : Mm, Inv ν → (∀ k j, 70 ≤ k → ν k j = μ k j) → HL ν H → ∃ ξ, X11_layTimes (p : Int) (ν 70 31) ν = some (0, ξ) ∧ Inv ξ ∧ fw Wm ν ξ ∧ ∀ j, j < L.length → ξ 88 j = tmF H (μ 70 31) L j := by
      intro ν hν e70 hHν
      have hMν : hasM ν p 0 L := ⟨by rw [e70 85 p (by decide)]; exact l4.1, fun i hi => by rw [e70 83 _ (by decide), e70 84 _ (by decide)]; exact l4.2 i hi⟩
      obtain ⟨ξ, g1, g2, g3, g4⟩ := layT hν.2.1.1 hHν p4 hMν l2 l5 (n := ν 70 31) (by rw [e70 70 31 (by decide)]; exact h31)
      rw [e70 70 31 (by decide)] at g4
      exact ⟨ξ, g1, Inv_Sm hν (Sm_Wm g2 g3), g3, g4⟩
    by_cases cb : b = -1
    · subst cb
      by_cases cc : c = 0
      · subst cc
        refine stay (L.length : Int) (by rw [c0, if_pos rfl, if_pos rfl, e2]) ?_
        obtain ⟨ξ, g1, g2, g3, _⟩ := lay μ hI (fun _ _ _ => rfl) hH
        refine ⟨ξ, ?_, g2⟩
        rw [m0 μ hI (fun _ _ _ => rfl), if_neg (fun z => z (by decide)), if_neg (fun z => z (by omega)), if_pos rfl, if_pos rfl]
        unfold X11_cue_J44
        rw [g1, bd_some, if_pos rfl]
        unfold ldA
        rw [if_pos (by show (0 : Int) ≤ (p : Int) ∧ (p : Int) < 6; omega), Int.toNat_natCast, g3 85 p (by unfold Wm; omega), e85]
      · refine stay (-1) (by rw [c0, if_pos rfl, if_neg cc]; unfold X10_cue_J33; rw [if_pos (by decide)]) ⟨μ, ?_, hI⟩
        rw [m0 μ hI (fun _ _ _ => rfl), if_pos rfl, if_neg cc]
        by_cases c2 : 0 ≤ c ∧ c ≤ 2
        · rw [if_neg (fun z => z c2), if_neg (fun z => z (by omega))]
        · rw [if_pos c2]
    · rw [if_neg cb] at c0
      by_cases cr0 : ¬ (0 ≤ b ∧ b < (L.length : Int)) ∨ ¬ (0 ≤ c ∧ c ≤ 2)
      · refine stay (-1) ?_ ⟨μ, ?_, hI⟩
        · rw [c0]
          unfold X10_cue_J33
          by_cases b0 : b < 0
          · rw [if_pos b0]
          · rw [if_neg b0, e2]
            by_cases b1 : (L.length : Int) ≤ b
            · rw [if_pos b1]
            · rw [if_neg b1]
              by_cases b3 : c < 0
              · rw [if_pos b3]
              · rw [if_neg b3, if_neg (by omega)]
        · rw [m0 μ hI (fun _ _ _ => rfl)]
          by_cases c2 : 0 ≤ c ∧ c ≤ 2
          · rw [if_neg (fun z => z c2), if_pos (by omega)]
          · rw [if_pos c2]
      · have cb2 : 0 ≤ b ∧ b < (L.length : Int) := Classical.byContradiction (fun z => cr0 (Or.inl z))
        have cc2 : 0 ≤ c ∧ c ≤ 2 := Classical.byContradiction (fun z => cr0 (Or.inr z))
        obtain ⟨k, rfl⟩ : ∃ k : Nat, b = (k : Int) := ⟨b.toNat, by omega⟩
        have hk : k < L.length := by omega
        have k8 : k < 8 := by omega
        have hPk := l3.2 k hk
        have hMk := l4.2 k hk
        rw [Nat.zero_add] at hPk hMk
        have kp := pl_60 (kD_pl p (by omega))
        have j0 : X10_cue (p : Int) (k : Int) c μ = if c = 2 then (aL 17 (p : Int) fun v18 => bd (X10_lawThatHolds μ) fun v20 μ21 => bd (X2_fillTimes v18 v20 (μ21 5 8) 50 μ21) fun v23 μ24 => ldA μ24 50 (k : Int) fun v26 => some (v26, μ24)) else (if c = 0 then (ldA μ (18 + 3 * p + 1) (k : Int) fun v16 => some (v16, μ)) else (ldA μ (18 + 3 * p + 2) (k : Int) fun v14 => some (v14, μ))) := by
          rw [c0]
          unfold X10_cue_J33
          rw [if_neg (by omega), e2, if_neg (by omega), if_neg (by omega), if_pos cc2.2]
        by_cases c2 : c = 2
        · subst c2
          obtain ⟨ν, g1, g2, g3⟩ := fillC hH (kD_pl p (by omega)) l3 l2 l5 h31
          have r1 : X10_cue (p : Int) (k : Int) 2 μ = some (ν 50 k, ν) := by
            rw [j0, if_pos rfl, a17, holds_eq hI, bd_some, h58, g1, bd_some]
            unfold ldA
            rw [if_pos (by show (0 : Int) ≤ (k : Int) ∧ (k : Int) < 8; omega), Int.toNat_natCast]
          rw [r1, wp_some] at t1
          have hI1 := Inv_St hI t1.1
          have e70 : ∀ k j, 70 ≤ k → ν k j = μ k j := fun k j h => g2 k j (by unfold Wt; omega)
          have hHν : HL ν H := by
            rcases hH with ⟨h1, h2⟩ | ⟨q, m, LW, q1, q2, q3, q4, q5, q6, q7, q8⟩
            · exact Or.inl ⟨by rw [e70 70 32 (by decide)]; exact h1, h2⟩
            · have eb : ∀ j, ν (38 + 2 * q) j = μ (38 + 2 * q) j := fun j => g2 _ j (by unfold Wt; omega)
              exact Or.inr ⟨q, m, LW, q1, by rw [e70 70 32 (by decide)]; exact q2, q3, q4, by rw [g2 _ _ (by unfold Wt; omega)]; exact q5, fun j hj => by rw [eb]; exact q6 j hj, by rw [lawS_congr eb]; exact q7, rows_agr (agr_of _ (fun k j h1 _ => e70 k j (by omega))) _ _ _ q8⟩
          obtain ⟨ξ, x1, x2, x3, x4⟩ := lay ν hI1 e70 hHν
          refine ⟨_, ν, ξ, r1, ?_, x2⟩
          rw [m0 ν hI1 e70, if_neg (fun z => z (by decide)), if_neg (fun z => z (by omega)), if_neg cb]
          unfold X11_cue_J44
          rw [x1, bd_some, if_neg cb, if_neg (by decide), if_neg (by decide)]
          unfold ldA
          rw [if_pos (by show (0 : Int) ≤ (k : Int) ∧ (k : Int) < 8; omega), Int.toNat_natCast, x4 k hk, g3 k hk]
        · rw [if_neg c2] at j0
          obtain ⟨ξ, x1, x2, x3, _⟩ := lay μ hI (fun _ _ _ => rfl) hH
          have mm : X11_cue (p : Int) (k : Int) c μ = if c = 0 then (ldA ξ 83 (((8 * p + k : Nat) : Int)) fun v26 => some (v26, ξ)) else (if c = 1 then (ldA ξ 84 (((8 * p + k : Nat) : Int)) fun v24 => some (v24, ξ)) else (ldA ξ 88 (k : Int) fun v22 => some (v22, ξ))) := by
            rw [m0 μ hI (fun _ _ _ => rfl), if_neg (fun z => z cc2), if_neg (fun z => z (by omega)), if_neg cb]
            unfold X11_cue_J44
            rw [x1, bd_some, if_neg cb, iA_off (l := p) (k := k) (by omega) (by omega)]
          by_cases c3 : c = 0
          · refine stay (L.getD k (0, 0)).1 ?_ ⟨ξ, ?_, x2⟩
            · rw [j0, if_pos c3]
              unfold ldA
              rw [if_pos (by rw [kp.1]; omega), Int.toNat_natCast, hPk.1]
            · rw [mm, if_pos c3]
              unfold ldA
              rw [if_pos (by show (0 : Int) ≤ ((8 * p + k : Nat) : Int) ∧ ((8 * p + k : Nat) : Int) < 48; omega), Int.toNat_natCast, x3 83 _ (by unfold Wm; omega), hMk.1]
          · refine stay (L.getD k (0, 0)).2 ?_ ⟨ξ, ?_, x2⟩
            · rw [j0, if_neg c3]
              unfold ldA
              rw [if_pos (by rw [kp.2.1]; omega), Int.toNat_natCast, hPk.2]
            · rw [mm, if_neg c3, if_pos (by omega)]
              unfold ldA
              rw [if_pos (by show (0 : Int) ≤ ((8 * p + k : Nat) : Int) ∧ ((8 * p + k : Nat) : Int) < 48; omega), Int.toNat_natCast, x3 84 _ (by unfold Wm; omega), hMk.2]
  · have e1 : X10_cue a b c μ = some (-1, μ) := by
      unfold X10_cue
      rw [isPlC hI, b2_f cp, bd_some, if_pos rfl]
    have e2 : X11_cue a b c μ = some (-1, μ) := by
      unfold X11_cue
      rw [isPlM hI.2.1.1, b2_f cp, bd_some, if_pos rfl]
    exact ⟨_, _, _, e1, e2, hI⟩
