/-! CUE -/
theorem inv_play {μ : Mm} (hI : Inv μ) {p : Nat} (hp : (p : Int) < μ 70 28) : p ≤ 4 ∧ (p : Int) < μ 0 15 ∧ ∃ L : List (Int × Int), 1 ≤ L.length ∧ L.length ≤ 8 ∧ hasP μ (18 + 3 * p) 0 L ∧ hasM μ p 0 L ∧ plOK L := by
  obtain ⟨m, h1, h2, h3, h4⟩ := hI.2.2.2.1
  obtain ⟨L, l1, l2, l3, l4⟩ := h4 p (by omega)
  refine ⟨by omega, by omega, L, l1, l2, l3, l4, fun x hx => ?_⟩
  obtain ⟨i, hi, e⟩ := List.getElem_of_mem hx
  have e2 : L.getD i (0, 0) = x := by rw [← e]; simp [List.getD, hi]
  have h := l3.2 i hi
  rw [e2, Nat.zero_add] at h
  have hp5 : p < 5 := by omega
  have b1 : ∀ p, p < 5 → bx (18 + 3 * p + 1) 0 = (0, 7) ∧ bx (18 + 3 * p + 2) 0 = (0, 999) ∧ (kD (18 + 3 * p + 1)).1 = 0 ∧ (kD (18 + 3 * p + 2)).1 = 0 := by decide +kernel
  obtain ⟨c1, c2, c3, c4⟩ := b1 p hp5
  have d1 : bx (18 + 3 * p + 1) i = bx (18 + 3 * p + 1) 0 := by unfold bx; rw [if_pos (by omega), if_pos (by omega)]
  have d2 : bx (18 + 3 * p + 2) i = bx (18 + 3 * p + 2) 0 := by unfold bx; rw [if_pos (by omega), if_pos (by omega)]
  have b3 := hI.1.1 (18 + 3 * p + 1) i (by omega)
  have b4 := hI.1.1 (18 + 3 * p + 2) i (by omega)
  rw [d1, c1, h.1] at b3
  rw [d2, c2, h.2] at b4
  exact ⟨b3.1, b3.2, b4.1, b4.2⟩
theorem isPlC {μ : Mm} (hI : Inv μ) (a : Int) : X10_isPlay a μ = some (b2 (0 ≤ a ∧ a < μ 70 28), μ) := by
  obtain ⟨m, h1, h2, h3, _⟩ := hI.2.2.2.1
  have e17 : ((aN 17 : Nat) : Int) = 5 := rfl
  unfold X10_isPlay
  by_cases c : a < 0
  · rw [if_pos c, b2_f (by omega)]
  · rw [if_neg c]
    by_cases c2 : μ 0 15 ≤ a
    · rw [if_pos c2, b2_f (by omega)]
    · rw [if_neg c2, if_neg (by rw [e17]; omega), b2_t (by omega)]
theorem isPlM {μ : Mm} (hB : Bm μ) (a : Int) : X11_isPlay a μ = some (b2 (0 ≤ a ∧ a < μ 70 28), μ) := by
  have hb : 0 ≤ μ 70 28 ∧ μ 70 28 ≤ 5 := hB 70 28 (by decide)
  unfold X11_isPlay
  rw [in_eq, bd_some, rZ_b (b2_01 _), iS_id (by omega) (by omega)]
  have e : b2 (0 ≤ a ∧ a ≤ μ 70 28 - 1) = b2 (0 ≤ a ∧ a < μ 70 28) := b2_congr (by omega)
  rw [e]
theorem Wt_scr : ∀ k j, Wt k j → scr k j := fun k j h => by unfold Wt at h; unfold scr; omega
theorem Wm_scrM : ∀ k j, Wm k j → scrM k j := fun k j h => by unfold Wm at h; unfold scrM; omega
theorem Sm_Wm {μ ν : Mm} (hB : Bm ν) (h : fw Wm μ ν) : Sm μ ν := ⟨hB, fun k j hn => h k j (fun z => hn (Wm_scrM k j z))⟩
theorem m_cue : ∀ a0, rI a0 → ∀ a1, rI a1 → ∀ a2, rI a2 → sI Inv Inv (X10_cue a0 a1 a2) (X11_cue a0 a1 a2) := by
  intro a ha b hb c hc μ hI
  have t1 := t_X10_cue (W := scr) (μs := μ) (hW := fun _ _ h => h) (hp_l1 := ha) (hp_l2 := hb) (hp_l3 := hc) (St_rf hI.1)
  by_cases cp : 0 ≤ a ∧ a < μ 70 28
  · obtain ⟨p, rfl⟩ : ∃ p : Nat, a = (p : Int) := ⟨a.toNat, by omega⟩
    obtain ⟨p4, p15, L, l1, l2, l3, l4, l5⟩ := inv_play hI cp.2
    obtain ⟨H, hH⟩ := inv_HL hI
    have h31 : 0 ≤ μ 70 31 ∧ μ 70 31 ≤ 99 := hI.2.1.1 70 31 (by decide)
    have h58 : μ 5 8 = μ 70 31 := hI.2.2.2.2.2.1.2.2.2.2.2.2.2.2.1
    have e85 : μ 85 p = (L.length : Int) := by rw [l4.1, Nat.zero_add]
    have e2 : μ (18 + 3 * p) 2 = (L.length : Int) := by rw [l3.1, Nat.zero_add]
    have a17 : ∀ f : Nat → Rs, aL 17 (p : Int) f = f (18 + 3 * p) := fun f => by
      unfold aL
      rw [if_pos (by show (0 : Int) ≤ (p : Int) ∧ (p : Int) < 5; omega), Int.toNat_natCast]
      rfl
    have c0 : X10_cue (p : Int) b c μ = if b = (-1) then (if c = 0 then (some (μ (18 + 3 * p) 2, μ)) else (X10_cue_J33 (p : Int) b c (18 + 3 * p) μ)) else (X10_cue_J33 (p : Int) b c (18 + 3 * p) μ) := by
      unfold X10_cue
      rw [isPlC hI, b2_t cp, bd_some, if_neg (by decide), a17]
    have d85 : ∀ f : Int → Rs, ldA μ 85 (p : Int) f = f (L.length : Int) := fun f => by
      unfold ldA
      rw [if_pos (by show (0 : Int) ≤ (p : Int) ∧ (p : Int) < 6; omega), Int.toNat_natCast, e85]
    have m0 : ∀ ν : Mm, Inv ν → (∀ k j, 70 ≤ k → ν k j = μ k j) → X11_cue (p : Int) b c ν = if ¬ (0 ≤ c ∧ c ≤ 2) then some (-1, ν) else (if ¬ (-1 ≤ b ∧ b ≤ (L.length : Int) - 1) then some (-1, ν) else (if b = -1 then (if c = 0 then X11_cue_J44 (p : Int) b c ν else some (-1, ν)) else X11_cue_J44 (p : Int) b c ν)) := by
      intro ν hν e70
      have f85 : ν 85 p = (L.length : Int) := by rw [e70 85 p (by decide)]; exact e85
      unfold X11_cue
      rw [isPlM hν.2.1.1, b2_t (by rw [e70 70 28 (by decide)]; exact cp), bd_some, if_neg (by decide)]
      by_cases cc : 0 ≤ c ∧ c ≤ 2
      · rw [in_rg _ cc, bd_some, if_neg (by decide), if_neg (fun z => z cc)]
        unfold ldA
        rw [if_pos (by show (0 : Int) ≤ (p : Int) ∧ (p : Int) < 6; omega), Int.toNat_natCast, f85]
        dsimp only
        rw [iS_id (by omega) (by omega)]
        by_cases cb : -1 ≤ b ∧ b ≤ (L.length : Int) - 1
        · rw [in_rg _ cb, bd_some, if_neg (by decide), if_neg (show ¬ ¬ (-1 ≤ b ∧ b ≤ (L.length : Int) - 1) from fun z => z cb)]
        · rw [in_no _ cb, bd_some, if_pos rfl, if_pos cb]
      · rw [in_no _ cc, bd_some, if_pos rfl, if_pos cc]
    have stay : ∀ r, X10_cue (p : Int) b c μ = some (r, μ) → (∃ ξ, X11_cue (p : Int) b c μ = some (r, ξ) ∧ Inv ξ) → ∃ r μ1 μ2, X10_cue (p : Int) b c μ = some (r, μ1) ∧ X11_cue (p : Int) b c μ1 = some (r, μ2) ∧ Inv μ2 := fun r e h => h.elim (fun ξ z => ⟨r, μ, ξ, e, z.1, z.2⟩)
    have lay : ∀ ν : Mm, Inv ν → (∀ k j, 70 ≤ k → ν k j = μ k j) → HL ν H → ∃ ξ, X11_layTimes (p : Int) (ν 70 31) ν = some (0, ξ) ∧ Inv ξ ∧ fw Wm ν ξ ∧ ∀ j, j < L.length → ξ 88 j = tmF H (μ 70 31) L j := by
      intro ν hν e70 hHν
      have hMν : hasM ν p 0 L := ⟨by rw [e70 85 p (by decide)]; exact l4.1, fun i hi => by rw [e70 83 _ (by decide), e70 84 _ (by decide)]; exact l4.2 i hi⟩
      obtain ⟨ξ, g1, g2, g3, g4⟩ := layT hν.2.1.1 hHν p4 hMν l2 l5 (n := ν 70 31) (by rw [e70 70 31 (by decide)]; exact h31)
      rw [e70 70 31 (by decide)] at g4
      exact ⟨ξ, g1, Inv_Sm hν (Sm_Wm g2 g3), g3, g4⟩
    by_cases cb : b = -1
    · subst cb
      by_cases cc : c = 0
      · subst cc
        refine stay (L.length : Int) (by rw [c0, if_pos rfl, if_pos rfl, e2]) ?_
        obtain ⟨ξ, g1, g2, g3, _⟩ := lay μ hI (fun _ _ _ => rfl) hH
        refine ⟨ξ, ?_, g2⟩
        rw [m0 μ hI (fun _ _ _ => rfl), if_neg (fun z => z (by decide)), if_neg (fun z => z (by omega)), if_pos rfl, if_pos rfl]
        unfold X11_cue_J44
        rw [g1, bd_some, if_pos rfl]
        unfold ldA
        rw [if_pos (by show (0 : Int) ≤ (p : Int) ∧ (p : Int) < 6; omega), Int.toNat_natCast, g3 85 p (by unfold Wm; omega), e85]
      · refine stay (-1) (by rw [c0, if_pos rfl, if_neg cc]; unfold X10_cue_J33; rw [if_pos (by decide)]) ⟨μ, ?_, hI⟩
        rw [m0 μ hI (fun _ _ _ => rfl), if_pos rfl, if_neg cc]
        by_cases c2 : 0 ≤ c ∧ c ≤ 2
        · rw [if_neg (fun z => z c2), if_neg (fun z => z (by omega))]
        · rw [if_pos c2]
    · rw [if_neg cb] at c0
      by_cases cr0 : ¬ (0 ≤ b ∧ b < (L.length : Int)) ∨ ¬ (0 ≤ c ∧ c ≤ 2)
      · refine stay (-1) ?_ ⟨μ, ?_, hI⟩
        · rw [c0]
          unfold X10_cue_J33
          by_cases b0 : b < 0
          · rw [if_pos b0]
          · rw [if_neg b0, e2]
            by_cases b1 : (L.length : Int) ≤ b
            · rw [if_pos b1]
            · rw [if_neg b1]
              by_cases b3 : c < 0
              · rw [if_pos b3]
              · rw [if_neg b3, if_neg (by omega)]
        · rw [m0 μ hI (fun _ _ _ => rfl)]
          by_cases c2 : 0 ≤ c ∧ c ≤ 2
          · rw [if_neg (fun z => z c2), if_pos (by omega)]
          · rw [if_pos c2]
      · have cb2 : 0 ≤ b ∧ b < (L.length : Int) := Classical.byContradiction (fun z => cr0 (Or.inl z))
        have cc2 : 0 ≤ c ∧ c ≤ 2 := Classical.byContradiction (fun z => cr0 (Or.inr z))
        obtain ⟨k, rfl⟩ : ∃ k : Nat, b = (k : Int) := ⟨b.toNat, by omega⟩
        have hk : k < L.length := by omega
        have k8 : k < 8 := by omega
        have hPk := l3.2 k hk
        have hMk := l4.2 k hk
        rw [Nat.zero_add] at hPk hMk
        have kp := pl_60 (kD_pl p (by omega))
        have j0 : X10_cue (p : Int) (k : Int) c μ = if c = 2 then (aL 17 (p : Int) fun v18 => bd (X10_lawThatHolds μ) fun v20 μ21 => bd (X2_fillTimes v18 v20 (μ21 5 8) 50 μ21) fun v23 μ24 => ldA μ24 50 (k : Int) fun v26 => some (v26, μ24)) else (if c = 0 then (ldA μ (18 + 3 * p + 1) (k : Int) fun v16 => some (v16, μ)) else (ldA μ (18 + 3 * p + 2) (k : Int) fun v14 => some (v14, μ))) := by
          rw [c0]
          unfold X10_cue_J33
          rw [if_neg (by omega), e2, if_neg (by omega), if_neg (by omega), if_pos cc2.2]
        by_cases c2 : c = 2
        · subst c2
          obtain ⟨ν, g1, g2, g3⟩ := fillC hH (kD_pl p (by omega)) l3 l2 l5 h31
          have r1 : X10_cue (p : Int) (k : Int) 2 μ = some (ν 50 k, ν) := by
            rw [j0, if_pos rfl, a17, holds_eq hI, bd_some, h58, g1, bd_some]
            unfold ldA
            rw [if_pos (by show (0 : Int) ≤ (k : Int) ∧ (k : Int) < 8; omega), Int.toNat_natCast]
          rw [r1, wp_some] at t1
          have hI1 := Inv_St hI t1.1
          have e70 : ∀ k j, 70 ≤ k → ν k j = μ k j := fun k j h => g2 k j (by unfold Wt; omega)
          have hHν : HL ν H := by
            rcases hH with ⟨h1, h2⟩ | ⟨q, m, LW, q1, q2, q3, q4, q5, q6, q7, q8⟩
            · exact Or.inl ⟨by rw [e70 70 32 (by decide)]; exact h1, h2⟩
            · have eb : ∀ j, ν (38 + 2 * q) j = μ (38 + 2 * q) j := fun j => g2 _ j (by unfold Wt; omega)
              exact Or.inr ⟨q, m, LW, q1, by rw [e70 70 32 (by decide)]; exact q2, q3, q4, by rw [g2 _ _ (by unfold Wt; omega)]; exact q5, fun j hj => by rw [eb]; exact q6 j hj, by rw [lawS_congr eb]; exact q7, rows_agr (agr_of _ (fun k j h1 _ => e70 k j (by omega))) _ _ _ q8⟩
          obtain ⟨ξ, x1, x2, x3, x4⟩ := lay ν hI1 e70 hHν
          refine ⟨_, ν, ξ, r1, ?_, x2⟩
          rw [m0 ν hI1 e70, if_neg (fun z => z (by decide)), if_neg (fun z => z (by omega)), if_neg cb]
          unfold X11_cue_J44
          rw [x1, bd_some, if_neg cb, if_neg (by decide), if_neg (by decide)]
          unfold ldA
          rw [if_pos (by show (0 : Int) ≤ (k : Int) ∧ (k : Int) < 8; omega), Int.toNat_natCast, x4 k hk, g3 k hk]
        · rw [if_neg c2] at j0
          obtain ⟨ξ, x1, x2, x3, _⟩ := lay μ hI (fun _ _ _ => rfl) hH
          have mm : X11_cue (p : Int) (k : Int) c μ = if c = 0 then (ldA ξ 83 (((8 * p + k : Nat) : Int)) fun v26 => some (v26, ξ)) else (if c = 1 then (ldA ξ 84 (((8 * p + k : Nat) : Int)) fun v24 => some (v24, ξ)) else (ldA ξ 88 (k : Int) fun v22 => some (v22, ξ))) := by
            rw [m0 μ hI (fun _ _ _ => rfl), if_neg (fun z => z cc2), if_neg (fun z => z (by omega)), if_neg cb]
            unfold X11_cue_J44
            rw [x1, bd_some, if_neg cb, iA_off (l := p) (k := k) (by omega) (by omega)]
          by_cases c3 : c = 0
          · refine stay (L.getD k (0, 0)).1 ?_ ⟨ξ, ?_, x2⟩
            · rw [j0, if_pos c3]
              unfold ldA
              rw [if_pos (by rw [kp.1]; omega), Int.toNat_natCast, hPk.1]
            · rw [mm, if_pos c3]
              unfold ldA
              rw [if_pos (by show (0 : Int) ≤ ((8 * p + k : Nat) : Int) ∧ ((8 * p + k : Nat) : Int) < 48; omega), Int.toNat_natCast, x3 83 _ (by unfold Wm; omega), hMk.1]
          · refine stay (L.getD k (0, 0)).2 ?_ ⟨ξ, ?_, x2⟩
            · rw [j0, if_neg c3]
              unfold ldA
              rw [if_pos (by rw [kp.2.1]; omega), Int.toNat_natCast, hPk.2]
            · rw [mm, if_neg c3, if_pos (by omega)]
              unfold ldA
              rw [if_pos (by show (0 : Int) ≤ ((8 * p + k : Nat) : Int) ∧ ((8 * p + k : Nat) : Int) < 48; omega), Int.toNat_natCast, x3 84 _ (by unfold Wm; omega), hMk.2]
  · have e1 : X10_cue a b c μ = some (-1, μ) := by
      unfold X10_cue
      rw [isPlC hI, b2_f cp, bd_some, if_pos rfl]
    have e2 : X11_cue a b c μ = some (-1, μ) := by
      unfold X11_cue
      rw [isPlM hI.2.1.1, b2_f cp, bd_some, if_pos rfl]
    exact ⟨_, _, _, e1, e2, hI⟩
/-! THE JOB: what the hand has to do, to both -/
/-- v is how far pb is from sa (-1: one of them is nowhere, or there is no WAY) -/
def RWy (O : Nat → Prop) (sa pb v : Int) : Prop := (sa = -1 → v = -1) ∧ (pb = -1 → v = -1) ∧ ∀ s p : Nat, sa = (s : Int) → pb = (p : Int) → ∃ f, ds O s f ∧ v = f p
theorem RD_u {O : Nat → Prop} {sa pb v w : Int} (h1 : sa = -1 ∨ (0 ≤ sa ∧ sa < 60)) (h2 : pb = -1 ∨ (0 ≤ pb ∧ pb < 60)) (h : RWy O sa pb v) (h' : RWy O sa pb w) : v = w := by
  rcases h1 with h1 | h1
  · rw [h.1 h1, h'.1 h1]
  · rcases h2 with h2 | h2
    · rw [h.2.1 h2, h'.2.1 h2]
    · obtain ⟨s, rfl⟩ : ∃ s : Nat, sa = (s : Int) := ⟨sa.toNat, by omega⟩
      obtain ⟨p, rfl⟩ : ∃ p : Nat, pb = (p : Int) := ⟨pb.toNat, by omega⟩
      obtain ⟨f, f1, f2⟩ := h.2.2 s p rfl rfl
      obtain ⟨g, g1, g2⟩ := h'.2.2 s p rfl rfl
      rw [f2, g2]
      exact ds_u f1 g1 (by omega)
theorem RD_c {O O' : Nat → Prop} (e : ∀ p, O p ↔ O' p) {sa pb v : Int} (h : RWy O sa pb v) : RWy O' sa pb v :=
  ⟨h.1, h.2.1, fun s p h1 h2 => by
    obtain ⟨f, f1, f2⟩ := h.2.2 s p h1 h2
    exact ⟨f, ds_c e f1, f2⟩⟩
theorem RD_b {O : Nat → Prop} {sa pb v : Int} (h1 : sa = -1 ∨ (0 ≤ sa ∧ sa < 60)) (h2 : pb = -1 ∨ (0 ≤ pb ∧ pb < 60)) (h : RWy O sa pb v) : -1 ≤ v := by
  rcases h1 with h1 | h1
  · rw [h.1 h1]; decide
  · rcases h2 with h2 | h2
    · rw [h.2.1 h2]; decide
    · obtain ⟨f, f1, f2⟩ := h.2.2 sa.toNat pb.toNat (by omega) (by omega)
      rw [f2]
      exact ds_b f1 (by omega)
/-- the class's measure from a place, to the CRANKS of all CUES -/
def Wr (l0 row k j : Nat) : Prop := fW k j ∨ (k = l0 + 4 ∧ 8 * row ≤ j ∧ j < 8 * row + 8)
theorem jb_60 {l0 : Nat} (hk : kD l0 = (11, 7)) : aN (l0 + 1) = 8 ∧ aN (l0 + 2) = 8 ∧ aN (l0 + 3) = 8 ∧ aN (l0 + 4) = 72 ∧ 48 ≤ l0 ∧ l0 + 4 < 58 := by
  have h : ∀ l, l < 98 → kD l = (11, 7) → aN (l + 1) = 8 ∧ aN (l + 2) = 8 ∧ aN (l + 3) = 8 ∧ aN (l + 4) = 72 ∧ 48 ≤ l ∧ l + 4 < 58 := by decide +kernel
  by_cases c : l0 < 98
  · exact h l0 c hk
  · have e : kD l0 = (99, 0) := by
      unfold kD
      rw [List.getD_eq_getElem?_getD, List.getElem?_eq_none (by have : kL.length = 98 := rfl; omega)]
      rfl
    rw [e] at hk
    cases hk
theorem plC_eq {l1 : Nat} (hk : kD l1 = (10, 9)) {μ : Mm} {c : Nat} (hc : c < 8) : X0_placeOf l1 (c : Int) μ = some (μ (l1 + 2) c, μ) := by
  unfold X0_placeOf ldA
  rw [if_neg (by omega), if_neg (by omega), if_pos (by rw [(cel60 hk).2.1]; omega), Int.toNat_natCast]
/-- what stepsTo tells of a place or of none -/
def stv (ν : Mm) (a : Int) : Int := if a < 0 then -1 else ν 46 a.toNat
theorem stp_v {ν : Mm} {a : Int} (h : a = -1 ∨ (0 ≤ a ∧ a < 60)) : X9_stepsTo a ν = some (stv ν a, ν) := by
  unfold stv
  rcases h with h | h
  · rw [stp_no (by omega), if_pos (by omega)]
  · obtain ⟨p, rfl⟩ : ∃ p : Nat, a = (p : Int) := ⟨a.toNat, by omega⟩
    rw [stp_eq (by omega), if_neg (by omega), Int.toNat_natCast]
theorem off8r {a b : Nat} (ha : a ≤ 8) (hb : b ≤ 8) : iA (iM (a : Int) 8) (b : Int) = ((8 * a + b : Nat) : Int) := by
  rw [iM_id (by omega) (by omega), iA_id (by omega) (by omega)]
  omega
theorem jmea_L {l0 : Nat} (h0 : kD l0 = (11, 7)) {l1 : Nat} (h1 : kD l1 = (10, 9)) {row m : Nat} (hr : row ≤ 8) (hm : m ≤ 8) {cr : Nat → Nat} (hcr : ∀ k, k < m → cr k < 8) {ν0 : Mm} (hp : ∀ c, c < 8 → ν0 (l1 + 2) c = -1 ∨ (0 ≤ ν0 (l1 + 2) c ∧ ν0 (l1 + 2) c < 60)) (h5 : ν0 l0 5 = (m : Int)) (hc : ∀ k, k < m → ν0 (l0 + 1) k = ((cr k : Nat) : Int)) : ∀ (r i fuel : Nat) (ν : Mm), i + r = m → r < fuel → fw (fun k j => k = l0 + 4 ∧ 8 * row ≤ j ∧ j < 8 * row + 8) ν0 ν → ∃ ν', X1_measure_L12 l0 l1 (row : Int) fuel (i : Int) ν = some (0, ν') ∧ fw (fun k j => k = l0 + 4 ∧ 8 * row ≤ j ∧ j < 8 * row + 8) ν0 ν' ∧ (∀ j, j < i → ν' (l0 + 4) (8 * row + j) = ν (l0 + 4) (8 * row + j)) ∧ ∀ j, i ≤ j → j < m → ν' (l0 + 4) (8 * row + j) = stv ν0 (ν0 (l1 + 2) (cr j)) := by
  obtain ⟨j1, j2, j3, j4, j5, j6⟩ := jb_60 h0
  have hl1 := (cel60 h1).2.2.2
  intro r
  induction r with
  | zero =>
    intro i fuel ν hi hf hw
    obtain ⟨g, rfl, _⟩ := lt_fuel hf
    refine ⟨ν, ?_, hw, fun _ _ => rfl, fun j k1 k2 => absurd k1 (by omega)⟩
    show (if (ν l0 5) ≤ (i : Int) then _ else _) = _
    rw [hw l0 5 (by omega), h5, if_pos (by omega)]
  | succ r ih =>
    intro i fuel ν hi hf hw
    obtain ⟨g, rfl, _⟩ := lt_fuel hf
    obtain ⟨ν', r1, r2, r3, r4⟩ := ih (i + 1) g (sM ν (l0 + 4) (8 * row + i) (stv ν0 (ν0 (l1 + 2) (cr i)))) (by omega) (by omega) (fw_sM hw ⟨rfl, by omega, by omega⟩)
    have hci := hcr i (by omega)
    have w2 : ν (l1 + 2) (cr i) = ν0 (l1 + 2) (cr i) := hw _ _ (by omega)
    have s46 : stv ν (ν0 (l1 + 2) (cr i)) = stv ν0 (ν0 (l1 + 2) (cr i)) := by
      unfold stv
      rw [hw 46 _ (by omega)]
    refine ⟨ν', ?_, r2, fun j hj => by rw [r3 j (by omega), sM_j (by omega)], fun j k1 k2 => ?_⟩
    · rw [← r1]
      show (if (ν l0 5) ≤ (i : Int) then _ else _) = _
      rw [hw l0 5 (by omega), h5, if_neg (by omega), if_neg (by omega)]
      unfold ldA
      rw [if_pos (by rw [j1]; omega), Int.toNat_natCast, hw (l0 + 1) i (by omega), hc i (by omega)]
      dsimp only
      rw [plC_eq h1 hci, bd_some, w2, stp_v (hp _ hci), bd_some, s46, off8r hr (by omega)]
      unfold stA
      rw [if_pos (by rw [j4]; omega), Int.toNat_natCast, iA_nat (by omega)]
    · by_cases c : j = i
      · rw [c, r3 i (by omega), sM_s]
      · exact r4 j (by omega) k2
theorem jmea {l0 : Nat} (h0 : kD l0 = (11, 7)) {l1 : Nat} (h1 : kD l1 = (10, 9)) {row m : Nat} (hr : row ≤ 8) (hm : m ≤ 8) {cr : Nat → Nat} (hcr : ∀ k, k < m → cr k < 8) {ν : Mm} (hp : ∀ c, c < 8 → ν (l1 + 2) c = -1 ∨ (0 ≤ ν (l1 + 2) c ∧ ν (l1 + 2) c < 60)) (h5 : ν l0 5 = (m : Int)) (hc : ∀ k, k < m → ν (l0 + 1) k = ((cr k : Nat) : Int)) {a : Int} (ha : a = -1 ∨ ∃ s : Nat, a = (s : Int) ∧ opC l1 ν s) : ∃ ν', X1_measure l0 l1 (row : Int) a ν = some (0, ν') ∧ fw (Wr l0 row) ν ν' ∧ ∀ j, j < m → RWy (opC l1 ν) a (ν (l1 + 2) (cr j)) (ν' (l0 + 4) (8 * row + j)) := by
  obtain ⟨j1, j2, j3, j4, j5, j6⟩ := jb_60 h0
  have hl1 := (cel60 h1).2.2.2
  have fin : ∀ ν1, X9_measure l1 a ν = some (0, ν1) → fw fW ν ν1 → (∀ j, j < m → RWy (opC l1 ν) a (ν (l1 + 2) (cr j)) (stv ν1 (ν (l1 + 2) (cr j)))) → ∃ ν', X1_measure l0 l1 (row : Int) a ν = some (0, ν') ∧ fw (Wr l0 row) ν ν' ∧ ∀ j, j < m → RWy (opC l1 ν) a (ν (l1 + 2) (cr j)) (ν' (l0 + 4) (8 * row + j)) := by
    intro ν1 e1 f1 hj
    have o2 : ∀ c, ν1 (l1 + 2) c = ν (l1 + 2) c := fun c => f1 _ _ (by unfold fW; omega)
    obtain ⟨ν', r1, r2, _, r4⟩ := jmea_L h0 h1 hr hm hcr (ν0 := ν1) (fun c hc => by rw [o2]; exact hp c hc) (by rw [f1 _ _ (by unfold fW; omega)]; exact h5) (fun k hk => by rw [f1 _ _ (by unfold fW; omega)]; exact hc k hk) m 0 FU ν1 (by omega) (by show m < 1000000; omega) fw_rf
    refine ⟨ν', ?_, fun k j hn => by rw [r2 k j (fun z => hn (Or.inr z)), f1 k j (fun z => hn (Or.inl z))], fun j hj2 => ?_⟩
    · unfold X1_measure
      rw [e1, bd_some]
      exact r1
    · rw [r4 j (Nat.zero_le _) hj2, o2]
      exact hj j hj2
  rcases ha with ha | ⟨s, ha, hs⟩
  · obtain ⟨ν1, e1, f1, n1⟩ := meaC_no h1 (μ := ν) (a := a) (fun p e => by omega)
    refine fin ν1 e1 f1 (fun j hj => ⟨fun _ => ?_, fun h => ?_, fun s p e _ => by omega⟩)
    · unfold stv
      have := hp _ (hcr j hj)
      split
      · rfl
      · exact n1 _ (by omega)
    · unfold stv
      rw [if_pos (by omega)]
  · subst ha
    obtain ⟨ν1, e1, f1, d1⟩ := meaC h1 hs
    refine fin ν1 e1 f1 (fun j hj => ⟨fun h => by omega, fun h => ?_, fun s' p e e2 => ?_⟩)
    · unfold stv
      rw [if_pos (by omega)]
    · have es : s' = s := by omega
      rw [es]
      refine ⟨ν1 46, d1, ?_⟩
      unfold stv
      rw [e2, if_neg (by omega), Int.toNat_natCast]
def Wj (l0 k j : Nat) : Prop := fW k j ∨ k = l0 + 1 ∨ k = l0 + 3 ∨ k = l0 + 4 ∨ (k = l0 ∧ (j = 5 ∨ j = 6))
theorem windC {l1 : Nat} (h1 : kD l1 = (10, 9)) {μ : Mm} {c : Nat} (hc : c < 8) : X0_windOf l1 (c : Int) μ = some (μ (l1 + 3) c, μ) := by
  unfold X0_windOf ldA
  rw [if_neg (by omega), if_neg (by omega), if_pos (by rw [(cel60 h1).2.2.1]; omega), Int.toNat_natCast]
theorem prep_1 {l0 : Nat} (h0 : kD l0 = (11, 7)) {l1 : Nat} (h1 : kD l1 = (10, 9)) {l2 : Nat} (h2 : kD l2 = (13, 3)) {m : Nat} (hm : m ≤ 8) {cr : Nat → Nat} (hcr : ∀ k, k < m → cr k < 8) {K : Mm → Rs} {ν0 : Mm} (hc : ∀ k, k < m → ν0 (l2 + 1) k = ((cr k : Nat) : Int)) (h5 : ν0 l0 5 = (m : Int)) : ∀ (r i fuel : Nat) (ν : Mm), i + r = m → r < fuel → fw (fun k _ => k = l0 + 1 ∨ k = l0 + 3) ν0 ν → (∀ j, j < i → ν (l0 + 1) j = ((cr j : Nat) : Int) ∧ ν (l0 + 3) j = ν0 (l1 + 3) (cr j)) → ∃ ν', X1_prepare_L10 l0 l1 l2 K fuel (i : Int) ν = K ν' ∧ fw (fun k _ => k = l0 + 1 ∨ k = l0 + 3) ν0 ν' ∧ ∀ j, j < m → ν' (l0 + 1) j = ((cr j : Nat) : Int) ∧ ν' (l0 + 3) j = ν0 (l1 + 3) (cr j) := by
  obtain ⟨j1, j2, j3, j4, j5, j6⟩ := jb_60 h0
  have hl1 := (cel60 h1).2.2.2
  obtain ⟨p1, p2, p3, p4⟩ := pl_60 h2
  intro r
  induction r with
  | zero =>
    intro i fuel ν hi hf hw hd
    obtain ⟨g, rfl, _⟩ := lt_fuel hf
    refine ⟨ν, ?_, hw, fun j hj => hd j (by omega)⟩
    show (if (ν l0 5) ≤ (i : Int) then _ else _) = _
    rw [hw l0 5 (by omega), h5, if_pos (by omega)]
  | succ r ih =>
    intro i fuel ν hi hf hw hd
    obtain ⟨g, rfl, _⟩ := lt_fuel hf
    have hci := hcr i (by omega)
    obtain ⟨ν', r1, r2, r3⟩ := ih (i + 1) g (sM (sM ν (l0 + 1) i ((cr i : Nat) : Int)) (l0 + 3) i (ν0 (l1 + 3) (cr i))) (by omega) (by omega) (fw_sM (fw_sM hw (Or.inl rfl)) (Or.inr rfl)) (fun j hj => by
      rw [sM_a (by omega), sM_if, sM_if]
      by_cases c : j = i
      · rw [if_pos c, if_pos c, c]; exact ⟨rfl, rfl⟩
      · rw [if_neg c, if_neg c, sM_a (by omega)]; exact hd j (by omega))
    refine ⟨ν', ?_, r2, r3⟩
    rw [← r1]
    show (if (ν l0 5) ≤ (i : Int) then _ else _) = _
    rw [hw l0 5 (by omega), h5, if_neg (by omega), if_neg (by omega)]
    have w1 : ν (l2 + 1) i = ((cr i : Nat) : Int) := by rw [hw _ _ (by omega)]; exact hc i (by omega)
    unfold ldA stA
    rw [if_pos (by rw [p1]; omega), Int.toNat_natCast, w1]
    dsimp only
    rw [if_pos (by rw [j1]; omega), if_pos (by rw [j1]; omega), sM_s, windC h1 hci, bd_some, sM_a (by omega), hw (l1 + 3) _ (by omega), if_pos (by rw [j3]; omega), iA_nat (by omega)]
theorem prep_2 {l0 : Nat} (h0 : kD l0 = (11, 7)) {l1 : Nat} (h1 : kD l1 = (10, 9)) {m : Nat} (hm : m ≤ 8) {cr : Nat → Nat} (hcr : ∀ k, k < m → cr k < 8) {ν0 : Mm} (hp : ∀ c, c < 8 → ν0 (l1 + 2) c = -1 ∨ ∃ s : Nat, ν0 (l1 + 2) c = (s : Int) ∧ opC l1 ν0 s) (h5 : ν0 l0 5 = (m : Int)) (hc : ∀ k, k < m → ν0 (l0 + 1) k = ((cr k : Nat) : Int)) : ∀ (r i fuel : Nat) (ν : Mm), i + r = m → r < fuel → fw (fun k j => fW k j ∨ (k = l0 + 4 ∧ j < 64)) ν0 ν → (∀ a b, a < i → b < m → RWy (opC l1 ν0) (ν0 (l1 + 2) (cr a)) (ν0 (l1 + 2) (cr b)) (ν (l0 + 4) (8 * a + b))) → ∃ ν', X1_prepare_L79 l0 l1 fuel (i : Int) ν = some (0, ν') ∧ fw (fun k j => fW k j ∨ (k = l0 + 4 ∧ j < 64)) ν0 ν' ∧ ∀ a b, a < m → b < m → RWy (opC l1 ν0) (ν0 (l1 + 2) (cr a)) (ν0 (l1 + 2) (cr b)) (ν' (l0 + 4) (8 * a + b)) := by
  obtain ⟨j1, j2, j3, j4, j5, j6⟩ := jb_60 h0
  have hl1 := (cel60 h1).2.2.2
  intro r
  induction r with
  | zero =>
    intro i fuel ν hi hf hw hd
    obtain ⟨g, rfl, _⟩ := lt_fuel hf
    refine ⟨ν, ?_, hw, fun a b ha hb => hd a b (by omega) hb⟩
    show (if (ν l0 5) ≤ (i : Int) then _ else _) = _
    rw [hw l0 5 (by unfold fW; omega), h5, if_pos (by omega)]
  | succ r ih =>
    intro i fuel ν hi hf hw hd
    obtain ⟨g, rfl, _⟩ := lt_fuel hf
    have hci := hcr i (by omega)
    have o : ∀ p, opC l1 ν p ↔ opC l1 ν0 p := fun p => by
      unfold opC
      rw [hw (l1 + 1) p (by unfold fW; omega)]
    have o2 : ∀ c, ν (l1 + 2) c = ν0 (l1 + 2) c := fun c => hw _ _ (by unfold fW; omega)
    have h5' : ν l0 5 = (m : Int) := by rw [hw l0 5 (by unfold fW; omega)]; exact h5
    have hc' : ∀ k, k < m → ν (l0 + 1) k = ((cr k : Nat) : Int) := fun k hk => by rw [hw _ _ (by unfold fW; omega)]; exact hc k hk
    have hpi := hp _ hci
    obtain ⟨ν1, e1, f1, d1⟩ := jmea h0 h1 (row := i) (by omega) hm hcr (ν := ν) (fun c hc2 => by
      rw [o2]
      rcases hp c hc2 with z | ⟨s, z1, z2⟩
      · exact Or.inl z
      · have := z2.1
        exact Or.inr (by omega)) h5' hc' (a := ν0 (l1 + 2) (cr i)) (by
      rcases hpi with z | ⟨s, z1, z2⟩
      · exact Or.inl z
      · exact Or.inr ⟨s, z1, (o s).mpr z2⟩)
    have w1 : fw (fun k j => fW k j ∨ (k = l0 + 4 ∧ j < 64)) ν0 ν1 := fun k j hn => by
      rw [f1 k j (fun z => hn (by
        unfold Wr at z
        rcases z with z | z
        · exact Or.inl z
        · exact Or.inr ⟨z.1, by omega⟩)), hw k j hn]
    obtain ⟨ν', r1, r2, r3⟩ := ih (i + 1) g ν1 (by omega) (by omega) w1 (fun a b ha hb => by
      by_cases c : a = i
      · rw [c]
        have := d1 b hb
        rw [o2] at this
        exact RD_c o this
      · rw [f1 (l0 + 4) (8 * a + b) (by unfold Wr fW; omega)]
        exact hd a b (by omega) hb)
    refine ⟨ν', ?_, r2, r3⟩
    rw [← r1]
    show (if (ν l0 5) ≤ (i : Int) then _ else _) = _
    rw [h5', if_neg (by omega), if_neg (by omega)]
    unfold ldA
    rw [if_pos (by rw [j1]; omega), Int.toNat_natCast, hc' i (by omega)]
    dsimp only
    rw [plC_eq h1 hci, bd_some, o2, e1, bd_some, iA_nat (by omega)]
/-- the class's job, ready: all but the TIMES -/
theorem prepC {l0 : Nat} (h0 : kD l0 = (11, 7)) {l1 : Nat} (h1 : kD l1 = (10, 9)) {l2 : Nat} (h2 : kD l2 = (13, 3)) {m : Nat} (hm : m ≤ 8) {cr : Nat → Nat} (hcr : ∀ k, k < m → cr k < 8) {ν : Mm} (hz : ν l2 2 = (m : Int)) (hc : ∀ k, k < m → ν (l2 + 1) k = ((cr k : Nat) : Int)) (hp : ∀ c, c < 8 → ν (l1 + 2) c = -1 ∨ ∃ s : Nat, ν (l1 + 2) c = (s : Int) ∧ opC l1 ν s) (h3 : ν l1 3 = -1 ∨ ∃ s : Nat, ν l1 3 = (s : Int) ∧ opC l1 ν s) : ∃ ν', X1_prepare l0 l1 l2 ν = some (0, ν') ∧ fw (Wj l0) ν ν' ∧ ν' l0 5 = (m : Int) ∧ ν' l0 6 = ν l1 7 ∧ (∀ k, k < m → ν' (l0 + 1) k = ((cr k : Nat) : Int) ∧ ν' (l0 + 3) k = ν (l1 + 3) (cr k)) ∧ (∀ a b, a < m → b < m → RWy (opC l1 ν) (ν (l1 + 2) (cr a)) (ν (l1 + 2) (cr b)) (ν' (l0 + 4) (8 * a + b))) ∧ ∀ b, b < m → RWy (opC l1 ν) (ν l1 3) (ν (l1 + 2) (cr b)) (ν' (l0 + 4) (64 + b)) := by
  obtain ⟨j1, j2, j3, j4, j5, j6⟩ := jb_60 h0
  have hl1 := (cel60 h1).2.2.2
  obtain ⟨p1, p2, p3, p4⟩ := pl_60 h2
  have lo : ∀ {x : Nat}, x ≤ l1 + 3 ∨ x < 45 → x ≠ l0 ∧ x ≠ l0 + 1 ∧ x ≠ l0 + 3 ∧ x ≠ l0 + 4 := fun h => by omega
  obtain ⟨ν1, e1, w1, d1⟩ := prep_1 h0 h1 h2 hm hcr (K := fun μ15 => X1_prepare_J58 l0 l1 μ15) (ν0 := sM ν l0 5 (m : Int)) (fun k hk => by rw [sM_a (by omega)]; exact hc k hk) (sM_s _ _ _ _) m 0 FU (sM ν l0 5 (m : Int)) (by omega) (by show m < 1000000; omega) fw_rf (fun j hj => absurd hj (by omega))
  obtain ⟨ν2, hν2⟩ : ∃ ν2, ν2 = sM ν1 l0 6 (ν l1 7) := ⟨_, rfl⟩
  have o1 : ∀ k j, k ≠ l0 → k ≠ l0 + 1 → k ≠ l0 + 3 → ν2 k j = ν k j := fun k j g1 g2 g3 => by
    rw [hν2, sM_a g1, w1 k j (by omega), sM_a g1]
  have f5 : ν2 l0 5 = (m : Int) := by rw [hν2, sM_j (by decide), w1 l0 5 (by omega), sM_s]
  have f6 : ν2 l0 6 = ν l1 7 := by rw [hν2, sM_s]
  have d2 : ∀ k, k < m → ν2 (l0 + 1) k = ((cr k : Nat) : Int) ∧ ν2 (l0 + 3) k = ν (l1 + 3) (cr k) := fun k hk => by
    have := d1 k hk
    rw [hν2, sM_a (by omega), sM_a (by omega)]
    rw [sM_a (show l1 + 3 ≠ l0 by omega)] at this
    exact this
  have op2 : ∀ p, opC l1 ν2 p ↔ opC l1 ν p := fun p => by
    unfold opC
    rw [o1 (l1 + 1) p (by omega) (by omega) (by omega)]
  have pl2 : ∀ c, ν2 (l1 + 2) c = ν (l1 + 2) c := fun c => o1 _ c (by omega) (by omega) (by omega)
  have hp2 : ∀ c, c < 8 → ν2 (l1 + 2) c = -1 ∨ ∃ s : Nat, ν2 (l1 + 2) c = (s : Int) ∧ opC l1 ν2 s := fun c hc2 => by
    rw [pl2]
    rcases hp c hc2 with z | ⟨s, z1, z2⟩
    · exact Or.inl z
    · exact Or.inr ⟨s, z1, (op2 s).mpr z2⟩
  obtain ⟨ν3, e3, w3, d3⟩ := jmea h0 h1 (row := 8) (by decide) hm hcr (ν := ν2) (fun c hc2 => by
    rcases hp2 c hc2 with z | ⟨s, z1, z2⟩
    · exact Or.inl z
    · have := z2.1
      exact Or.inr (by omega)) f5 (fun k hk => (d2 k hk).1) (a := ν l1 3) (by
    rcases h3 with z | ⟨s, z1, z2⟩
    · exact Or.inl z
    · exact Or.inr ⟨s, z1, (op2 s).mpr z2⟩)
  have o3 : ∀ k j, ¬ fW k j → k ≠ l0 + 4 → ν3 k j = ν2 k j := fun k j g1 g2 => w3 k j (fun z => z.elim g1 (fun y => g2 y.1))
  have op3 : ∀ p, opC l1 ν3 p ↔ opC l1 ν2 p := fun p => by
    unfold opC
    rw [o3 (l1 + 1) p (by unfold fW; omega) (by omega)]
  have pl3 : ∀ c, ν3 (l1 + 2) c = ν2 (l1 + 2) c := fun c => o3 _ c (by unfold fW; omega) (by omega)
  obtain ⟨ν4, e4, w4, d4⟩ := prep_2 h0 h1 hm hcr (ν0 := ν3) (fun c hc2 => by
    rw [pl3]
    rcases hp2 c hc2 with z | ⟨s, z1, z2⟩
    · exact Or.inl z
    · exact Or.inr ⟨s, z1, (op3 s).mpr z2⟩) (by rw [o3 l0 5 (by unfold fW; omega) (by omega)]; exact f5) (fun k hk => by rw [o3 _ _ (by unfold fW; omega) (by omega)]; exact (d2 k hk).1) m 0 FU ν3 (by omega) (by show m < 1000000; omega) fw_rf (fun a b ha _ => absurd ha (by omega))
  have o4 : ∀ k j, ¬ fW k j → k ≠ l0 + 4 → ν4 k j = ν2 k j := fun k j g1 g2 => by rw [w4 k j (fun z => z.elim g1 (fun y => g2 y.1)), o3 k j g1 g2]
  refine ⟨ν4, ?_, fun k j hn => ?_, by rw [o4 l0 5 (by unfold fW; omega) (by omega)]; exact f5, by rw [o4 l0 6 (by unfold fW; omega) (by omega)]; exact f6, fun k hk => ?_, fun a b ha hb => ?_, fun b hb => ?_⟩
  · have e7 : ν1 l1 7 = ν l1 7 := by rw [w1 l1 7 (by omega), sM_a (by omega)]
    have e23 : ν2 l1 3 = ν l1 3 := o1 l1 3 (by omega) (by omega) (by omega)
    unfold X1_prepare
    rw [sF_r, hz]
    have e1' : X1_prepare_L10 l0 l1 l2 (fun μ15 => X1_prepare_J58 l0 l1 μ15) FU 0 (sM ν l0 5 (m : Int)) = X1_prepare_J58 l0 l1 ν1 := e1
    rw [e1']
    unfold X1_prepare_J58
    rw [sF_r, e7, ← hν2, e23]
    have e3' : X1_measure l0 l1 8 (ν l1 3) ν2 = some (0, ν3) := e3
    rw [e3', bd_some]
    exact e4
  · unfold Wj at hn
    rw [w4 k j (fun z => z.elim (fun y => hn (Or.inl y)) (fun y => hn (Or.inr (Or.inr (Or.inr (Or.inl y.1)))))), w3 k j (fun z => z.elim (fun y => hn (Or.inl y)) (fun y => hn (Or.inr (Or.inr (Or.inr (Or.inl y.1)))))), hν2]
    have g : ¬ (k = l0 ∧ j = 6) := by omega
    have e : sM ν1 l0 6 (ν l1 7) k j = ν1 k j := by unfold sM; rw [if_neg g]
    rw [e, w1 k j (fun z => hn (by omega))]
    unfold sM
    rw [if_neg (fun z => hn (by omega))]
  · rw [o4 _ k (by unfold fW; omega) (by omega), o4 _ k (by unfold fW; omega) (by omega)]
    exact d2 k hk
  · have := d4 a b ha hb
    rw [pl3, pl3, pl2, pl2] at this
    exact RD_c (fun p => (op3 p).trans (op2 p)) this
  · rw [w4 (l0 + 4) (64 + b) (by unfold fW; omega)]
    have := d3 b hb
    rw [pl2] at this
    exact RD_c op2 this
/-! THE JOB in the reference -/
/-- Q c: where the CRANK c is in the reference -/
def PlM (μ : Mm) (Q : Nat → Int) : Prop := ∀ c, c < 8 → (Q c = -1 ∧ ∀ p : Nat, p < 60 → isP μ p → μ 82 p ≠ 3 + (c : Int)) ∨ ∃ p : Nat, p < 60 ∧ Q c = (p : Int) ∧ isP μ p ∧ μ 82 p = 3 + (c : Int)
theorem PlM_at {μ : Mm} (hU : UQ μ 82) {Q : Nat → Int} (h : PlM μ Q) {c : Nat} (hc : c < 8) : X11_placeOf (3 + (c : Int)) μ = some (Q c, μ) := by
  rcases h c hc with ⟨h1, h2⟩ | ⟨p, h1, h2, h3, h4⟩
  · obtain ⟨r, e, hr⟩ := plc (3 + (c : Int)) μ
    rcases hr with ⟨r1, _⟩ | ⟨r1, r2, r3, r4⟩
    · rw [e, r1, h1]
    · exact absurd r4 (h2 r.toNat (by omega) r3)
  · rw [h2]
    exact plc_at hU h1 h3 h4 (by omega)
theorem PlM_c {μ ν : Mm} (e : ∀ j, ν 82 j = μ 82 j) (e1 : ν 70 23 = μ 70 23) (e2 : ν 70 24 = μ 70 24) {Q : Nat → Int} (h : PlM μ Q) : PlM ν Q := fun c hc => by
  rcases h c hc with ⟨h1, h2⟩ | ⟨p, h1, h2, h3, h4⟩
  · exact Or.inl ⟨h1, fun p hp ip => by rw [e]; exact h2 p hp ((isP_congr e1 e2 p).mp ip)⟩
  · exact Or.inr ⟨p, h1, h2, (isP_congr e1 e2 p).mpr h3, by rw [e]; exact h4⟩
theorem PlM_r {μ : Mm} {Q : Nat → Int} (h : PlM μ Q) {c : Nat} (hc : c < 8) : Q c = -1 ∨ (0 ≤ Q c ∧ Q c < 60) := by
  rcases h c hc with ⟨h1, _⟩ | ⟨p, h1, h2, _⟩
  · exact Or.inl h1
  · exact Or.inr (by omega)
theorem PlM_o {μ : Mm} {Q : Nat → Int} (h : PlM μ Q) {c : Nat} (hc : c < 8) : Q c = -1 ∨ ∃ s : Nat, Q c = (s : Int) ∧ opM μ s := by
  rcases h c hc with ⟨h1, _⟩ | ⟨p, h1, h2, h3, h4⟩
  · exact Or.inl h1
  · exact Or.inr ⟨p, h2, h1, h3, by omega⟩
theorem off8 {a b : Nat} (ha : a ≤ 8) (hb : b ≤ 8) : iA (iM 8 (a : Int)) (b : Int) = ((8 * a + b : Nat) : Int) := by
  rw [iM_id (by omega) (by omega), iA_id (by omega) (by omega)]
  omega
def Wa (a k j : Nat) : Prop := k = 87 ∨ (k = 89 ∧ 8 * a ≤ j ∧ j < 8 * a + 8)
theorem fil_L {l1 l2 s0 : Int} {a m : Nat} (ha : a ≤ 8) (hm : m ≤ 8) {K : Mm → Rs} {ν0 : Mm} (h37 : ν0 70 37 = (m : Int)) : ∀ (r i fuel : Nat) (ν : Mm), i + r = m → r < fuel → Bm ν → fw (fun k j => k = 89 ∧ 8 * a ≤ j ∧ j < 8 * a + 8) ν0 ν → (∀ j, j < i → ν 89 (8 * a + j) = -1) → ∃ ν', X11_lay_L63 l1 l2 (a : Int) s0 K fuel (i : Int) ν = K ν' ∧ Bm ν' ∧ fw (fun k j => k = 89 ∧ 8 * a ≤ j ∧ j < 8 * a + 8) ν0 ν' ∧ ∀ j, j < m → ν' 89 (8 * a + j) = -1 := by
  intro r
  induction r with
  | zero =>
    intro i fuel ν hi hf hB hw hd
    obtain ⟨g, rfl, _⟩ := lt_fuel hf
    refine ⟨ν, ?_, hB, hw, fun j hj => hd j (by omega)⟩
    show (if (ν 70 37) ≤ (i : Int) then _ else _) = _
    rw [hw 70 37 (by omega), h37, if_pos (by omega)]
  | succ r ih =>
    intro i fuel ν hi hf hB hw hd
    obtain ⟨g, rfl, _⟩ := lt_fuel hf
    obtain ⟨ν', r1, r2, r3, r4⟩ := ih (i + 1) g (sM ν 89 (8 * a + i) (-1)) (by omega) (by omega) (Bm_sM hB (show (-2147483648 : Int) ≤ -1 ∧ (-1 : Int) ≤ 2147483647 by decide)) (fw_sM hw ⟨rfl, by omega, by omega⟩) (fun j hj => by
      rw [sM_if]
      by_cases c : 8 * a + j = 8 * a + i
      · rw [if_pos c]
      · rw [if_neg c]; exact hd j (by omega))
    refine ⟨ν', ?_, r2, r3, r4⟩
    rw [← r1]
    show (if (ν 70 37) ≤ (i : Int) then _ else _) = _
    rw [hw 70 37 (by omega), h37, if_neg (by omega), off8 ha (by omega)]
    unfold stA
    rw [if_pos (by show (0 : Int) ≤ ((8 * a + i : Nat) : Int) ∧ ((8 * a + i : Nat) : Int) < 72; omega), Int.toNat_natCast, iA_nat (by omega)]
theorem rowM_L {l2 : Int} {p a m : Nat} (hp : p ≤ 4) (ha : a ≤ 8) (hm : m ≤ 8) {cr : Nat → Nat} (hcr : ∀ k, k < m → cr k < 8) {Q : Nat → Int} {K : Mm → Rs} {ν0 : Mm} (hU : UQ ν0 82) (hQ : PlM ν0 Q) (h37 : ν0 70 37 = (m : Int)) (h83 : ∀ k, k < m → ν0 83 (8 * p + k) = ((cr k : Nat) : Int)) (h87 : ∀ j, rI (ν0 87 j)) : ∀ (r i fuel : Nat) (ν : Mm), i + r = m → r < fuel → Bm ν → fw (fun k j => k = 89 ∧ 8 * a ≤ j ∧ j < 8 * a + 8) ν0 ν → (∀ j, j < i → ν 89 (8 * a + j) = if Q (cr j) = -1 then -1 else ν0 87 (Q (cr j)).toNat) → ∃ ν', X11_lay_L107 (p : Int) l2 (a : Int) K fuel (i : Int) ν = K ν' ∧ Bm ν' ∧ fw (fun k j => k = 89 ∧ 8 * a ≤ j ∧ j < 8 * a + 8) ν0 ν' ∧ ∀ j, j < m → ν' 89 (8 * a + j) = if Q (cr j) = -1 then -1 else ν0 87 (Q (cr j)).toNat := by
  intro r
  induction r with
  | zero =>
    intro i fuel ν hi hf hB hw hd
    obtain ⟨g, rfl, _⟩ := lt_fuel hf
    refine ⟨ν, ?_, hB, hw, fun j hj => hd j (by omega)⟩
    show (if (ν 70 37) ≤ (i : Int) then _ else _) = _
    rw [hw 70 37 (by omega), h37, if_pos (by omega)]
  | succ r ih =>
    intro i fuel ν hi hf hB hw hd
    obtain ⟨g, rfl, _⟩ := lt_fuel hf
    have hci := hcr i (by omega)
    have e82 : ∀ j, ν 82 j = ν0 82 j := fun j => hw 82 j (by omega)
    have e23 : ν 70 23 = ν0 70 23 := hw 70 23 (by omega)
    have e24 : ν 70 24 = ν0 70 24 := hw 70 24 (by omega)
    have hU' : UQ ν 82 := UQ_congr hU e23 e24 e82
    have hpl := PlM_at hU' (PlM_c e82 e23 e24 hQ) hci
    have hr := PlM_r hQ hci
    have step : ∀ v : Int, v = (if Q (cr i) = -1 then -1 else ν0 87 (Q (cr i)).toNat) → X11_lay_L107 (p : Int) l2 (a : Int) K (g + 1) (i : Int) ν = X11_lay_L107 (p : Int) l2 (a : Int) K g ((i + 1 : Nat) : Int) (sM ν 89 (8 * a + i) v) → ∃ ν', X11_lay_L107 (p : Int) l2 (a : Int) K (g + 1) (i : Int) ν = K ν' ∧ Bm ν' ∧ fw (fun k j => k = 89 ∧ 8 * a ≤ j ∧ j < 8 * a + 8) ν0 ν' ∧ ∀ j, j < m → ν' 89 (8 * a + j) = if Q (cr j) = -1 then -1 else ν0 87 (Q (cr j)).toNat := by
      intro v hv e
      have hvr : rI v := by
        rw [hv]
        split
        · exact ⟨by decide, by decide⟩
        · exact h87 _
      obtain ⟨ν', r1, r2, r3, r4⟩ := ih (i + 1) g (sM ν 89 (8 * a + i) v) (by omega) (by omega) (Bm_sM hB hvr) (fw_sM hw ⟨rfl, by omega, by omega⟩) (fun j hj => by
        rw [sM_if]
        by_cases c : j = i
        · rw [if_pos (by rw [c]), c]; exact hv
        · rw [if_neg (by omega)]; exact hd j (by omega))
      exact ⟨ν', e.trans r1, r2, r3, r4⟩
    have e0 : X11_lay_L107 (p : Int) l2 (a : Int) K (g + 1) (i : Int) ν = if Q (cr i) = (-1) then (stA ν 89 (iA (iM 8 (a : Int)) (i : Int)) (-1) fun μ31 => X11_lay_L107 (p : Int) l2 (a : Int) K g (iA (i : Int) 1) μ31) else (ldA ν 87 (Q (cr i)) fun v27 => stA ν 89 (iA (iM 8 (a : Int)) (i : Int)) v27 fun μ29 => X11_lay_L107 (p : Int) l2 (a : Int) K g (iA (i : Int) 1) μ29) := by
      show (if (ν 70 37) ≤ (i : Int) then _ else _) = _
      rw [hw 70 37 (by omega), h37, if_neg (by omega), off8 (by omega) (by omega)]
      unfold ldA
      rw [if_pos (by show (0 : Int) ≤ ((8 * p + i : Nat) : Int) ∧ ((8 * p + i : Nat) : Int) < 48; omega), Int.toNat_natCast, hw 83 _ (by omega), h83 i (by omega)]
      dsimp only
      rw [iA_id (by omega) (by omega), hpl, bd_some]
    by_cases c : Q (cr i) = -1
    · refine step (-1) (by rw [if_pos c]) ?_
      rw [e0, if_pos c, off8 ha (by omega)]
      unfold stA
      rw [if_pos (by show (0 : Int) ≤ ((8 * a + i : Nat) : Int) ∧ ((8 * a + i : Nat) : Int) < 72; omega), Int.toNat_natCast, iA_nat (by omega)]
    · refine step (ν0 87 (Q (cr i)).toNat) (by rw [if_neg c]) ?_
      rw [e0, if_neg c, off8 ha (by omega)]
      unfold ldA stA
      rw [if_pos (by show (0 : Int) ≤ Q (cr i) ∧ Q (cr i) < 60; omega)]
      dsimp only
      rw [if_pos (by show (0 : Int) ≤ ((8 * a + i : Nat) : Int) ∧ ((8 * a + i : Nat) : Int) < 72; omega), Int.toNat_natCast, iA_nat (by omega), hw 87 _ (by omega)]
theorem J58_eq {l2 : Int} {p a m : Nat} (hp : p ≤ 4) (ha : a ≤ 8) (hm : m ≤ 8) {cr : Nat → Nat} (hcr : ∀ k, k < m → cr k < 8) {Q : Nat → Int} {K : Int → Mm → Rs} {ν : Mm} (hB : Bm ν) (hU : UQ ν 82) (hQ : PlM ν Q) (h37 : ν 70 37 = (m : Int)) (h83 : ∀ k, k < m → ν 83 (8 * p + k) = ((cr k : Nat) : Int)) {s0 : Int} (hs : s0 = -1 ∨ ∃ s : Nat, s0 = (s : Int) ∧ opM ν s) : ∃ ν', X11_lay_J58 K (p : Int) l2 (a : Int) s0 ν = K ((a + 1 : Nat) : Int) ν' ∧ Bm ν' ∧ fw (Wa a) ν ν' ∧ ∀ j, j < m → RWy (opM ν) s0 (Q (cr j)) (ν' 89 (8 * a + j)) := by
  unfold X11_lay_J58
  obtain ⟨ν1, e1, b1, w1, d1⟩ := fil_L (l1 := (p : Int)) (l2 := l2) (s0 := s0) ha hm (K := fun μ15 => if s0 = (-1) then (K (iA (a : Int) 1) μ15) else (bd (X11_spread s0 μ15) fun v17 μ18 => X11_lay_L107 (p : Int) l2 (a : Int) (fun μ33 => K (iA (a : Int) 1) μ33) FU 0 μ18)) (ν0 := ν) h37 m 0 FU ν (by omega) (by show m < 1000000; omega) hB fw_rf (fun j hj => absurd hj (by omega))
  have e1' : X11_lay_L63 (p : Int) l2 (a : Int) s0 (fun μ15 => if s0 = (-1) then (K (iA (a : Int) 1) μ15) else (bd (X11_spread s0 μ15) fun v17 μ18 => X11_lay_L107 (p : Int) l2 (a : Int) (fun μ33 => K (iA (a : Int) 1) μ33) FU 0 μ18)) FU 0 ν = (if s0 = (-1) then (K (iA (a : Int) 1) ν1) else (bd (X11_spread s0 ν1) fun v17 μ18 => X11_lay_L107 (p : Int) l2 (a : Int) (fun μ33 => K (iA (a : Int) 1) μ33) FU 0 μ18)) := e1
  rw [e1', iA_nat (by omega)]
  rcases hs with hs | ⟨s, rfl, ho⟩
  · rw [if_pos hs]
    exact ⟨ν1, rfl, b1, fun k j hn => w1 k j (fun z => hn (Or.inr z)), fun j hj => ⟨fun _ => d1 j hj, fun _ => d1 j hj, fun s p e _ => by omega⟩⟩
  · rw [if_neg (by omega)]
    have o0 : opM ν1 s := by
      unfold opM isP at ho ⊢
      rw [w1 70 23 (by omega), w1 70 24 (by omega), w1 82 s (by omega)]
      exact ho
    obtain ⟨r, ξ, e2, f2, g2, d2⟩ := sprM b1 o0
    have x : ∀ k j, k ≠ 87 → k ≠ 89 → ξ k j = ν k j := fun k j h1 h2 => by rw [f2 k h1, w1 k j (by omega)]
    have hBξ : Bm ξ := fun k j hk => by
      by_cases c : k = 87
      · rw [c]; exact g2 j
      · rw [f2 k c]; exact b1 k j hk
    have hQξ : PlM ξ Q := PlM_c (fun j => x 82 j (by decide) (by decide)) (x 70 23 (by decide) (by decide)) (x 70 24 (by decide) (by decide)) hQ
    have hUξ : UQ ξ 82 := UQ_congr hU (x 70 23 (by decide) (by decide)) (x 70 24 (by decide) (by decide)) (fun j => x 82 j (by decide) (by decide))
    obtain ⟨ν', e3, b3, w3, d3⟩ := rowM_L (l2 := l2) hp ha hm hcr (K := fun μ33 => K ((a + 1 : Nat) : Int) μ33) hUξ hQξ (by rw [x 70 37 (by decide) (by decide)]; exact h37) (fun k hk => by rw [x 83 _ (by decide) (by decide)]; exact h83 k hk) g2 m 0 FU ξ (by omega) (by show m < 1000000; omega) hBξ fw_rf (fun j hj => absurd hj (by omega))
    have e3' : X11_lay_L107 (p : Int) l2 (a : Int) (fun μ33 => K ((a + 1 : Nat) : Int) μ33) FU 0 ξ = K ((a + 1 : Nat) : Int) ν' := e3
    rw [e2, bd_some, e3']
    have o1 : ∀ q, opM ν1 q ↔ opM ν q := fun q => by
      unfold opM isP
      rw [w1 70 23 (by omega), w1 70 24 (by omega), w1 82 q (by omega)]
    refine ⟨ν', rfl, b3, fun k j hn => ?_, fun j hj => ⟨fun h => by omega, fun h => by rw [d3 j hj, if_pos h], fun s' q' h1 h2 => ⟨ξ 87, ?_, ?_⟩⟩⟩
    · rw [w3 k j (fun z => hn (Or.inr z)), f2 k (fun z => hn (Or.inl z)), w1 k j (fun z => hn (Or.inr z))]
    · have : s' = s := by omega
      rw [this]
      exact ds_c o1 d2
    · rw [d3 j hj, h2, if_neg (by omega), Int.toNat_natCast]
def Wl (k j : Nat) : Prop := k = 87 ∨ k = 89 ∨ k = 90 ∨ (k = 70 ∧ (j = 37 ∨ j = 38))
theorem wnd_L {p m : Nat} (hp : p ≤ 4) (hm : m ≤ 8) {cr : Nat → Nat} (hcr : ∀ k, k < m → cr k < 8) {ν0 : Mm} (h37 : ν0 70 37 = (m : Int)) (h83 : ∀ k, k < m → ν0 83 (8 * p + k) = ((cr k : Nat) : Int)) : ∀ (r i fuel : Nat) (ν : Mm), i + r = m → r < fuel → Bm ν → fw (fun k _ => k = 90) ν0 ν → (∀ j, j < i → ν 90 j = ν0 86 (cr j)) → ∃ ν', X11_lay_L181 (p : Int) fuel (i : Int) ν = some (0, ν') ∧ Bm ν' ∧ fw (fun k _ => k = 90) ν0 ν' ∧ ∀ j, j < m → ν' 90 j = ν0 86 (cr j) := by
  intro r
  induction r with
  | zero =>
    intro i fuel ν hi hf hB hw hd
    obtain ⟨g, rfl, _⟩ := lt_fuel hf
    refine ⟨ν, ?_, hB, hw, fun j hj => hd j (by omega)⟩
    show (if (ν 70 37) ≤ (i : Int) then _ else _) = _
    rw [hw 70 37 (by omega), h37, if_pos (by omega)]
  | succ r ih =>
    intro i fuel ν hi hf hB hw hd
    obtain ⟨g, rfl, _⟩ := lt_fuel hf
    have hci := hcr i (by omega)
    have h86 : ν 86 (cr i) = ν0 86 (cr i) := hw 86 _ (by omega)
    have hb : 0 ≤ ν 86 (cr i) ∧ ν 86 (cr i) ≤ 30 := hB 86 (cr i) (by decide)
    obtain ⟨ν', r1, r2, r3, r4⟩ := ih (i + 1) g (sM ν 90 i (ν0 86 (cr i))) (by omega) (by omega) (Bm_sM hB (show (-2147483648 : Int) ≤ ν0 86 (cr i) ∧ ν0 86 (cr i) ≤ 2147483647 by omega)) (fw_sM hw rfl) (fun j hj => by
      rw [sM_if]
      by_cases c : j = i
      · rw [if_pos c, c]
      · rw [if_neg c]; exact hd j (by omega))
    refine ⟨ν', ?_, r2, r3, r4⟩
    rw [← r1]
    show (if (ν 70 37) ≤ (i : Int) then _ else _) = _
    rw [hw 70 37 (by omega), h37, if_neg (by omega), off8 (by omega) (by omega)]
    unfold ldA stA
    rw [if_pos (by show (0 : Int) ≤ ((8 * p + i : Nat) : Int) ∧ ((8 * p + i : Nat) : Int) < 48; omega), Int.toNat_natCast (8 * p + i), hw 83 _ (by omega), h83 i (by omega)]
    dsimp only
    rw [if_pos (by show (0 : Int) ≤ (cr i : Int) ∧ (cr i : Int) < 8; omega), Int.toNat_natCast (cr i), h86, if_pos (by show (0 : Int) ≤ (i : Int) ∧ (i : Int) < 8; omega), Int.toNat_natCast, iA_nat (by omega)]
theorem layM_L {p m : Nat} (hp : p ≤ 4) (hm : m ≤ 8) {cr : Nat → Nat} (hcr : ∀ k, k < m → cr k < 8) {Q : Nat → Int} {K : Mm → Rs} {ν0 : Mm} (hU : UQ ν0 82) (hQ : PlM ν0 Q) (h37 : ν0 70 37 = (m : Int)) (h83 : ∀ k, k < m → ν0 83 (8 * p + k) = ((cr k : Nat) : Int)) {s0 : Int} (hs : s0 = -1 ∨ ∃ s : Nat, s0 = (s : Int) ∧ opM ν0 s) : ∀ (r i fuel : Nat) (ν : Mm), i + r = m + 1 → r < fuel → Bm ν → fw (fun k _ => k = 87 ∨ k = 89) ν0 ν → (∀ a b, a < i → b < m → RWy (opM ν0) (if a = m then s0 else Q (cr a)) (Q (cr b)) (ν 89 (8 * a + b))) → ∃ ν', X11_lay_L18 (p : Int) s0 K fuel (i : Int) ν = K ν' ∧ Bm ν' ∧ fw (fun k _ => k = 87 ∨ k = 89) ν0 ν' ∧ ∀ a b, a ≤ m → b < m → RWy (opM ν0) (if a = m then s0 else Q (cr a)) (Q (cr b)) (ν' 89 (8 * a + b)) := by
  intro r
  induction r with
  | zero =>
    intro i fuel ν hi hf hB hw hd
    obtain ⟨g, rfl, _⟩ := lt_fuel hf
    refine ⟨ν, ?_, hB, hw, fun a b ha hb => hd a b (by omega) hb⟩
    show (if (ν 70 37) < (i : Int) then _ else _) = _
    rw [hw 70 37 (by omega), h37, if_pos (by omega)]
  | succ r ih =>
    intro i fuel ν hi hf hB hw hd
    obtain ⟨g, rfl, _⟩ := lt_fuel hf
    have e82 : ∀ j, ν 82 j = ν0 82 j := fun j => hw 82 j (by omega)
    have e23 : ν 70 23 = ν0 70 23 := hw 70 23 (by omega)
    have e24 : ν 70 24 = ν0 70 24 := hw 70 24 (by omega)
    have e37 : ν 70 37 = (m : Int) := by rw [hw 70 37 (by omega)]; exact h37
    have e83 : ∀ k, k < m → ν 83 (8 * p + k) = ((cr k : Nat) : Int) := fun k hk => by rw [hw 83 _ (by omega)]; exact h83 k hk
    have hU' : UQ ν 82 := UQ_congr hU e23 e24 e82
    have hQ' := PlM_c e82 e23 e24 hQ
    have o : ∀ q, opM ν q ↔ opM ν0 q := fun q => by
      unfold opM isP
      rw [e23, e24, e82]
    have hsi : (if i = m then s0 else Q (cr i)) = -1 ∨ ∃ s : Nat, (if i = m then s0 else Q (cr i)) = (s : Int) ∧ opM ν s := by
      by_cases c : i = m
      · rw [if_pos c]
        rcases hs with z | ⟨s, z1, z2⟩
        · exact Or.inl z
        · exact Or.inr ⟨s, z1, (o s).mpr z2⟩
      · rw [if_neg c]
        exact PlM_o hQ' (hcr i (by omega))
    obtain ⟨ν1, e1, b1, w1, d1⟩ := J58_eq (l2 := s0) (a := i) hp (by omega) hm hcr (K := fun w4 μq => X11_lay_L18 (p : Int) s0 K g w4 μq) hB hU' hQ' e37 e83 hsi
    have w1' : fw (fun k _ => k = 87 ∨ k = 89) ν0 ν1 := fun k j hn => by
      rw [w1 k j (fun z => hn (by unfold Wa at z; omega)), hw k j hn]
    obtain ⟨ν', r1, r2, r3, r4⟩ := ih (i + 1) g ν1 (by omega) (by omega) b1 w1' (fun a b ha hb => by
      by_cases c : a = i
      · rw [c]
        exact RD_c o (d1 b hb)
      · rw [w1 89 (8 * a + b) (by unfold Wa; omega)]
        exact hd a b (by omega) hb)
    refine ⟨ν', ?_, r2, r3, r4⟩
    rw [← r1, ← e1]
    show (if (ν 70 37) < (i : Int) then _ else _) = _
    rw [e37, if_neg (by omega)]
    by_cases c : i = m
    · rw [if_pos (by omega), if_pos c]
    · rw [if_neg (by omega), off8 (by omega) (by omega), if_neg c]
      unfold ldA
      rw [if_pos (by show (0 : Int) ≤ ((8 * p + i : Nat) : Int) ∧ ((8 * p + i : Nat) : Int) < 48; omega), Int.toNat_natCast, e83 i (by omega)]
      dsimp only
      have hci := hcr i (by omega)
      rw [iA_id (by omega) (by omega), PlM_at hU' hQ' hci, bd_some]
/-- the reference's job, ready: all but the TIMES -/
theorem layM {p m : Nat} (hp : p ≤ 4) (hm : m ≤ 8) {cr : Nat → Nat} (hcr : ∀ k, k < m → cr k < 8) {Q : Nat → Int} {ν : Mm} (hB : Bm ν) (hU : UQ ν 82) (hQ : PlM ν Q) (h85 : ν 85 p = (m : Int)) (h83 : ∀ k, k < m → ν 83 (8 * p + k) = ((cr k : Nat) : Int)) {s0 by_ : Int} (hby : rI by_) (hs : s0 = -1 ∨ ∃ s : Nat, s0 = (s : Int) ∧ opM ν s) : ∃ ξ, X11_lay (p : Int) s0 by_ ν = some (0, ξ) ∧ Bm ξ ∧ fw Wl ν ξ ∧ ξ 70 37 = (m : Int) ∧ ξ 70 38 = by_ ∧ (∀ k, k < m → ξ 90 k = ν 86 (cr k)) ∧ (∀ a b, a ≤ m → b < m → RWy (opM ν) (if a = m then s0 else Q (cr a)) (Q (cr b)) (ξ 89 (8 * a + b))) := by
  obtain ⟨ν1, hν1⟩ : ∃ ν1, ν1 = sM (sM ν 70 37 (m : Int)) 70 38 by_ := ⟨_, rfl⟩
  have w1 : ∀ k j, ¬ (k = 70 ∧ (j = 37 ∨ j = 38)) → ν1 k j = ν k j := fun k j hn => by
    rw [hν1]
    unfold sM
    rw [if_neg (by omega), if_neg (by omega)]
  have e37 : ν1 70 37 = (m : Int) := by rw [hν1, sM_j (by decide), sM_s]
  have e38 : ν1 70 38 = by_ := by rw [hν1, sM_s]
  have b1 : Bm ν1 := by
    rw [hν1]
    exact Bm_sM (Bm_sM hB (show (0 : Int) ≤ (m : Int) ∧ (m : Int) ≤ 8 by omega)) hby
  have o : ∀ q, opM ν1 q ↔ opM ν q := fun q => by
    unfold opM isP
    rw [w1 70 23 (by omega), w1 70 24 (by omega), w1 82 q (by omega)]
  have h83' : ∀ k, k < m → ν1 83 (8 * p + k) = ((cr k : Nat) : Int) := fun k hk => by rw [w1 83 _ (by omega)]; exact h83 k hk
  obtain ⟨ν2, e2, b2, w2, d2⟩ := layM_L hp hm hcr (K := fun μ34 => X11_lay_L181 (p : Int) FU 0 μ34) (ν0 := ν1) (UQ_congr hU (w1 70 23 (by omega)) (w1 70 24 (by omega)) (fun j => w1 82 j (by omega))) (PlM_c (fun j => w1 82 j (by omega)) (w1 70 23 (by omega)) (w1 70 24 (by omega)) hQ) e37 h83' (s0 := s0) (by
    rcases hs with z | ⟨s, z1, z2⟩
    · exact Or.inl z
    · exact Or.inr ⟨s, z1, (o s).mpr z2⟩) (m + 1) 0 FU ν1 (by omega) (by show m + 1 < 1000000; omega) b1 fw_rf (fun a b ha _ => absurd ha (by omega))
  obtain ⟨ν3, e3, b3, w3, d3⟩ := wnd_L hp hm hcr (ν0 := ν2) (by rw [w2 70 37 (by omega)]; exact e37) (fun k hk => by rw [w2 83 _ (by omega)]; exact h83' k hk) m 0 FU ν2 (by omega) (by show m < 1000000; omega) b2 fw_rf (fun j hj => absurd hj (by omega))
  refine ⟨ν3, ?_, b3, fun k j hn => ?_, by rw [w3 70 37 (by omega), w2 70 37 (by omega)]; exact e37, by rw [w3 70 38 (by omega), w2 70 38 (by omega)]; exact e38, fun k hk => ?_, fun a b ha hb => ?_⟩
  · unfold X11_lay ldA
    rw [if_pos (by show (0 : Int) ≤ (p : Int) ∧ (p : Int) < 6; omega), Int.toNat_natCast, h85]
    dsimp only
    rw [sF_r, sF_r, ← hν1]
    have e2' : X11_lay_L18 (p : Int) s0 (fun μ34 => X11_lay_L181 (p : Int) FU 0 μ34) FU 0 ν1 = X11_lay_L181 (p : Int) FU 0 ν2 := e2
    rw [e2']
    exact e3
  · unfold Wl at hn
    rw [w3 k j (fun z => hn (by omega)), w2 k j (fun z => hn (by omega)), w1 k j (fun z => hn (by omega))]
  · rw [d3 k hk, w2 86 _ (by omega), w1 86 _ (by omega)]
  · rw [w3 89 _ (by omega)]
    exact RD_c o (d2 a b ha hb)
/-! READY: a PLAY's job laid out, in both alike -/
def JobC (l0 : Nat) (ν : Mm) (m : Nat) (B : Nat → Nat → Int) (T Wd : Nat → Int) (cr : Nat → Nat) (S : Int) : Prop := ν l0 5 = (m : Int) ∧ ν l0 6 = S ∧ (∀ k, k < m → ν (l0 + 1) k = ((cr k : Nat) : Int) ∧ ν (l0 + 2) k = T k ∧ ν (l0 + 3) k = Wd k) ∧ (∀ a b, a < m → b < m → ν (l0 + 4) (8 * a + b) = B a b) ∧ ∀ b, b < m → ν (l0 + 4) (64 + b) = B m b
def JobM (ξ : Mm) (m : Nat) (B : Nat → Nat → Int) (T Wd : Nat → Int) (S : Int) : Prop := ξ 70 37 = (m : Int) ∧ ξ 70 38 = S ∧ (∀ k, k < m → ξ 88 k = T k ∧ ξ 90 k = Wd k) ∧ ∀ a b, a ≤ m → b < m → ξ 89 (8 * a + b) = B a b
def lets (L : List (Int × Int)) (k : Nat) : Nat := (L.getD k (0, 0)).1.toNat
theorem lets_e {L : List (Int × Int)} (h : plOK L) {k : Nat} (hk : k < L.length) : (L.getD k (0, 0)).1 = ((lets L k : Nat) : Int) ∧ lets L k < 8 := by
  have := plOK_at h hk
  unfold lets
  omega
theorem Kc_pl {μ : Mm} {l0 A W s g : Nat} (h : Kc μ l0 A W s g) {c : Nat} (hc : c < 8) : μ (l0 + 2) c = -1 ∨ ∃ p : Nat, p < 60 ∧ μ (l0 + 2) c = (p : Int) ∧ isP μ p ∧ μ A p = 3 + (c : Int) := by
  have h4 := h.2.2.2.1 c hc
  by_cases z : μ (l0 + 2) c = -1
  · exact Or.inl z
  · have e : μ (l0 + 2) c = (((μ (l0 + 2) c).toNat : Nat) : Int) := by omega
    have k := (h.2.2.1 c hc (μ (l0 + 2) c).toNat (by omega)).mpr e
    exact Or.inr ⟨(μ (l0 + 2) c).toNat, by omega, e, k.1, k.2⟩
theorem Kc_PlM {μ : Mm} {l0 W s g : Nat} (h : Kc μ l0 82 W s g) : PlM μ (μ (l0 + 2)) := fun c hc => by
  rcases Kc_pl h hc with z | ⟨p, h1, h2, h3, h4⟩
  · refine Or.inl ⟨z, fun p hp ip e => ?_⟩
    have := (h.2.2.1 c hc p hp).mp ⟨ip, e⟩
    omega
  · exact Or.inr ⟨p, h1, h2, h3, h4⟩
theorem Kc_pc {μ : Mm} (hB : Bm μ) {l0 W s g : Nat} (h : Kc μ l0 82 W s g) : ∀ c, c < 8 → μ (l0 + 2) c = -1 ∨ ∃ p : Nat, μ (l0 + 2) c = (p : Int) ∧ opC l0 μ p := fun c hc => by
  rcases Kc_pl h hc with z | ⟨p, h1, h2, h3, h4⟩
  · exact Or.inl z
  · exact Or.inr ⟨p, h2, (Cp_op hB h.1 p).mpr ⟨h1, h3, by omega⟩⟩
/-- the job of the class, ready in the CELLAR l1, all but the TIMES -/
theorem readyC {l1 : Nat} (h1 : kD l1 = (10, 9)) {μ : Mm} (hB : Bm μ) (hK : Kc μ l1 82 86 30 31) {s : Nat} (hs : s < 60) (is : isP μ s) (es : μ 82 s = 2) {p : Nat} (hp : p ≤ 4) {L : List (Int × Int)} (hl8 : L.length ≤ 8) (hP : hasP μ (18 + 3 * p) 0 L) (hL : plOK L) : ∃ ν, X1_prepare 48 l1 (18 + 3 * p) μ = some (0, ν) ∧ fw (Wj 48) μ ν ∧ ν 48 5 = (L.length : Int) ∧ ν 48 6 = μ 70 30 ∧ (∀ k, k < L.length → ν 49 k = ((lets L k : Nat) : Int) ∧ ν 51 k = μ (l1 + 3) (lets L k)) ∧ (∀ a b, a < L.length → b < L.length → RWy (opM μ) (μ (l1 + 2) (lets L a)) (μ (l1 + 2) (lets L b)) (ν 52 (8 * a + b))) ∧ ∀ b, b < L.length → RWy (opM μ) (s : Int) (μ (l1 + 2) (lets L b)) (ν 52 (64 + b)) := by
  have e3 : μ l1 3 = (s : Int) := (hK.2.1 s hs).mp ⟨is, es⟩
  have hk : ∀ k, k < L.length → μ (18 + 3 * p + 1) k = ((lets L k : Nat) : Int) := fun k hk => by
    have := (hP.2 k hk).1
    rw [Nat.zero_add] at this
    rw [this, (lets_e hL hk).1]
  obtain ⟨ν, g1, g2, g3, g4, g5, g6, g7⟩ := prepC (l0 := 48) (by decide) h1 (kD_pl p (by omega)) (m := L.length) hl8 (cr := lets L) (fun k hk => (lets_e hL hk).2) (by rw [hP.1, Nat.zero_add]) hk (Kc_pc hB hK) (by
    rw [e3]
    exact Or.inr ⟨s, rfl, (Cp_op hB hK.1 s).mpr ⟨hs, is, by omega⟩⟩)
  have h7 : μ l1 7 = μ 70 30 := hK.2.2.2.2.2.2.2.1
  refine ⟨ν, g1, g2, g3, by rw [g4, h7], g5, fun a b ha hb => RD_c (Cp_op hB hK.1) (g6 a b ha hb), fun b hb => ?_⟩
  have := g7 b hb
  rw [e3] at this
  exact RD_c (Cp_op hB hK.1) this
theorem lth_c {μ ν : Mm} (e1 : ν 0 17 = μ 0 17) (e2 : ν 0 16 = μ 0 16) : X10_lawThatHolds ν = (X10_lawThatHolds μ).map (fun q => (q.1, ν)) := by
  unfold X10_lawThatHolds aL
  rw [e1, e2]
  by_cases c1 : μ 0 17 < 0
  · rw [if_pos c1, if_pos c1]; rfl
  · rw [if_neg c1, if_neg c1]
    by_cases c2 : μ 0 16 ≤ μ 0 17
    · rw [if_pos c2, if_pos c2]; rfl
    · rw [if_neg c2, if_neg c2]
      by_cases c3 : ((aN 36 : Nat) : Int) ≤ μ 0 17
      · rw [if_pos c3, if_pos c3]; rfl
      · rw [if_neg c3, if_neg c3]
        by_cases c4 : 0 ≤ μ 0 17 ∧ μ 0 17 < ((aN 36 : Nat) : Int)
        · rw [if_pos c4, if_pos c4]; rfl
        · rw [if_neg c4, if_neg c4]; rfl
theorem layC {μ : Mm} (hI : Inv μ) (h23 : μ 70 23 ≠ 0) {p : Nat} (hp : (p : Int) < μ 70 28) {L : List (Int × Int)} (hl8 : L.length ≤ 8) (hP : hasP μ (18 + 3 * p) 0 L) (hL : plOK L) {H : Option (List (Cd × Cd))} (hH : HL μ H) {s : Nat} (hs : s < 60) (is : isP μ s) (es : μ 82 s = 2) : ∃ ν, X10_lay (p : Int) μ = some (1, ν) ∧ fw (fun k j => Wj 48 k j ∨ Wt k j) μ ν ∧ ν 48 5 = (L.length : Int) ∧ ν 48 6 = μ 70 30 ∧ (∀ k, k < L.length → ν 49 k = ((lets L k : Nat) : Int) ∧ ν 50 k = tmF H (μ 70 31) L k ∧ ν 51 k = μ 8 (lets L k)) ∧ (∀ a b, a < L.length → b < L.length → RWy (opM μ) (μ 7 (lets L a)) (μ 7 (lets L b)) (ν 52 (8 * a + b))) ∧ ∀ b, b < L.length → RWy (opM μ) (s : Int) (μ 7 (lets L b)) (ν 52 (64 + b)) := by
  have hp4 : p ≤ 4 := by
    have := (hI.2.1.1 70 28 (by decide)).2
    have : μ 70 28 ≤ 5 := this
    omega
  have hK := hI.2.2.2.2.2.1
  have h31 : 0 ≤ μ 70 31 ∧ μ 70 31 ≤ 99 := hI.2.1.1 70 31 (by decide)
  have h58 : μ 5 8 = μ 70 31 := hK.2.2.2.2.2.2.2.2.1
  have a17 : ∀ f : Nat → Rs, aL 17 (p : Int) f = f (18 + 3 * p) := fun f => by
    unfold aL
    rw [if_pos (by show (0 : Int) ≤ (p : Int) ∧ (p : Int) < 5; omega), Int.toNat_natCast]
    rfl
  obtain ⟨ν1, g1, g2, g3, g4, g5, g6, g7⟩ := readyC (l1 := 5) (by decide) hI.2.1.1 hK hs is es hp4 hl8 hP hL
  have n1 : ∀ k j, ¬ Wj 48 k j → ν1 k j = μ k j := g2
  have hH1 : HL ν1 H := by
    rcases hH with ⟨h1, h2⟩ | ⟨q, m, LW, q1, q2, q3, q4, q5, q6, q7, q8⟩
    · exact Or.inl ⟨by rw [n1 70 32 (by unfold Wj fW; omega)]; exact h1, h2⟩
    · have eb : ∀ j, ν1 (38 + 2 * q) j = μ (38 + 2 * q) j := fun j => n1 _ j (by unfold Wj fW; omega)
      exact Or.inr ⟨q, m, LW, q1, by rw [n1 70 32 (by unfold Wj fW; omega)]; exact q2, q3, q4, by rw [n1 _ _ (by unfold Wj fW; omega)]; exact q5, fun j hj => by rw [eb]; exact q6 j hj, by rw [lawS_congr eb]; exact q7, rows_agr (agr_of _ (fun k j h1 h2 => n1 k j (by unfold Wj fW; omega))) _ _ _ q8⟩
  have hP1 : hasP ν1 (18 + 3 * p) 0 L := ⟨by rw [n1 _ _ (by unfold Wj fW; omega)]; exact hP.1, fun i hi => by rw [n1 _ _ (by unfold Wj fW; omega), n1 _ _ (by unfold Wj fW; omega)]; exact hP.2 i hi⟩
  obtain ⟨ν2, f1, f2, f3⟩ := fillC hH1 (kD_pl p (by omega)) hP1 hl8 hL h31
  have hcc : hC ν1 = hC μ := by unfold hC; rw [n1 70 32 (by unfold Wj fW; omega)]
  have hld : X10_lawThatHolds ν1 = some (hC μ, ν1) := by
    rw [lth_c (n1 0 17 (by unfold Wj fW; omega)) (n1 0 16 (by unfold Wj fW; omega)), holds_eq hI]
    rfl
  have o2 : ∀ k j, ¬ Wt k j → ν2 k j = ν1 k j := f2
  refine ⟨ν2, ?_, fun k j hn => by rw [o2 k j (fun z => hn (Or.inr z)), n1 k j (fun z => hn (Or.inl z))], by rw [o2 48 5 (by unfold Wt; omega)]; exact g3, by rw [o2 48 6 (by unfold Wt; omega)]; exact g4, fun k hk => ⟨by rw [o2 49 k (by unfold Wt; omega)]; exact (g5 k hk).1, f3 k hk, by rw [o2 51 k (by unfold Wt; omega)]; exact (g5 k hk).2⟩, fun a b ha hb => by rw [o2 52 _ (by unfold Wt; omega)]; exact g6 a b ha hb, fun b hb => by rw [o2 52 _ (by unfold Wt; omega)]; exact g7 b hb⟩
  unfold X10_lay
  rw [stands_5 hI, if_neg h23, bd_some, if_neg (by decide), isPlC hI, b2_t ⟨by omega, hp⟩, bd_some, if_neg (by decide), a17, g1, bd_some, a17, hld, bd_some, n1 5 8 (by unfold Wj fW; omega), h58]
  rw [hcc] at f1
  rw [f1, bd_some]
theorem lay_no {μ : Mm} (hI : Inv μ) {a : Int} (h : μ 70 23 = 0 ∨ ¬ (0 ≤ a ∧ a < μ 70 28)) : X10_lay a μ = some (0, μ) := by
  unfold X10_lay
  rw [stands_5 hI]
  by_cases c : μ 70 23 = 0
  · rw [if_pos c, bd_some, if_pos rfl]
  · rw [if_neg c, bd_some, if_neg (by decide), isPlC hI, b2_f (h.resolve_left c), bd_some, if_pos rfl]
theorem rdy_no {μ : Mm} (hB : Bm μ) {a : Int} (h : μ 70 23 = 0 ∨ ¬ (0 ≤ a ∧ a < μ 70 28)) : X11_isReady a μ = some (0, μ) := by
  unfold X11_isReady
  by_cases c : μ 70 23 = 0
  · rw [if_pos c]
  · rw [if_neg c, isPlM hB, b2_f (h.resolve_left c), bd_some, if_pos rfl]
/-- the reference's, from any memory in which l1 is the CELLAR -/
theorem readyM {ν : Mm} (hB : Bm ν) (hU : UQ ν 82) {Q : Nat → Int} (hQ : PlM ν Q) (h23 : ν 70 23 ≠ 0) {p : Nat} (hp : (p : Int) < ν 70 28) {L : List (Int × Int)} (hl8 : L.length ≤ 8) (hM : hasM ν p 0 L) (hL : plOK L) {H : Option (List (Cd × Cd))} (hH : HL ν H) {s : Nat} (hs : s < 60) (is : isP ν s) (es : ν 82 s = 2) : ∃ ξ, X11_isReady (p : Int) ν = some (1, ξ) ∧ Sm ν ξ ∧ ξ 70 37 = (L.length : Int) ∧ ξ 70 38 = ν 70 30 ∧ (∀ k, k < L.length → ξ 88 k = tmF H (ν 70 31) L k ∧ ξ 90 k = ν 86 (lets L k)) ∧ ∀ a b, a ≤ L.length → b < L.length → RWy (opM ν) (if a = L.length then (s : Int) else Q (lets L a)) (Q (lets L b)) (ξ 89 (8 * a + b)) := by
  have hb28 : 0 ≤ ν 70 28 ∧ ν 70 28 ≤ 5 := hB 70 28 (by decide)
  have hp4 : p ≤ 4 := by omega
  have h31 : 0 ≤ ν 70 31 ∧ ν 70 31 ≤ 99 := hB 70 31 (by decide)
  have h30 : 1 ≤ ν 70 30 ∧ ν 70 30 ≤ 9 := hB 70 30 (by decide)
  obtain ⟨ν1, g1, g2, g3, g4⟩ := layT hB hH hp4 hM hl8 hL h31
  have n1 : ∀ k j, ¬ Wm k j → ν1 k j = ν k j := g3
  have o : ∀ q, opM ν1 q ↔ opM ν q := fun q => by
    unfold opM isP
    rw [n1 70 23 (by unfold Wm; omega), n1 70 24 (by unfold Wm; omega), n1 82 q (by unfold Wm; omega)]
  have hU1 : UQ ν1 82 := UQ_congr hU (n1 70 23 (by unfold Wm; omega)) (n1 70 24 (by unfold Wm; omega)) (fun j => n1 82 j (by unfold Wm; omega))
  have hQ1 := PlM_c (fun j => n1 82 j (by unfold Wm; omega)) (n1 70 23 (by unfold Wm; omega)) (n1 70 24 (by unfold Wm; omega)) hQ
  have e85 : ν1 85 p = (L.length : Int) := by rw [n1 85 p (by unfold Wm; omega), hM.1, Nat.zero_add]
  have e83 : ∀ k, k < L.length → ν1 83 (8 * p + k) = ((lets L k : Nat) : Int) := fun k hk => by
    have := (hM.2 k hk).1
    rw [Nat.zero_add] at this
    rw [n1 83 _ (by unfold Wm; omega), this, (lets_e hL hk).1]
  have is1 : isP ν1 s := (isP_congr (n1 70 23 (by unfold Wm; omega)) (n1 70 24 (by unfold Wm; omega)) s).mpr is
  have es1 : ν1 82 s = 2 := by rw [n1 82 s (by unfold Wm; omega)]; exact es
  obtain ⟨ξ, x1, x2, x3, x4, x5, x6, x7⟩ := layM hp4 hl8 (cr := lets L) (fun k hk => (lets_e hL hk).2) g2 hU1 hQ1 e85 e83 (s0 := (s : Int)) (by_ := ν 70 30) ⟨by omega, by omega⟩ (Or.inr ⟨s, rfl, hs, is1, by omega⟩)
  refine ⟨ξ, ?_, ⟨x2, fun k j hn => ?_⟩, x4, x5, fun k hk => ⟨by rw [x3 88 k (by unfold Wl; omega)]; exact g4 k hk, by rw [x6 k hk, n1 86 _ (by unfold Wm; omega)]⟩, fun a b ha hb => RD_c o (x7 a b ha hb)⟩
  · unfold X11_isReady
    rw [if_neg h23, isPlM hB, b2_t ⟨by omega, hp⟩, bd_some, if_neg (by decide), g1, bd_some, plc_at hU1 hs is1 es1 (by decide), bd_some, n1 70 30 (by unfold Wm; omega), x1, bd_some]
  · rw [x3 k j (fun z => hn (by unfold Wl at z; unfold scrM; omega)), n1 k j (fun z => hn (Wm_scrM k j z))]
/-- what a job is bound to -/
def JOK (m : Nat) (B : Nat → Nat → Int) (T Wd : Nat → Int) (S : Int) : Prop := 1 ≤ m ∧ m ≤ 8 ∧ (1 ≤ S ∧ S ≤ 9) ∧ (∀ a b, a ≤ m → b < m → -1 ≤ B a b ∧ B a b ≤ 59) ∧ (∀ k, k < m → 0 ≤ T k ∧ T k ≤ 1099) ∧ ∀ k, k < m → 1 ≤ Wd k ∧ Wd k ≤ 60
theorem tm_c {H : Option (List (Cd × Cd))} {n : Int} {L : List (Int × Int)} (hL : plOK L) {k : Nat} (hk : k < L.length) : 0 ≤ tmF H n L k ∧ tmF H n L k ≤ 1099 := by
  have h := tm_b (H := H) (n := n) hL hk
  omega
theorem RD_hi {μ : Mm} (hB : Bm μ) (hC : Cp 5 μ) {sa pb v : Int} (h1 : sa = -1 ∨ ∃ s : Nat, sa = (s : Int) ∧ opM μ s) (h2 : pb = -1 ∨ (0 ≤ pb ∧ pb < 60)) (h : RWy (opM μ) sa pb v) : -1 ≤ v ∧ v ≤ 59 := by
  refine ⟨RD_b (by
    rcases h1 with z | ⟨s, z1, z2⟩
    · exact Or.inl z
    · have := z2.1
      exact Or.inr (by omega)) h2 h, ?_⟩
  rcases h1 with z | ⟨s, z1, z2⟩
  · rw [h.1 z]; decide
  · rcases h2 with y | y
    · rw [h.2.1 y]; decide
    · obtain ⟨f, f1, f2⟩ := h.2.2 s pb.toNat z1 (by omega)
      rw [f2]
      have e := fun q => (Cp_op hB hC q).symm
      exact ds_hi (l0 := 5) (by decide) ((Cp_op hB hC s).mpr z2) (ds_c e f1) (by omega)
theorem lv_tr {O : Nat → Prop} {s a p : Nat} (h : lv O s a p) : ∀ b q, lv O p b q → lv O s (a + b) q := by
  intro b
  induction b with
  | zero => intro q hq; have hq : q = p := hq; rw [hq]; exact h
  | succ b ih =>
    rintro q ⟨h1, r, h2, h3⟩
    exact ⟨h1, r, ih r h2, h3⟩
theorem RD_tr {O : Nat → Prop} {sa pa pb x y z : Int} (hs : sa = -1 ∨ (0 ≤ sa ∧ sa < 60)) (ha : pa = -1 ∨ (0 ≤ pa ∧ pa < 60)) (hb : pb = -1 ∨ (0 ≤ pb ∧ pb < 60)) (h1 : RWy O sa pa x) (h2 : RWy O pa pb y) (h3 : RWy O sa pb z) (hx : x ≠ -1) (hy : y ≠ -1) : z ≠ -1 := by
  have hs' : 0 ≤ sa ∧ sa < 60 := hs.resolve_left (fun e => hx (h1.1 e))
  have ha' : 0 ≤ pa ∧ pa < 60 := ha.resolve_left (fun e => hx (h1.2.1 e))
  have hb' : 0 ≤ pb ∧ pb < 60 := hb.resolve_left (fun e => hy (h2.2.1 e))
  obtain ⟨f, f1, f2⟩ := h1.2.2 sa.toNat pa.toNat (by omega) (by omega)
  obtain ⟨g, g1, g2⟩ := h2.2.2 pa.toNat pb.toNat (by omega) (by omega)
  obtain ⟨e, e1, e2⟩ := h3.2.2 sa.toNat pb.toNat (by omega) (by omega)
  rcases f1 pa.toNat (by omega) with ⟨z1, _⟩ | ⟨n, _, z2, _⟩
  · exact absurd (by rw [f2, z1]) hx
  · rcases g1 pb.toNat (by omega) with ⟨z3, _⟩ | ⟨n', _, z4, _⟩
    · exact absurd (by rw [g2, z3]) hy
    · rcases e1 pb.toNat (by omega) with ⟨_, z6⟩ | ⟨n'', z5, _, _⟩
      · exact absurd (lv_tr z2 n' _ z4) (z6 _)
      · rw [e2, z5]; omega
/-- what can't be come to from START, can't be come to from where it can -/
def TRB (m : Nat) (B : Nat → Nat → Int) : Prop := ∀ a b, a < m → b < m → B m a ≠ -1 → B a b ≠ -1 → B m b ≠ -1
/-- the reference lays the job anew, by another STOOP -/
def RLY (μ : Mm) (p m : Nat) (B : Nat → Nat → Int) (T Wd : Nat → Int) : Prop := ∀ ν', Inv ν' → (∀ k j, ¬ scr k j → ¬ scrM k j → ν' k j = μ k j) → ∀ ξ1 S1, Sm ν' ξ1 → JobM ξ1 m B T Wd S1 → ∀ by_, 1 ≤ by_ ∧ by_ ≤ 9 → ∃ v ξ2, X11_placeOf 2 ξ1 = some (v, ξ1) ∧ X11_lay (p : Int) v by_ ξ1 = some (0, ξ2) ∧ Sm ν' ξ2 ∧ JobM ξ2 m B T Wd by_
/-- a PLAY is ready in both: the same job -/
theorem readyW {μ : Mm} (hI : Inv μ) (h23 : μ 70 23 ≠ 0) {p : Nat} (hp : (p : Int) < μ 70 28) : ∃ (L : List (Int × Int)) (B : Nat → Nat → Int) (T Wd : Nat → Int) (S : Int) (ν : Mm), JOK L.length B T Wd S ∧ (((∀ k, k + 1 < L.length → T k ≤ T (k + 1)) ∧ TRB L.length B ∧ RLY μ p L.length B T Wd) ∧ ∀ k, k < L.length → Wd k ≤ 30 ∧ T k ≤ 1098) ∧ (∃ H, HL μ H ∧ plOK L ∧ hasP μ (18 + 3 * p) 0 L ∧ hasM μ p 0 L) ∧ X10_lay (p : Int) μ = some (1, ν) ∧ St scr μ ν ∧ JobC 48 ν L.length B T Wd (lets L) S ∧ (∀ k, k < L.length → lets L k < 8 ∧ μ 83 (8 * p + k) = ((lets L k : Nat) : Int)) ∧ ∀ ν', Inv ν' → (∀ k j, ¬ scr k j → ¬ scrM k j → ν' k j = μ k j) → ∃ ξ, X11_isReady (p : Int) ν' = some (1, ξ) ∧ Sm ν' ξ ∧ JobM ξ L.length B T Wd S := by
  obtain ⟨p4, p15, L, l1, l2, l3, l4, l5⟩ := inv_play hI hp
  obtain ⟨H, hH⟩ := inv_HL hI
  obtain ⟨s, s1, s2, s3, s4⟩ := strt hI h23
  have hK := hI.2.2.2.2.2.1
  have hB := hI.2.1.1
  obtain ⟨ν, g1, g2, g3, g4, g5, g6, g7⟩ := layC hI h23 hp l2 l3 l5 hH s1 s2 s3
  have t1 := t_X10_lay (W := scr) (μs := μ) (hW := fun _ _ h => h) (hp_l1 := (show -2147483648 ≤ (p : Int) ∧ (p : Int) ≤ 2147483647 by omega)) (St_rf hI.1)
  rw [g1, wp_some] at t1
  have hw : ∀ c, c < 8 → μ 8 c = μ 86 c := fun c hc => hK.2.2.2.2.2.2.2.2.2 h23 c hc
  have hpl : ∀ c, c < 8 → μ 7 c = -1 ∨ (0 ≤ μ 7 c ∧ μ 7 c < 60) := fun c hc => by
    have h := hK.2.2.2.1 c hc
    have h : -1 ≤ μ 7 c ∧ μ 7 c ≤ 59 := h
    omega
  have hpo : ∀ c, c < 8 → μ 7 c = -1 ∨ ∃ q : Nat, μ 7 c = (q : Int) ∧ opM μ q := fun c hc => by
    rcases Kc_pl hK hc with z | ⟨q, z1, z2, z3, z4⟩
    · exact Or.inl z
    · exact Or.inr ⟨q, z2, z1, z3, by omega⟩
  have hC := Kc_Cp hK
  refine ⟨L, fun a b => if a = L.length then ν 52 (64 + b) else ν 52 (8 * a + b), tmF H (μ 70 31) L, fun k => μ 8 (lets L k), μ 70 30, ν, ⟨l1, l2, hB 70 30 (by decide), fun a b ha hb => ?_, fun k hk => tm_c l5 hk, fun k hk => ?_⟩, ⟨⟨fun k hk => pv_mono (k + 1), fun a b ha hb => ?_, ?_⟩, fun k hk => ⟨(hI.1.1 8 (lets L k) (by decide)).2, (tm_b l5 hk).2⟩⟩, ⟨H, hH, l5, l3, l4⟩, g1, t1.1, ⟨g3, g4, g5, fun a b ha hb => (show ν 52 (8 * a + b) = if a = L.length then ν 52 (64 + b) else ν 52 (8 * a + b) by rw [if_neg (by omega)]), fun b hb => (show ν 52 (64 + b) = if L.length = L.length then ν 52 (64 + b) else ν 52 (8 * L.length + b) by rw [if_pos rfl])⟩, fun k hk => ⟨(lets_e l5 hk).2, by
    have := (l4.2 k hk).1
    rw [Nat.zero_add] at this
    rw [this, (lets_e l5 hk).1]⟩, fun ν' hI' e => ?_⟩
  · have hb8 := (lets_e l5 hb).2
    by_cases c : a = L.length
    · show -1 ≤ (if a = L.length then ν 52 (64 + b) else ν 52 (8 * a + b)) ∧ (if a = L.length then ν 52 (64 + b) else ν 52 (8 * a + b)) ≤ 59
      rw [if_pos c]
      exact RD_hi hB hC (Or.inr ⟨s, rfl, s1, s2, by omega⟩) (hpl _ hb8) (g7 b hb)
    · show -1 ≤ (if a = L.length then ν 52 (64 + b) else ν 52 (8 * a + b)) ∧ (if a = L.length then ν 52 (64 + b) else ν 52 (8 * a + b)) ≤ 59
      rw [if_neg c]
      exact RD_hi hB hC (hpo _ (lets_e l5 (show a < L.length by omega)).2) (hpl _ hb8) (g6 a b (by omega) hb)
  · have h : 1 ≤ μ 8 (lets L k) ∧ μ 8 (lets L k) ≤ 30 := hI.1.1 8 (lets L k) (by decide)
    show 1 ≤ μ 8 (lets L k) ∧ μ 8 (lets L k) ≤ 60
    omega
  · show (if L.length = L.length then ν 52 (64 + a) else ν 52 (8 * L.length + a)) ≠ -1 → (if a = L.length then ν 52 (64 + b) else ν 52 (8 * a + b)) ≠ -1 → (if L.length = L.length then ν 52 (64 + b) else ν 52 (8 * L.length + b)) ≠ -1
    rw [if_pos rfl, if_neg (by omega), if_pos rfl]
    exact RD_tr (Or.inr (by omega)) (hpl _ (lets_e l5 ha).2) (hpl _ (lets_e l5 hb).2) (g7 a ha) (g6 a b ha hb) (g7 b hb)
  · intro ν' hI' e ξ1 S1 hS hMJ by_ hby
    have n0 : ∀ k j, 70 ≤ k → ¬ scrM k j → ξ1 k j = μ k j := fun k j hk hn => by rw [hS.2 k j hn, e k j (by unfold scr; omega) hn]
    have e23 := n0 70 23 (by decide) (by unfold scrM; omega)
    have e24 := n0 70 24 (by decide) (by unfold scrM; omega)
    have e82 : ∀ j, ξ1 82 j = μ 82 j := fun j => n0 82 j (by decide) (by unfold scrM; omega)
    have i : ∀ x, isP ξ1 x ↔ isP μ x := isP_congr e23 e24
    have hU1 : UQ ξ1 82 := UQ_congr hI.2.1.2.2.2.2.2.2.1 e23 e24 e82
    have hQ : PlM ξ1 (μ 7) := PlM_c e82 e23 e24 (Kc_PlM hK)
    have e85 : ξ1 85 p = (L.length : Int) := by rw [n0 85 p (by decide) (by unfold scrM; omega), l4.1, Nat.zero_add]
    have e83 : ∀ k, k < L.length → ξ1 83 (8 * p + k) = ((lets L k : Nat) : Int) := fun k hk => by
      have := (l4.2 k hk).1
      rw [Nat.zero_add] at this
      rw [n0 83 _ (by decide) (by unfold scrM; omega), this, (lets_e l5 hk).1]
    have is1 : isP ξ1 s := (i s).mpr s2
    have es1 : ξ1 82 s = 2 := by rw [e82]; exact s3
    have o : ∀ q, opM ξ1 q ↔ opM μ q := fun q => by
      unfold opM
      rw [i, e82]
    obtain ⟨ξ2, x1, x2, x3, x4, x5, x6, x7⟩ := layM p4 l2 (cr := lets L) (fun k hk => (lets_e l5 hk).2) hS.1 hU1 hQ e85 e83 (s0 := (s : Int)) (by_ := by_) ⟨by omega, by omega⟩ (Or.inr ⟨s, rfl, s1, is1, by omega⟩)
    refine ⟨(s : Int), ξ2, plc_at hU1 s1 is1 es1 (by decide), x1, ⟨x2, fun k j hn => by rw [x3 k j (fun z => hn (by unfold Wl at z; unfold scrM; omega)), hS.2 k j hn]⟩, x4, x5, fun k hk => ⟨by rw [x3 88 k (by unfold Wl; omega)]; exact (hMJ.2.2.1 k hk).1, ?_⟩, fun a b ha hb => ?_⟩
    · show ξ2 90 k = μ 8 (lets L k)
      rw [x6 k hk, n0 86 _ (by decide) (by unfold scrM; omega), hw _ (lets_e l5 hk).2]
    · have hb8 := (lets_e l5 hb).2
      have r := RD_c o (x7 a b ha hb)
      show ξ2 89 (8 * a + b) = if a = L.length then ν 52 (64 + b) else ν 52 (8 * a + b)
      by_cases c : a = L.length
      · rw [if_pos c] at r ⊢
        exact RD_u (Or.inr (by omega)) (hpl _ hb8) r (g7 b hb)
      · rw [if_neg c] at r ⊢
        exact RD_u (hpl _ (lets_e l5 (show a < L.length by omega)).2) (hpl _ hb8) r (g6 a b (by omega) hb)
  · have m0 : ∀ k j, 70 ≤ k → ¬ scrM k j → ν' k j = μ k j := fun k j hk hn => e k j (by unfold scr; omega) hn
    have i : ∀ x, isP ν' x ↔ isP μ x := isP_congr (m0 70 23 (by decide) (by unfold scrM; omega)) (m0 70 24 (by decide) (by unfold scrM; omega))
    have hQ : PlM ν' (μ 7) := PlM_c (fun j => m0 82 j (by decide) (by unfold scrM; omega)) (m0 70 23 (by decide) (by unfold scrM; omega)) (m0 70 24 (by decide) (by unfold scrM; omega)) (Kc_PlM hK)
    have hHν : HL ν' H := by
      rcases hH with ⟨h1, h2⟩ | ⟨q, m, LW, q1, q2, q3, q4, q5, q6, q7, q8⟩
      · exact Or.inl ⟨by rw [m0 70 32 (by decide) (by unfold scrM; omega)]; exact h1, h2⟩
      · have eb : ∀ j, ν' (38 + 2 * q) j = μ (38 + 2 * q) j := fun j => e _ j (by unfold scr; omega) (by unfold scrM; omega)
        exact Or.inr ⟨q, m, LW, q1, by rw [m0 70 32 (by decide) (by unfold scrM; omega)]; exact q2, q3, q4, by rw [e _ _ (by unfold scr; omega) (by unfold scrM; omega)]; exact q5, fun j hj => by rw [eb]; exact q6 j hj, by rw [lawS_congr eb]; exact q7, rows_agr (agr_of _ (fun k j h1 h2 => m0 k j (by omega) (by unfold scrM; omega))) _ _ _ q8⟩
    have hM : hasM ν' p 0 L := ⟨by rw [m0 85 p (by decide) (by unfold scrM; omega)]; exact l4.1, fun i hi => by rw [m0 83 _ (by decide) (by unfold scrM; omega), m0 84 _ (by decide) (by unfold scrM; omega)]; exact l4.2 i hi⟩
    obtain ⟨ξ, x1, x2, x3, x4, x5, x6⟩ := readyM hI'.2.1.1 hI'.2.1.2.2.2.2.2.2.1 hQ (by rw [m0 70 23 (by decide) (by unfold scrM; omega)]; exact h23) (by rw [m0 70 28 (by decide) (by unfold scrM; omega)]; exact hp) l2 hM l5 hHν s1 ((i s).mpr s2) (by rw [m0 82 s (by decide) (by unfold scrM; omega)]; exact s3)
    have o : ∀ q, opM ν' q ↔ opM μ q := fun q => by
      unfold opM
      rw [i, m0 82 q (by decide) (by unfold scrM; omega)]
    refine ⟨ξ, x1, x2, x3, by rw [x4, m0 70 30 (by decide) (by unfold scrM; omega)], fun k hk => ⟨?_, ?_⟩, fun a b ha hb => ?_⟩
    · have := (x5 k hk).1
      rw [m0 70 31 (by decide) (by unfold scrM; omega)] at this
      exact this
    · show ξ 90 k = μ 8 (lets L k)
      rw [(x5 k hk).2, m0 86 _ (by decide) (by unfold scrM; omega), hw _ (lets_e l5 hk).2]
    · have hb8 := (lets_e l5 hb).2
      have r := RD_c o (x6 a b ha hb)
      show ξ 89 (8 * a + b) = if a = L.length then ν 52 (64 + b) else ν 52 (8 * a + b)
      by_cases c : a = L.length
      · rw [if_pos c] at r ⊢
        exact RD_u (Or.inr (by omega)) (hpl _ hb8) r (g7 b hb)
      · rw [if_neg c] at r ⊢
        exact RD_u (hpl _ (lets_e l5 (show a < L.length by omega)).2) (hpl _ hb8) r (g6 a b (by omega) hb)
theorem ready {μ : Mm} (hI : Inv μ) (h23 : μ 70 23 ≠ 0) {p : Nat} (hp : (p : Int) < μ 70 28) : ∃ (L : List (Int × Int)) (B : Nat → Nat → Int) (T Wd : Nat → Int) (S : Int) (ν : Mm), JOK L.length B T Wd S ∧ (((∀ k, k + 1 < L.length → T k ≤ T (k + 1)) ∧ TRB L.length B ∧ RLY μ p L.length B T Wd) ∧ ∀ k, k < L.length → Wd k ≤ 30 ∧ T k ≤ 1098) ∧ (∃ H, HL μ H ∧ plOK L ∧ hasP μ (18 + 3 * p) 0 L ∧ hasM μ p 0 L) ∧ X10_lay (p : Int) μ = some (1, ν) ∧ St scr μ ν ∧ JobC 48 ν L.length B T Wd (lets L) S ∧ (∀ k, k < L.length → lets L k < 8 ∧ μ 83 (8 * p + k) = ((lets L k : Nat) : Int)) ∧ ∀ ν', Inv ν' → (∀ k j, ¬ scr k j → ν' k j = μ k j) → ∃ ξ, X11_isReady (p : Int) ν' = some (1, ξ) ∧ Sm ν' ξ ∧ JobM ξ L.length B T Wd S := by
  obtain ⟨L, B, T, Wd, S, ν, hJ, q1, q2, g1, g2, g3, g4, g5⟩ := readyW hI h23 hp
  exact ⟨L, B, T, Wd, S, ν, hJ, q1, q2, g1, g2, g3, g4, fun ν' hI' e => g5 ν' hI' (fun k j h _ => e k j h)⟩
/-! bits -/
def gb (s : Int) (d : Nat) : Bool := (Int32.ofInt s).toBitVec.getLsbD d
theorem bt1 {d : Nat} (hd : d < 10) (s : Int) : bA (bR s ((d : Nat) : Int)) 1 = 1 ↔ gb s d = true := bit_iff hd s
theorem bA_bits (a b : Int) : (Int32.ofInt (bA a b)).toBitVec = (Int32.ofInt a).toBitVec &&& (Int32.ofInt b).toBitVec := by
  unfold bA
  rw [o32_self]
  rfl
theorem bX_bits (a b : Int) : (Int32.ofInt (bX a b)).toBitVec = (Int32.ofInt a).toBitVec ^^^ (Int32.ofInt b).toBitVec := by
  unfold bX
  rw [o32_self]
  rfl
theorem gb_or (a b : Int) (d : Nat) : gb (bO a b) d = (gb a d || gb b d) := by unfold gb; rw [bO_bits, BitVec.getLsbD_or]
theorem gb_and (a b : Int) (d : Nat) : gb (bA a b) d = (gb a d && gb b d) := by unfold gb; rw [bA_bits, BitVec.getLsbD_and]
theorem gb_xor (a b : Int) (d : Nat) : gb (bX a b) d = Bool.xor (gb a d) (gb b d) := by unfold gb; rw [bX_bits, BitVec.getLsbD_xor]
theorem gb_one : ∀ c, c < 10 → ∀ d, d < 32 → gb (bL 1 ((c : Nat) : Int)) d = decide (d = c) := by decide +kernel
theorem gb_m1 : ∀ d, d < 32 → gb (-1) d = true := by decide +kernel
theorem gb_zero : ∀ d, d < 32 → gb 0 d = false := by decide +kernel
theorem gb_all : ∀ m, m < 9 → ∀ d, d < 32 → gb (iS (bL 1 ((m : Nat) : Int)) 1) d = decide (d < m) := by decide +kernel
theorem all_rI : ∀ m, m < 9 → -2147483648 ≤ iS (bL 1 ((m : Nat) : Int)) 1 ∧ iS (bL 1 ((m : Nat) : Int)) 1 ≤ 2147483647 := by decide +kernel
theorem gb_ext {a b : Int} (ha : rI a) (hb : rI b) (h : ∀ d, d < 32 → (gb a d = true ↔ gb b d = true)) : a = b := by
  have e : (Int32.ofInt a).toBitVec = (Int32.ofInt b).toBitVec := by
    apply BitVec.eq_of_getLsbD_eq
    intro i hi
    exact Bool.eq_iff_iff.mpr (h i hi)
  have e2 : Int32.ofInt a = Int32.ofInt b := Int32.toInt.inj (show (Int32.ofInt a).toBitVec.toInt = (Int32.ofInt b).toBitVec.toInt by rw [e])
  exact (o32_eq ha hb).mp e2
theorem bit_oR {d : Nat} (hd : d < 10) {s x : Int} : bA (bR (bO s x) ((d : Nat) : Int)) 1 = 1 ↔ (bA (bR s ((d : Nat) : Int)) 1 = 1 ∨ bA (bR x ((d : Nat) : Int)) 1 = 1) := by
  rw [bt1 hd, bt1 hd, bt1 hd, gb_or, Bool.or_eq_true]
theorem gb_put {c : Nat} (hc : c < 10) (s : Int) {d : Nat} (hd : d < 32) : gb (bO s (bL 1 ((c : Nat) : Int))) d = true ↔ (gb s d = true ∨ d = c) := by
  rw [gb_or, gb_one c hc d hd, Bool.or_eq_true, decide_eq_true_iff]
theorem gb_off {c : Nat} (hc : c < 10) (s : Int) {d : Nat} (hd : d < 32) : gb (bA s (bX (bL 1 ((c : Nat) : Int)) (-1))) d = true ↔ (gb s d = true ∧ d ≠ c) := by
  rw [gb_and, gb_xor, gb_one c hc d hd, gb_m1 d hd, Bool.xor_true, Bool.and_eq_true, Bool.not_eq_true', decide_eq_false_iff_not]
theorem gb_not (s x : Int) {d : Nat} (hd : d < 32) : gb (bA s (bX x (-1))) d = true ↔ (gb s d = true ∧ ¬ gb x d = true) := by
  rw [gb_and, gb_xor, gb_m1 d hd, Bool.xor_true, Bool.and_eq_true, Bool.not_eq_true', Bool.not_eq_true]
/-! ORDERS: digits, each once -/
theorem no_inj : ∀ (m : Nat) (f : Nat → Nat), (∀ j, j ≤ m → f j < m) → ∃ i j, i < j ∧ j ≤ m ∧ f i = f j := by
  intro m
  induction m with
  | zero => intro f h; exact absurd (h 0 (Nat.le_refl _)) (by omega)
  | succ m ih =>
    intro f h
    by_cases c : ∃ i, i ≤ m ∧ f i = f (m + 1)
    · obtain ⟨i, h1, h2⟩ := c
      exact ⟨i, m + 1, by omega, Nat.le_refl _, h2⟩
    · have hc : ∀ i, i ≤ m → f i ≠ f (m + 1) := fun i hi e => c ⟨i, hi, e⟩
      have hl := h (m + 1) (Nat.le_refl _)
      obtain ⟨i, j, h1, h2, h3⟩ := ih (fun j => if f j = m then f (m + 1) else f j) (fun j hj => by
        have h4 := h j (by omega)
        have h5 := hc j hj
        show (if f j = m then f (m + 1) else f j) < m
        split <;> omega)
      refine ⟨i, j, h1, by omega, ?_⟩
      have h3 : (if f i = m then f (m + 1) else f i) = (if f j = m then f (m + 1) else f j) := h3
      have hi := hc i (by omega)
      have hj := hc j h2
      by_cases ci : f i = m
      · rw [if_pos ci] at h3
        by_cases cj : f j = m
        · omega
        · rw [if_neg cj] at h3; exact absurd h3.symm hj
      · rw [if_neg ci] at h3
        by_cases cj : f j = m
        · rw [if_pos cj] at h3; exact absurd h3 hi
        · rw [if_neg cj] at h3; exact h3
def injN (m : Nat) (f : Nat → Nat) : Prop := ∀ i j, i < j → j < m → f i ≠ f j
def rngN (m : Nat) (f : Nat → Nat) : Prop := ∀ j, j < m → f j < m
def surN (m : Nat) (f : Nat → Nat) : Prop := ∀ d, d < m → ∃ j, j < m ∧ f j = d
theorem inj_sur {m : Nat} {f : Nat → Nat} (hr : rngN m f) (hi : injN m f) : surN m f := by
  intro d hd
  refine Classical.byContradiction (fun hn => ?_)
  have hn : ∀ j, j < m → f j ≠ d := fun j hj e => hn ⟨j, hj, e⟩
  obtain ⟨m', rfl⟩ : ∃ m', m = m' + 1 := ⟨m - 1, by omega⟩
  obtain ⟨i, j, h1, h2, h3⟩ := no_inj m' (fun j => if f j = m' then d else f j) (fun j hj => by
    have h4 := hr j (by omega)
    have h5 := hn j (by omega)
    show (if f j = m' then d else f j) < m'
    by_cases c : f j = m'
    · rw [if_pos c]; omega
    · rw [if_neg c]; omega)
  have h3 : (if f i = m' then d else f i) = (if f j = m' then d else f j) := h3
  have ni := hn i (by omega)
  have nj := hn j (by omega)
  have hij := hi i j h1 (by omega)
  by_cases ci : f i = m'
  · rw [if_pos ci] at h3
    by_cases cj : f j = m'
    · omega
    · rw [if_neg cj] at h3; omega
  · rw [if_neg ci] at h3
    by_cases cj : f j = m'
    · rw [if_pos cj] at h3; omega
    · rw [if_neg cj] at h3; omega
theorem sur_inj {m : Nat} {f : Nat → Nat} (hs : surN m f) : injN m f := by
  intro a b hab hb e
  obtain ⟨m', rfl⟩ : ∃ m', m = m' + 1 := ⟨m - 1, by omega⟩
  -- each number is told at a place other than b
  have h1 : ∀ d, d < m' + 1 → ∃ j, j < m' + 1 ∧ f j = d ∧ j ≠ b := fun d hd => by
    obtain ⟨j, j1, j2⟩ := hs d hd
    by_cases c : j = b
    · exact ⟨a, by omega, by rw [e, ← c]; exact j2, by omega⟩
    · exact ⟨j, j1, j2, c⟩
  have h2 : ∀ d : Nat, ∃ j, d < m' + 1 → j < m' + 1 ∧ f j = d ∧ j ≠ b := fun d => by
    by_cases c : d < m' + 1
    · obtain ⟨j, hj⟩ := h1 d c
      exact ⟨j, fun _ => hj⟩
    · exact ⟨0, fun z => absurd z c⟩
  obtain ⟨g, hg⟩ : ∃ g : Nat → Nat, ∀ d, d < m' + 1 → g d < m' + 1 ∧ f (g d) = d ∧ g d ≠ b := ⟨fun d => Classical.choose (h2 d), fun d => Classical.choose_spec (h2 d)⟩
  obtain ⟨i, j, k1, k2, k3⟩ := no_inj m' (fun d => if g d = m' then b else g d) (fun d hd => by
    have := hg d (by omega)
    show (if g d = m' then b else g d) < m'
    by_cases c : g d = m'
    · rw [if_pos c]; omega
    · rw [if_neg c]; omega)
  have k3 : (if g i = m' then b else g i) = (if g j = m' then b else g j) := k3
  have gi := hg i (by omega)
  have gj := hg j (by omega)
  have eg : g i = g j := by
    by_cases ci : g i = m'
    · rw [if_pos ci] at k3
      by_cases cj : g j = m'
      · omega
      · rw [if_neg cj] at k3; exact absurd k3.symm gj.2.2
    · rw [if_neg ci] at k3
      by_cases cj : g j = m'
      · rw [if_pos cj] at k3; exact absurd k3 gi.2.2
      · rw [if_neg cj] at k3; exact k3
  have : i = j := by rw [← gi.2.1, ← gj.2.1, eg]
  omega
/-- the digit k of an ORDER of m CUES, from the highest -/
def dgN (m : Nat) (o : Int) (k : Nat) : Nat := (o / 10 ^ (m - 1 - k) % 10).toNat
theorem dgN_10 {m : Nat} {o : Int} {k : Nat} : dgN m o k < 10 := by
  have h1 := Int.emod_nonneg (o / 10 ^ (m - 1 - k)) (show (10 : Int) ≠ 0 by decide)
  have h2 := Int.emod_lt_of_pos (o / 10 ^ (m - 1 - k)) (show (0 : Int) < 10 by decide)
  unfold dgN
  omega
theorem dgN_e {m : Nat} {o : Int} {k : Nat} : o / 10 ^ (m - 1 - k) % 10 = ((dgN m o k : Nat) : Int) := by
  have h1 := Int.emod_nonneg (o / 10 ^ (m - 1 - k)) (show (10 : Int) ≠ 0 by decide)
  unfold dgN
  omega
def PO (m : Nat) (o : Int) : Prop := 0 ≤ o ∧ o < 10 ^ m ∧ rngN m (dgN m o) ∧ injN m (dgN m o)
theorem nthM {m : Nat} (hm : m ≤ 8) {o : Int} (ho : 0 ≤ o ∧ o ≤ 2147483647) {k : Nat} (hk : k < m) {μ : Mm} (h37 : μ 70 37 = (m : Int)) : X11_nth o (k : Int) μ = some (((dgN m o k : Nat) : Int), μ) := by
  rw [nth_eq (by omega) (by omega), dg_eq ho, h37]
  have e : ((m : Int) - 1 - (k : Int)).toNat = m - 1 - k := by omega
  rw [e, dgN_e]
theorem o_div {o : Int} {i : Nat} : o / 10 ^ (i + 1) = o / 10 ^ i / 10 := by
  rw [p10_succ, Int.ediv_ediv_of_nonneg (by have := p10_pos i; omega)]
theorem bit_one : ∀ c, c < 10 → ∀ d, d < 10 → (bA (bR (bL 1 ((c : Nat) : Int)) ((d : Nat) : Int)) 1 = 1 ↔ d = c) := by decide +kernel
theorem bit_zero : ∀ d, d < 10 → bA (bR 0 ((d : Nat) : Int)) 1 ≠ 1 := by decide +kernel
/-- the class reads an ORDER from its last digit on -/
theorem tkO_neg {m : Int} (hm : 1 ≤ m) {K : Int → Mm → Rs} (hK : ∀ v μ, v ≠ 0 → K v μ = some (0, μ)) : ∀ (fuel : Nat) (rest s i : Int) (ν : Mm), rI rest → rest < 0 → -1 ≤ i ∧ i ≤ 7 → i + 1 < ((fuel : Nat) : Int) → ∃ ν', X5_takeOrder_L15 m K fuel rest s i ν = some (0, ν') ∧ fw (fun k _ => k = 59) ν ν' := by
  intro fuel
  induction fuel with
  | zero => intro rest s i ν _ _ _ h; exact absurd h (by omega)
  | succ fuel ih =>
    intro rest s i ν hr hn hi hf
    have h1 := iR_10 rest hr
    have hd := iD_10 rest hr
    show ∃ ν', (if i < 0 then (K rest ν) else (if 8 ≤ i then (K rest ν) else (if (iR rest 10) < 0 then (some (0, ν)) else (if m ≤ (iR rest 10) then (some (0, ν)) else (if (bA (bR s (iR rest 10)) 1) = 1 then (some (0, ν)) else (lt_ (bO s (bL 1 (iR rest 10))) fun v7 => stA ν 59 i (iR rest 10) fun μ8 => X5_takeOrder_L15 m K fuel (iD rest 10) v7 (iA i (-1)) μ8)))))) = some (0, ν') ∧ _
    by_cases c1 : i < 0
    · rw [if_pos c1, hK _ _ (by omega)]
      exact ⟨ν, rfl, fw_rf⟩
    · rw [if_neg c1, if_neg (by omega)]
      by_cases c2 : iR rest 10 < 0
      · rw [if_pos c2]; exact ⟨ν, rfl, fw_rf⟩
      · rw [if_neg c2]
        by_cases c3 : m ≤ iR rest 10
        · rw [if_pos c3]; exact ⟨ν, rfl, fw_rf⟩
        · rw [if_neg c3]
          by_cases c4 : (bA (bR s (iR rest 10)) 1) = 1
          · rw [if_pos c4]; exact ⟨ν, rfl, fw_rf⟩
          · rw [if_neg c4]
            have hneg : iD rest 10 < 0 := by
              have e1 : iD rest 10 = rest.tdiv 10 := by
                unfold iD
                have b1 : rest.tdiv 10 ≤ 0 := by
                  have := Int.tdiv_nonneg (a := -rest) (b := 10) (by omega) (by decide)
                  rw [Int.neg_tdiv] at this
                  omega
                have b2 : rest ≤ rest.tdiv 10 := by
                  have h2 := Int.ediv_le_self 10 (show 0 ≤ -rest by omega)
                  have h3 : (-rest).tdiv 10 = -rest / 10 := Int.tdiv_eq_ediv_of_nonneg (by omega)
                  rw [Int.neg_tdiv] at h3
                  omega
                have := hr.1
                exact wI_id (by omega) (by omega)
              have e2 : iR rest 10 = rest - rest.tdiv 10 * 10 := by
                unfold iR
                rw [e1]
                have h3 : (-rest).tdiv 10 = -rest / 10 := Int.tdiv_eq_ediv_of_nonneg (by omega)
                rw [Int.neg_tdiv] at h3
                have := hr.1
                exact wI_id (by omega) (by omega)
              rw [e1]
              omega
            unfold lt_ stA
            dsimp only
            rw [if_pos (by show (0 : Int) ≤ i ∧ i < 8; omega), iA_id (by omega) (by omega)]
            obtain ⟨ν', g1, g2⟩ := ih (iD rest 10) (bO s (bL 1 (iR rest 10))) (i + -1) (sM ν 59 i.toNat (iR rest 10)) ⟨hd.2.1, hd.2.2⟩ hneg (by omega) (by omega)
            exact ⟨ν', g1, fw_tr (fw_sM fw_rf rfl) g2⟩
theorem tkO_L {m : Nat} (hm : 1 ≤ m ∧ m ≤ 8) {o : Int} (ho : 0 ≤ o ∧ o ≤ 2147483647) {K : Int → Mm → Rs} (hK : ∀ v μ, K v μ = if v = 0 then some (1, μ) else some (0, μ)) : ∀ (r fuel : Nat) (s : Int) (ν : Mm), r ≤ m → r < fuel → (∀ j, r ≤ j → j < m → dgN m o j < m ∧ ν 59 j = ((dgN m o j : Nat) : Int)) → (∀ i j, r ≤ i → i < j → j < m → dgN m o i ≠ dgN m o j) → (∀ d, d < 10 → (bA (bR s ((d : Nat) : Int)) 1 = 1 ↔ ∃ j, r ≤ j ∧ j < m ∧ dgN m o j = d)) → ∃ ν', fw (fun k _ => k = 59) ν ν' ∧ (PO m o → X5_takeOrder_L15 (m : Int) K fuel (o / 10 ^ (m - r)) s ((r : Int) - 1) ν = some (1, ν') ∧ ∀ j, j < m → ν' 59 j = ((dgN m o j : Nat) : Int)) ∧ (¬ PO m o → X5_takeOrder_L15 (m : Int) K fuel (o / 10 ^ (m - r)) s ((r : Int) - 1) ν = some (0, ν')) := by
  intro r
  induction r with
  | zero =>
    intro fuel s ν hr hf hd hi hs
    obtain ⟨g, rfl, _⟩ := lt_fuel hf
    refine ⟨ν, fw_rf, fun hp => ⟨?_, fun j hj => (hd j (Nat.zero_le _) hj).2⟩, fun hn => ?_⟩
    · show (if ((0 : Nat) : Int) - 1 < 0 then _ else _) = _
      rw [if_pos (by omega), hK, Nat.sub_zero, if_pos (Int.ediv_eq_zero_of_lt hp.1 hp.2.1)]
    · show (if ((0 : Nat) : Int) - 1 < 0 then _ else _) = _
      rw [if_pos (by omega), hK, if_neg]
      intro e
      refine hn ⟨ho.1, ?_, fun j hj => (hd j (Nat.zero_le _) hj).1, fun i j hij hj => hi i j (Nat.zero_le _) hij hj⟩
      have h1 := Int.mul_ediv_add_emod o (10 ^ m)
      have h2 := Int.emod_lt_of_pos o (p10_pos m)
      have e' : o / 10 ^ m = 0 := e
      rw [e', Int.mul_zero] at h1
      omega
  | succ r ih =>
    intro fuel s ν hr hf hd hi hs
    obtain ⟨g, rfl, _⟩ := lt_fuel hf
    have hrest : 0 ≤ o / 10 ^ (m - (r + 1)) ∧ o / 10 ^ (m - (r + 1)) ≤ 2147483647 := by
      have h1 := Int.ediv_nonneg ho.1 (Int.le_of_lt (p10_pos (m - (r + 1))))
      have h2 := Int.ediv_le_self (10 ^ (m - (r + 1))) ho.1
      omega
    have e1 : iR (o / 10 ^ (m - (r + 1))) 10 = ((dgN m o r : Nat) : Int) := by
      rw [iR_id hrest.1 hrest.2 (by decide)]
      have e2 : m - (r + 1) = m - 1 - r := by omega
      rw [e2, dgN_e]
    have e3 : iD (o / 10 ^ (m - (r + 1))) 10 = o / 10 ^ (m - r) := by
      rw [iD_id hrest.1 hrest.2 (by decide)]
      have e4 : m - r = m - (r + 1) + 1 := by omega
      rw [e4, o_div]
    have h10 := dgN_10 (m := m) (o := o) (k := r)
    have e0 : X5_takeOrder_L15 (m : Int) K (g + 1) (o / 10 ^ (m - (r + 1))) s (((r + 1 : Nat) : Int) - 1) ν = if (m : Int) ≤ ((dgN m o r : Nat) : Int) then (some (0, ν)) else (if (bA (bR s ((dgN m o r : Nat) : Int)) 1) = 1 then (some (0, ν)) else (X5_takeOrder_L15 (m : Int) K g (o / 10 ^ (m - r)) (bO s (bL 1 ((dgN m o r : Nat) : Int))) ((r : Int) - 1) (sM ν 59 r ((dgN m o r : Nat) : Int)))) := by
      have ei : ((r + 1 : Nat) : Int) - 1 = (r : Int) := by omega
      rw [ei]
      show (if (r : Int) < 0 then _ else _) = _
      have st : ∀ (v : Int) (f : Mm → Rs), stA ν 59 (r : Int) v f = f (sM ν 59 r v) := fun v f => by
        unfold stA
        rw [if_pos (by show (0 : Int) ≤ (r : Int) ∧ (r : Int) < 8; omega), Int.toNat_natCast]
      rw [if_neg (by omega), if_neg (by omega), e1, if_neg (by omega), e3]
      unfold lt_
      dsimp only
      rw [st, iA_id (by omega) (by omega)]
      rfl
    rw [e0]
    by_cases c1 : (m : Int) ≤ ((dgN m o r : Nat) : Int)
    · rw [if_pos c1]
      exact ⟨ν, fw_rf, fun hp => absurd (hp.2.2.1 r (by omega)) (by omega), fun _ => rfl⟩
    · rw [if_neg c1]
      by_cases c2 : (bA (bR s ((dgN m o r : Nat) : Int)) 1) = 1
      · rw [if_pos c2]
        obtain ⟨j, j1, j2, j3⟩ := (hs _ h10).mp c2
        exact ⟨ν, fw_rf, fun hp => absurd j3.symm (hp.2.2.2 r j (by omega) j2), fun _ => rfl⟩
      · rw [if_neg c2]
        have hnew : ∀ j, r + 1 ≤ j → j < m → dgN m o j ≠ dgN m o r := fun j j1 j2 e => c2 ((hs _ h10).mpr ⟨j, j1, j2, e⟩)
        obtain ⟨ν', g1, g2, g3⟩ := ih g (bO s (bL 1 ((dgN m o r : Nat) : Int))) (sM ν 59 r ((dgN m o r : Nat) : Int)) (by omega) (by omega) (fun j j1 j2 => by
          by_cases c : j = r
          · rw [c, sM_s]; exact ⟨by omega, rfl⟩
          · rw [sM_j c]; exact hd j (by omega) j2) (fun i j i1 i2 j2 => by
          by_cases c : i = r
          · rw [c]; exact fun e => hnew j (by omega) j2 e.symm
          · exact hi i j (by omega) i2 j2) (fun d hd10 => by
          rw [bit_oR hd10, bit_one _ h10 d hd10, hs d hd10]
          constructor
          · rintro (⟨j, j1, j2, j3⟩ | e)
            · exact ⟨j, by omega, j2, j3⟩
            · exact ⟨r, Nat.le_refl _, by omega, e.symm⟩
          · rintro ⟨j, j1, j2, j3⟩
            by_cases c : j = r
            · right; rw [← j3, c]
            · left; exact ⟨j, by omega, j2, j3⟩)
        exact ⟨ν', fw_tr (fw_sM fw_rf rfl) g1, g2, g3⟩
theorem tkO {m : Nat} (hm : 1 ≤ m ∧ m ≤ 8) {o : Int} (ho : rI o) (ν : Mm) : ∃ ν', fw (fun k j => k = 59 ∨ (k = 58 ∧ j = 3)) ν ν' ∧ ν' 58 3 = (m : Int) ∧ (PO m o → X5_takeOrder o (m : Int) ν = some (1, ν') ∧ ∀ j, j < m → ν' 59 j = ((dgN m o j : Nat) : Int)) ∧ (¬ PO m o → X5_takeOrder o (m : Int) ν = some (0, ν')) := by
  have hK : ∀ (v : Int) (μ : Mm), (fun (v10 : Int) (μ11 : Mm) => if v10 = 0 then (some (1, μ11) : Rs) else (some (0, μ11))) v μ = if v = 0 then some (1, μ) else some (0, μ) := fun _ _ => rfl
  have es : iS (m : Int) 1 = (m : Int) - 1 := iS_id (by omega) (by omega)
  have e0 : X5_takeOrder o (m : Int) ν = X5_takeOrder_L15 (m : Int) (fun v10 μ11 => if v10 = 0 then (some (1, μ11)) else (some (0, μ11))) FU o 0 ((m : Int) - 1) (sM ν 58 3 (m : Int)) := by
    unfold X5_takeOrder
    rw [sF_r, es]
  clear es
  have w0 : fw (fun k j => k = 59 ∨ (k = 58 ∧ j = 3)) ν (sM ν 58 3 (m : Int)) := fw_sM fw_rf (Or.inr ⟨rfl, rfl⟩)
  by_cases c : 0 ≤ o
  · obtain ⟨ν', g1, g2, g3⟩ := tkO_L hm (o := o) ⟨c, ho.2⟩ hK m FU 0 (sM ν 58 3 (m : Int)) (Nat.le_refl _) (by show m < 1000000; omega) (fun j j1 j2 => absurd j1 (by omega)) (fun i j i1 i2 j2 => absurd i1 (by omega)) (fun d hd => ⟨fun z => absurd z (bit_zero d hd), fun z => z.elim (fun j y => absurd y.1 (by omega))⟩)
    rw [Nat.sub_self, Int.pow_zero, Int.ediv_one] at g2 g3
    exact ⟨ν', fw_tr w0 (fun k j hn => g1 k j (fun z => hn (Or.inl z))), by rw [g1 58 3 (by decide), sM_s], fun hp => by rw [e0]; exact g2 hp, fun hn => by rw [e0]; exact g3 hn⟩
  · obtain ⟨ν', g1, g2⟩ := tkO_neg (m := (m : Int)) (by omega) (K := fun v10 μ11 => if v10 = 0 then (some (1, μ11)) else (some (0, μ11))) (fun v μ hv => if_neg hv) FU o 0 ((m : Int) - 1) (sM ν 58 3 (m : Int)) ho (by omega) (by omega) (by rw [FU_v]; omega)
    exact ⟨ν', fw_tr w0 (fun k j hn => g2 k j (fun z => hn (Or.inl z))), by rw [g2 58 3 (by decide), sM_s], fun hp => absurd hp.1 c, fun _ => by rw [e0]; exact g1⟩
/-! the reference -/
theorem isO_L {m : Nat} (hm : m ≤ 8) {o : Int} (ho : 0 ≤ o ∧ o ≤ 2147483647) {K : Int → Mm → Rs} {μ : Mm} (h37 : μ 70 37 = (m : Int)) : ∀ (r k fuel : Nat) (s : Int), k + r = m → r < fuel → rI s → (∀ d, d < 32 → (gb s d = true ↔ ∃ j, j < k ∧ dgN m o j = d)) → ∃ s' : Int, X11_isOrder_L4 o K fuel s (k : Int) μ = K s' μ ∧ rI s' ∧ ∀ d, d < 32 → (gb s' d = true ↔ ∃ j, j < m ∧ dgN m o j = d) := by
  intro r
  induction r with
  | zero =>
    intro k fuel s hk hf hs hb
    obtain ⟨g, rfl, _⟩ := lt_fuel hf
    have e : k = m := by omega
    subst e
    refine ⟨s, ?_, hs, hb⟩
    show (if (μ 70 37) ≤ (k : Int) then _ else _) = _
    rw [h37, if_pos (by omega)]
  | succ r ih =>
    intro k fuel s hk hf hs hb
    obtain ⟨g, rfl, _⟩ := lt_fuel hf
    have h10 := dgN_10 (m := m) (o := o) (k := k)
    obtain ⟨s', g1, g2, g3⟩ := ih (k + 1) g (bO s (bL 1 ((dgN m o k : Nat) : Int))) (by omega) (by omega) (bO_r _ _) (fun d hd => by
      rw [gb_put h10 s hd, hb d hd]
      constructor
      · rintro (⟨j, j1, j2⟩ | z)
        · exact ⟨j, by omega, j2⟩
        · exact ⟨k, by omega, z.symm⟩
      · rintro ⟨j, j1, j2⟩
        by_cases c : j = k
        · right; rw [← j2, c]
        · left; exact ⟨j, by omega, j2⟩)
    refine ⟨s', ?_, g2, g3⟩
    rw [← g1]
    show (if (μ 70 37) ≤ (k : Int) then _ else _) = _
    rw [h37, if_neg (by omega), nthM hm ho (by omega) h37, bd_some, iA_nat (by omega)]
    rfl
theorem isOM {m : Nat} (hm : m ≤ 8) {o : Int} (ho : rI o) {μ : Mm} (hB : Bm μ) (h37 : μ 70 37 = (m : Int)) : (PO m o → X11_isOrder o μ = some (1, μ)) ∧ (¬ PO m o → X11_isOrder o μ = some (0, μ)) := by
  by_cases c : 0 ≤ o
  · obtain ⟨s, g1, g2, g3⟩ := isO_L hm (o := o) ⟨c, ho.2⟩ (K := fun v6 μ7 => bd (X11_ten (μ7 70 37) μ7) fun v8 μ9 => bd (X11_in o 0 (iS v8 1) μ9) fun v11 μ12 => if v11 = 0 then (some (0, μ12)) else (if v6 = (iS (bL 1 (μ12 70 37)) 1) then (some (1, μ12)) else (some (0, μ12)))) h37 m 0 FU 0 (by omega) (by show m < 1000000; omega) (show (-2147483648 : Int) ≤ 0 ∧ (0 : Int) ≤ 2147483647 by decide) (fun d hd => ⟨fun z => absurd z (by rw [gb_zero d hd]; decide), fun z => z.elim (fun j y => absurd y.1 (by omega))⟩)
    have e0 : X11_isOrder o μ = (bd (X11_ten (μ 70 37) μ) fun v8 μ9 => bd (X11_in o 0 (iS v8 1) μ9) fun v11 μ12 => if v11 = 0 then (some (0, μ12)) else (if s = (iS (bL 1 (μ12 70 37)) 1) then (some (1, μ12)) else (some (0, μ12)))) := g1
    have h8 : (10 : Int) ^ m ≤ 100000000 := p10_mono (b := 8) (by omega)
    have hpos := p10_pos m
    rw [h37, ten_eq (by omega), bd_some, Int.toNat_natCast, iS_id (by omega) (by omega)] at e0
    have key : (s = iS (bL 1 ((m : Nat) : Int)) 1) ↔ (rngN m (dgN m o) ∧ injN m (dgN m o)) := by
      constructor
      · intro h
        have h' : ∀ d, d < 32 → (d < m ↔ ∃ j, j < m ∧ dgN m o j = d) := fun d hd => by
          rw [← g3 d hd, h, gb_all m (by omega) d hd, decide_eq_true_iff]
        have h10 : ∀ k, dgN m o k < 32 := fun k => by
          have := dgN_10 (m := m) (o := o) (k := k)
          omega
        have hr : rngN m (dgN m o) := fun j hj => (h' _ (h10 j)).mpr ⟨j, hj, rfl⟩
        exact ⟨hr, sur_inj (fun d hd => (h' d (by omega)).mp hd)⟩
      · rintro ⟨hr, hi⟩
        refine gb_ext g2 (all_rI m (by omega)) (fun d hd => ?_)
        rw [g3 d hd, gb_all m (by omega) d hd, decide_eq_true_iff]
        exact ⟨fun z => z.elim (fun j y => by rw [← y.2]; exact hr j y.1), fun z => inj_sur hr hi d z⟩
    by_cases c2 : o < 10 ^ m
    · rw [in_rg _ (by omega), bd_some, if_neg (by decide)] at e0
      constructor
      · intro hp
        rw [e0, h37, if_pos (key.mpr ⟨hp.2.2.1, hp.2.2.2⟩)]
      · intro hn
        rw [e0, h37, if_neg (fun z => hn ⟨c, c2, (key.mp z).1, (key.mp z).2⟩)]
    · rw [in_no _ (by omega), bd_some, if_pos rfl] at e0
      exact ⟨fun hp => absurd hp.2.1 c2, fun _ => e0⟩
  · have t := t_X11_isOrder (μs := μ) ho (Sm_rf hB)
    obtain ⟨r, μ1, e1, e2, _, e3⟩ := wp_ex t
    subst e2
    refine ⟨fun hp => absurd hp.1 c, fun _ => ?_⟩
    rcases e3 with z | z
    · rw [e1, z]
    · exact absurd z.1 c
