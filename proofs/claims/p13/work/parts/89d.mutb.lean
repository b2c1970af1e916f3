/-! the CELLAR altered by hand -/
def WC (k j : Nat) : Prop := (k = 5 ∧ j ≠ 4) ∨ (6 ≤ k ∧ k ≤ 8) ∨ k = 82 ∨ k = 86 ∨ (k = 70 ∧ (j = 30 ∨ j = 31))
theorem Inv_C {μ ν : Mm} (hI : Inv μ) (hB : Bx ν) (hM : Ir ν) (hf : fw WC μ ν) (C : Kc ν 5 82 86 30 31) : Inv ν := by
  refine Inv_W hI hB hM hf (Or.inl ?_) (Or.inl ?_) (Or.inl ?_) (Or.inr C) (Or.inl ?_) (Or.inl ?_) (Or.inl ?_)
  · intro k j h; unfold kT at h; unfold WC; omega
  · intro k j h; unfold kP at h; unfold WC; omega
  · intro k j h; unfold kLw at h; unfold WC; omega
  · intro k j h; unfold kH at h; unfold WC; omega
  · intro k j h; unfold kI at h; unfold WC; omega
  · intro k j h; unfold kU at h; unfold WC; omega
theorem Bx_t {x : Rs} {μ μ1 : Mm} {r : Int} {W : Nat → Nat → Prop} {P : Int → Prop} {R : Prop} (t : wp x (fun r μ' => St W μ μ' ∧ P r ∧ R)) (e : x = some (r, μ1)) : Bx μ1 := by
  rw [e, wp_some] at t; exact t.1.1
theorem stands_5 {μ : Mm} (hI : Inv μ) : X0_stands 5 μ = some (if μ 70 23 = 0 then 0 else 1, μ) := by
  have h := hI.2.2.2.2.2.1.2.2.2.2.1
  unfold X0_stands
  by_cases c : μ 5 4 ≤ 0
  · rw [if_pos c, if_pos (h.mp c)]
  · rw [if_neg c, if_neg (fun z => c (h.mpr z))]
/-- a CRANK, to both -/
theorem crk {μ : Mm} (hI : Inv μ) {a : Int} (ha : rI a) : ∃ w, X0_placeOf 5 a μ = some (w, μ) ∧ ((w = -1 ∧ (0 ≤ a → a ≤ 7 → ∀ p : Nat, p < 60 → isP μ p → μ 82 p ≠ 3 + a)) ∨ (0 ≤ a ∧ a ≤ 7 ∧ ∃ p : Nat, p < 60 ∧ isP μ p ∧ μ 82 p = 3 + a ∧ w = (p : Int) ∧ μ 7 a.toNat = (p : Int))) := by
  obtain ⟨k1, k2, k3, k4, _⟩ := hI.2.2.2.2.2.1
  unfold X0_placeOf
  by_cases h1 : a < 0
  · rw [if_pos h1]
    exact ⟨-1, rfl, Or.inl ⟨rfl, fun h => absurd h (by omega)⟩⟩
  · rw [if_neg h1]
    by_cases h2 : 8 ≤ a
    · rw [if_pos h2]
      exact ⟨-1, rfl, Or.inl ⟨rfl, fun _ h => absurd h (by omega)⟩⟩
    · rw [if_neg h2]
      have e : ldA μ (5 + 2) a (fun v3 => some (v3, μ)) = some (μ 7 a.toNat, μ) := by
        unfold ldA
        rw [if_pos (by show (0 : Int) ≤ a ∧ a < 8; omega)]
      rw [e]
      have hr := k4 a.toNat (by omega)
      have hc := k3 a.toNat (by omega)
      have ea : ((a.toNat : Nat) : Int) = a := by omega
      rw [ea] at hc
      by_cases c : μ 7 a.toNat = -1
      · refine ⟨_, rfl, Or.inl ⟨c, fun _ _ p hp ip ep => ?_⟩⟩
        have := (hc p hp).mp ⟨ip, ep⟩
        have : μ 7 a.toNat = (p : Int) := this
        omega
      · have hr : -1 ≤ μ 7 a.toNat ∧ μ 7 a.toNat ≤ 59 := hr
        have hp : μ 7 a.toNat = (((μ 7 a.toNat).toNat : Nat) : Int) := by omega
        have := (hc (μ 7 a.toNat).toNat (by omega)).mpr hp
        exact ⟨_, rfl, Or.inr ⟨by omega, by omega, (μ 7 a.toNat).toNat, by omega, this.1, this.2, hp, hp⟩⟩
theorem crk_m {μ ν : Mm} (e : ∀ k j, 70 ≤ k → ν k j = μ k j) {a w : Int} (ha : rI a) (h : (w = -1 ∧ (0 ≤ a → a ≤ 7 → ∀ p : Nat, p < 60 → isP μ p → μ 82 p ≠ 3 + a)) ∨ (0 ≤ a ∧ a ≤ 7 ∧ ∃ p : Nat, p < 60 ∧ isP μ p ∧ μ 82 p = 3 + a ∧ w = (p : Int) ∧ μ 7 a.toNat = (p : Int))) : X11_isCrank a ν = some (if w = -1 then 0 else 1, ν) := by
  obtain ⟨r, e1, hc⟩ := isCr (μ := ν) ha
  have i : ∀ p, isP ν p ↔ isP μ p := isP_congr (e 70 23 (by decide)) (e 70 24 (by decide))
  rw [e1]
  rcases h with ⟨h1, h2⟩ | ⟨h1, h2, p, h3, h4, h5, h6, _⟩
  · rw [if_pos h1]
    rcases hc with ⟨c1, _⟩ | ⟨_, c2, c3, p, c4, c5, c6⟩
    · rw [c1]
    · rw [e 82 p (by decide)] at c6
      exact absurd c6 (h2 c2 c3 p c4 ((i p).mp c5))
  · rw [if_neg (by omega)]
    rcases hc with ⟨_, c2⟩ | ⟨c1, _⟩
    · exact absurd (by rw [e 82 p (by decide)]; exact h5) (c2 h1 h2 p h3 ((i p).mpr h4))
    · rw [c1]
theorem in_rg {v a b : Int} (μ : Mm) (h : a ≤ v ∧ v ≤ b) : X11_in v a b μ = some (1, μ) := by rw [in_eq, b2_t h]
theorem in_no {v a b : Int} (μ : Mm) (h : ¬ (a ≤ v ∧ v ≤ b)) : X11_in v a b μ = some (0, μ) := by rw [in_eq, b2_f h]
theorem Bm_lo {μ : Mm} (h : Bm μ) {a j : Nat} {v : Int} (ha : a < 70) : Bm (sM μ a j v) := fun k i hk => by rw [sM_a (by omega)]; exact h k i hk
theorem Ir_lo {μ : Mm} (h : Ir μ) {a j : Nat} {v : Int} (ha : a < 70) : Ir (sM μ a j v) := Ir_congr h (Bm_lo h.1 ha) (fun k i hp => sM_a (by unfold perI at hp; omega))
theorem Kc_8 {μ : Mm} (h : Kc μ 5 82 86 30 31) {c : Nat} {v : Int} : Kc (sM (sM μ 8 c v) 86 c v) 5 82 86 30 31 := by
  have e : ∀ k j, k ≠ 8 → k ≠ 86 → sM (sM μ 8 c v) 86 c v k j = μ k j := fun k j h1 h2 => by rw [sM_a h2, sM_a h1]
  have h' : Kc (sM (sM μ 8 c v) 86 c v) 5 82 86 30 31 ∨ True := Or.inr trivial
  obtain ⟨h1, h2, h3, h4, h5, h6, h7, h8, h9, h10⟩ := h
  have i : ∀ p, isP (sM (sM μ 8 c v) 86 c v) p ↔ isP μ p := isP_congr (e 70 23 (by decide) (by decide)) (e 70 24 (by decide) (by decide))
  refine ⟨fun p hp => ?_, fun p hp => ?_, fun d hd p hp => ?_, fun d hd => ?_, ?_, ?_, ?_, ?_, ?_, fun z d hd => ?_⟩
  · rw [i p, e _ _ (by decide) (by decide), e _ _ (by decide) (by decide)]; exact h1 p hp
  · rw [i p, e _ _ (by decide) (by decide), e _ _ (by decide) (by decide)]; exact h2 p hp
  · rw [i p, e _ _ (by decide) (by decide), e _ _ (by decide) (by decide)]; exact h3 d hd p hp
  · rw [e _ _ (by decide) (by decide)]; exact h4 d hd
  · rw [e _ _ (by decide) (by decide), e _ _ (by decide) (by decide)]; exact h5
  · rw [e _ _ (by decide) (by decide), h6]; exact (cnt_congr 8 (fun j _ => e 7 j (by decide) (by decide))).symm
  · rw [e _ _ (by decide) (by decide), h7]; exact (cnt_congr 60 (fun j _ => e 6 j (by decide) (by decide))).symm
  · rw [e _ _ (by decide) (by decide), e _ _ (by decide) (by decide)]; exact h8
  · rw [e _ _ (by decide) (by decide), e _ _ (by decide) (by decide)]; exact h9
  · show sM (sM μ 8 c v) 86 c v 8 d = sM (sM μ 8 c v) 86 c v 86 d
    rw [sM_a (by decide), sM_if, sM_if]
    by_cases q : d = c
    · rw [if_pos q, if_pos q]
    · rw [if_neg q, if_neg q, sM_a (by decide)]; rw [e _ _ (by decide) (by decide)] at z; exact h10 z d hd
theorem m_wind : ∀ a0, rI a0 → ∀ a1, rI a1 → sI Inv Inv (X10_wind a0 a1) (X11_wind a0 a1) := by
  intro a ha v hv μ hI
  have t1 := t_X10_wind (W := W70) (μs := μ) scr_70 (fun k j h => h) (hp_l1 := ha) (hp_l2 := hv) (St_rf hI.1)
  obtain ⟨w, e0, hw⟩ := crk hI ha
  have hc := crk_m (fun k j _ => rfl) ha hw
  by_cases c1 : w = -1
  · have e1 : X10_wind a v μ = some (0, μ) := by
      unfold X10_wind X0_tellWind
      rw [e0, bd_some, if_pos c1, bd_some, rZ_b (Or.inl rfl)]
    have e2 : X11_wind a v μ = some (0, μ) := by
      unfold X11_wind
      rw [hc, bd_some, if_pos (by rw [if_pos c1])]
    exact ⟨_, _, _, e1, e2, hI⟩
  · rcases hw with ⟨h, _⟩ | ⟨a1, a2, p, p1, p2, p3, p4, p5⟩
    · exact absurd h c1
    · by_cases c2 : 1 ≤ v ∧ v ≤ 30
      · have e1 : X10_wind a v μ = some (1, sM μ 8 a.toNat v) := by
          unfold X10_wind X0_tellWind stA
          rw [e0, bd_some, if_neg c1, if_neg (by omega), if_pos c2.2, if_pos (by show (0 : Int) ≤ a ∧ a < 8; omega), bd_some, rZ_b (Or.inr rfl)]
        have hc' := crk_m (ν := sM μ 8 a.toNat v) (μ := μ) (fun k j hk => sM_a (by omega)) ha (Or.inr ⟨a1, a2, p, p1, p2, p3, p4, p5⟩)
        have e2 : X11_wind a v (sM μ 8 a.toNat v) = some (1, sM (sM μ 8 a.toNat v) 86 a.toNat v) := by
          unfold X11_wind stA
          rw [hc', bd_some, if_neg (by rw [if_neg c1]; decide), in_rg _ c2, bd_some, if_neg (by decide), if_pos (by show (0 : Int) ≤ a ∧ a < 8; omega)]
        have hB1 := Bx_t t1 e1
        refine ⟨_, _, _, e1, e2, Inv_C hI (Bx_congr hB1 (fun k j hk => sM_a (by omega))) ?_ (fw_sM (fw_sM fw_rf (by unfold WC; omega)) (by unfold WC; omega)) (Kc_8 hI.2.2.2.2.2.1)⟩
        exact Ir_congr hI.2.1 (Bm_sM (Bm_lo hI.2.1.1 (by decide)) (show (0 : Int) ≤ v ∧ v ≤ 30 by omega)) (fun k j h => by rw [sM_a (by unfold perI at h; omega), sM_a (by unfold perI at h; omega)])
      · have e1 : X10_wind a v μ = some (0, μ) := by
          unfold X10_wind X0_tellWind
          rw [e0, bd_some, if_neg c1]
          by_cases c3 : v < 1
          · rw [if_pos c3, bd_some, rZ_b (Or.inl rfl)]
          · rw [if_neg c3, if_neg (by omega), bd_some, rZ_b (Or.inl rfl)]
        have e2 : X11_wind a v μ = some (0, μ) := by
          unfold X11_wind
          rw [hc, bd_some, if_neg (by rw [if_neg c1]; decide), in_no _ c2, bd_some, if_pos rfl]
        exact ⟨_, _, _, e1, e2, hI⟩
/-! set -/
theorem Kc_s {μ ν : Mm} (h : Kc μ 5 82 86 30 31) (e : ∀ k j, ¬ (k = 5 ∧ (j = 7 ∨ j = 8)) → ¬ (k = 70 ∧ (j = 30 ∨ j = 31 ∨ j = 32)) → ¬ (k = 0) → ν k j = μ k j) (es : ν 5 7 = ν 70 30) (eg : ν 5 8 = ν 70 31) : Kc ν 5 82 86 30 31 := by
  obtain ⟨h1, h2, h3, h4, h5, h6, h7, h8, h9, h10⟩ := h
  have w : ∀ k j, 6 ≤ k → k ≠ 70 → ν k j = μ k j := fun k j h1 h2 => e k j (by omega) (by omega) (by omega)
  have i : ∀ p, isP ν p ↔ isP μ p := isP_congr (e 70 23 (by omega) (by omega) (by omega)) (e 70 24 (by omega) (by omega) (by omega))
  have f : ∀ j, j ≤ 6 → ν 5 j = μ 5 j := fun j hj => e 5 j (by omega) (by omega) (by omega)
  refine ⟨fun p hp => ?_, fun p hp => ?_, fun d hd p hp => ?_, fun d hd => ?_, ?_, ?_, ?_, es, eg, fun z d hd => ?_⟩
  · rw [i p, w _ _ (by decide) (by decide), w _ _ (by decide) (by decide)]; exact h1 p hp
  · rw [i p, w _ _ (by decide) (by decide), f 3 (by decide)]; exact h2 p hp
  · rw [i p, w _ _ (by decide) (by decide), w _ _ (by decide) (by decide)]; exact h3 d hd p hp
  · rw [w _ _ (by decide) (by decide)]; exact h4 d hd
  · rw [f 4 (by decide), e 70 23 (by omega) (by omega) (by omega)]; exact h5
  · rw [f 5 (by decide), h6]; exact (cnt_congr 8 (fun j _ => w 7 j (by decide) (by decide))).symm
  · rw [f 6 (by decide), h7]; exact (cnt_congr 60 (fun j _ => w 6 j (by decide) (by decide))).symm
  · rw [e 70 23 (by omega) (by omega) (by omega)] at z
    rw [w _ _ (by decide) (by decide), w _ _ (by decide) (by decide)]; exact h10 z d hd
def WS (k j : Nat) : Prop := (k = 5 ∧ (j = 7 ∨ j = 8)) ∨ (k = 70 ∧ (j = 30 ∨ j = 31 ∨ j = 32)) ∨ (k = 0 ∧ j = 17)
theorem Inv_S {μ ν : Mm} (hI : Inv μ) (hB : Bx ν) (hM : Ir ν) (hf : fw WS μ ν) (es : ν 5 7 = ν 70 30) (eg : ν 5 8 = ν 70 31) (el : ν 0 17 = ν 70 32) : Inv ν := by
  refine Inv_W hI hB hM hf (Or.inl ?_) (Or.inl ?_) (Or.inl ?_) (Or.inr (Kc_s hI.2.2.2.2.2.1 (fun k j h1 h2 h3 => hf k j (by unfold WS; omega)) es eg)) (Or.inr el) (Or.inl ?_) (Or.inl ?_)
  · intro k j h; unfold kT at h; unfold WS; omega
  · intro k j h; unfold kP at h; unfold WS; omega
  · intro k j h; unfold kLw at h; unfold WS; omega
  · intro k j h; unfold kI at h; unfold WS; omega
  · intro k j h; unfold kU at h; unfold WS; omega
/-- what set leaves in the reference -/
def st3 (ν : Mm) (x y z : Int) : Mm := sM (sM (sM ν 70 30 x) 70 31 y) 70 32 z
theorem m_set : ∀ a0, rI a0 → ∀ a1, rI a1 → sI Inv Inv (X10_set a0 a1) (X11_set a0 a1) := by
  intro a ha v hv μ hI
  have t1 := t_X10_set (W := W70) (μs := μ) scr_70 (fun k j h => h) (hp_l1 := ha) (hp_l2 := hv) (St_rf hI.1)
  have hM := hI.2.1
  obtain ⟨_, _, _, _, _, _, _, k8, k9, _⟩ := id hI.2.2.2.2.2.1
  have kl := hI.2.2.2.2.2.2.1
  obtain ⟨m, m1, m2, m3, _⟩ := id hI.2.2.2.2.1
  have b30 : 1 ≤ μ 70 30 ∧ μ 70 30 ≤ 9 := hM.1 70 30 (by decide)
  have b31 : 0 ≤ μ 70 31 ∧ μ 70 31 ≤ 99 := hM.1 70 31 (by decide)
  have b32 : -1 ≤ μ 70 32 ∧ μ 70 32 ≤ 3 := hM.1 70 32 (by decide)
  have e1m : iS (μ 70 13) 1 = μ 70 13 - 1 := iS_id (by omega) (by omega)
  -- the last steps of the reference
  have fin : ∀ (ν : Mm) (x y z : Int), (∀ k j, 70 ≤ k → ν k j = μ k j) → Bx ν → fw WS μ ν → 1 ≤ x ∧ x ≤ 9 → 0 ≤ y ∧ y ≤ 99 → -1 ≤ z ∧ z < m → ν 5 7 = x → ν 5 8 = y → ν 0 17 = z → Inv (st3 ν x y z) := by
    intro ν x y z e hB hf hx hy hz h1 h2 h3
    have hBm : Bm ν := fun k j hk => by rw [e k j hk]; exact hM.1 k j hk
    have hB3 : Bm (st3 ν x y z) := Bm_sM (Bm_sM (Bm_sM hBm (show (1 : Int) ≤ x ∧ x ≤ 9 from hx)) (show (0 : Int) ≤ y ∧ y ≤ 99 from hy)) (show (-1 : Int) ≤ z ∧ z ≤ 3 by omega)
    have g : ∀ k j, ¬ (k = 70 ∧ (j = 30 ∨ j = 31 ∨ j = 32)) → st3 ν x y z k j = ν k j := fun k j h => by
      unfold st3 sM
      rw [if_neg (by omega), if_neg (by omega), if_neg (by omega)]
    have g30 : st3 ν x y z 70 30 = x := by unfold st3; rw [sM_j (by decide), sM_j (by decide), sM_s]
    have g31 : st3 ν x y z 70 31 = y := by unfold st3; rw [sM_j (by decide), sM_s]
    have g32 : st3 ν x y z 70 32 = z := by unfold st3; rw [sM_s]
    have hf3 : fw WS μ (st3 ν x y z) := fun k j hn => by rw [g k j (by unfold WS at hn; omega)]; exact hf k j hn
    refine Inv_S hI (Bx_congr hB (fun k j hk => g k j (by omega))) ?_ hf3 (by rw [g 5 7 (by omega), g30]; exact h1) (by rw [g 5 8 (by omega), g31]; exact h2) (by rw [g 0 17 (by omega), g32]; exact h3)
    obtain ⟨i1, i2, i3, i4, i5, i6, i7, i8⟩ := hM
    have q : ∀ k j, 70 ≤ k → ¬ (k = 70 ∧ (j = 30 ∨ j = 31 ∨ j = 32)) → st3 ν x y z k j = μ k j := fun k j h1 h2 => by rw [g k j h2, e k j h1]
    have e23 := q 70 23 (by decide) (by omega)
    have e24 := q 70 24 (by decide) (by omega)
    refine ⟨hB3, fun p k hp hk => ?_, fun h => ?_, fun h => ?_, ?_, fun l hl1 hl2 => ?_, UQ_congr i7 e23 e24 (fun p => q 82 p (by decide) (by omega)), fun h => ?_⟩
    · rw [q 70 28 (by decide) (by omega)] at hp
      rw [q 85 p (by decide) (by omega)] at hk
      rw [q 83 _ (by decide) (by omega)]
      exact i2 p k hp hk
    · rw [e23] at h
      obtain ⟨p, hp, ip, hp2⟩ := i3 h
      exact ⟨p, hp, (isP_congr e23 e24 p).mpr ip, by rw [q 82 p (by decide) (by omega)]; exact hp2⟩
    · rw [q 70 53 (by decide) (by omega)] at h
      obtain ⟨p, hp, ip, hp2⟩ := i4 h
      exact ⟨p, hp, (isP_congr e23 e24 p).mpr ip, by rw [q 96 p (by decide) (by omega)]; exact hp2⟩
    · rw [g32, q 70 13 (by decide) (by omega)]; omega
    · rw [q 70 13 (by decide) (by omega)] at hl2
      exact LawOK_congr (i6 l hl1 hl2) (agr_of l (fun k j h1 h2 => q k j (by omega) (by omega)))
    · rw [q 70 53 (by decide) (by omega)] at h
      exact UQ_congr (i8 h) e23 e24 (fun p => q 96 p (by decide) (by omega))
  have J85 : ∀ (ν : Mm) (s1 : Int), (∀ k j, 70 ≤ k → ν k j = μ k j) → X11_set_J85 a v s1 ν = some (1, st3 ν s1 (if a = 1 then v else μ 70 31) (if a = 2 then v else μ 70 32)) := by
    intro ν s1 e
    unfold X11_set_J85 X11_set_J102 sF st3
    dsimp only
    by_cases c1 : a = 1
    · rw [if_pos c1, if_pos c1, if_neg (by omega), if_neg (by omega)]
      rw [sM_j (by decide), sM_j (by decide), e 70 32 (by decide)]
    · rw [if_neg c1, if_neg c1, sM_j (k := 31) (by decide), e 70 31 (by decide)]
      by_cases c2 : a = 2
      · rw [if_pos c2, if_pos c2]
      · rw [if_neg c2, if_neg c2, sM_j (by decide), sM_j (by decide), e 70 32 (by decide)]
  by_cases c0 : a = 0
  · by_cases cs : μ 70 23 = 0
    · have e1 : X10_set a v μ = some (0, μ) := by
        unfold X10_set X0_tellStoop
        rw [if_pos c0, stands_5 hI, bd_some, if_pos (by rw [if_pos cs]), bd_some, rZ_b (Or.inl rfl)]
      have e2 : X11_set a v μ = some (0, μ) := by
        unfold X11_set
        rw [if_pos c0, if_pos cs]
      exact ⟨_, _, _, e1, e2, hI⟩
    · by_cases cv : 1 ≤ v ∧ v ≤ 9
      · have e1 : X10_set a v μ = some (1, sM μ 5 7 v) := by
          unfold X10_set X0_tellStoop sF
          dsimp only
          rw [if_pos c0, stands_5 hI, bd_some, if_neg (by rw [if_neg cs]; decide), if_neg (by omega), if_pos cv.2, bd_some, rZ_b (Or.inr rfl)]
        have e70 : ∀ k j, 70 ≤ k → sM μ 5 7 v k j = μ k j := fun k j hk => sM_a (by omega)
        have e2 : X11_set a v (sM μ 5 7 v) = some (1, st3 (sM μ 5 7 v) v (μ 70 31) (μ 70 32)) := by
          unfold X11_set
          rw [if_pos c0, e70 70 23 (by decide), if_neg cs]
          unfold X11_set_J11
          rw [in_rg _ (by omega), bd_some, if_neg (by decide), if_pos c0]
          unfold X11_set_J39
          rw [if_pos c0]
          unfold X11_set_J64
          rw [in_rg _ cv, bd_some, if_neg (by decide), if_pos c0, J85 _ _ e70, if_neg (by omega), if_neg (by omega)]
        exact ⟨_, _, _, e1, e2, fin _ _ _ _ e70 (Bx_t t1 e1) (fw_sM fw_rf (by unfold WS; omega)) cv b31 (by have := hM.2.2.2.2.1; omega) (by rw [sM_s]) (by rw [sM_j (by decide)]; exact k9) (by rw [sM_a (by decide)]; exact kl)⟩
      · have e1 : X10_set a v μ = some (0, μ) := by
          unfold X10_set X0_tellStoop
          rw [if_pos c0, stands_5 hI, bd_some, if_neg (by rw [if_neg cs]; decide)]
          by_cases c3 : v < 1
          · rw [if_pos c3, bd_some, rZ_b (Or.inl rfl)]
          · rw [if_neg c3, if_neg (by omega), bd_some, rZ_b (Or.inl rfl)]
        have e2 : X11_set a v μ = some (0, μ) := by
          unfold X11_set
          rw [if_pos c0, if_neg cs]
          unfold X11_set_J11
          rw [in_rg _ (by omega), bd_some, if_neg (by decide), if_pos c0]
          unfold X11_set_J39
          rw [if_pos c0]
          unfold X11_set_J64
          rw [in_no _ cv, bd_some, if_pos rfl]
        exact ⟨_, _, _, e1, e2, hI⟩
  · by_cases c1 : a = 1
    · by_cases cv : 0 ≤ v ∧ v ≤ 99
      · have e1 : X10_set a v μ = some (1, sM μ 5 8 v) := by
          unfold X10_set X0_tellNight sF
          dsimp only
          rw [if_neg c0, if_pos c1, if_neg (by omega), if_pos cv.2, bd_some, rZ_b (Or.inr rfl)]
        have e70 : ∀ k j, 70 ≤ k → sM μ 5 8 v k j = μ k j := fun k j hk => sM_a (by omega)
        have e2 : X11_set a v (sM μ 5 8 v) = some (1, st3 (sM μ 5 8 v) (μ 70 30) v (μ 70 32)) := by
          unfold X11_set
          rw [if_neg c0]
          unfold X11_set_J11
          rw [in_rg _ (by omega), bd_some, if_neg (by decide), if_neg c0, if_pos c1]
          unfold X11_set_J39
          rw [if_neg c0, if_pos c1]
          unfold X11_set_J64
          rw [in_rg _ cv, bd_some, if_neg (by decide), if_neg c0, J85 _ _ e70, if_pos c1, if_neg (by omega), e70 70 30 (by decide)]
        exact ⟨_, _, _, e1, e2, fin _ _ _ _ e70 (Bx_t t1 e1) (fw_sM fw_rf (by unfold WS; omega)) b30 cv (by have := hM.2.2.2.2.1; omega) (by rw [sM_j (by decide)]; exact k8) (by rw [sM_s]) (by rw [sM_a (by decide)]; exact kl)⟩
      · have e1 : X10_set a v μ = some (0, μ) := by
          unfold X10_set X0_tellNight
          rw [if_neg c0, if_pos c1]
          by_cases c3 : v < 0
          · rw [if_pos c3, bd_some, rZ_b (Or.inl rfl)]
          · rw [if_neg c3, if_neg (by omega), bd_some, rZ_b (Or.inl rfl)]
        have e2 : X11_set a v μ = some (0, μ) := by
          unfold X11_set
          rw [if_neg c0]
          unfold X11_set_J11
          rw [in_rg _ (by omega), bd_some, if_neg (by decide), if_neg c0, if_pos c1]
          unfold X11_set_J39
          rw [if_neg c0, if_pos c1]
          unfold X11_set_J64
          rw [in_no _ cv, bd_some, if_pos rfl]
        exact ⟨_, _, _, e1, e2, hI⟩
    · by_cases c2 : a = 2
      · by_cases cv : -1 ≤ v ∧ v ≤ μ 70 13 - 1
        · have e1 : X10_set a v μ = some (1, sM μ 0 17 v) := by
            unfold X10_set sF
            dsimp only
            rw [if_neg c0, if_neg c1, if_pos c2, if_neg (by omega), if_pos (by omega)]
          have e70 : ∀ k j, 70 ≤ k → sM μ 0 17 v k j = μ k j := fun k j hk => sM_a (by omega)
          have e2 : X11_set a v (sM μ 0 17 v) = some (1, st3 (sM μ 0 17 v) (μ 70 30) (μ 70 31) v) := by
            unfold X11_set
            rw [if_neg c0]
            unfold X11_set_J11
            rw [in_rg _ (by omega), bd_some, if_neg (by decide), if_neg c0, if_neg c1]
            unfold X11_set_J39
            rw [if_neg c0, if_neg c1, e70 70 13 (by decide), e1m]
            unfold X11_set_J64
            rw [in_rg _ cv, bd_some, if_neg (by decide), if_neg c0, J85 _ _ e70, if_neg c1, if_pos c2, e70 70 30 (by decide)]
          exact ⟨_, _, _, e1, e2, fin _ _ _ _ e70 (Bx_t t1 e1) (fw_sM fw_rf (by unfold WS; omega)) b30 b31 (by omega) (by rw [sM_a (by decide)]; exact k8) (by rw [sM_a (by decide)]; exact k9) (by rw [sM_s])⟩
        · have e1 : X10_set a v μ = some (0, μ) := by
            unfold X10_set
            rw [if_neg c0, if_neg c1, if_pos c2]
            by_cases c3 : v < -1
            · rw [if_pos c3]
            · rw [if_neg c3, if_neg (by omega)]
          have e2 : X11_set a v μ = some (0, μ) := by
            unfold X11_set
            rw [if_neg c0]
            unfold X11_set_J11
            rw [in_rg _ (by omega), bd_some, if_neg (by decide), if_neg c0, if_neg c1]
            unfold X11_set_J39
            rw [if_neg c0, if_neg c1, e1m]
            unfold X11_set_J64
            rw [in_no _ cv, bd_some, if_pos rfl]
          exact ⟨_, _, _, e1, e2, hI⟩
      · have e1 : X10_set a v μ = some (0, μ) := by
          unfold X10_set
          rw [if_neg c0, if_neg c1, if_neg c2]
        have e2 : X11_set a v μ = some (0, μ) := by
          unfold X11_set
          rw [if_neg c0]
          unfold X11_set_J11
          rw [in_no _ (by omega), bd_some, if_pos rfl]
        exact ⟨_, _, _, e1, e2, hI⟩
/-! POSTS taken away, CRANKS exchanged, THUDS -/
theorem cnt_upd {P : Int → Bool} {f : Nat → Int} {k : Nat} {v : Int} : ∀ n, cnt P (fun j => if j = k then v else f j) n = cnt P f n + (if k < n then (if P v then 1 else 0) - (if P (f k) then 1 else 0) else 0) := by
  intro n
  induction n with
  | zero => rw [if_neg (Nat.not_lt_zero k)]; rfl
  | succ n ih =>
    show cnt P (fun j => if j = k then v else f j) n + (if P (if n = k then v else f n) then 1 else 0) = (cnt P f n + (if P (f n) then 1 else 0)) + _
    rw [ih]
    by_cases c : k < n
    · have c2 : ¬ n = k := by omega
      have c3 : k < n + 1 := by omega
      simp only [c, c2, c3, if_true, if_false]
      omega
    · by_cases c2 : n = k
      · subst c2
        have c3 : n < n + 1 := by omega
        simp only [c, c3, if_true, if_false]
        omega
      · have c3 : ¬ k < n + 1 := by omega
        simp only [c, c2, c3, if_false]
        omega
theorem cnt_P {P : Int → Bool} {f g : Nat → Int} : ∀ n, (∀ j, j < n → P (f j) = P (g j)) → cnt P f n = cnt P g n := by
  intro n
  induction n with
  | zero => intro _; rfl
  | succ n ih =>
    intro h
    show cnt P f n + _ = cnt P g n + _
    rw [ih (fun j hj => h j (by omega)), h n (by omega)]
theorem cnt_b {P : Int → Bool} {f : Nat → Int} : ∀ n : Nat, 0 ≤ cnt P f n ∧ cnt P f n ≤ (n : Int) := by
  intro n
  induction n with
  | zero => show (0 : Int) ≤ 0 ∧ (0 : Int) ≤ 0; omega
  | succ n ih =>
    show 0 ≤ cnt P f n + (if P (f n) then 1 else 0) ∧ cnt P f n + (if P (f n) then 1 else 0) ≤ ((n + 1 : Nat) : Int)
    split <;> omega
theorem isPl_no {μ : Mm} (hB : Bm μ) {a : Int} (ha : rI a) (h : a < 0 ∨ 60 ≤ a) : X11_isPlace a μ = some (0, μ) := by
  unfold X11_isPlace
  by_cases c : a < 0
  · rw [if_pos c]
  · have h6 : 0 ≤ μ 70 23 ∧ μ 70 23 ≤ 6 := hB 70 23 (by decide)
    have h10 := (iD_10 a ha).1
    rw [if_neg c, if_pos (by omega)]
theorem isPl_y {μ : Mm} {p : Nat} (hp : p < 60) (h : isP μ p) : X11_isPlace (p : Int) μ = some (1, μ) := by
  unfold isP at h
  rw [isPl_eq (by omega), Int.toNat_natCast, if_pos h]
theorem isPl_n {μ : Mm} {p : Nat} (hp : p < 60) (h : ¬ isP μ p) : X11_isPlace (p : Int) μ = some (0, μ) := by
  unfold isP at h
  rw [isPl_eq (by omega), Int.toNat_natCast, if_neg h]
theorem Kc_knock {μ ν : Mm} (hK : Kc μ 5 82 86 30 31) {p : Nat} (hp : p < 60) (ip : isP μ p) (e82 : μ 82 p = 1) (c1 : μ 6 p = 1) (f6 : ∀ j, ν 6 j = if j = p then 0 else μ 6 j) (f82 : ∀ j, ν 82 j = if j = p then 0 else μ 82 j) (f56 : ν 5 6 = μ 5 6 - 1) (fo : ∀ k j, k ≠ 6 → ¬ (k = 5 ∧ j = 6) → k ≠ 82 → ν k j = μ k j) : Kc ν 5 82 86 30 31 := by
  obtain ⟨h1, h2, h3, h4, h5, h6, h7, h8, h9, h10⟩ := hK
  have i : ∀ q, isP ν q ↔ isP μ q := isP_congr (fo 70 23 (by decide) (by decide) (by decide)) (fo 70 24 (by decide) (by decide) (by decide))
  refine ⟨fun q hq => ?_, fun q hq => ?_, fun d hd q hq => ?_, fun d hd => ?_, ?_, ?_, ?_, ?_, ?_, fun z d hd => ?_⟩
  · show (isP ν q → ν 6 q = ν 82 q) ∧ (¬ isP ν q → ν 6 q = -1)
    rw [i q, f6, f82]
    by_cases c : q = p
    · rw [if_pos c, if_pos c]
      exact ⟨fun _ => rfl, fun n => absurd (by rw [c]; exact ip) n⟩
    · rw [if_neg c, if_neg c]; exact h1 q hq
  · rw [i q, f82, fo 5 3 (by decide) (by decide) (by decide)]
    by_cases c : q = p
    · rw [if_pos c]
      refine ⟨fun z => absurd z.2 (by decide), fun z => ?_⟩
      have := ((h2 q hq).mpr z).2
      rw [c, e82] at this
      exact absurd this (by decide)
    · rw [if_neg c]; exact h2 q hq
  · show (isP ν q ∧ ν 82 q = 3 + ((d : Nat) : Int)) ↔ ν 7 d = ((q : Nat) : Int)
    rw [i q, f82, fo 7 d (by decide) (by omega) (by decide)]
    by_cases c : q = p
    · rw [if_pos c]
      refine ⟨fun z => absurd z.2 (by omega), fun z => ?_⟩
      have := ((h3 d hd q hq).mpr z).2
      rw [c, e82] at this
      exact absurd this (by omega)
    · rw [if_neg c]; exact h3 d hd q hq
  · show -1 ≤ ν 7 d ∧ ν 7 d ≤ 59
    rw [fo 7 d (by decide) (by omega) (by decide)]; exact h4 d hd
  · rw [fo 5 4 (by decide) (by decide) (by decide), fo 70 23 (by decide) (by decide) (by decide)]; exact h5
  · rw [fo 5 5 (by decide) (by decide) (by decide), h6]
    exact (cnt_congr 8 (fun j _ => fo 7 j (by decide) (by omega) (by decide))).symm
  · have h7 : μ 5 6 = cnt is1 (μ 6) 60 := h7
    rw [f56, h7]
    have e := cnt_congr (P := is1) (f := ν 6) (g := fun j => if j = p then 0 else μ 6 j) 60 (fun j _ => f6 j)
    show _ = cnt is1 (ν 6) 60
    rw [e, cnt_upd, if_pos hp, c1]
    show _ = _ + (0 - 1)
    omega
  · rw [fo 5 7 (by decide) (by decide) (by decide), fo 70 30 (by decide) (by decide) (by decide)]; exact h8
  · rw [fo 5 8 (by decide) (by decide) (by decide), fo 70 31 (by decide) (by decide) (by decide)]; exact h9
  · show ν 8 d = ν 86 d
    rw [fo 8 d (by decide) (by omega) (by decide), fo 86 d (by decide) (by omega) (by decide)]; rw [fo 70 23 (by decide) (by decide) (by decide)] at z; exact h10 z d hd
theorem m_knock : ∀ a0, rI a0 → sI Inv Inv (X10_knock a0) (X11_knock a0) := by
  intro a ha μ hI
  have t1 := t_X10_knock (W := W70) (μs := μ) scr_70 (fun k j h => h) (hp_l1 := ha) (St_rf hI.1)
  obtain ⟨h1, h2, h3, h4, h5, h6, h7, h8, h9, h10⟩ := id hI.2.2.2.2.2.1
  by_cases c0 : 0 ≤ a ∧ a < 60
  · obtain ⟨p, rfl⟩ : ∃ p : Nat, a = (p : Int) := ⟨a.toNat, by omega⟩
    have hp : p < 60 := by omega
    have hat : X0_cellAt 5 (p : Int) μ = some (μ 6 p, μ) := by
      unfold X0_cellAt ldA
      rw [if_neg (by omega), if_neg (by omega), if_pos (by show (0 : Int) ≤ (p : Int) ∧ (p : Int) < 60; omega), Int.toNat_natCast]
    by_cases c1 : μ 6 p = 1
    · have ip : isP μ p := Classical.byContradiction (fun n => by have h := (h1 p hp).2 n; have : μ 6 p = -1 := h; omega)
      have e82 : μ 82 p = 1 := by have := (h1 p hp).1 ip; have : μ 6 p = μ 82 p := this; omega
      have h7 : μ 5 6 = cnt is1 (μ 6) 60 := h7
      have hb := cnt_b (P := is1) (f := μ 6) 60
      have e1 : X10_knock (p : Int) μ = some (1, sM (sM μ 6 p 0) 5 6 (μ 5 6 - 1)) := by
        unfold X10_knock X0_takePost
        rw [hat, bd_some, if_pos c1]
        unfold stA sF
        rw [if_pos (by show (0 : Int) ≤ (p : Int) ∧ (p : Int) < 60; omega), Int.toNat_natCast]
        dsimp only
        rw [sM_a (by decide), iS_id (by omega) (by omega), bd_some, rZ_b (Or.inr rfl)]
      have e70 : ∀ k j, 70 ≤ k → sM (sM μ 6 p 0) 5 6 (μ 5 6 - 1) k j = μ k j := fun k j hk => by rw [sM_a (by omega), sM_a (by omega)]
      have ip' : isP (sM (sM μ 6 p 0) 5 6 (μ 5 6 - 1)) p := (isP_congr (e70 70 23 (by decide)) (e70 70 24 (by decide)) p).mpr ip
      have e2 : X11_knock (p : Int) (sM (sM μ 6 p 0) 5 6 (μ 5 6 - 1)) = some (1, sM (sM (sM μ 6 p 0) 5 6 (μ 5 6 - 1)) 82 p 0) := by
        unfold X11_knock
        rw [isPl_y hp ip', bd_some, if_neg (by decide)]
        unfold ldA stA
        rw [if_pos (by show (0 : Int) ≤ (p : Int) ∧ (p : Int) < 60; omega), Int.toNat_natCast, e70 82 p (by decide), e82]
        dsimp only
        rw [if_pos rfl, if_pos (by show (0 : Int) ≤ (p : Int) ∧ (p : Int) < 60; omega)]
      have hB1 := Bx_t t1 e1
      have hIr1 : Ir (sM (sM μ 6 p 0) 5 6 (μ 5 6 - 1)) := Ir_lo (Ir_lo hI.2.1 (by decide)) (by decide)
      have hIr : Ir (sM (sM (sM μ 6 p 0) 5 6 (μ 5 6 - 1)) 82 p 0) := Ir_82 hIr1 (by rw [e70 82 p (by decide), e82]; decide) (by decide)
      have f6 : ∀ j, sM (sM (sM μ 6 p 0) 5 6 (μ 5 6 - 1)) 82 p 0 6 j = if j = p then 0 else μ 6 j := fun j => by rw [sM_a (by decide), sM_a (by decide), sM_if]
      have f82 : ∀ j, sM (sM (sM μ 6 p 0) 5 6 (μ 5 6 - 1)) 82 p 0 82 j = if j = p then 0 else μ 82 j := fun j => by rw [sM_if, e70 82 j (by decide)]
      have fo : ∀ k j, k ≠ 6 → ¬ (k = 5 ∧ j = 6) → k ≠ 82 → sM (sM (sM μ 6 p 0) 5 6 (μ 5 6 - 1)) 82 p 0 k j = μ k j := fun k j g1 g2 g3 => by
        rw [sM_a g3]
        unfold sM
        rw [if_neg (by omega), if_neg (by omega)]
      have f56 : sM (sM (sM μ 6 p 0) 5 6 (μ 5 6 - 1)) 82 p 0 5 6 = μ 5 6 - 1 := by rw [sM_a (by decide), sM_s]
      have i : ∀ q, isP (sM (sM (sM μ 6 p 0) 5 6 (μ 5 6 - 1)) 82 p 0) q ↔ isP μ q := isP_congr (fo 70 23 (by decide) (by decide) (by decide)) (fo 70 24 (by decide) (by decide) (by decide))
      refine ⟨_, _, _, e1, e2, Inv_C hI (Bx_congr hB1 (fun k j hk => sM_a (by omega))) hIr (fw_sM (fw_sM (fw_sM fw_rf (by unfold WC; omega)) (by unfold WC; omega)) (by unfold WC; omega)) ?_⟩
      exact Kc_knock hI.2.2.2.2.2.1 hp ip e82 c1 f6 f82 f56 fo
    · have e1 : X10_knock (p : Int) μ = some (0, μ) := by
        unfold X10_knock X0_takePost
        rw [hat, bd_some, if_neg c1, bd_some, rZ_b (Or.inl rfl)]
      have e2 : X11_knock (p : Int) μ = some (0, μ) := by
        unfold X11_knock
        by_cases ip : isP μ p
        · have : μ 6 p = μ 82 p := (h1 p hp).1 ip
          rw [isPl_y hp ip, bd_some, if_neg (by decide)]
          unfold ldA
          rw [if_pos (by show (0 : Int) ≤ (p : Int) ∧ (p : Int) < 60; omega), Int.toNat_natCast]
          dsimp only
          rw [if_neg (by omega)]
        · rw [isPl_n hp ip, bd_some, if_pos rfl]
      exact ⟨_, _, _, e1, e2, hI⟩
  · have e1 : X10_knock a μ = some (0, μ) := by
      unfold X10_knock X0_takePost X0_cellAt
      by_cases c : a < 0
      · rw [if_pos c, bd_some, if_neg (by decide), bd_some, rZ_b (Or.inl rfl)]
      · rw [if_neg c, if_pos (by omega), bd_some, if_neg (by decide), bd_some, rZ_b (Or.inl rfl)]
    have e2 : X11_knock a μ = some (0, μ) := by
      unfold X11_knock
      rw [isPl_no hI.2.1.1 ha (by omega), bd_some, if_pos rfl]
    exact ⟨_, _, _, e1, e2, hI⟩
def WU (k j : Nat) : Prop := (k = 67 ∧ j = 2) ∨ k = 68 ∨ k = 69 ∨ (k = 70 ∧ j = 45) ∨ k = 93 ∨ k = 94
theorem m_thud : ∀ a0, rI a0 → ∀ a1, rI a1 → sI Inv Inv (X10_thud a0 a1) (X11_thud a0 a1) := by
  intro s hs a ha μ hI
  have t1 := t_X10_thud (W := W70) (μs := μ) scr_70 (fun k j h => h) (hp_l1 := hs) (hp_l2 := ha) (St_rf hI.1)
  obtain ⟨w, e0, hw⟩ := crk hI ha
  have hc := crk_m (fun k j _ => rfl) ha hw
  obtain ⟨n, n1, n2, n3, n4⟩ := id hI.2.2.2.2.2.2.2.2
  have no1 : ∀ c1 : w = -1, X11_thud s a μ = some (-1, μ) := fun c1 => by
    unfold X11_thud
    rw [hc, bd_some, if_pos (by rw [if_pos c1])]
  by_cases c0 : 0 ≤ s ∧ s ≤ 999
  · by_cases c1 : w = -1
    · have e1 : X10_thud s a μ = some (-1, μ) := by
        unfold X10_thud
        rw [if_neg (by omega), if_neg (by omega), e0, bd_some, if_pos c1]
      exact ⟨_, _, _, e1, no1 c1, hI⟩
    · by_cases c2 : n = 10
      · have e1 : X10_thud s a μ = some (-1, μ) := by
          unfold X10_thud X8_add
          rw [if_neg (by omega), if_neg (by omega), e0, bd_some, if_neg c1, if_neg (by omega), bd_some, if_pos rfl]
        have e2 : X11_thud s a μ = some (-1, μ) := by
          unfold X11_thud
          rw [hc, bd_some, if_neg (by rw [if_neg c1]; decide), in_rg _ c0, bd_some, if_neg (by decide), if_pos (by omega)]
        exact ⟨_, _, _, e1, e2, hI⟩
      · have ha7 : 0 ≤ a ∧ a ≤ 7 := by
          rcases hw with ⟨h, _⟩ | ⟨h, h', _⟩
          · exact absurd h c1
          · exact ⟨h, h'⟩
        have e1 : X10_thud s a μ = some (((n + 1 : Nat) : Int), sM (sM (sM μ 68 n s) 69 n a) 67 2 ((n + 1 : Nat) : Int)) := by
          unfold X10_thud X8_add stA sF
          rw [if_neg (by omega), if_neg (by omega), e0, bd_some, if_neg c1, n2, if_pos (by omega), if_pos (by show (0 : Int) ≤ (n : Int) ∧ (n : Int) < 10; omega), Int.toNat_natCast]
          dsimp only
          rw [sM_a (by decide), n2, if_pos (by show (0 : Int) ≤ (n : Int) ∧ (n : Int) < 10; omega), Int.toNat_natCast, sM_a (by decide), sM_a (by decide), n2, iA_nat (by omega), bd_some, if_neg (by decide), sM_s]
        have e70 : ∀ k j, 70 ≤ k → sM (sM (sM μ 68 n s) 69 n a) 67 2 ((n + 1 : Nat) : Int) k j = μ k j := fun k j hk => by rw [sM_a (by omega), sM_a (by omega), sM_a (by omega)]
        have hc' := crk_m (μ := μ) e70 ha hw
        have e2 : X11_thud s a (sM (sM (sM μ 68 n s) 69 n a) 67 2 ((n + 1 : Nat) : Int)) = some (((n + 1 : Nat) : Int), sM (sM (sM (sM (sM (sM μ 68 n s) 69 n a) 67 2 ((n + 1 : Nat) : Int)) 93 n s) 94 n a) 70 45 ((n + 1 : Nat) : Int)) := by
          unfold X11_thud stA sF
          rw [hc', bd_some, if_neg (by rw [if_neg c1]; decide), in_rg _ c0, bd_some, if_neg (by decide), e70 70 45 (by decide), n3, if_neg (by omega), if_pos (by show (0 : Int) ≤ (n : Int) ∧ (n : Int) < 10; omega), Int.toNat_natCast]
          dsimp only
          rw [sM_a (b := 70) (by decide), e70 70 45 (by decide), n3, if_pos (by show (0 : Int) ≤ (n : Int) ∧ (n : Int) < 10; omega), Int.toNat_natCast, sM_s, sM_a (a := 94) (b := 70) (by decide), sM_a (a := 93) (b := 70) (by decide), e70 70 45 (by decide), n3, iA_nat (by omega)]
        have hf : fw WU μ (sM (sM (sM (sM (sM (sM μ 68 n s) 69 n a) 67 2 ((n + 1 : Nat) : Int)) 93 n s) 94 n a) 70 45 ((n + 1 : Nat) : Int)) := fw_sM (fw_sM (fw_sM (fw_sM (fw_sM (fw_sM fw_rf (by unfold WU; omega)) (by unfold WU; omega)) (by unfold WU; omega)) (by unfold WU; omega)) (by unfold WU; omega)) (by unfold WU; omega)
        have hB2 : Bm (sM (sM (sM (sM (sM (sM μ 68 n s) 69 n a) 67 2 ((n + 1 : Nat) : Int)) 93 n s) 94 n a) 70 45 ((n + 1 : Nat) : Int)) := Bm_sM (Bm_sM (Bm_sM (Bm_lo (Bm_lo (Bm_lo hI.2.1.1 (by decide)) (by decide)) (by decide)) (show (0 : Int) ≤ s ∧ s ≤ 999 from c0) ) (show (0 : Int) ≤ a ∧ a ≤ 7 from ha7)) (show (0 : Int) ≤ ((n + 1 : Nat) : Int) ∧ ((n + 1 : Nat) : Int) ≤ 10 by omega)
        refine ⟨_, _, _, e1, e2, Inv_W hI (Bx_congr (Bx_t t1 e1) (fun k j hk => by rw [sM_a (by omega), sM_a (by omega), sM_a (by omega)])) (Ir_congr hI.2.1 hB2 (fun k j h => hf k j (by unfold perI at h; unfold WU; omega))) hf (Or.inl ?_) (Or.inl ?_) (Or.inl ?_) (Or.inl ?_) (Or.inl ?_) (Or.inl ?_) (Or.inr ?_)⟩
        · intro k j h; unfold kT at h; unfold WU; omega
        · intro k j h; unfold kP at h; unfold WU; omega
        · intro k j h; unfold kLw at h; unfold WU; omega
        · intro k j h; unfold kCl at h; unfold WU; omega
        · intro k j h; unfold kH at h; unfold WU; omega
        · intro k j h; unfold kI at h; unfold WU; omega
        · refine ⟨n + 1, by omega, ?_, ?_, fun j hj => ?_⟩
          · rw [sM_a (by decide), sM_a (by decide), sM_a (by decide), sM_s]
          · rw [sM_s]
          · have g68 : sM (sM (sM (sM (sM (sM μ 68 n s) 69 n a) 67 2 ((n + 1 : Nat) : Int)) 93 n s) 94 n a) 70 45 ((n + 1 : Nat) : Int) 68 j = if j = n then s else μ 68 j := by
              rw [sM_a (by decide), sM_a (by decide), sM_a (by decide), sM_a (by decide), sM_a (by decide), sM_if]
            have g69 : sM (sM (sM (sM (sM (sM μ 68 n s) 69 n a) 67 2 ((n + 1 : Nat) : Int)) 93 n s) 94 n a) 70 45 ((n + 1 : Nat) : Int) 69 j = if j = n then a else μ 69 j := by
              rw [sM_a (by decide), sM_a (by decide), sM_a (by decide), sM_a (by decide), sM_if, sM_a (by decide)]
            have g93 : sM (sM (sM (sM (sM (sM μ 68 n s) 69 n a) 67 2 ((n + 1 : Nat) : Int)) 93 n s) 94 n a) 70 45 ((n + 1 : Nat) : Int) 93 j = if j = n then s else μ 93 j := by
              rw [sM_a (by decide), sM_a (by decide), sM_if, e70 93 j (by decide)]
            have g94 : sM (sM (sM (sM (sM (sM μ 68 n s) 69 n a) 67 2 ((n + 1 : Nat) : Int)) 93 n s) 94 n a) 70 45 ((n + 1 : Nat) : Int) 94 j = if j = n then a else μ 94 j := by
              rw [sM_a (by decide), sM_if, sM_a (by decide), e70 94 j (by decide)]
            rw [g68, g69, g93, g94]
            by_cases c : j = n
            · rw [if_pos c, if_pos c, if_pos c, if_pos c]; exact ⟨rfl, rfl⟩
            · rw [if_neg c, if_neg c, if_neg c, if_neg c]; exact n4 j (by omega)
  · have e1 : X10_thud s a μ = some (-1, μ) := by
      unfold X10_thud
      by_cases c : s < 0
      · rw [if_pos c]
      · rw [if_neg c, if_pos (by omega)]
    have e2 : X11_thud s a μ = some (-1, μ) := by
      unfold X11_thud
      rw [hc, bd_some]
      by_cases c1 : w = -1
      · rw [if_pos (by rw [if_pos c1])]
      · rw [if_neg (by rw [if_neg c1]; decide), in_no _ c0, bd_some, if_pos rfl]
    exact ⟨_, _, _, e1, e2, hI⟩
/-! two CRANKS exchanged by hand -/
theorem isX_i {x : Int} (h : x ≠ -1) : isX x = true := by unfold isX; exact decide_eq_true h
theorem is1_n {x : Int} (h : x ≠ 1) : is1 x = false := by unfold is1; exact decide_eq_false h
theorem Kc_swap {μ ν : Mm} (hK : Kc μ 5 82 86 30 31) {A B p q : Nat} (hA : A < 8) (hB : B < 8) (hAB : A ≠ B) (hp : p < 60) (hq : q < 60) (hpq : p ≠ q) (ip : isP μ p) (iq : isP μ q) (ep : μ 82 p = 3 + ((A : Nat) : Int)) (eq : μ 82 q = 3 + ((B : Nat) : Int)) (e7A : μ 7 A = (p : Int)) (e7B : μ 7 B = (q : Int)) (f7 : ∀ j, ν 7 j = if j = B then (p : Int) else if j = A then (q : Int) else μ 7 j) (f6 : ∀ j, ν 6 j = if j = p then 3 + ((B : Nat) : Int) else if j = q then 3 + ((A : Nat) : Int) else μ 6 j) (f82 : ∀ j, ν 82 j = if j = q then 3 + ((A : Nat) : Int) else if j = p then 3 + ((B : Nat) : Int) else μ 82 j) (fo : ∀ k j, k ≠ 6 → k ≠ 7 → k ≠ 82 → ν k j = μ k j) : Kc ν 5 82 86 30 31 := by
  obtain ⟨h1, h2, h3, h4, h5, h6, h7, h8, h9, h10⟩ := hK
  have i : ∀ q, isP ν q ↔ isP μ q := isP_congr (fo 70 23 (by decide) (by decide) (by decide)) (fo 70 24 (by decide) (by decide) (by decide))
  have m6p : μ 6 p = 3 + ((A : Nat) : Int) := ((h1 p hp).1 ip).trans ep
  have m6q : μ 6 q = 3 + ((B : Nat) : Int) := ((h1 q hq).1 iq).trans eq
  refine ⟨fun s hs => ?_, fun s hs => ?_, fun d hd s hs => ?_, fun d hd => ?_, ?_, ?_, ?_, ?_, ?_, fun z d hd => ?_⟩
  · show (isP ν s → ν 6 s = ν 82 s) ∧ (¬ isP ν s → ν 6 s = -1)
    rw [i s, f6, f82]
    by_cases c : s = p
    · rw [if_pos c, if_neg (fun e => hpq (c.symm.trans e)), if_pos c]
      exact ⟨fun _ => rfl, fun n => absurd (by rw [c]; exact ip) n⟩
    · rw [if_neg c, if_neg c]
      by_cases c2 : s = q
      · rw [if_pos c2, if_pos c2]
        exact ⟨fun _ => rfl, fun n => absurd (by rw [c2]; exact iq) n⟩
      · rw [if_neg c2, if_neg c2]; exact h1 s hs
  · rw [i s, f82, fo 5 3 (by decide) (by decide) (by decide)]
    by_cases c2 : s = q
    · rw [if_pos c2]
      refine ⟨fun z => absurd z.2 (by omega), fun z => ?_⟩
      have := ((h2 s hs).mpr z).2
      rw [c2, eq] at this
      exact absurd this (by omega)
    · rw [if_neg c2]
      by_cases c : s = p
      · rw [if_pos c]
        refine ⟨fun z => absurd z.2 (by omega), fun z => ?_⟩
        have := ((h2 s hs).mpr z).2
        rw [c, ep] at this
        exact absurd this (by omega)
      · rw [if_neg c]; exact h2 s hs
  · show (isP ν s ∧ ν 82 s = 3 + ((d : Nat) : Int)) ↔ ν 7 d = ((s : Nat) : Int)
    have k3 : (isP μ s ∧ μ 82 s = 3 + ((d : Nat) : Int)) ↔ μ 7 d = ((s : Nat) : Int) := h3 d hd s hs
    rw [i s, f82, f7]
    by_cases c2 : s = q
    · rw [if_pos c2]
      by_cases d1 : d = B
      · rw [if_pos d1]
        exact ⟨fun z => absurd z.2 (by omega), fun z => absurd z (by omega)⟩
      · rw [if_neg d1]
        by_cases d2 : d = A
        · rw [if_pos d2, c2, d2]
          exact ⟨fun _ => rfl, fun _ => ⟨iq, rfl⟩⟩
        · rw [if_neg d2]
          refine ⟨fun z => absurd z.2 (by omega), fun z => ?_⟩
          have := (k3.mpr z).2
          rw [c2, eq] at this
          exact absurd this (by omega)
    · rw [if_neg c2]
      by_cases c : s = p
      · rw [if_pos c]
        by_cases d1 : d = B
        · rw [if_pos d1, c, d1]
          exact ⟨fun _ => rfl, fun _ => ⟨ip, rfl⟩⟩
        · rw [if_neg d1]
          by_cases d2 : d = A
          · rw [if_pos d2]
            exact ⟨fun z => absurd z.2 (by omega), fun z => absurd z (by omega)⟩
          · rw [if_neg d2]
            refine ⟨fun z => absurd z.2 (by omega), fun z => ?_⟩
            have := (k3.mpr z).2
            rw [c, ep] at this
            exact absurd this (by omega)
      · rw [if_neg c]
        by_cases d1 : d = B
        · rw [if_pos d1]
          refine ⟨fun z => ?_, fun z => absurd z (by omega)⟩
          have := k3.mp z
          rw [d1, e7B] at this
          exact absurd this (by omega)
        · rw [if_neg d1]
          by_cases d2 : d = A
          · rw [if_pos d2]
            refine ⟨fun z => ?_, fun z => absurd z (by omega)⟩
            have := k3.mp z
            rw [d2, e7A] at this
            exact absurd this (by omega)
          · rw [if_neg d2]; exact k3
  · show -1 ≤ ν 7 d ∧ ν 7 d ≤ 59
    have := h4 d hd
    have : -1 ≤ μ 7 d ∧ μ 7 d ≤ 59 := this
    rw [f7]
    by_cases d1 : d = B
    · rw [if_pos d1]; omega
    · rw [if_neg d1]
      by_cases d2 : d = A
      · rw [if_pos d2]; omega
      · rw [if_neg d2]; exact this
  · rw [fo 5 4 (by decide) (by decide) (by decide), fo 70 23 (by decide) (by decide) (by decide)]; exact h5
  · rw [fo 5 5 (by decide) (by decide) (by decide), h6]
    refine cnt_P 8 (fun j _ => ?_)
    show isX (μ 7 j) = isX (ν 7 j)
    rw [f7]
    by_cases d1 : j = B
    · rw [if_pos d1, d1, e7B, isX_i (by omega), isX_i (by omega)]
    · rw [if_neg d1]
      by_cases d2 : j = A
      · rw [if_pos d2, d2, e7A, isX_i (by omega), isX_i (by omega)]
      · rw [if_neg d2]
  · rw [fo 5 6 (by decide) (by decide) (by decide), h7]
    refine cnt_P 60 (fun j _ => ?_)
    show is1 (μ 6 j) = is1 (ν 6 j)
    rw [f6]
    by_cases c : j = p
    · rw [if_pos c, c, m6p, is1_n (by omega), is1_n (by omega)]
    · rw [if_neg c]
      by_cases c2 : j = q
      · rw [if_pos c2, c2, m6q, is1_n (by omega), is1_n (by omega)]
      · rw [if_neg c2]
  · rw [fo 5 7 (by decide) (by decide) (by decide), fo 70 30 (by decide) (by decide) (by decide)]; exact h8
  · rw [fo 5 8 (by decide) (by decide) (by decide), fo 70 31 (by decide) (by decide) (by decide)]; exact h9
  · show ν 8 d = ν 86 d
    rw [fo 8 d (by decide) (by decide) (by decide), fo 86 d (by decide) (by decide) (by decide)]; rw [fo 70 23 (by decide) (by decide) (by decide)] at z; exact h10 z d hd
theorem m_swap : ∀ a0, rI a0 → ∀ a1, rI a1 → sI Inv Inv (X10_swap a0 a1) (X11_swap a0 a1) := by
  intro a ha b hb μ hI
  have t1 := t_X10_swap (W := W70) (μs := μ) scr_70 (fun k j h => h) (hp_l1 := ha) (hp_l2 := hb) (St_rf hI.1)
  obtain ⟨w, e0, hw⟩ := crk hI ha
  obtain ⟨w2, e02, hw2⟩ := crk hI hb
  have hc := crk_m (μ := μ) (ν := μ) (fun k j _ => rfl) ha hw
  have hc2 := crk_m (μ := μ) (ν := μ) (fun k j _ => rfl) hb hw2
  by_cases c1 : w = -1
  · have e1 : X10_swap a b μ = some (0, μ) := by
      unfold X10_swap X0_exchangeCranks
      rw [e0, bd_some, e02, bd_some, if_pos c1, bd_some, rZ_b (Or.inl rfl)]
    have e2 : X11_swap a b μ = some (0, μ) := by
      unfold X11_swap
      rw [hc, bd_some, if_pos (by rw [if_pos c1])]
    exact ⟨_, _, _, e1, e2, hI⟩
  · by_cases c2 : w2 = -1
    · have e1 : X10_swap a b μ = some (0, μ) := by
        unfold X10_swap X0_exchangeCranks
        rw [e0, bd_some, e02, bd_some, if_neg c1, if_pos c2, bd_some, rZ_b (Or.inl rfl)]
      have e2 : X11_swap a b μ = some (0, μ) := by
        unfold X11_swap
        rw [hc, bd_some, if_neg (by rw [if_neg c1]; decide), hc2, bd_some, if_pos (by rw [if_pos c2])]
      exact ⟨_, _, _, e1, e2, hI⟩
    · by_cases c3 : a = b
      · have e1 : X10_swap a b μ = some (0, μ) := by
          unfold X10_swap X0_exchangeCranks
          rw [e0, bd_some, e02, bd_some, if_neg c1, if_neg c2, if_pos c3, bd_some, rZ_b (Or.inl rfl)]
        have e2 : X11_swap a b μ = some (0, μ) := by
          unfold X11_swap
          rw [hc, bd_some, if_neg (by rw [if_neg c1]; decide), hc2, bd_some, if_neg (by rw [if_neg c2]; decide), if_pos c3]
        exact ⟨_, _, _, e1, e2, hI⟩
      · rcases hw with ⟨h, _⟩ | ⟨ha0, ha7, p, hp, ip, ep, ew, e7⟩
        · exact absurd h c1
        rcases hw2 with ⟨h, _⟩ | ⟨hb0, hb7, q, hq, iq, eq, ew2, e72⟩
        · exact absurd h c2
        obtain ⟨A, rfl⟩ : ∃ A : Nat, a = (A : Int) := ⟨a.toNat, by omega⟩
        obtain ⟨B, rfl⟩ : ∃ B : Nat, b = (B : Int) := ⟨b.toNat, by omega⟩
        rw [Int.toNat_natCast] at e7 e72
        have hpq : p ≠ q := fun e => by
          rw [e, eq] at ep
          omega
        have e1 : X10_swap (A : Int) (B : Int) μ = some (1, sM (sM (sM (sM μ 7 A (q : Int)) 7 B (p : Int)) 6 q (3 + (A : Int))) 6 p (3 + (B : Int))) := by
          unfold X10_swap X0_exchangeCranks
          rw [e0, bd_some, e02, bd_some, if_neg c1, if_neg c2, if_neg c3, ew, ew2, iA_id (a := 3) (b := (A : Int)) (by omega) (by omega), iA_id (a := 3) (b := (B : Int)) (by omega) (by omega)]
          unfold stA
          rw [if_pos (by show (0 : Int) ≤ (A : Int) ∧ (A : Int) < 8; omega)]
          dsimp only
          rw [if_pos (by show (0 : Int) ≤ (B : Int) ∧ (B : Int) < 8; omega), if_pos (by show (0 : Int) ≤ (q : Int) ∧ (q : Int) < 60; omega), if_pos (by show (0 : Int) ≤ (p : Int) ∧ (p : Int) < 60; omega), Int.toNat_natCast, Int.toNat_natCast, Int.toNat_natCast, Int.toNat_natCast, bd_some, rZ_b (Or.inr rfl)]
        have e70 : ∀ k j, 70 ≤ k → sM (sM (sM (sM μ 7 A (q : Int)) 7 B (p : Int)) 6 q (3 + (A : Int))) 6 p (3 + (B : Int)) k j = μ k j := fun k j hk => by rw [sM_a (by omega), sM_a (by omega), sM_a (by omega), sM_a (by omega)]
        have hIr1 : Ir (sM (sM (sM (sM μ 7 A (q : Int)) 7 B (p : Int)) 6 q (3 + (A : Int))) 6 p (3 + (B : Int))) := Ir_lo (Ir_lo (Ir_lo (Ir_lo hI.2.1 (by decide)) (by decide)) (by decide)) (by decide)
        have hd := crk_m (μ := μ) e70 ha (Or.inr ⟨ha0, ha7, p, hp, ip, ep, ew, by rw [Int.toNat_natCast]; exact e7⟩)
        have hd2 := crk_m (μ := μ) e70 hb (Or.inr ⟨hb0, hb7, q, hq, iq, eq, ew2, by rw [Int.toNat_natCast]; exact e72⟩)
        have j : ∀ s, isP (sM (sM (sM (sM μ 7 A (q : Int)) 7 B (p : Int)) 6 q (3 + (A : Int))) 6 p (3 + (B : Int))) s ↔ isP μ s := isP_congr (e70 70 23 (by decide)) (e70 70 24 (by decide))
        have ep' : sM (sM (sM (sM μ 7 A (q : Int)) 7 B (p : Int)) 6 q (3 + (A : Int))) 6 p (3 + (B : Int)) 82 p = 3 + (A : Int) := (e70 82 p (by decide)).trans ep
        have eq' : sM (sM (sM (sM μ 7 A (q : Int)) 7 B (p : Int)) 6 q (3 + (A : Int))) 6 p (3 + (B : Int)) 82 q = 3 + (B : Int) := (e70 82 q (by decide)).trans eq
        have hch := chg_eq hIr1.2.2.2.2.2.2.1 (a := (A : Int)) (b := (B : Int)) ⟨ha0, ha7⟩ ⟨hb0, hb7⟩ hp ((j p).mpr ip) ep' hq ((j q).mpr iq) eq'
        have e2 : X11_swap (A : Int) (B : Int) (sM (sM (sM (sM μ 7 A (q : Int)) 7 B (p : Int)) 6 q (3 + (A : Int))) 6 p (3 + (B : Int))) = some (1, sM (sM (sM (sM (sM (sM μ 7 A (q : Int)) 7 B (p : Int)) 6 q (3 + (A : Int))) 6 p (3 + (B : Int))) 82 p (3 + (B : Int))) 82 q (3 + (A : Int))) := by
          unfold X11_swap
          rw [hd, bd_some, if_neg (by rw [if_neg c1]; decide), hd2, bd_some, if_neg (by rw [if_neg c2]; decide), if_neg c3, hch, bd_some]
        have hIr := Ir_chg hIr1 hp ((j p).mpr ip) hq ((j q).mpr iq) hpq (by rw [ep']; omega) (by rw [eq']; omega)
        rw [ep', eq'] at hIr
        refine ⟨_, _, _, e1, e2, Inv_C hI (Bx_congr (Bx_t t1 e1) (fun k j hk => by rw [sM_a (by omega), sM_a (by omega)])) hIr (fw_sM (fw_sM (fw_sM (fw_sM (fw_sM (fw_sM fw_rf (by unfold WC; omega)) (by unfold WC; omega)) (by unfold WC; omega)) (by unfold WC; omega)) (by unfold WC; omega)) (by unfold WC; omega)) ?_⟩
        refine Kc_swap hI.2.2.2.2.2.1 (A := A) (B := B) (p := p) (q := q) (by omega) (by omega) (fun e => c3 (by rw [e])) hp hq hpq ip iq ep eq e7 e72 (fun j => ?_) (fun j => ?_) (fun j => ?_) (fun k j g1 g2 g3 => ?_)
        · rw [sM_a (by decide), sM_a (by decide), sM_a (by decide), sM_a (by decide), sM_if, sM_if]
        · rw [sM_a (by decide), sM_a (by decide), sM_if, sM_if, sM_a (by decide), sM_a (by decide)]
        · rw [sM_if, sM_if, e70 82 j (by decide)]
        · rw [sM_a g3, sM_a g3, sM_a g1, sM_a g1, sM_a g2, sM_a g2]
/-! an IMAGE, and BACK to it -/
theorem cA_o {μ : Mm} {a b : Nat} {n : Int} {k : Nat} (h : k ≠ b) (j : Nat) : cA_ μ a b n k j = μ k j := by
  unfold cA_; rw [if_neg (fun c => h c.1)]
theorem cA_i {μ : Mm} {a b : Nat} {n : Int} {j : Nat} (h : (j : Int) < n) : cA_ μ a b n b j = μ a j := by
  unfold cA_; rw [if_pos ⟨rfl, h⟩]
theorem cA_e {μ : Mm} {a b : Nat} {n : Int} {j : Nat} (h : ¬ (j : Int) < n) : cA_ μ a b n b j = μ b j := by
  unfold cA_; rw [if_neg (fun c => h c.2)]
theorem cA_0 (μ : Mm) (a b : Nat) : cA_ μ a b 0 = μ := by
  funext k j
  unfold cA_
  rw [if_neg (by omega)]
theorem cA_s {μ : Mm} {a b i : Nat} (h : a ≠ b) : sM (cA_ μ a b (i : Int)) b i (cA_ μ a b (i : Int) a i) = cA_ μ a b ((i + 1 : Nat) : Int) := by
  funext k j
  rw [cA_o h]
  unfold sM cA_
  by_cases c1 : k = b
  · by_cases c2 : j = i
    · rw [if_pos ⟨c1, c2⟩, if_pos ⟨c1, by omega⟩, c2]
    · rw [if_neg (fun z => c2 z.2)]
      by_cases c3 : j < i
      · rw [if_pos ⟨c1, by omega⟩, if_pos ⟨c1, by omega⟩]
      · rw [if_neg (by omega), if_neg (by omega)]
  · rw [if_neg (fun z => c1 z.1), if_neg (fun z => c1 z.1), if_neg (fun z => c1 z.1)]
/-- a loop that copies one array into another -/
theorem cp_L {a b N : Nat} {K : Mm → Rs} {L : Nat → Int → Mm → Rs} (hab : a ≠ b) (ha : N ≤ aN a) (hb : N ≤ aN b) (hN : N ≤ 1000) (hL : ∀ n l μ, L (n + 1) l μ = if (N : Int) ≤ l then K μ else (ldA μ a l fun v => stA μ b l v fun μ' => L n (iA l 1) μ')) (μ : Mm) : ∀ (d i fuel : Nat), i + d = N → d < fuel → L fuel (i : Int) (cA_ μ a b (i : Int)) = K (cA_ μ a b (N : Int)) := by
  intro d
  induction d with
  | zero =>
    intro i fuel hi hf
    obtain ⟨f, rfl, _⟩ := lt_fuel hf
    rw [hL, if_pos (by omega)]
    have : i = N := by omega
    rw [this]
  | succ d ih =>
    intro i fuel hi hf
    obtain ⟨f, rfl, _⟩ := lt_fuel hf
    rw [hL, if_neg (by omega)]
    unfold ldA stA
    rw [if_pos (by omega)]
    dsimp only
    rw [if_pos (by omega), Int.toNat_natCast, cA_s hab, iA_nat (by omega)]
    exact ih (i + 1) f (by omega) (by omega)
theorem img60 (K : Mm → Rs) (μ : Mm) : X11_image_L11 K FU 0 μ = K (cA_ μ 82 96 60) := by
  have h := cp_L (a := 82) (b := 96) (N := 60) (K := K) (L := X11_image_L11 K) (by decide) (by decide) (by decide) (by decide) (fun n l μ => rfl) μ 60 0 FU rfl (by decide)
  have h0 : cA_ μ 82 96 ((0 : Nat) : Int) = μ := cA_0 μ 82 96
  rw [h0] at h
  exact h
theorem img8 (K : Mm → Rs) (μ : Mm) : X11_image_L37 K FU 0 μ = K (cA_ μ 86 97 8) := by
  have h := cp_L (a := 86) (b := 97) (N := 8) (K := K) (L := X11_image_L37 K) (by decide) (by decide) (by decide) (by decide) (fun n l μ => rfl) μ 8 0 FU rfl (by decide)
  have h0 : cA_ μ 86 97 ((0 : Nat) : Int) = μ := cA_0 μ 86 97
  rw [h0] at h
  exact h
theorem bck60 (K : Mm → Rs) (μ : Mm) : X11_back_L11 K FU 0 μ = K (cA_ μ 96 82 60) := by
  have h := cp_L (a := 96) (b := 82) (N := 60) (K := K) (L := X11_back_L11 K) (by decide) (by decide) (by decide) (by decide) (fun n l μ => rfl) μ 60 0 FU rfl (by decide)
  have h0 : cA_ μ 96 82 ((0 : Nat) : Int) = μ := cA_0 μ 96 82
  rw [h0] at h
  exact h
theorem bck8 (K : Mm → Rs) (μ : Mm) : X11_back_L37 K FU 0 μ = K (cA_ μ 97 86 8) := by
  have h := cp_L (a := 97) (b := 86) (N := 8) (K := K) (L := X11_back_L37 K) (by decide) (by decide) (by decide) (by decide) (fun n l μ => rfl) μ 8 0 FU rfl (by decide)
  have h0 : cA_ μ 97 86 ((0 : Nat) : Int) = μ := cA_0 μ 97 86
  rw [h0] at h
  exact h
/-- POSTS counted -/
theorem posts_L {μ : Mm} {f : Nat → Int} (h : ∀ p, p < 60 → (isP μ p → f p = μ 82 p) ∧ (¬ isP μ p → f p = -1)) : ∀ (d i fuel : Nat), i + d = 60 → d < fuel → X11_posts_L4 fuel (cnt is1 f i) (i : Int) μ = some (cnt is1 f 60, μ) := by
  intro d
  induction d with
  | zero =>
    intro i fuel hi hf
    obtain ⟨g, rfl, _⟩ := lt_fuel hf
    show (if 60 ≤ (i : Int) then _ else _) = _
    rw [if_pos (by omega)]
    have : i = 60 := by omega
    rw [this]
  | succ d ih =>
    intro i fuel hi hf
    obtain ⟨g, rfl, _⟩ := lt_fuel hf
    have hb := cnt_b (P := is1) (f := f) i
    have e0 : iA (cnt is1 f i) 0 = cnt is1 f i := by rw [iA_id (by omega) (by omega)]; omega
    have e1 : iA (cnt is1 f i) 1 = cnt is1 f i + 1 := iA_id (by omega) (by omega)
    have es : cnt is1 f (i + 1) = cnt is1 f i + (if is1 (f i) then 1 else 0) := rfl
    have hn := ih (i + 1) g (by omega) (by omega)
    rw [es] at hn
    show (if 60 ≤ (i : Int) then _ else _) = _
    rw [if_neg (by omega)]
    by_cases ip : isP μ i
    · rw [isPl_y (by omega) ip, bd_some, if_neg (by decide)]
      unfold ldA
      rw [if_pos (by show (0 : Int) ≤ (i : Int) ∧ (i : Int) < 60; omega), Int.toNat_natCast, iA_nat (by omega), e0, e1]
      have hf := (h i (by omega)).1 ip
      rw [hf] at hn
      dsimp only
      by_cases c : μ 82 i = 1
      · rw [if_pos c]
        rw [c, if_pos (by decide)] at hn
        exact hn
      · rw [if_neg c]
        rw [is1_n c, if_neg (by decide)] at hn
        have z : cnt is1 f i + 0 = cnt is1 f i := by omega
        rw [z] at hn
        exact hn
    · rw [isPl_n (by omega) ip, bd_some, if_pos rfl, e0, iA_nat (by omega)]
      have hf := (h i (by omega)).2 ip
      rw [hf, if_neg (by decide)] at hn
      have z : cnt is1 f i + 0 = cnt is1 f i := by omega
      rw [z] at hn
      exact hn
theorem posts_eq {μ : Mm} {f : Nat → Int} (h : ∀ p, p < 60 → (isP μ p → f p = μ 82 p) ∧ (¬ isP μ p → f p = -1)) : X11_posts μ = some (cnt is1 f 60, μ) :=
  posts_L h 60 0 FU rfl (by decide)
/-- a CELLAR of one place told in another -/
theorem Kc_mv {μ ν : Mm} {l0 A W s g l1 A1 W1 s1 g1 : Nat} (h : Kc μ l0 A W s g) (e0 : ∀ j, 3 ≤ j → j ≤ 8 → ν l1 j = μ l0 j) (e1 : ∀ j, j < 60 → ν (l1 + 1) j = μ (l0 + 1) j) (e2 : ∀ j, j < 8 → ν (l1 + 2) j = μ (l0 + 2) j) (e3 : ∀ j, j < 8 → ν (l1 + 3) j = μ (l0 + 3) j) (eA : ∀ j, j < 60 → ν A1 j = μ A j) (eW : ∀ j, j < 8 → ν W1 j = μ W j) (es : ν 70 s1 = μ 70 s) (eg : ν 70 g1 = μ 70 g) (e23 : ν 70 23 = μ 70 23) (e24 : ν 70 24 = μ 70 24) : Kc ν l1 A1 W1 s1 g1 := by
  obtain ⟨h1, h2, h3, h4, h5, h6, h7, h8, h9, h10⟩ := h
  have i : ∀ p, isP ν p ↔ isP μ p := isP_congr e23 e24
  refine ⟨fun p hp => ?_, fun p hp => ?_, fun c hc p hp => ?_, fun c hc => by rw [e2 c hc]; exact h4 c hc, by rw [e0 4 (by decide) (by decide), e23]; exact h5, ?_, ?_, by rw [e0 7 (by decide) (by decide), es]; exact h8, by rw [e0 8 (by decide) (by decide), eg]; exact h9, fun z c hc => by rw [e3 c hc, eW c hc]; rw [e23] at z; exact h10 z c hc⟩
  · rw [i p, e1 p hp, eA p hp]; exact h1 p hp
  · rw [i p, eA p hp, e0 3 (by decide) (by decide)]; exact h2 p hp
  · rw [i p, eA p hp, e2 c hc]; exact h3 c hc p hp
  · rw [e0 5 (by decide) (by decide), h6]; exact (cnt_congr 8 (fun j hj => e2 j hj)).symm
  · rw [e0 6 (by decide) (by decide), h7]; exact (cnt_congr 60 (fun j hj => e1 j hj)).symm
theorem Ir_img {μ ν : Mm} (hI : Ir μ) (hB : Bm ν) (e : ∀ k j, perI k j → k ≠ 96 → ¬ (k = 70 ∧ j = 53) → ν k j = μ k j) (hU : UQ ν 96) (hS : ∃ p, p < 60 ∧ isP ν p ∧ ν 96 p = 2) : Ir ν := by
  have s : ∀ j, (j = 13 ∨ j = 23 ∨ j = 24 ∨ j = 28 ∨ j = 32) → ν 70 j = μ 70 j := fun j hj => e 70 j (by unfold perI; omega) (by decide) (by omega)
  have e23 := s 23 (by decide)
  have e24 := s 24 (by decide)
  obtain ⟨_, h2, h3, h4, h5, h6, h7, h8⟩ := hI
  refine ⟨hB, fun p k hp hk => ?_, fun h => ?_, fun _ => hS, ?_, fun q hq1 hq2 => ?_, UQ_congr h7 e23 e24 (fun p => e 82 p (by unfold perI; omega) (by decide) (by omega)), fun _ => hU⟩
  · rw [s 28 (by decide)] at hp
    rw [e 85 p (by unfold perI; omega) (by decide) (by omega)] at hk
    rw [e 83 _ (by unfold perI; omega) (by decide) (by omega)]
    exact h2 p k hp hk
  · rw [e23] at h
    obtain ⟨p, hp, ip, hp2⟩ := h3 h
    exact ⟨p, hp, (isP_congr e23 e24 p).mpr ip, by rw [e 82 p (by unfold perI; omega) (by decide) (by omega)]; exact hp2⟩
  · rw [s 32 (by decide), s 13 (by decide)]; exact h5
  · rw [s 13 (by decide)] at hq2
    exact LawOK_congr (h6 q hq1 hq2) (agr_of q (fun k j h1 h2 => e k j (by unfold perI; omega) (by omega) (by omega)))
theorem UQ_mv {μ ν : Mm} {c d : Nat} (h : UQ μ c) (h1 : ν 70 23 = μ 70 23) (h2 : ν 70 24 = μ 70 24) (hc : ∀ p, p < 60 → ν d p = μ c p) : UQ ν d := by
  intro p q hp hq ip iq e2 e3
  rw [hc p hp, hc q hq] at e2
  rw [hc p hp] at e3
  exact h p q hp hq ((isP_congr h1 h2 p).mp ip) ((isP_congr h1 h2 q).mp iq) e2 e3
/-- the class's copy of a CELLAR -/
def cpC (l0 l1 : Nat) (μ : Mm) : Mm := sM (sM (sM (sM (sM (sM (cA_ (cA_ (cA_ μ (l1 + 1) (l0 + 1) 60) (l1 + 2) (l0 + 2) 8) (l1 + 3) (l0 + 3) 8) l0 3 (μ l1 3)) l0 4 (μ l1 4)) l0 5 (μ l1 5)) l0 6 (μ l1 6)) l0 7 (μ l1 7)) l0 8 (μ l1 8)
theorem cpC_eq (μ : Mm) : X0_copy 9 5 μ = some (0, cpC 9 5 μ) ∧ X0_copy 5 9 μ = some (0, cpC 5 9 μ) := by
  constructor
  · unfold X0_copy cpC cpA sF
    rw [if_pos (by decide)]
    dsimp only
    rw [if_pos (by decide)]
    rw [if_pos (by decide)]
    simp only [sM_a (show (5 : Nat) ≠ 9 by decide), cA_o (show (5 : Nat) ≠ 12 by decide), cA_o (show (5 : Nat) ≠ 11 by decide), cA_o (show (5 : Nat) ≠ 10 by decide)]
  · unfold X0_copy cpC cpA sF
    rw [if_pos (by decide)]
    dsimp only
    rw [if_pos (by decide)]
    rw [if_pos (by decide)]
    simp only [sM_a (show (9 : Nat) ≠ 5 by decide), cA_o (show (9 : Nat) ≠ 8 by decide), cA_o (show (9 : Nat) ≠ 7 by decide), cA_o (show (9 : Nat) ≠ 6 by decide)]
theorem cpC_o {l0 l1 : Nat} {μ : Mm} {k : Nat} (h : k < l0 ∨ l0 + 3 < k) (j : Nat) : cpC l0 l1 μ k j = μ k j := by
  unfold cpC
  rw [sM_a (by omega), sM_a (by omega), sM_a (by omega), sM_a (by omega), sM_a (by omega), sM_a (by omega), cA_o (by omega), cA_o (by omega), cA_o (by omega)]
theorem cpC_h {l0 l1 : Nat} {μ : Mm} (hl : l0 + 3 < l1 ∨ l1 + 3 < l0) : (∀ j, 3 ≤ j → j ≤ 8 → cpC l0 l1 μ l0 j = μ l1 j) ∧ (∀ j, j < 60 → cpC l0 l1 μ (l0 + 1) j = μ (l1 + 1) j) ∧ (∀ j, j < 8 → cpC l0 l1 μ (l0 + 2) j = μ (l1 + 2) j) ∧ (∀ j, j < 8 → cpC l0 l1 μ (l0 + 3) j = μ (l1 + 3) j) := by
  refine ⟨fun j h1 h2 => ?_, fun j h => ?_, fun j h => ?_, fun j h => ?_⟩
  · unfold cpC
    have hj : j = 3 ∨ j = 4 ∨ j = 5 ∨ j = 6 ∨ j = 7 ∨ j = 8 := by omega
    rcases hj with rfl | rfl | rfl | rfl | rfl | rfl
    · rw [sM_j (by decide), sM_j (by decide), sM_j (by decide), sM_j (by decide), sM_j (by decide), sM_s]
    · rw [sM_j (by decide), sM_j (by decide), sM_j (by decide), sM_j (by decide), sM_s]
    · rw [sM_j (by decide), sM_j (by decide), sM_j (by decide), sM_s]
    · rw [sM_j (by decide), sM_j (by decide), sM_s]
    · rw [sM_j (by decide), sM_s]
    · rw [sM_s]
  · unfold cpC
    rw [sM_a (by omega), sM_a (by omega), sM_a (by omega), sM_a (by omega), sM_a (by omega), sM_a (by omega), cA_o (by omega), cA_o (by omega), cA_i (by omega)]
  · unfold cpC
    rw [sM_a (by omega), sM_a (by omega), sM_a (by omega), sM_a (by omega), sM_a (by omega), sM_a (by omega), cA_o (by omega), cA_i (by omega), cA_o (by omega)]
  · unfold cpC
    rw [sM_a (by omega), sM_a (by omega), sM_a (by omega), sM_a (by omega), sM_a (by omega), sM_a (by omega), cA_i (by omega), cA_o (by omega), cA_o (by omega)]
def WI (k j : Nat) : Prop := (9 ≤ k ∧ k ≤ 12) ∨ k = 96 ∨ k = 97 ∨ (k = 70 ∧ (j = 51 ∨ j = 52 ∨ j = 53))
/-- the reference's IMAGE -/
def imM (μ : Mm) : Mm := sM (sM (sM (cA_ (cA_ μ 82 96 60) 86 97 8) 70 51 (μ 70 30)) 70 52 (μ 70 31)) 70 53 1
theorem imM_o {μ : Mm} {k j : Nat} (h : k ≠ 96) (h2 : k ≠ 97) (h3 : ¬ (k = 70 ∧ (j = 51 ∨ j = 52 ∨ j = 53))) : imM μ k j = μ k j := by
  unfold imM
  by_cases c : k = 70
  · subst c
    rw [sM_j (by omega), sM_j (by omega), sM_j (by omega), cA_o (by decide), cA_o (by decide)]
  · rw [sM_a c, sM_a c, sM_a c, cA_o h2, cA_o h]
theorem imM_h {μ : Mm} : imM μ 70 51 = μ 70 30 ∧ imM μ 70 52 = μ 70 31 ∧ imM μ 70 53 = 1 ∧ (∀ j, j < 60 → imM μ 96 j = μ 82 j) ∧ (∀ j, j < 8 → imM μ 97 j = μ 86 j) := by
  unfold imM
  refine ⟨?_, ?_, ?_, fun j h => ?_, fun j h => ?_⟩
  · rw [sM_j (by decide), sM_j (by decide), sM_s]
  · rw [sM_j (by decide), sM_s]
  · rw [sM_s]
  · rw [sM_a (by decide), sM_a (by decide), sM_a (by decide), cA_o (by decide), cA_i (by omega)]
  · rw [sM_a (by decide), sM_a (by decide), sM_a (by decide), cA_i (by omega), cA_o (by decide)]
theorem Bm_cA {μ : Mm} (h : Bm μ) {a b : Nat} {n : Int} (ha : 70 ≤ a) (hab : ∀ j, bm a j = bm b j) : Bm (cA_ μ a b n) := fun k j hk => by
  unfold cA_
  by_cases c : k = b ∧ (j : Int) < n
  · rw [if_pos c, c.1, ← hab]; exact h a j ha
  · rw [if_neg c]; exact h k j hk
theorem imM_B {μ : Mm} (h : Bm μ) : Bm (imM μ) := by
  unfold imM
  have h1 : Bm (cA_ (cA_ μ 82 96 60) 86 97 8) := Bm_cA (a := 86) (b := 97) (Bm_cA (a := 82) (b := 96) h (by decide) (fun j => rfl)) (by decide) (fun j => rfl)
  have h30 : 1 ≤ μ 70 30 ∧ μ 70 30 ≤ 9 := h 70 30 (by decide)
  exact Bm_sM (Bm_sM (Bm_sM h1 (show (0 : Int) ≤ μ 70 30 ∧ μ 70 30 ≤ 9 by omega)) (show (0 : Int) ≤ μ 70 31 ∧ μ 70 31 ≤ 99 from h 70 31 (by decide))) (show (0 : Int) ≤ 1 ∧ (1 : Int) ≤ 1 by decide)
theorem imM_eq {μ : Mm} (h0 : μ 70 23 ≠ 0) {r : Int} (hp : X11_posts (imM μ) = some (r, imM μ)) : X11_image μ = some (r, imM μ) := by
  unfold X11_image
  rw [if_neg h0, img60, img8]
  unfold sF sZ
  dsimp only
  rw [if_pos (Or.inr rfl)]
  have e : sM (sM (sM (cA_ (cA_ μ 82 96 60) 86 97 8) 70 51 (cA_ (cA_ μ 82 96 60) 86 97 8 70 30)) 70 52 (sM (cA_ (cA_ μ 82 96 60) 86 97 8) 70 51 (cA_ (cA_ μ 82 96 60) 86 97 8 70 30) 70 31)) 70 53 1 = imM μ := by
    unfold imM
    rw [sM_j (by decide), cA_o (by decide), cA_o (by decide), cA_o (by decide), cA_o (by decide)]
  rw [e, hp, bd_some]
theorem m_image : sI Inv Inv X10_image X11_image := by
  intro μ hI
  have t1 := t_X10_image (W := W70) (μs := μ) scr_70 (fun k j h => h) (St_rf hI.1)
  have hs := stands_5 hI
  by_cases c : μ 70 23 = 0
  · rw [if_pos c] at hs
    have e1 : X10_image μ = some (-1, μ) := by
      unfold X10_image
      rw [hs, bd_some, if_pos rfl]
    have e2 : X11_image μ = some (-1, μ) := by
      unfold X11_image
      rw [if_pos c]
    exact ⟨_, _, _, e1, e2, hI⟩
  · rw [if_neg c] at hs
    have hK := hI.2.2.2.2.2.1
    have e1 : X10_image μ = some (μ 5 6, cpC 9 5 μ) := by
      unfold X10_image
      rw [hs, bd_some, if_neg (by decide), (cpC_eq μ).1, bd_some, cpC_o (by decide)]
    have o1 : ∀ k j, k < 9 ∨ 12 < k → cpC 9 5 μ k j = μ k j := fun k j h => cpC_o (by omega) j
    have hc := cpC_h (μ := μ) (l0 := 9) (l1 := 5) (by decide)
    have o2 : ∀ k j, ¬ WI k j → imM (cpC 9 5 μ) k j = μ k j := fun k j h => by
      unfold WI at h
      rw [imM_o (by omega) (by omega) (by omega), o1 k j (by omega)]
    have i2 : ∀ p, isP (imM (cpC 9 5 μ)) p ↔ isP μ p := isP_congr (o2 70 23 (by unfold WI; omega)) (o2 70 24 (by unfold WI; omega))
    have hp : X11_posts (imM (cpC 9 5 μ)) = some (cnt is1 (μ 6) 60, imM (cpC 9 5 μ)) := posts_eq (fun p hp => by
      rw [i2 p, o2 82 p (by unfold WI; omega)]
      exact hK.1 p hp)
    have e2 := imM_eq (μ := cpC 9 5 μ) (by rw [o1 70 23 (by decide)]; exact c) hp
    have h6 : μ 5 6 = cnt is1 (μ 6) 60 := hK.2.2.2.2.2.2.1
    rw [← h6] at e2
    have hh := imM_h (μ := cpC 9 5 μ)
    have hM1 : Bm (cpC 9 5 μ) := fun k j hk => by rw [o1 k j (by omega)]; exact hI.2.1.1 k j hk
    have hM2 := imM_B hM1
    have e96 : ∀ j, j < 60 → imM (cpC 9 5 μ) 96 j = μ 82 j := fun j hj => by rw [hh.2.2.2.1 j hj, o1 82 j (by decide)]
    have e97 : ∀ j, j < 8 → imM (cpC 9 5 μ) 97 j = μ 86 j := fun j hj => by rw [hh.2.2.2.2 j hj, o1 86 j (by decide)]
    have f23 := o2 70 23 (by unfold WI; omega)
    have f24 := o2 70 24 (by unfold WI; omega)
    have hIr : Ir (imM (cpC 9 5 μ)) := Ir_img hI.2.1 hM2 (fun k j h h2 h3 => o2 k j (by unfold perI at h; unfold WI; omega)) (UQ_mv hI.2.1.2.2.2.2.2.2.1 f23 f24 e96) (by
      obtain ⟨p, hp, ip, hp2⟩ := hI.2.1.2.2.1 c
      exact ⟨p, hp, (i2 p).mpr ip, by rw [e96 p hp]; exact hp2⟩)
    have o9 : ∀ k j, 9 ≤ k → k ≤ 12 → imM (cpC 9 5 μ) k j = cpC 9 5 μ k j := fun k j h1 h2 => imM_o (by omega) (by omega) (by omega)
    have hIm : Im (imM (cpC 9 5 μ)) := by
      have h94 : imM (cpC 9 5 μ) 9 4 = μ 5 4 := by rw [o9 9 4 (by decide) (by decide)]; exact hc.1 4 (by decide) (by decide)
      have h54 : imM (cpC 9 5 μ) 5 4 = μ 5 4 := o2 5 4 (by unfold WI; omega)
      have h4 : ¬ μ 5 4 ≤ 0 := fun z => c (hK.2.2.2.2.1.mp z)
      refine ⟨?_, fun _ => ⟨?_, by rw [h94, h54]⟩⟩
      · rw [h94, hh.2.2.1]
        exact ⟨fun z => absurd z h4, fun z => absurd z (by decide)⟩
      · refine Kc_mv hK (fun j h1 h2 => ?_) (fun j h => ?_) (fun j h => ?_) (fun j h => ?_) e96 e97 ?_ ?_ f23 f24
        · rw [o9 9 j (by decide) (by decide)]; exact hc.1 j h1 h2
        · rw [o9 10 j (by decide) (by decide)]; exact hc.2.1 j h
        · rw [o9 11 j (by decide) (by decide)]; exact hc.2.2.1 j h
        · rw [o9 12 j (by decide) (by decide)]; exact hc.2.2.2 j h
        · rw [hh.1, o1 70 30 (by decide)]
        · rw [hh.2.1, o1 70 31 (by decide)]
    refine ⟨_, _, _, e1, e2, Inv_W hI (Bx_congr (Bx_t t1 e1) (fun k j hk => imM_o (by omega) (by omega) (by omega))) hIr o2 (Or.inl ?_) (Or.inl ?_) (Or.inl ?_) (Or.inl ?_) (Or.inl ?_) (Or.inr hIm) (Or.inl ?_)⟩
    · intro k j h; unfold kT at h; unfold WI; omega
    · intro k j h; unfold kP at h; unfold WI; omega
    · intro k j h; unfold kLw at h; unfold WI; omega
    · intro k j h; unfold kCl at h; unfold WI; omega
    · intro k j h; unfold kH at h; unfold WI; omega
    · intro k j h; unfold kU at h; unfold WI; omega
/-- the reference's way BACK -/
def bkM (μ : Mm) : Mm := sM (sM (cA_ (cA_ μ 96 82 60) 97 86 8) 70 30 (μ 70 51)) 70 31 (μ 70 52)
def WB (k j : Nat) : Prop := (5 ≤ k ∧ k ≤ 8) ∨ k = 82 ∨ k = 86 ∨ (k = 70 ∧ (j = 30 ∨ j = 31))
theorem bkM_o {μ : Mm} {k j : Nat} (h : k ≠ 82) (h2 : k ≠ 86) (h3 : ¬ (k = 70 ∧ (j = 30 ∨ j = 31))) : bkM μ k j = μ k j := by
  unfold bkM
  by_cases c : k = 70
  · subst c
    rw [sM_j (by omega), sM_j (by omega), cA_o (by decide), cA_o (by decide)]
  · rw [sM_a c, sM_a c, cA_o h2, cA_o h]
theorem bkM_h {μ : Mm} : bkM μ 70 30 = μ 70 51 ∧ bkM μ 70 31 = μ 70 52 ∧ (∀ j, j < 60 → bkM μ 82 j = μ 96 j) ∧ (∀ j, j < 8 → bkM μ 86 j = μ 97 j) := by
  unfold bkM
  refine ⟨?_, ?_, fun j h => ?_, fun j h => ?_⟩
  · rw [sM_j (by decide), sM_s]
  · rw [sM_s]
  · rw [sM_a (by decide), sM_a (by decide), cA_o (by decide), cA_i (by omega)]
  · rw [sM_a (by decide), sM_a (by decide), cA_i (by omega), cA_o (by decide)]
theorem bkM_B {μ : Mm} (h : Bm μ) (h51 : 1 ≤ μ 70 51 ∧ μ 70 51 ≤ 9) : Bm (bkM μ) := by
  unfold bkM
  have h1 : Bm (cA_ (cA_ μ 96 82 60) 97 86 8) := Bm_cA (a := 97) (b := 86) (Bm_cA (a := 96) (b := 82) h (by decide) (fun j => rfl)) (by decide) (fun j => rfl)
  exact Bm_sM (Bm_sM h1 (show (1 : Int) ≤ μ 70 51 ∧ μ 70 51 ≤ 9 from h51)) (show (0 : Int) ≤ μ 70 52 ∧ μ 70 52 ≤ 99 from h 70 52 (by decide))
theorem bkM_eq {μ : Mm} (h0 : μ 70 53 ≠ 0) {r : Int} (hp : X11_posts (bkM μ) = some (r, bkM μ)) : X11_back μ = some (r, bkM μ) := by
  unfold X11_back
  rw [if_neg h0, bck60, bck8]
  unfold sF
  have e : sM (sM (cA_ (cA_ μ 96 82 60) 97 86 8) 70 30 (cA_ (cA_ μ 96 82 60) 97 86 8 70 51)) 70 31 (sM (cA_ (cA_ μ 96 82 60) 97 86 8) 70 30 (cA_ (cA_ μ 96 82 60) 97 86 8 70 51) 70 52) = bkM μ := by
    unfold bkM
    rw [sM_j (by decide), cA_o (by decide), cA_o (by decide), cA_o (by decide), cA_o (by decide)]
  dsimp only
  rw [e, hp, bd_some]
theorem m_back : sI Inv Inv X10_back X11_back := by
  intro μ hI
  have t1 := t_X10_back (W := W70) (μs := μ) scr_70 (fun k j h => h) (St_rf hI.1)
  have hm := hI.2.2.2.2.2.2.2.1
  by_cases c : μ 70 53 = 0
  · have e1 : X10_back μ = some (-1, μ) := by
      unfold X10_back X0_stands
      rw [if_pos (hm.1.mpr c), bd_some, if_pos rfl]
    have e2 : X11_back μ = some (-1, μ) := by
      unfold X11_back
      rw [if_pos c]
    exact ⟨_, _, _, e1, e2, hI⟩
  · obtain ⟨hK, h94⟩ := hm.2 c
    have hc := cpC_h (μ := μ) (l0 := 5) (l1 := 9) (by decide)
    have e1 : X10_back μ = some (μ 9 6, cpC 5 9 μ) := by
      unfold X10_back X0_stands
      rw [if_neg (fun z => c (hm.1.mp z)), bd_some, if_neg (by decide), (cpC_eq μ).2, bd_some, hc.1 6 (by decide) (by decide)]
    have o1 : ∀ k j, k < 5 ∨ 8 < k → cpC 5 9 μ k j = μ k j := fun k j h => cpC_o (by omega) j
    have o2 : ∀ k j, ¬ WB k j → bkM (cpC 5 9 μ) k j = μ k j := fun k j h => by
      unfold WB at h
      rw [bkM_o (by omega) (by omega) (by omega), o1 k j (by omega)]
    have f23 := o2 70 23 (by unfold WB; omega)
    have f24 := o2 70 24 (by unfold WB; omega)
    have i2 : ∀ p, isP (bkM (cpC 5 9 μ)) p ↔ isP μ p := isP_congr f23 f24
    have hh := bkM_h (μ := cpC 5 9 μ)
    have e82 : ∀ j, j < 60 → bkM (cpC 5 9 μ) 82 j = μ 96 j := fun j hj => by rw [hh.2.2.1 j hj, o1 96 j (by decide)]
    have e86 : ∀ j, j < 8 → bkM (cpC 5 9 μ) 86 j = μ 97 j := fun j hj => by rw [hh.2.2.2 j hj, o1 97 j (by decide)]
    have hp : X11_posts (bkM (cpC 5 9 μ)) = some (cnt is1 (μ 10) 60, bkM (cpC 5 9 μ)) := posts_eq (fun p hp => by
      rw [i2 p, e82 p hp]
      exact hK.1 p hp)
    have e2 := bkM_eq (μ := cpC 5 9 μ) (by rw [o1 70 53 (by decide)]; exact c) hp
    have h6 : μ 9 6 = cnt is1 (μ 10) 60 := hK.2.2.2.2.2.2.1
    rw [← h6] at e2
    have hM1 : Bm (cpC 5 9 μ) := fun k j hk => by rw [o1 k j (by omega)]; exact hI.2.1.1 k j hk
    have h97 : μ 9 7 = μ 70 51 := hK.2.2.2.2.2.2.2.1
    have hb97 : 1 ≤ μ 9 7 ∧ μ 9 7 ≤ 9 := hI.1.1 9 7 (by decide)
    have hM2 := bkM_B hM1 (by rw [o1 70 51 (by decide)]; omega)
    have hIr : Ir (bkM (cpC 5 9 μ)) := Ir_now hI.2.1 hM2 (fun k j h h2 => o2 k j (by unfold perI at h; unfold WB; omega)) (UQ_mv (hI.2.1.2.2.2.2.2.2.2 c) f23 f24 e82) (fun _ => by
      obtain ⟨p, hp, ip, hp2⟩ := hI.2.1.2.2.2.1 c
      exact ⟨p, hp, ip, by rw [e82 p hp]; exact hp2⟩)
    have o5 : ∀ k j, 5 ≤ k → k ≤ 8 → bkM (cpC 5 9 μ) k j = cpC 5 9 μ k j := fun k j h1 h2 => bkM_o (by omega) (by omega) (by omega)
    have h54 : bkM (cpC 5 9 μ) 5 4 = μ 5 4 := by rw [o5 5 4 (by decide) (by decide), hc.1 4 (by decide) (by decide), h94]
    have hKn : Kc (bkM (cpC 5 9 μ)) 5 82 86 30 31 := by
      refine Kc_mv hK (fun j h1 h2 => ?_) (fun j h => ?_) (fun j h => ?_) (fun j h => ?_) e82 e86 ?_ ?_ f23 f24
      · rw [o5 5 j (by decide) (by decide)]; exact hc.1 j h1 h2
      · rw [o5 6 j (by decide) (by decide)]; exact hc.2.1 j h
      · rw [o5 7 j (by decide) (by decide)]; exact hc.2.2.1 j h
      · rw [o5 8 j (by decide) (by decide)]; exact hc.2.2.2 j h
      · rw [hh.1, o1 70 51 (by decide)]
      · rw [hh.2.1, o1 70 52 (by decide)]
    have hIm : Im (bkM (cpC 5 9 μ)) := Im_congr hm (fun k j h1 h2 => o2 k j (by unfold WB; omega)) h54 (fun j => o2 96 j (by unfold WB; omega)) (fun j => o2 97 j (by unfold WB; omega)) (o2 70 51 (by unfold WB; omega)) (o2 70 52 (by unfold WB; omega)) (o2 70 53 (by unfold WB; omega)) f23 f24
    refine ⟨_, _, _, e1, e2, Inv_W hI (Bx_congr (Bx_t t1 e1) (fun k j hk => bkM_o (by omega) (by omega) (by omega))) hIr o2 (Or.inl ?_) (Or.inl ?_) (Or.inl ?_) (Or.inr hKn) (Or.inl ?_) (Or.inr hIm) (Or.inl ?_)⟩
    · intro k j h; unfold kT at h; unfold WB; omega
    · intro k j h; unfold kP at h; unfold WB; omega
    · intro k j h; unfold kLw at h; unfold WB; omega
    · intro k j h; unfold kH at h; unfold WB; omega
    · intro k j h; unfold kU at h; unfold WB; omega
/-! what a CELLAR that was read is like; what a PLAY that was read is like -/
def JS (dom : Nat → Prop) (σ : CS) : Prop := (∀ p, σ.1 p ≠ -1 ↔ dom p) ∧ (∀ p, dom p → p < 60) ∧ (∀ p, -1 ≤ σ.1 p ∧ σ.1 p ≤ 10) ∧ (∀ v : Nat, 2 ≤ v → v ≤ 10 → ∀ p : Nat, σ.1 p = (v : Int) ↔ σ.2.1 v = (p : Int)) ∧ (∀ v : Nat, 2 ≤ v → v ≤ 10 → -1 ≤ σ.2.1 v ∧ σ.2.1 v ≤ 59) ∧ σ.2.2.1 = cnt isX (fun c => σ.2.1 (3 + c)) 8 ∧ σ.2.2.2 = cnt is1 σ.1 60
theorem JS_iff {d d' : Nat → Prop} {σ : CS} (h : JS d σ) (e : ∀ p, d p ↔ d' p) : JS d' σ :=
  ⟨fun p => (h.1 p).trans (e p), fun p hp => h.2.1 p ((e p).mpr hp), h.2.2⟩
theorem cnt_c {P : Int → Bool} {c : Int} (h : P c = false) : ∀ n, cnt P (fun _ => c) n = 0 := by
  intro n
  induction n with
  | zero => rfl
  | succ n ih =>
    show cnt P (fun _ => c) n + (if P c then 1 else 0) = 0
    rw [ih, h, if_neg (by decide)]
    rfl
theorem JS_0 : JS (fun _ => False) σ0 :=
  ⟨fun p => ⟨fun h => absurd rfl h, fun h => h.elim⟩, fun p h => h.elim, fun p => (show (-1 : Int) ≤ -1 ∧ (-1 : Int) ≤ 10 by decide), fun v h1 h2 p => ⟨fun h => absurd (show (-1 : Int) = (v : Int) from h) (by omega), fun h => absurd (show (-1 : Int) = (p : Int) from h) (by omega)⟩, fun v _ _ => (show (-1 : Int) ≤ -1 ∧ (-1 : Int) ≤ 59 by decide), (cnt_c (by decide) 8).symm, (cnt_c (by decide) 60).symm⟩
theorem JS_u {dom : Nat → Prop} {σ : CS} (h : JS dom σ) {pl : Nat} {v : Int} (hn : ¬ dom pl) (hp : pl < 60) (hv : 0 ≤ v ∧ v ≤ 10) (hf : ¬ (2 ≤ v ∧ σ.2.1 v.toNat ≠ -1)) : JS (fun p => dom p ∨ p = pl) (ups σ pl v) := by
  obtain ⟨h1, h2, h3, h4, h5, h6, h7⟩ := h
  have hx : σ.1 pl = -1 := Classical.byContradiction (fun z => hn ((h1 pl).mp z))
  have e1 : ∀ j, (ups σ pl v).1 j = if j = pl then v else σ.1 j := fun j => rfl
  have e2 : ∀ j, (ups σ pl v).2.1 j = if 2 ≤ v ∧ j = v.toNat then (pl : Int) else σ.2.1 j := fun j => rfl
  refine ⟨fun p => ?_, fun p hd => ?_, fun p => ?_, fun w w1 w2 p => ?_, fun w w1 w2 => ?_, ?_, ?_⟩
  · rw [e1]
    by_cases c : p = pl
    · rw [if_pos c]; exact ⟨fun _ => Or.inr c, fun _ => by omega⟩
    · rw [if_neg c]
      exact ⟨fun z => Or.inl ((h1 p).mp z), fun z => z.elim (fun y => (h1 p).mpr y) (fun y => absurd y c)⟩
  · rcases hd with hd | hd
    · exact h2 p hd
    · omega
  · rw [e1]
    by_cases c : p = pl
    · rw [if_pos c]; omega
    · rw [if_neg c]; exact h3 p
  · rw [e1, e2]
    by_cases c2 : 2 ≤ v ∧ w = v.toNat
    · rw [if_pos c2]
      by_cases c : p = pl
      · rw [if_pos c, c]; exact ⟨fun _ => rfl, fun _ => by omega⟩
      · rw [if_neg c]
        refine ⟨fun z => ?_, fun z => absurd z (by omega)⟩
        have k := (h4 w w1 w2 p).mp z
        have k2 : σ.2.1 v.toNat = -1 := Classical.byContradiction (fun y => hf ⟨c2.1, y⟩)
        rw [c2.2, k2] at k
        omega
    · rw [if_neg c2]
      by_cases c : p = pl
      · rw [if_pos c]
        refine ⟨fun z => absurd z (by omega), fun z => ?_⟩
        have k := (h4 w w1 w2 p).mpr z
        rw [c, hx] at k
        omega
      · rw [if_neg c]; exact h4 w w1 w2 p
  · rw [e2]
    by_cases c2 : 2 ≤ v ∧ w = v.toNat
    · rw [if_pos c2]; omega
    · rw [if_neg c2]; exact h5 w w1 w2
  · show σ.2.2.1 + (if 3 ≤ v then 1 else 0) = _
    rw [h6]
    by_cases c3 : 3 ≤ v
    · rw [if_pos c3]
      have k2 : σ.2.1 v.toNat = -1 := Classical.byContradiction (fun y => hf ⟨by omega, y⟩)
      have e : cnt isX (fun c => (ups σ pl v).2.1 (3 + c)) 8 = cnt isX (fun j => if j = v.toNat - 3 then (pl : Int) else (fun c => σ.2.1 (3 + c)) j) 8 := cnt_congr 8 (fun j hj => by
        rw [e2]
        by_cases c4 : j = v.toNat - 3
        · rw [if_pos c4, if_pos (by omega)]
        · rw [if_neg c4, if_neg (by omega)])
      have e4 : 3 + (v.toNat - 3) = v.toNat := by omega
      rw [e, cnt_upd, if_pos (by omega)]
      show _ = _ + ((if isX (pl : Int) then 1 else 0) - (if isX (σ.2.1 (3 + (v.toNat - 3))) then 1 else 0))
      rw [e4, k2, isX_i (by omega), if_pos rfl, if_neg (by decide)]
      rfl
    · rw [if_neg c3]
      have e : cnt isX (fun c => (ups σ pl v).2.1 (3 + c)) 8 = cnt isX (fun c => σ.2.1 (3 + c)) 8 := cnt_congr 8 (fun j hj => by rw [e2, if_neg (by omega)])
      rw [e]; omega
  · show σ.2.2.2 + (if v = 1 then 1 else 0) = _
    rw [h7]
    have e : cnt is1 (ups σ pl v).1 60 = cnt is1 (fun j => if j = pl then v else σ.1 j) 60 := rfl
    rw [e, cnt_upd, if_pos hp, hx]
    by_cases c : v = 1
    · rw [if_pos c, c]; rfl
    · rw [if_neg c, is1_n c]; rfl
theorem rowS_J {t : Nat → Int} {n : Nat} : ∀ (k p pl : Nat) (σ : CS) (dom : Nat → Prop) (q : Nat × Nat × CS), rowS t n k p pl σ = some q → JS dom σ → (∀ x, pl ≤ x → x < pl + k → ¬ dom x) → pl + k ≤ 60 → pl ≤ q.2.1 ∧ q.2.1 ≤ pl + k ∧ JS (fun x => dom x ∨ (pl ≤ x ∧ x < q.2.1)) q.2.2 := by
  intro k
  induction k with
  | zero =>
    intro p pl σ dom q e hJ hd hp
    cases e
    exact ⟨Nat.le_refl _, Nat.le_refl _, JS_iff hJ (fun x => ⟨Or.inl, fun z => z.elim id (fun y => absurd y (by show ¬ (pl ≤ x ∧ x < pl); omega))⟩)⟩
  | succ k ih =>
    intro p pl σ dom q e hJ hd hp
    unfold rowS at e
    by_cases c : sg (pk t n p) = -1
    · rw [if_pos c] at e
      cases e
      exact ⟨Nat.le_refl _, by show pl ≤ pl + (k + 1); omega, JS_iff hJ (fun x => ⟨Or.inl, fun z => z.elim id (fun y => absurd y (by show ¬ (pl ≤ x ∧ x < pl); omega))⟩)⟩
    · rw [if_neg c] at e
      by_cases c2 : 2 ≤ sg (pk t n p) ∧ σ.2.1 (sg (pk t n p)).toNat ≠ -1
      · rw [if_pos c2] at e; cases e
      · rw [if_neg c2] at e
        have hb := sg_b (pk t n p)
        have hJ' := JS_u hJ (pl := pl) (v := sg (pk t n p)) (hd pl (Nat.le_refl _) (by omega)) (by omega) (by omega) c2
        obtain ⟨r1, r2, r3⟩ := ih _ _ _ _ q e hJ' (fun x h1 h2 z => z.elim (hd x (by omega) (by omega)) (fun y => absurd y (by omega))) (by omega)
        refine ⟨by omega, by omega, JS_iff r3 (fun x => ?_)⟩
        constructor
        · rintro ((z | z) | z)
          · exact Or.inl z
          · exact Or.inr (by omega)
          · exact Or.inr (by omega)
        · rintro (z | z)
          · exact Or.inl (Or.inl z)
          · by_cases y : x = pl
            · exact Or.inl (Or.inr y)
            · exact Or.inr (by omega)
/-- r ROWS of w PLACES -/
def rct (r w p : Nat) : Prop := p / 10 < r ∧ p % 10 < w
theorem rowStep_J {t : Nat → Int} {n r w p : Nat} {σ : CS} {q : Nat × Nat × CS} (e : rowStep t n r w p σ = some q) (hr : r ≤ 5) (hw : r = 0 ∨ (2 ≤ w ∧ w ≤ 9)) (hJ : JS (rct r w) σ) : 2 ≤ q.2.1 ∧ q.2.1 ≤ 9 ∧ JS (rct (r + 1) q.2.1) q.2.2 := by
  unfold rowStep at e
  revert e
  cases e0 : rowS t n (if r = 0 then 9 else w) p (10 * r) σ with
  | none => intro e; cases e
  | some q0 =>
    intro e
    have hk : (if r = 0 then 9 else w) ≤ 9 := by split <;> omega
    have h1 := rowS_J _ _ _ _ (rct r w) q0 e0 hJ (fun x x1 x2 z => by unfold rct at z; omega) (by omega)
    obtain ⟨g1, g2, g3⟩ := h1
    have e' : (if q0.2.1 - 10 * r < 2 ∨ q0.2.1 - 10 * r < (if r = 0 then q0.2.1 - 10 * r else w) then none else some (q0.1, if r = 0 then q0.2.1 - 10 * r else w, q0.2.2)) = some q := e
    by_cases c : q0.2.1 - 10 * r < 2 ∨ q0.2.1 - 10 * r < (if r = 0 then q0.2.1 - 10 * r else w)
    · rw [if_pos c] at e'; cases e'
    · rw [if_neg c] at e'
      cases e'
      by_cases c0 : r = 0
      · rw [if_pos c0] at g2 c ⊢
        refine ⟨by show 2 ≤ q0.2.1 - 10 * r; omega, by show q0.2.1 - 10 * r ≤ 9; omega, JS_iff g3 (fun x => ?_)⟩
        show (rct r w x ∨ (10 * r ≤ x ∧ x < q0.2.1)) ↔ rct (r + 1) (q0.2.1 - 10 * r) x
        unfold rct
        constructor
        · rintro (z | z) <;> omega
        · intro z; right; omega
      · rw [if_neg c0] at g2 c ⊢
        have hw' := hw.resolve_left c0
        refine ⟨hw'.1, hw'.2, JS_iff g3 (fun x => ?_)⟩
        show (rct r w x ∨ (10 * r ≤ x ∧ x < q0.2.1)) ↔ rct (r + 1) w x
        unfold rct
        constructor
        · rintro (z | z) <;> omega
        · intro z
          by_cases y : x / 10 < r
          · left; omega
          · right; omega
def celOK (q : Nat × Nat × CS) : Prop := 1 ≤ q.1 ∧ q.1 ≤ 6 ∧ 2 ≤ q.2.1 ∧ q.2.1 ≤ 9 ∧ JS (rct q.1 q.2.1) q.2.2 ∧ q.2.2.2.1 2 ≠ -1 ∧ q.2.2.2.2.1 ≠ 0
theorem celN_J {t : Nat → Int} {n : Nat} : ∀ (left r p w : Nat) (σ : CS) (q : Nat × Nat × CS), celN t n left r p w σ = some q → r + left = 5 → 2 ≤ w → w ≤ 9 → JS (rct (r + 1) w) σ → celOK q := by
  intro left
  induction left with
  | zero =>
    intro r p w σ q e hr w1 w2 hJ
    unfold celN at e
    by_cases c : pk t n p = -1 ∧ σ.2.1 2 ≠ -1 ∧ σ.2.2.1 ≠ 0
    · rw [if_pos c] at e
      cases e
      exact ⟨by show 1 ≤ r + 1; omega, by show r + 1 ≤ 6; omega, w1, w2, hJ, c.2.1, c.2.2⟩
    · rw [if_neg c] at e; cases e
  | succ left ih =>
    intro r p w σ q e hr w1 w2 hJ
    unfold celN at e
    by_cases c0 : pk t n p = 47
    · rw [if_pos c0] at e
      revert e
      cases e0 : rowStep t n (r + 1) w (sk t n p + 1) σ with
      | none => intro e; cases e
      | some q0 =>
        intro e
        obtain ⟨g1, g2, g3⟩ := rowStep_J e0 (by omega) (Or.inr ⟨w1, w2⟩) hJ
        exact ih _ _ _ _ q e (by omega) g1 g2 g3
    · rw [if_neg c0] at e
      by_cases c : pk t n p = -1 ∧ σ.2.1 2 ≠ -1 ∧ σ.2.2.1 ≠ 0
      · rw [if_pos c] at e
        cases e
        exact ⟨by show 1 ≤ r + 1; omega, by show r + 1 ≤ 6; omega, w1, w2, hJ, c.2.1, c.2.2⟩
      · rw [if_neg c] at e; cases e
theorem celS_J {t : Nat → Int} {n : Nat} {q : Nat × Nat × CS} (e : celS t n = some q) : celOK q := by
  unfold celS at e
  revert e
  cases e0 : rowStep t n 0 0 0 σ0 with
  | none => intro e; cases e
  | some q0 =>
    intro e
    obtain ⟨g1, g2, g3⟩ := rowStep_J e0 (by decide) (Or.inl rfl) (JS_iff JS_0 (fun x => ⟨fun z => z.elim, fun z => by unfold rct at z; omega⟩))
    exact celN_J _ _ _ _ _ q e (by decide) g1 g2 g3
/-- a PLAY that was read: 1 to 8 CUES, their letters and numbers -/
def plOK (L : List (Int × Int)) : Prop := ∀ x, x ∈ L → 0 ≤ x.1 ∧ x.1 ≤ 7 ∧ 0 ≤ x.2 ∧ x.2 ≤ 999
theorem plN_J {t : Nat → Int} {n : Nat} : ∀ (r p : Nat) (v : Int) (L : List (Int × Int)), plN t n r p v = some L → L.length ≤ r ∧ plOK L := by
  intro r
  induction r with
  | zero =>
    intro p v L e
    unfold plN at e
    by_cases c : pk t n p = -1
    · rw [if_pos c] at e
      cases e
      exact ⟨Nat.le_refl _, fun x hx => nomatch hx⟩
    · rw [if_neg c] at e; cases e
  | succ r ih =>
    intro p v L e
    unfold plN at e
    by_cases c0 : pk t n p = 44
    · rw [if_pos c0] at e
      revert e
      cases e0 : cueS t n (sk t n p + 1) v with
      | none => intro e; cases e
      | some q =>
        have hq := cueS_b e0
        dsimp only
        cases e1 : plN t n r q.2.2 q.2.1 with
        | none => intro e; cases e
        | some l =>
          intro e
          obtain ⟨g1, g2⟩ := ih _ _ l e1
          cases e
          refine ⟨by show l.length + 1 ≤ r + 1; omega, fun x hx => ?_⟩
          rcases List.mem_cons.mp hx with h | h
          · rw [h]; exact ⟨hq.1, hq.2.1, hq.2.2.1, hq.2.2.2.1⟩
          · exact g2 x h
    · rw [if_neg c0] at e
      by_cases c : pk t n p = -1
      · rw [if_pos c] at e
        cases e
        exact ⟨Nat.zero_le _, fun x hx => nomatch hx⟩
      · rw [if_neg c] at e; cases e
theorem plS_J {t : Nat → Int} {n : Nat} {L : List (Int × Int)} (e : plS t n = some L) : 1 ≤ L.length ∧ L.length ≤ 8 ∧ plOK L := by
  unfold plS at e
  revert e
  cases e0 : cueS t n 0 (-1) with
  | none => intro e; cases e
  | some q =>
    have hq := cueS_b e0
    dsimp only
    cases e1 : plN t n 7 q.2.2 q.2.1 with
    | none => intro e; cases e
    | some l =>
      intro e
      obtain ⟨g1, g2⟩ := plN_J _ _ _ l e1
      cases e
      refine ⟨by show 1 ≤ l.length + 1; omega, by show l.length + 1 ≤ 8; omega, fun x hx => ?_⟩
      rcases List.mem_cons.mp hx with h | h
      · rw [h]; exact ⟨hq.1, hq.2.1, hq.2.2.1, hq.2.2.2.1⟩
      · exact g2 x h
theorem plOK_at {L : List (Int × Int)} (h : plOK L) {i : Nat} (hi : i < L.length) : 0 ≤ (L.getD i (0, 0)).1 ∧ (L.getD i (0, 0)).1 ≤ 7 ∧ 0 ≤ (L.getD i (0, 0)).2 ∧ (L.getD i (0, 0)).2 ≤ 999 := by
  have e : L.getD i (0, 0) = L[i] := by simp [List.getD, hi]
  rw [e]
  exact h _ (List.getElem_mem hi)
/-! READINGS that keep what is kept: the reference's into a free place, the class's into its drafts -/
def WR (mp ml k j : Nat) : Prop := (k = 70 ∧ (j = 3 ∨ j = 4 ∨ j = 5 ∨ j = 14 ∨ (18 ≤ j ∧ j ≤ 21))) ∨ k = 74 ∨ k = 81 ∨ ((k = 83 ∨ k = 84) ∧ 8 * mp ≤ j) ∨ (k = 85 ∧ mp ≤ j) ∨ ((k = 72 ∨ k = 73) ∧ 340 * ml ≤ j) ∨ (k = 75 ∧ ml ≤ j) ∨ (76 ≤ k ∧ k ≤ 78 ∧ 90 * ml ≤ j)
theorem agr_WR {μ ν : Mm} {mp ml : Nat} (hf : fw (WR mp ml) μ ν) {q : Int} (h0 : 0 ≤ q) (h1 : q < (ml : Int)) : agr q ν μ := by
  refine ⟨fun j j1 j2 => ⟨hf 72 j (by unfold WR; omega), hf 73 j (by unfold WR; omega)⟩, hf 75 _ (by unfold WR; omega), fun j j1 j2 => ⟨hf 76 j (by unfold WR; omega), hf 77 j (by unfold WR; omega), hf 78 j (by unfold WR; omega)⟩⟩
theorem Pl_fine {μ ν : Mm} (h : Pl μ) (e1 : ν 0 15 = μ 0 15) (e2 : ∀ k j, 18 ≤ k → k ≤ 32 → ν k j = μ k j) (e3 : ν 70 28 = μ 70 28) {m : Nat} (hm : μ 70 28 ≤ (m : Int)) (e4 : ∀ j, j < 8 * m → ν 83 j = μ 83 j ∧ ν 84 j = μ 84 j) (e5 : ∀ j, j < m → ν 85 j = μ 85 j) : Pl ν := by
  obtain ⟨k, h1, h2, h3, h4⟩ := h
  refine ⟨k, h1, by rw [e1]; exact h2, by rw [e3]; exact h3, fun p hp => ?_⟩
  obtain ⟨L, l1, l2, l3, l4⟩ := h4 p hp
  refine ⟨L, l1, l2, ⟨by rw [e2 _ _ (by omega) (by omega)]; exact l3.1, fun i hi => ?_⟩, ⟨by rw [e5 _ (by omega)]; exact l4.1, fun i hi => ?_⟩⟩
  · rw [e2 _ _ (by omega) (by omega), e2 _ _ (by omega) (by omega)]; exact l3.2 i hi
  · rw [(e4 _ (by omega)).1, (e4 _ (by omega)).2]; exact l4.2 i hi
theorem Lw_fine {μ ν : Mm} (h : Lw μ) (e0 : ν 0 16 = μ 0 16) (e4 : ν 70 13 = μ 70 13) (e5 : ∀ k j, 37 ≤ k → k ≤ 44 → ν k j = μ k j) {m : Nat} (hm : μ 70 13 ≤ (m : Int)) (ea : ∀ q : Int, 0 ≤ q → q < (m : Int) → agr q ν μ) : Lw ν := by
  obtain ⟨k, h1, h2, h3, h4⟩ := h
  refine ⟨k, h1, by rw [e0]; exact h2, by rw [e4]; exact h3, fun q hq => ?_⟩
  obtain ⟨n, L, l1, l2, l3, l4, l5⟩ := h4 q hq
  have eb : ∀ j, ν (38 + 2 * q) j = μ (38 + 2 * q) j := fun j => e5 _ j (by omega) (by omega)
  exact ⟨n, L, l1, by rw [e5 _ _ (by omega) (by omega)]; exact l2, fun j hj => by rw [eb]; exact l3 j hj, by rw [lawS_congr eb]; exact l4, rows_agr (ea (q : Int) (by omega) (by omega)) _ _ _ l5⟩
theorem Ir_gen {μ ν : Mm} (hI : Ir μ) (hB : Bm ν) (hp : ∀ p k : Nat, (p : Int) < ν 70 28 → (k : Int) < ν 85 p → 0 ≤ ν 83 (8 * p + k) ∧ ν 83 (8 * p + k) ≤ 7) (s23 : ν 70 23 = μ 70 23) (s24 : ν 70 24 = μ 70 24) (s53 : ν 70 53 = μ 70 53) (s32 : ν 70 32 = μ 70 32) (h13 : μ 70 13 ≤ ν 70 13) (e82 : ∀ j, ν 82 j = μ 82 j) (e96 : ∀ j, ν 96 j = μ 96 j) (hl : ∀ q : Int, 0 ≤ q → q < ν 70 13 → LawOK ν q) : Ir ν := by
  obtain ⟨_, h2, h3, h4, h5, h6, h7, h8⟩ := hI
  refine ⟨hB, hp, fun h => ?_, fun h => ?_, ?_, hl, UQ_congr h7 s23 s24 e82, fun h => ?_⟩
  · rw [s23] at h
    obtain ⟨p, hp, ip, hp2⟩ := h3 h
    exact ⟨p, hp, (isP_congr s23 s24 p).mpr ip, by rw [e82]; exact hp2⟩
  · rw [s53] at h
    obtain ⟨p, hp, ip, hp2⟩ := h4 h
    exact ⟨p, hp, (isP_congr s23 s24 p).mpr ip, by rw [e96]; exact hp2⟩
  · rw [s32]; omega
  · rw [s53] at h
    exact UQ_congr (h8 h) s23 s24 e96
theorem Inv_WR {μ ν : Mm} (hI : Inv μ) {mp ml : Nat} (hp : μ 70 28 ≤ (mp : Int)) (hl : μ 70 13 ≤ (ml : Int)) (hB : Bm ν) (hf : fw (WR mp ml) μ ν) : Inv ν := by
  have s : ∀ j, ¬ (j = 3 ∨ j = 4 ∨ j = 5 ∨ j = 14 ∨ (18 ≤ j ∧ j ≤ 21)) → ν 70 j = μ 70 j := fun j h => hf 70 j (by unfold WR; omega)
  have hIr : Ir ν := by
    refine Ir_gen hI.2.1 hB (fun p k h1 h2 => ?_) (s 23 (by decide)) (s 24 (by decide)) (s 53 (by decide)) (s 32 (by decide)) (by rw [s 13 (by decide)]; exact Int.le_refl _) (fun j => hf 82 j (by unfold WR; omega)) (fun j => hf 96 j (by unfold WR; omega)) (fun q q1 q2 => ?_)
    · rw [s 28 (by decide)] at h1
      have hp' : p < mp := by omega
      rw [hf 85 p (by unfold WR; omega)] at h2
      have hk : μ 85 p ≤ 8 := (hI.2.1.1 85 p (by decide)).2
      rw [hf 83 _ (by unfold WR; omega)]
      exact hI.2.1.2.1 p k h1 h2
    · rw [s 13 (by decide)] at q2
      exact LawOK_congr (hI.2.1.2.2.2.2.2.1 q q1 q2) (agr_WR hf q1 (by omega))
  refine Inv_W hI (Bx_congr hI.1 (fun k j h => hf k j (by unfold WR; omega))) hIr hf (Or.inl ?_) (Or.inr ?_) (Or.inr ?_) (Or.inl ?_) (Or.inl ?_) (Or.inl ?_) (Or.inl ?_)
  · intro k j h; unfold kT at h; unfold WR; omega
  · exact Pl_fine hI.2.2.2.1 (hf 0 15 (by unfold WR; omega)) (fun k j h1 h2 => hf k j (by unfold WR; omega)) (s 28 (by decide)) hp (fun j hj => ⟨hf 83 j (by unfold WR; omega), hf 84 j (by unfold WR; omega)⟩) (fun j hj => hf 85 j (by unfold WR; omega))
  · exact Lw_fine hI.2.2.2.2.1 (hf 0 16 (by unfold WR; omega)) (s 13 (by decide)) (fun k j h1 h2 => hf k j (by unfold WR; omega)) hl (fun q q1 q2 => agr_WR hf q1 q2)
  · intro k j h; unfold kCl at h; unfold WR; omega
  · intro k j h; unfold kH at h; unfold WR; omega
  · intro k j h; unfold kI at h; unfold WR; omega
  · intro k j h; unfold kU at h; unfold WR; omega
/-- the TAPE is t, n long, to both -/
def Ta (t : Nat → Int) (n : Nat) (μ : Mm) : Prop := n ≤ 160 ∧ μ 1 1 = (n : Int) ∧ μ 70 2 = (n : Int) ∧ (∀ j, j < n → μ 2 j = t j) ∧ (∀ j, j < n → μ 71 j = t j) ∧ ∀ j, j < n → 1 ≤ t j ∧ t j ≤ 255
theorem Ta_Tm {t : Nat → Int} {n : Nat} {μ : Mm} (h : Ta t n μ) : Tm t n μ := ⟨h.1, h.2.2.1, h.2.2.2.2.1⟩
theorem Ta_Tx {t : Nat → Int} {n : Nat} {μ : Mm} (h : Ta t n μ) : Tx t n (sM μ 3 0 1) :=
  ⟨h.1, 1, sM_s _ _ _ _, by decide, by rw [sM_a (by decide)]; exact h.2.1, fun j hj => by rw [sM_a (by decide)]; exact h.2.2.2.1 j hj⟩
theorem Ta_c {t : Nat → Int} {n : Nat} {μ ν : Mm} (h : Ta t n μ) (e1 : ν 1 1 = μ 1 1) (e2 : ∀ j, ν 2 j = μ 2 j) (e3 : ν 70 2 = μ 70 2) (e4 : ∀ j, ν 71 j = μ 71 j) : Ta t n ν :=
  ⟨h.1, e1.trans h.2.1, e3.trans h.2.2.1, fun j hj => (e2 j).trans (h.2.2.2.1 j hj), fun j hj => (e4 j).trans (h.2.2.2.2.1 j hj), h.2.2.2.2.2⟩
theorem open_eq (μ : Mm) : X4_open 1 μ = some (0, cr (sM μ 3 0 1) 0 (-1)) := rfl
theorem Bm_ma {μ : Mm} (h : Bm μ) {a : Nat} (ha : a ≤ 1000) : Bm (ma μ a) := Bm_sM h (show (0 : Int) ≤ (a : Int) ∧ (a : Int) ≤ 1000 by omega)
theorem CelM_ma {μ : Mm} {σ : CS} (h : CelM μ σ) {a : Nat} : CelM (ma μ a) σ := by
  obtain ⟨h1, h2, h3, h4, h5⟩ := h
  refine ⟨fun q hq z => by rw [ma_c (by decide)]; exact h1 q hq z, by rw [ma_j (by decide)]; exact h2, by rw [ma_j (by decide)]; exact h3, fun c hc => by rw [ma_j (by decide)]; exact h4 c hc, by rw [ma_j (by decide)]; exact h5⟩
/-! the reference -/
theorem m_rd0 {t : Nat → Int} {n : Nat} {μ : Mm} (hB : Bm μ) (h : Ta t n μ) : ∃ f ν, X11_readCellar μ = some (f, ν) ∧ Bm ν ∧ (∀ mp ml, fw (WR mp ml) μ ν) ∧ fw (fun k j => wR k j) μ ν ∧ match celS t n with
      | none => f ≠ -1
      | some q => f = -1 ∧ CelM ν q.2.2 ∧ ν 70 18 = (q.1 : Int) ∧ ν 70 19 = (q.2.1 : Int) := by
  obtain ⟨f, μ', a, e, ha, hf, h4, hm⟩ := cellarM h.2.2.2.2.2 hB (Ta_Tm h)
  have h160 := h.1
  refine ⟨f, ma μ' a, e, Bm_ma hf.1 (by omega), fun mp ml => ?_, ?_, ?_⟩
  · exact fw_sM (fun k j hn => hf.2 k j (fun z => hn (by unfold wR at z; unfold WR; omega))) (by unfold WR; omega)
  · exact fw_sM hf.2 (by unfold wR; omega)
  · revert hm
    cases celS t n with
    | none => exact id
    | some q => exact fun hm => ⟨hm.1, CelM_ma hm.2.1, by rw [ma_j (by decide)]; exact hm.2.2.1, by rw [ma_j (by decide)]; exact hm.2.2.2⟩
theorem m_rd1 {t : Nat → Int} {n l : Nat} {μ : Mm} (hB : Bm μ) (h : Ta t n μ) (hl : l ≤ 5) : ∃ f ν, X11_readPlay (l : Int) μ = some (f, ν) ∧ Bm ν ∧ (∀ ml, fw (WR l ml) μ ν) ∧ fw (fun k j => wPl l k j) μ ν ∧ match plS t n with
      | none => f ≠ -1
      | some L => f = -1 ∧ hasM ν l 0 L := by
  obtain ⟨f, μ', a, e, ha, hf, h4, hm⟩ := playM h.2.2.2.2.2 hl hB (Ta_Tm h)
  have h160 := h.1
  refine ⟨f, ma μ' a, e, Bm_ma hf.1 (by omega), fun ml => ?_, ?_, ?_⟩
  · exact fw_sM (fun k j hn => hf.2 k j (fun z => hn (by unfold wPl at z; unfold WR; omega))) (by unfold WR; omega)
  · exact fw_sM hf.2 (by unfold wPl; omega)
  · revert hm
    cases plS t n with
    | none => exact id
    | some L => exact fun hm => ⟨hm.1, by rw [ma_c (by decide)]; exact hm.2.1, fun i hi => by rw [ma_c (by decide), ma_c (by decide)]; exact hm.2.2 i hi⟩
def wLq (q k j : Nat) : Prop := wF2 q 0 0 k j ∨ (k = 70 ∧ j = 14)
theorem rows_ma {μ : Mm} {q a : Nat} {L : List (Cd × Cd)} {g i : Nat} (h : rowsAt μ q g i L) : rowsAt (ma μ a) q g i L :=
  rows_agr (agr_of _ (fun k j h1 h2 => ma_c (by omega) j)) _ _ _ h
theorem m_rd2 {t : Nat → Int} {n q : Nat} {μ : Mm} (hB : Bm μ) (h : Ta t n μ) (hq : q ≤ 4) : ∃ f ν, X11_readLaw (q : Int) μ = some (f, ν) ∧ Bm ν ∧ (∀ mp, fw (WR mp q) μ ν) ∧ fw (wLq q) μ ν ∧ match lawS t n with
      | none => f ≠ -1
      | some L => f = -1 ∧ rowsAt ν q 0 0 L := by
  have hm := rdLawM h.2.2.2.2.2 hq hB (Ta_Tm h)
  have h160 := h.1
  have w1 : ∀ {μ' : Mm} {a : Nat}, fw (wF2 q 0 0) (sM μ 70 14 (q : Int)) μ' → (∀ mp, fw (WR mp q) μ (ma μ' a)) ∧ fw (wLq q) μ (ma μ' a) := by
    intro μ' a hf
    constructor
    · intro mp
      refine fw_sM (fun k j hn => ?_) (by unfold WR; omega)
      rw [hf k j (fun z => hn (by unfold wF2 wKd at z; unfold WR; omega))]
      unfold sM
      rw [if_neg (fun z => hn (by unfold WR; omega))]
    · refine fw_sM (fun k j hn => ?_) (by unfold wLq wF2; omega)
      rw [hf k j (fun z => hn (Or.inl z))]
      unfold sM
      rw [if_neg (fun z => hn (Or.inr z))]
  revert hm
  cases lawS t n with
  | none =>
    rintro ⟨f, μ', a, e, b1, b2, b3, b4⟩
    exact ⟨f, ma μ' a, e, Bm_ma b1 (by omega), (w1 b2).1, (w1 b2).2, b3⟩
  | some L =>
    rintro ⟨μ', a, e, b1, b2, b3, b4⟩
    exact ⟨-1, ma μ' a, e, Bm_ma b1 (by omega), (w1 b2).1, (w1 b2).2, rfl, rows_ma b4⟩
/-! the class -/
theorem fot_S {s f : Int} {μ ν : Mm} (hs : rI s) (hB : Bx μ) (e : X10_faultOfTape s μ = some (f, ν)) : St scr μ ν := by
  have t1 := t_X10_faultOfTape (W := scr) (μs := μ) (hW := fun _ _ h => h) (hp_l1 := hs) (St_rf hB)
  rw [e, wp_some] at t1
  exact t1.1
theorem c_f0 {t : Nat → Int} {n : Nat} {μ : Mm} (h : Ta t n μ) : ∃ f ν, X10_faultOfTape 0 μ = some (f, ν) ∧ (f = -1 ↔ celS t n ≠ none) := by
  obtain ⟨ν', p', f, e, _, _, _, hm⟩ := cellarC (l0 := 13) (by decide) (Ta_Tx h)
  refine ⟨f, cr ν' p' f, ?_, ?_⟩
  · unfold X10_faultOfTape
    rw [open_eq, bd_some, if_pos rfl, e, bd_some]
  · revert hm
    cases celS t n with
    | none => exact fun hm => ⟨fun z => absurd z hm, fun z => absurd rfl z⟩
    | some q => exact fun hm => ⟨fun _ => by simp, fun _ => hm.1⟩
theorem c_f1 {t : Nat → Int} {n : Nat} {μ : Mm} (h : Ta t n μ) : ∃ f ν, X10_faultOfTape 1 μ = some (f, ν) ∧ (f = -1 ↔ plS t n ≠ none) := by
  obtain ⟨ν', p', f, e, _, hm⟩ := playC (l0 := 33) h.2.2.2.2.2 (by decide) (Ta_Tx h)
  refine ⟨f, cr ν' p' f, ?_, ?_⟩
  · unfold X10_faultOfTape
    rw [open_eq, bd_some, if_neg (by decide), if_pos rfl, e, bd_some]
  · revert hm
    cases plS t n with
    | none => exact fun hm => ⟨fun z => absurd z hm, fun z => absurd rfl z⟩
    | some q => exact fun hm => ⟨fun _ => by simp, fun _ => hm.1⟩
theorem envOK {μ : Mm} (h : Bx μ) : eOK (envC (sM μ 3 0 1)) := fun i hi => by
  show -2147483648 ≤ sM μ 3 0 1 4 (i + 1) ∧ sM μ 3 0 1 4 (i + 1) ≤ 2147483647
  rw [sM_a (by decide)]
  have hb := h.1 4 (i + 1) (by decide)
  have hi' : i = 0 ∨ i = 1 ∨ i = 2 ∨ i = 3 ∨ i = 4 := by omega
  rcases hi' with rfl | rfl | rfl | rfl | rfl <;> exact hb
theorem c_f2 {t : Nat → Int} {n : Nat} {μ : Mm} (hB : Bx μ) (h : Ta t n μ) {s : Int} (h0 : s ≠ 0) (h1 : s ≠ 1) : ∃ f ν, X10_faultOfTape s μ = some (f, ν) ∧ (f = -1 ↔ lawS t n ≠ none) := by
  obtain ⟨p', f, e, hm⟩ := checkC (Ta_Tx h) h.2.2.2.2.2 (envOK hB)
  refine ⟨f, cr (sM μ 3 0 1) p' f, ?_, hm⟩
  unfold X10_faultOfTape
  rw [open_eq, bd_some, if_neg h0, if_neg h1, e, bd_some]
theorem Ta_of {μ : Mm} (hI : Inv μ) {t : Nat → Int} {n : Nat} (h1 : μ 1 1 = (n : Int)) (h : ∀ j, j < n → μ 2 j = t j) : Ta t n μ := by
  obtain ⟨k, k1, k2, k3, k4⟩ := hI.2.2.1
  have e : k = n := by omega
  subst e
  exact ⟨k1, k2, k3, h, fun j hj => by rw [← (k4 j hj).1]; exact h j hj, fun j hj => by rw [← h j hj, (k4 j hj).1]; exact (k4 j hj).2⟩
theorem Ta_scr {t : Nat → Int} {n : Nat} {μ ν : Mm} (h : Ta t n μ) (g : St scr μ ν) : Ta t n ν :=
  Ta_c h (g.2 1 1 (by unfold scr; omega)) (fun j => g.2 2 j (by unfold scr; omega)) (g.2 70 2 (by unfold scr; omega)) (fun j => g.2 71 j (by unfold scr; omega))
theorem no_srt {s : Int} {μ : Mm} (h : ¬ (0 ≤ s ∧ s ≤ 2)) : X10_isSort s μ = some (0, μ) := by
  unfold X10_isSort
  by_cases c : s < 0
  · rw [if_pos c]
  · rw [if_neg c, if_pos (by omega)]
theorem is_srt {s : Int} {μ : Mm} (h : 0 ≤ s ∧ s ≤ 2) : X10_isSort s μ = some (1, μ) := by
  unfold X10_isSort
  rw [if_neg (by omega), if_neg (by omega)]
/-- FAULT: both tell something, and what is kept stays -/
theorem d_fault : ∀ a0, rI a0 → sD Inv Inv (X10_fault a0) (X11_fault a0) := by
  intro s hs μ hI
  obtain ⟨n, n1, n2, n3, n4⟩ := id hI.2.2.1
  have hT : Ta (μ 2) n μ := Ta_of hI n2 (fun j _ => rfl)
  have h5 : μ 70 28 ≤ ((5 : Nat) : Int) := (hI.2.1.1 70 28 (by decide)).2
  have h4 : μ 70 13 ≤ ((4 : Nat) : Int) := (hI.2.1.1 70 13 (by decide)).2
  by_cases c : 0 ≤ s ∧ s ≤ 2
  · have step : ∀ f ν, X10_faultOfTape s μ = some (f, ν) → (∃ f2 ξ, X11_fault s ν = some (f2, ξ) ∧ Inv ξ) → ∃ r μ1 r2 μ2, X10_fault s μ = some (r, μ1) ∧ X11_fault s μ1 = some (r2, μ2) ∧ Inv μ2 := by
      rintro f ν e ⟨f2, ξ, e2, h2⟩
      refine ⟨f, ν, f2, ξ, ?_, e2, h2⟩
      unfold X10_fault
      rw [is_srt c, bd_some, if_neg (by decide), e, bd_some]
    by_cases c0 : s = 0
    · obtain ⟨f, ν, e, _⟩ := c_f0 hT
      subst c0
      have g := fot_S hs hI.1 e
      have hI1 := Inv_St hI g
      obtain ⟨f2, ξ, e2, b1, b2, _⟩ := m_rd0 hI1.2.1.1 (Ta_scr hT g)
      refine step f ν e ⟨f2, ξ, ?_, Inv_WR (mp := 5) (ml := 4) hI1 (hI1.2.1.1 70 28 (by decide)).2 (hI1.2.1.1 70 13 (by decide)).2 b1 (b2 5 4)⟩
      unfold X11_fault
      rw [if_pos rfl, e2, bd_some]
    · by_cases c1 : s = 1
      · obtain ⟨f, ν, e, _⟩ := c_f1 hT
        subst c1
        have g := fot_S hs hI.1 e
        have hI1 := Inv_St hI g
        obtain ⟨f2, ξ, e2, b1, b2, _⟩ := m_rd1 hI1.2.1.1 (Ta_scr hT g) (l := 5) (by decide)
        refine step f ν e ⟨f2, ξ, ?_, Inv_WR (mp := 5) (ml := 4) hI1 (hI1.2.1.1 70 28 (by decide)).2 (hI1.2.1.1 70 13 (by decide)).2 b1 (b2 4)⟩
        unfold X11_fault
        have e2' : X11_readPlay 5 ν = some (f2, ξ) := e2
        rw [if_neg (by decide), if_pos rfl, e2', bd_some]
      · obtain ⟨f, ν, e, _⟩ := c_f2 hI.1 hT c0 c1
        have c2 : s = 2 := by omega
        subst c2
        have g := fot_S hs hI.1 e
        have hI1 := Inv_St hI g
        obtain ⟨f2, ξ, e2, b1, b2, _⟩ := m_rd2 hI1.2.1.1 (Ta_scr hT g) (q := 4) (by decide)
        refine step f ν e ⟨f2, ξ, ?_, Inv_WR (mp := 5) (ml := 4) hI1 (hI1.2.1.1 70 28 (by decide)).2 (hI1.2.1.1 70 13 (by decide)).2 b1 (b2 5)⟩
        unfold X11_fault
        have e2' : X11_readLaw 4 ν = some (f2, ξ) := e2
        rw [if_neg (by decide), if_neg (by decide), if_pos rfl, e2', bd_some]
  · have e1 : X10_fault s μ = some (-2, μ) := by
      unfold X10_fault
      rw [no_srt c, bd_some, if_pos rfl]
    have e2 : X11_fault s μ = some (-2, μ) := by
      unfold X11_fault
      rw [if_neg (by omega), if_neg (by omega), if_neg (by omega)]
    exact ⟨_, _, _, _, e1, e2, hI⟩
/-! TEXT: a CELLAR, a PLAY, a LAW is taken -/
theorem bit_cnt : ∀ x, x < 256 → bA (iA (iA (bA (iA (iA (bA (iS ((x : Nat) : Int) (bA (bU ((x : Nat) : Int) 1) 1431655765)) 858993459) (bA (bU (iS ((x : Nat) : Int) (bA (bU ((x : Nat) : Int) 1) 1431655765)) 2) 858993459)) (bU (iA (bA (iS ((x : Nat) : Int) (bA (bU ((x : Nat) : Int) 1) 1431655765)) 858993459) (bA (bU (iS ((x : Nat) : Int) (bA (bU ((x : Nat) : Int) 1) 1431655765)) 2) 858993459)) 4)) 252645135) (bU (bA (iA (iA (bA (iS ((x : Nat) : Int) (bA (bU ((x : Nat) : Int) 1) 1431655765)) 858993459) (bA (bU (iS ((x : Nat) : Int) (bA (bU ((x : Nat) : Int) 1) 1431655765)) 2) 858993459)) (bU (iA (bA (iS ((x : Nat) : Int) (bA (bU ((x : Nat) : Int) 1) 1431655765)) 858993459) (bA (bU (iS ((x : Nat) : Int) (bA (bU ((x : Nat) : Int) 1) 1431655765)) 2) 858993459)) 4)) 252645135) 8)) (bU (iA (bA (iA (iA (bA (iS ((x : Nat) : Int) (bA (bU ((x : Nat) : Int) 1) 1431655765)) 858993459) (bA (bU (iS ((x : Nat) : Int) (bA (bU ((x : Nat) : Int) 1) 1431655765)) 2) 858993459)) (bU (iA (bA (iS ((x : Nat) : Int) (bA (bU ((x : Nat) : Int) 1) 1431655765)) 858993459) (bA (bU (iS ((x : Nat) : Int) (bA (bU ((x : Nat) : Int) 1) 1431655765)) 2) 858993459)) 4)) 252645135) (bU (bA (iA (iA (bA (iS ((x : Nat) : Int) (bA (bU ((x : Nat) : Int) 1) 1431655765)) 858993459) (bA (bU (iS ((x : Nat) : Int) (bA (bU ((x : Nat) : Int) 1) 1431655765)) 2) 858993459)) (bU (iA (bA (iS ((x : Nat) : Int) (bA (bU ((x : Nat) : Int) 1) 1431655765)) 858993459) (bA (bU (iS ((x : Nat) : Int) (bA (bU ((x : Nat) : Int) 1) 1431655765)) 2) 858993459)) 4)) 252645135) 8)) 16)) 63 = pc ((x : Nat) : Int) := by decide +kernel
theorem bitc {x : Int} (h : 0 ≤ x ∧ x ≤ 255) (μ : Mm) : J6_bitCount_0f7a4 x μ = some (pc x, μ) := by
  obtain ⟨y, rfl⟩ : ∃ y : Nat, x = (y : Int) := ⟨x.toNat, by omega⟩
  rw [← bit_cnt y (by omega)]
  rfl
theorem nt_ {x : Int} (h : -1 ≤ x ∧ x ≤ 59) (h1 : x ≠ -1) : x = ((x.toNat : Nat) : Int) ∧ x.toNat < 60 := by omega
/-! a CELLAR -/
def WTC (k j : Nat) : Prop := k = 3 ∨ (k = 5 ∧ 3 ≤ j ∧ j ≤ 7) ∨ (6 ≤ k ∧ k ≤ 8) ∨ (k = 9 ∧ 3 ≤ j ∧ j ≤ 7) ∨ (10 ≤ k ∧ k ≤ 12) ∨ (k = 67 ∧ j = 2) ∨ (k = 1 ∧ j = 1)
theorem bxS {μ : Mm} (h : Bx μ) {a j : Nat} {v : Int} (hv : (bx a j).1 ≤ v ∧ v ≤ (bx a j).2) (h1 : ¬ (a = 3 ∧ j = 0)) (h2 : ¬ (a = 62 ∧ j = 4)) (h3 : ¬ (a = 67 ∧ j = 3)) : Bx (sM μ a j v) :=
  (St_sM (W := fun _ _ => True) (St_rf h) trivial hv h1 h2 h3).1
theorem bx_open {μ : Mm} (h : Bx μ) : Bx (cr (sM μ 3 0 1) 0 (-1)) := by
  have t1 := t_X4_open (W := W70) (μs := μ) (l1 := 1) scr_70 (by decide) (St_rf h)
  rw [open_eq, wp_some] at t1
  exact t1.1.1
theorem k_tc {t : Nat → Int} {n : Nat} {μ : Mm} (hBx : Bx μ) (h : Ta t n μ) {q : Nat × Nat × CS} (hq : celS t n = some q) : ∃ ν, X10_takeCellar μ = some (q.2.2.2.2.1, ν) ∧ CelC ν 5 q.2.2 ∧ ν 5 4 = (q.2.1 : Int) ∧ ν 5 7 = 1 ∧ (∀ j, j < 8 → ν 8 j = 3) ∧ ν 9 4 = 0 ∧ ν 67 2 = 0 ∧ ν 1 1 = 0 ∧ fw WTC μ ν ∧ Bx ν := by
  obtain ⟨ν', p', f, e, g1, g2, g3, hm⟩ := cellarC (l0 := 5) (by decide) (Ta_Tx h)
  rw [hq] at hm
  obtain ⟨_, m1, m2⟩ := hm
  obtain ⟨ν2, e2, k1, k2, k3, _, _⟩ := clearC (l0 := 9) (by decide) (cr ν' p' f)
  have bA : Bx (cr ν' p' f) := by
    have t1 := t_X0_read (W := W70) (l0 := 5) scr_70 (fun k j _ h2 => by unfold W70; omega) (by decide) (St_rf (bx_open hBx))
    rw [e, wp_some] at t1
    exact t1.1.1
  have bB : Bx ν2 := by
    have t1 := t_X0_clear (W := W70) (l0 := 9) scr_70 (fun k j _ h2 => by unfold W70; omega) (by decide) (St_rf bA)
    rw [e2, wp_some] at t1
    exact t1.1.1
  have o1 : ∀ k j, k ≠ 3 → ¬ wK 5 k j → ¬ wK 9 k j → ν2 k j = μ k j := fun k j h3 h5 h9 => by
    rw [k1 k j h9, cr_c h3, g1 k j h5, sM_a h3]
  have o5 : ∀ k j, 5 ≤ k → k ≤ 8 → ν2 k j = ν' k j := fun k j h1 h2 => by
    rw [k1 k j (by unfold wK; omega), cr_c (by omega)]
  have e11 : ν2 1 1 = (n : Int) := by rw [o1 1 1 (by decide) (by unfold wK; omega) (by unfold wK; omega)]; exact h.2.1
  refine ⟨sM (sM ν2 67 2 0) 1 1 0, ?_, ?_, ?_, ?_, fun j hj => ?_, ?_, ?_, ?_, ?_, bxS (bxS bB (by decide) (by decide) (by decide) (by decide)) (by decide) (by decide) (by decide) (by decide)⟩
  · unfold X10_takeCellar
    rw [open_eq, bd_some, e, bd_some, e2, bd_some]
    unfold sF X7_cut sF
    dsimp only
    rw [if_neg (by decide), if_pos (by rw [sM_a (by decide), e11]; omega)]
    rw [bd_some, sM_a (by decide), sM_a (by decide), o5 5 5 (by decide) (by decide), m1.2.2.2.1]
  · refine ⟨fun j hj => ?_, ?_, fun c hc => ?_, ?_, ?_⟩
    · rw [sM_a (by decide), sM_a (by decide), o5 (5 + 1) j (by decide) (by decide)]; exact m1.1 j hj
    · rw [sM_a (by decide), sM_a (by decide), o5 5 3 (by decide) (by decide)]; exact m1.2.1
    · rw [sM_a (by decide), sM_a (by decide), o5 (5 + 2) c (by decide) (by decide)]; exact m1.2.2.1 c hc
    · rw [sM_a (by decide), sM_a (by decide), o5 5 5 (by decide) (by decide)]; exact m1.2.2.2.1
    · rw [sM_a (by decide), sM_a (by decide), o5 5 6 (by decide) (by decide)]; exact m1.2.2.2.2
  · rw [sM_a (by decide), sM_a (by decide), o5 5 4 (by decide) (by decide)]; exact m2
  · rw [sM_a (by decide), sM_a (by decide), o5 5 7 (by decide) (by decide)]; exact g2
  · rw [sM_a (by decide), sM_a (by decide), o5 8 j (by decide) (by decide)]; exact g3 j hj
  · rw [sM_a (by decide), sM_a (by decide)]; exact k3
  · rw [sM_a (by decide), sM_s]
  · rw [sM_s]
  · refine fw_sM (fw_sM (fun k j hn => o1 k j (fun z => hn (by unfold WTC; omega)) (fun z => hn (by unfold wK at z; unfold WTC; omega)) (fun z => hn (by unfold wK at z; unfold WTC; omega))) (by unfold WTC; omega)) (by unfold WTC; omega)
def WMC (k j : Nat) : Prop := (k = 70 ∧ (j = 23 ∨ j = 24 ∨ j = 30 ∨ j = 45 ∨ j = 53)) ∨ k = 82 ∨ k = 86
theorem tk_L : ∀ (d i fuel : Nat) (μ : Mm), i + d = 60 → d < fuel → Bm μ → (∀ p, p < 60 → isP μ p → 0 ≤ μ 81 p) → ∃ ν, (∀ K : Mm → Rs, X11_takeCellar_L18 K fuel (i : Int) μ = K ν) ∧ Bm ν ∧ (∀ k j, k ≠ 82 → ν k j = μ k j) ∧ (∀ j, j < i → ν 82 j = μ 82 j) ∧ ∀ j, i ≤ j → j < 60 → (isP μ j → ν 82 j = μ 81 j) ∧ (¬ isP μ j → ν 82 j = 1) := by
  intro d
  induction d with
  | zero =>
    intro i fuel μ hi hf hB hP
    obtain ⟨g, rfl, _⟩ := lt_fuel hf
    refine ⟨μ, fun K => ?_, hB, fun _ _ _ => rfl, fun _ _ => rfl, fun j h1 h2 => absurd h1 (by omega)⟩
    show (if 60 ≤ (i : Int) then _ else _) = _
    rw [if_pos (by omega)]
  | succ d ih =>
    intro i fuel μ hi hf hB hP
    obtain ⟨g, rfl, _⟩ := lt_fuel hf
    have h81 : (-1 : Int) ≤ μ 81 i ∧ μ 81 i ≤ 10 := hB 81 i (by decide)
    have step : ∀ v : Int, (0 ≤ v ∧ v ≤ 10) → (isP μ i → v = μ 81 i) → (¬ isP μ i → v = 1) → (∀ K : Mm → Rs, X11_takeCellar_L18 K (g + 1) (i : Int) μ = X11_takeCellar_L18 K g ((i + 1 : Nat) : Int) (sM μ 82 i v)) → ∃ ν, (∀ K : Mm → Rs, X11_takeCellar_L18 K (g + 1) (i : Int) μ = K ν) ∧ Bm ν ∧ (∀ k j, k ≠ 82 → ν k j = μ k j) ∧ (∀ j, j < i → ν 82 j = μ 82 j) ∧ ∀ j, i ≤ j → j < 60 → (isP μ j → ν 82 j = μ 81 j) ∧ (¬ isP μ j → ν 82 j = 1) := by
      intro v hv v1 v2 e
      obtain ⟨ν, r1, r2, r3, r4, r5⟩ := ih (i + 1) g (sM μ 82 i v) (by omega) (by omega) (Bm_sM hB hv) (fun p hp ip => by
        rw [sM_a (by decide)]
        exact hP p hp ((isP_congr (μ := μ) (sM_a (by decide)) (sM_a (by decide)) p).mp ip))
      refine ⟨ν, fun K => (e K).trans (r1 K), r2, fun k j hk => by rw [r3 k j hk, sM_a hk], fun j hj => by rw [r4 j (by omega), sM_j (by omega)], fun j h1 h2 => ?_⟩
      by_cases c : j = i
      · have e82 : ν 82 j = v := by rw [c, r4 i (by omega), sM_s]
        rw [e82, c]
        exact ⟨v1, v2⟩
      · have := r5 j (by omega) h2
        rw [isP_congr (μ := μ) (sM_a (by decide)) (sM_a (by decide)) j, sM_a (show (81 : Nat) ≠ 82 by decide)] at this
        exact this
    by_cases ip : isP μ i
    · refine step (μ 81 i) ⟨hP i (by omega) ip, h81.2⟩ (fun _ => rfl) (fun n => absurd ip n) (fun K => ?_)
      show (if 60 ≤ (i : Int) then _ else _) = _
      rw [if_neg (by omega), isPl_y (by omega) ip, bd_some, if_neg (by decide)]
      unfold ldA stA
      rw [if_pos (by show (0 : Int) ≤ (i : Int) ∧ (i : Int) < 60; omega)]
      dsimp only
      rw [if_pos (by show (0 : Int) ≤ (i : Int) ∧ (i : Int) < 60; omega), Int.toNat_natCast, iA_nat (by omega)]
    · refine step 1 (by decide) (fun n => absurd n ip) (fun _ => rfl) (fun K => ?_)
      show (if 60 ≤ (i : Int) then _ else _) = _
      rw [if_neg (by omega), isPl_n (by omega) ip, bd_some, if_pos rfl]
      unfold stA
      rw [if_pos (by show (0 : Int) ≤ (i : Int) ∧ (i : Int) < 60; omega), Int.toNat_natCast, iA_nat (by omega)]
theorem tk_W : ∀ (d i fuel : Nat) (μ : Mm), i + d = 8 → d < fuel → Bm μ → ∃ ν, (∀ K : Mm → Rs, X11_takeCellar_L56 K fuel (i : Int) μ = K ν) ∧ Bm ν ∧ (∀ k j, k ≠ 86 → ν k j = μ k j) ∧ (∀ j, j < i → ν 86 j = μ 86 j) ∧ ∀ j, i ≤ j → j < 8 → ν 86 j = 3 := by
  intro d
  induction d with
  | zero =>
    intro i fuel μ hi hf hB
    obtain ⟨g, rfl, _⟩ := lt_fuel hf
    refine ⟨μ, fun K => ?_, hB, fun _ _ _ => rfl, fun _ _ => rfl, fun j h1 h2 => absurd h1 (by omega)⟩
    show (if 8 ≤ (i : Int) then _ else _) = _
    rw [if_pos (by omega)]
  | succ d ih =>
    intro i fuel μ hi hf hB
    obtain ⟨g, rfl, _⟩ := lt_fuel hf
    obtain ⟨ν, r1, r2, r3, r4, r5⟩ := ih (i + 1) g (sM μ 86 i 3) (by omega) (by omega) (Bm_sM hB (show (0 : Int) ≤ 3 ∧ (3 : Int) ≤ 30 by decide))
    refine ⟨ν, fun K => ?_, r2, fun k j hk => by rw [r3 k j hk, sM_a hk], fun j hj => by rw [r4 j (by omega), sM_j (by omega)], fun j h1 h2 => ?_⟩
    · rw [← r1 K]
      show (if 8 ≤ (i : Int) then _ else _) = _
      rw [if_neg (by omega)]
      unfold stA
      rw [if_pos (by show (0 : Int) ≤ (i : Int) ∧ (i : Int) < 8; omega), Int.toNat_natCast, iA_nat (by omega)]
    · by_cases c : j = i
      · rw [c, r4 i (by omega), sM_s]
      · exact r5 j (by omega) h2
theorem tk_L0 {μ : Mm} (hB : Bm μ) (hP : ∀ p, p < 60 → isP μ p → 0 ≤ μ 81 p) : ∃ ν, (∀ K : Mm → Rs, X11_takeCellar_L18 K FU 0 μ = K ν) ∧ Bm ν ∧ (∀ k j, k ≠ 82 → ν k j = μ k j) ∧ ∀ j, j < 60 → (isP μ j → ν 82 j = μ 81 j) ∧ (¬ isP μ j → ν 82 j = 1) := by
  obtain ⟨ν, a1, a2, a3, _, a5⟩ := tk_L 60 0 FU μ (by decide) (by decide) hB hP
  exact ⟨ν, a1, a2, a3, fun j hj => a5 j (Nat.zero_le _) hj⟩
theorem tk_W0 {μ : Mm} (hB : Bm μ) : ∃ ν, (∀ K : Mm → Rs, X11_takeCellar_L56 K FU 0 μ = K ν) ∧ Bm ν ∧ (∀ k j, k ≠ 86 → ν k j = μ k j) ∧ ∀ j, j < 8 → ν 86 j = 3 := by
  obtain ⟨ν, a1, a2, a3, _, a5⟩ := tk_W 8 0 FU μ (by decide) (by decide) hB
  exact ⟨ν, a1, a2, a3, fun j hj => a5 j (Nat.zero_le _) hj⟩
theorem sF_r (μ : Mm) (a j : Nat) (v : Int) (f : Mm → Rs) : sF μ a j v f = f (sM μ a j v) := rfl
theorem tc_eq {μ ν1 ν2 : Mm} {r w : Int} (h18 : μ 70 18 = r) (h19 : μ 70 19 = w) (a1 : ∀ K : Mm → Rs, X11_takeCellar_L18 K FU 0 (sM (sM μ 70 23 r) 70 24 w) = K ν1) (b1 : ∀ K : Mm → Rs, X11_takeCellar_L56 K FU 0 ν1 = K ν2) (hx : 0 ≤ ν2 70 20 ∧ ν2 70 20 ≤ 255) : X11_takeCellar μ = some (pc (ν2 70 20), sM (sM (sM ν2 70 30 1) 70 45 0) 70 53 0) := by
  unfold X11_takeCellar
  rw [sF_r]
  try dsimp only
  rw [sF_r]
  try dsimp only
  rw [sM_j (show (19 : Nat) ≠ 23 by decide), h18, h19, a1, b1]
  unfold sF sZ
  dsimp only
  rw [if_pos (Or.inl rfl), sM_j (show (20 : Nat) ≠ 53 by decide), sM_j (show (20 : Nat) ≠ 45 by decide), sM_j (show (20 : Nat) ≠ 30 by decide), bitc hx, bd_some]
theorem m_tc {μ : Mm} {σ : CS} {r w : Nat} (hB : Bm μ) (hC : CelM μ σ) (h18 : μ 70 18 = (r : Int)) (h19 : μ 70 19 = (w : Int)) (hr : r ≤ 6) (hw : w ≤ 9) (hP : ∀ j, j < 60 → rct r w j → 0 ≤ μ 81 j) : ∃ ν, X11_takeCellar μ = some (σ.2.2.1, ν) ∧ Bm ν ∧ fw WMC μ ν ∧ ν 70 23 = (r : Int) ∧ ν 70 24 = (w : Int) ∧ ν 70 30 = 1 ∧ ν 70 45 = 0 ∧ ν 70 53 = 0 ∧ (∀ j, j < 8 → ν 86 j = 3) ∧ ∀ j, j < 60 → rct r w j → ν 82 j = μ 81 j := by
  have hB2 : Bm (sM (sM μ 70 23 (r : Int)) 70 24 (w : Int)) := Bm_sM (Bm_sM hB (show (0 : Int) ≤ (r : Int) ∧ (r : Int) ≤ 6 by omega)) (show (0 : Int) ≤ (w : Int) ∧ (w : Int) ≤ 9 by omega)
  obtain ⟨ν1, a1, a2, a3, a5⟩ := tk_L0 hB2 (fun j hj ip => by
    rw [sM_a (by decide), sM_a (by decide)]
    refine hP j hj ?_
    unfold isP at ip
    rw [sM_j (by decide), sM_s, sM_s] at ip
    exact ⟨Int.ofNat_lt.mp ip.1, Int.ofNat_lt.mp ip.2⟩)
  obtain ⟨ν2, b1, b2, b3, b5⟩ := tk_W0 a2
  have o2 : ∀ k j, k ≠ 86 → k ≠ 82 → ν2 k j = sM (sM μ 70 23 (r : Int)) 70 24 (w : Int) k j := fun k j h1 h2 => by rw [b3 k j h1, a3 k j h2]
  have e20 : ν2 70 20 = μ 70 20 := by rw [o2 70 20 (by decide) (by decide), sM_j (by decide), sM_j (by decide)]
  have e1 : X11_takeCellar μ = some (σ.2.2.1, sM (sM (sM ν2 70 30 1) 70 45 0) 70 53 0) := by
    rw [tc_eq h18 h19 a1 b1 (by rw [e20]; exact hC.2.2.1), e20, hC.2.2.2.2]
  refine ⟨_, e1, ?_, ?_, ?_, ?_, ?_, ?_, ?_, fun j hj => ?_, fun j hj hc => ?_⟩
  · exact Bm_sM (Bm_sM (Bm_sM b2 (show (1 : Int) ≤ 1 ∧ (1 : Int) ≤ 9 by decide)) (show (0 : Int) ≤ 0 ∧ (0 : Int) ≤ 10 by decide)) (show (0 : Int) ≤ 0 ∧ (0 : Int) ≤ 1 by decide)
  · refine fw_sM (fw_sM (fw_sM (fun k j hn => ?_) (Or.inl ⟨rfl, by decide⟩)) (Or.inl ⟨rfl, by decide⟩)) (Or.inl ⟨rfl, by decide⟩)
    have h86 : k ≠ 86 := fun z => hn (Or.inr (Or.inr z))
    have h82 : k ≠ 82 := fun z => hn (Or.inr (Or.inl z))
    have h24 : ¬ (k = 70 ∧ j = 24) := fun z => hn (Or.inl ⟨z.1, Or.inr (Or.inl z.2)⟩)
    have h23 : ¬ (k = 70 ∧ j = 23) := fun z => hn (Or.inl ⟨z.1, Or.inl z.2⟩)
    rw [o2 k j h86 h82]
    unfold sM
    rw [if_neg h24, if_neg h23]
  · rw [sM_j (by decide), sM_j (by decide), sM_j (by decide), o2 70 23 (by decide) (by decide), sM_j (by decide), sM_s]
  · rw [sM_j (by decide), sM_j (by decide), sM_j (by decide), o2 70 24 (by decide) (by decide), sM_s]
  · rw [sM_j (by decide), sM_j (by decide), sM_s]
  · rw [sM_j (by decide), sM_s]
  · rw [sM_s]
  · rw [sM_a (by decide), sM_a (by decide), sM_a (by decide)]; exact b5 j hj
  · rw [sM_a (by decide), sM_a (by decide), sM_a (by decide), b3 82 j (by decide)]
    have ip : isP (sM (sM μ 70 23 (r : Int)) 70 24 (w : Int)) j := by
      unfold isP
      rw [sM_j (by decide), sM_s, sM_s]
      exact ⟨Int.ofNat_lt.mpr hc.1, Int.ofNat_lt.mpr hc.2⟩
    rw [(a5 j hj).1 ip, sM_a (by decide), sM_a (by decide)]
def WX (k j : Nat) : Prop := WTC k j ∨ wR k j ∨ WMC k j ∨ (k = 70 ∧ j = 2)
theorem x_cel {t : Nat → Int} {n : Nat} {μ : Mm} (hI : Inv μ) (h : Ta t n μ) {q : Nat × Nat × CS} (hq : celS t n = some q) : ∃ r ν μ', X10_takeCellar μ = some (r, ν) ∧ X11_text 0 ν = some (r, μ') ∧ Inv μ' := by
  obtain ⟨ν, e1, c1, c2, c3, c4, c5, c6, c7, cf, hBx⟩ := k_tc hI.1 h hq
  have o1 : ∀ k j, 70 ≤ k → ν k j = μ k j := fun k j hk => cf k j (by unfold WTC; omega)
  have hB1 : Bm ν := fun k j hk => by rw [o1 k j hk]; exact hI.2.1.1 k j hk
  have hok := celS_J hq
  obtain ⟨k1, k2, k3, k4, kJ, k5, k6⟩ := hok
  obtain ⟨j1, j2, j3, j4, j5, j6, j7⟩ := kJ
  have hTm : Ta t n (sM ν 1 1 (n : Int)) := ⟨h.1, sM_s _ _ _ _, by rw [sM_a (by decide), o1 70 2 (by decide)]; exact h.2.2.1, fun j hj => by rw [sM_a (by decide), cf 2 j (by unfold WTC; omega)]; exact h.2.2.2.1 j hj, fun j hj => by rw [sM_a (by decide), o1 71 j (by decide)]; exact h.2.2.2.2.1 j hj, h.2.2.2.2.2⟩
  have hTm' : Tm t n ν := ⟨h.1, by rw [o1 70 2 (by decide)]; exact h.2.2.1, fun j hj => by rw [o1 71 j (by decide)]; exact h.2.2.2.2.1 j hj⟩
  obtain ⟨f, μ', a, e2, ha, hf, h4, hm⟩ := cellarM h.2.2.2.2.2 hB1 hTm'
  rw [hq] at hm
  obtain ⟨m0, m1, m2, m3⟩ := hm
  have h160 := h.1
  have hB2 : Bm (sM (ma μ' a) 70 2 0) := Bm_sM (Bm_ma hf.1 (by omega)) (show (0 : Int) ≤ 0 ∧ (0 : Int) ≤ 160 by decide)
  have m1' : CelM (sM (ma μ' a) 70 2 0) q.2.2 := by
    obtain ⟨g1, g2, g3, g4, g5⟩ := CelM_ma (a := a) m1
    exact ⟨fun s hs z => by rw [sM_a (by decide)]; exact g1 s hs z, by rw [sM_j (by decide)]; exact g2, by rw [sM_j (by decide)]; exact g3, fun c hc => by rw [sM_j (by decide)]; exact g4 c hc, by rw [sM_j (by decide)]; exact g5⟩
  obtain ⟨ξ, e3, d1, d2, d3, d4, d5, d6, d7, d8, d9⟩ := m_tc hB2 m1' (by rw [sM_j (by decide), ma_j (by decide)]; exact m2) (by rw [sM_j (by decide), ma_j (by decide)]; exact m3) k2 k4 (fun j hj hc => by
    have e := m1'.1 j hj ((j1 j).mpr hc)
    have e2 := (j1 j).mpr hc
    have e3 := (j3 j).1
    rw [e]
    omega)
  have e4 : X11_text 0 ν = some (q.2.2.2.2.1, ξ) := by
    unfold X11_text
    rw [if_pos rfl, e2, bd_some, if_pos m0]
    unfold sF
    dsimp only
    rw [e3, bd_some]
  refine ⟨_, ν, ξ, e1, e4, ?_⟩
  have o2 : ∀ k j, k < 70 → ξ k j = ν k j := fun k j hk => by
    rw [d2 k j (by unfold WMC; omega), sM_a (by omega), ma_c (by omega), hf.2 k j (by unfold wR; omega)]
  have hfw : fw WX μ ξ := fun k j hn => by
    rw [d2 k j (fun z => hn (Or.inr (Or.inr (Or.inl z))))]
    have e5 : sM (ma μ' a) 70 2 0 k j = ma μ' a k j := by
      unfold sM
      rw [if_neg (fun z => hn (Or.inr (Or.inr (Or.inr z))))]
    have e6 : ma μ' a k j = μ' k j := by
      unfold ma sM
      rw [if_neg (fun z => hn (Or.inr (Or.inl (by unfold wR; omega))))]
    rw [e5, e6, hf.2 k j (fun z => hn (Or.inr (Or.inl z))), cf k j (fun z => hn (Or.inl z))]
  have ipx : ∀ p, isP ξ p ↔ rct q.1 q.2.1 p := fun p => by
    unfold isP rct
    rw [d3, d4]
    omega
  have e82 : ∀ p, p < 60 → isP ξ p → ξ 82 p = q.2.2.1 p := fun p hp ip => by
    have hc := (ipx p).mp ip
    rw [d9 p hp hc]
    exact m1'.1 p hp ((j1 p).mpr hc)
  have x6 : ∀ p, p < 60 → ξ 6 p = q.2.2.1 p := fun p hp => by rw [o2 6 p (by decide)]; exact c1.1 p hp
  have x7 : ∀ c, c < 8 → ξ 7 c = q.2.2.2.1 (3 + c) := fun c hc => by rw [o2 7 c (by decide)]; exact c1.2.2.1 c hc
  have nP : ∀ p, ¬ isP ξ p → q.2.2.1 p = -1 := fun p hn => Classical.byContradiction (fun z => hn ((ipx p).mpr ((j1 p).mp z)))
  have hK : Kc ξ 5 82 86 30 31 := by
    have h9 := hI.2.2.2.2.2.1.2.2.2.2.2.2.2.2.1
    refine ⟨fun p hp => ⟨fun ip => ?_, fun hn => ?_⟩, fun p hp => ?_, fun c hc p hp => ?_, fun c hc => ?_, ?_, ?_, ?_, ?_, ?_, fun _ c hc => ?_⟩
    · show ξ 6 p = ξ 82 p
      rw [x6 p hp, e82 p hp ip]
    · show ξ 6 p = -1
      rw [x6 p hp, nP p hn]
    · rw [o2 5 3 (by decide), c1.2.1]
      have k := j4 2 (by decide) (by decide) p
      constructor
      · rintro ⟨ip, e⟩
        rw [e82 p hp ip] at e
        exact k.mp e
      · intro e
        have e' := k.mpr e
        have ip : isP ξ p := Classical.byContradiction (fun hn => by rw [nP p hn] at e'; exact absurd e' (by decide))
        exact ⟨ip, by rw [e82 p hp ip]; exact e'⟩
    · show (isP ξ p ∧ ξ 82 p = 3 + ((c : Nat) : Int)) ↔ ξ 7 c = ((p : Nat) : Int)
      rw [x7 c hc]
      have k := j4 (3 + c) (by omega) (by omega) p
      have ec : ((3 + c : Nat) : Int) = 3 + (c : Int) := by omega
      rw [ec] at k
      constructor
      · rintro ⟨ip, e⟩
        rw [e82 p hp ip] at e
        exact k.mp e
      · intro e
        have e' := k.mpr e
        have ip : isP ξ p := Classical.byContradiction (fun hn => by rw [nP p hn] at e'; omega)
        exact ⟨ip, by rw [e82 p hp ip]; exact e'⟩
    · show -1 ≤ ξ 7 c ∧ ξ 7 c ≤ 59
      rw [x7 c hc]; exact j5 (3 + c) (by omega) (by omega)
    · rw [o2 5 4 (by decide), c2, d3]; omega
    · rw [o2 5 5 (by decide), c1.2.2.2.1, j6]
      exact cnt_congr 8 (fun c hc => (x7 c hc).symm)
    · rw [o2 5 6 (by decide), c1.2.2.2.2, j7]
      exact cnt_congr 60 (fun p hp => (x6 p hp).symm)
    · rw [o2 5 7 (by decide), c3, d5]
    · rw [hfw 5 8 (by unfold WX WTC wR WMC; omega), hfw 70 31 (by unfold WX WTC wR WMC; omega)]; exact h9
    · show ξ 8 c = ξ 86 c
      rw [o2 8 c (by decide), c4 c hc, d8 c hc]
  have hIr : Ir ξ := by
    obtain ⟨_, i2, _, _, i5, i6, _, _⟩ := hI.2.1
    have s : ∀ j, (j = 13 ∨ j = 28 ∨ j = 32) → ξ 70 j = μ 70 j := fun j hj => hfw 70 j (by unfold WX WTC wR WMC; omega)
    refine ⟨d1, fun p k hp hk => ?_, fun _ => ?_, fun z => absurd d7 z, ?_, fun l l1 l2 => ?_, fun a b ha hb ia ib e z => ?_, fun z => absurd d7 z⟩
    · rw [s 28 (by decide)] at hp
      rw [hfw 85 p (by unfold WX WTC wR WMC; omega)] at hk
      rw [hfw 83 _ (by unfold WX WTC wR WMC; omega)]
      exact i2 p k hp hk
    · have b2 := j5 2 (by decide) (by decide)
      obtain ⟨b3, b4⟩ := nt_ b2 k5
      have k := (j4 2 (by decide) (by decide) (q.2.2.2.1 2).toNat).mpr b3
      have ip : isP ξ (q.2.2.2.1 2).toNat := Classical.byContradiction (fun hn => by rw [nP _ hn] at k; exact absurd k (by decide))
      exact ⟨(q.2.2.2.1 2).toNat, b4, ip, by rw [e82 _ b4 ip]; exact k⟩
    · rw [s 32 (by decide), s 13 (by decide)]; exact i5
    · rw [s 13 (by decide)] at l2
      exact LawOK_congr (i6 l l1 l2) (agr_of l (fun k j h1 h2 => hfw k j (by unfold WX WTC wR WMC; omega)))
    · rw [e82 a ha ia, e82 b hb ib] at e
      rw [e82 a ha ia] at z
      have hb3 := j3 a
      obtain ⟨v, hv⟩ : ∃ v : Nat, q.2.2.1 a = (v : Int) := ⟨(q.2.2.1 a).toNat, by omega⟩
      have g1 := (j4 v (by omega) (by omega) a).mp hv
      have g2 := (j4 v (by omega) (by omega) b).mp (by rw [← e]; exact hv)
      omega
  refine Inv_W hI (Bx_congr hBx o2) hIr hfw (Or.inr ⟨0, by decide, ?_, ?_, fun j hj => absurd hj (by omega)⟩) (Or.inl ?_) (Or.inl ?_) (Or.inr hK) (Or.inl ?_) (Or.inr ⟨?_, fun z => absurd d7 z⟩) (Or.inr ⟨0, by decide, ?_, ?_, fun j hj => absurd hj (by omega)⟩)
  · rw [o2 1 1 (by decide), c7]; rfl
  · rw [d2 70 2 (by unfold WMC; omega), sM_s]; rfl
  · intro k j h; unfold kP at h; unfold WX WTC wR WMC; omega
  · intro k j h; unfold kLw at h; unfold WX WTC wR WMC; omega
  · intro k j h; unfold kH at h; unfold WX WTC wR WMC; omega
  · rw [o2 9 4 (by decide), c5, d7]; exact ⟨fun _ => rfl, fun _ => by decide⟩
  · rw [o2 67 2 (by decide), c6]; rfl
  · rw [d6]; rfl
