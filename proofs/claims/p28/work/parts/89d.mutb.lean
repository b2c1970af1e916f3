/-! the CELLAR altered by hand -/
def WC (k j : Nat) : Prop := (k = 5 ∧ j ≠ 4) ∨ (6 ≤ k ∧ k ≤ 8) ∨ k = 82 ∨ k = 86 ∨ (k = 70 ∧ (j = 30 ∨ j = 31))
theorem Inv_C {μ ν : Mm} (hI : Inv μ) (hB : Bx ν) (hM : Ir ν) (hf : fw WC μ ν) (C : Kc ν 5 82 86 30 31) : Inv ν := by
  refine Inv_W hI hB hM hf (Or.inl ?_) (Or.inl ?_) (Or.inl ?_) (Or.inr C) (Or.inl ?_) (Or.inl ?_) (Or.inl ?_)
  · intro k j h; unfold kT at h; unfold WC; omega
  · intro k j h; unfold kP at h; unfold WC; omega
  · intro k j h; unfold kLw at h; unfold WC; omega
  · intro k j h; unfold kH at h; unfold WC; omega
  · intro k j h; unfold kI at h; unfold WC; omega
  · intro k j h; unfold kU at h; unfold WC; omega
theorem Bx_t {x : Rs} {μ μ1 : Mm} {r : Int} {W : Nat → Nat → Prop} {P : Int → Prop} {R : Prop} (t : wp x (fun r μ' => St W μ μ' ∧ P r ∧ R)) (e : x = some (r, μ1)) : Bx μ1 := by
  rw [e, wp_some] at t; exact t.1.1
theorem stands_5 {μ : Mm} (hI : Inv μ) : X0_stands 5 μ = some (if μ 70 23 = 0 then 0 else 1, μ) := by
  have h := hI.2.2.2.2.2.1.2.2.2.2.1
  unfold X0_stands
  by_cases c : μ 5 4 ≤ 0
  · rw [if_pos c, if_pos (h.mp c)]
  · rw [if_neg c, if_neg (fun z => c (h.mpr z))]
/-- a CRANK, to both -/
theorem crk {μ : Mm} (hI : Inv μ) {a : Int} (ha : rI a) : ∃ w, X0_placeOf 5 a μ = some (w, μ) ∧ ((w = -1 ∧ (0 ≤ a → a ≤ 7 → ∀ p : Nat, p < 60 → isP μ p → μ 82 p ≠ 3 + a)) ∨ (0 ≤ a ∧ a ≤ 7 ∧ ∃ p : Nat, p < 60 ∧ isP μ p ∧ μ 82 p = 3 + a ∧ w = (p : Int) ∧ μ 7 a.toNat = (p : Int))) := by
  obtain ⟨k1, k2, k3, k4, _⟩ := hI.2.2.2.2.2.1
  unfold X0_placeOf
  by_cases h1 : a < 0
  · rw [if_pos h1]
    exact ⟨-1, rfl, Or.inl ⟨rfl, fun h => absurd h (by omega)⟩⟩
  · rw [if_neg h1]
    by_cases h2 : 8 ≤ a
    · rw [if_pos h2]
      exact ⟨-1, rfl, Or.inl ⟨rfl, fun _ h => absurd h (by omega)⟩⟩
    · rw [if_neg h2]
      have e : ldA μ (5 + 2) a (fun v3 => some (v3, μ)) = some (μ 7 a.toNat, μ) := by
        unfold ldA
        rw [if_pos (by show (0 : Int) ≤ a ∧ a < 8; omega)]
      rw [e]
      have hr := k4 a.toNat (by omega)
      have hc := k3 a.toNat (by omega)
      have ea : ((a.toNat : Nat) : Int) = a := by omega
      rw [ea] at hc
      by_cases c : μ 7 a.toNat = -1
      · refine ⟨_, rfl, Or.inl ⟨c, fun _ _ p hp ip ep => ?_⟩⟩
        have := (hc p hp).mp ⟨ip, ep⟩
        have : μ 7 a.toNat = (p : Int) := this
        omega
      · have hr : -1 ≤ μ 7 a.toNat ∧ μ 7 a.toNat ≤ 59 := hr
        have hp : μ 7 a.toNat = (((μ 7 a.toNat).toNat : Nat) : Int) := by omega
        have := (hc (μ 7 a.toNat).toNat (by omega)).mpr hp
        exact ⟨_, rfl, Or.inr ⟨by omega, by omega, (μ 7 a.toNat).toNat, by omega, this.1, this.2, hp, hp⟩⟩
theorem crk_m {μ ν : Mm} (e : ∀ k j, 70 ≤ k → ν k j = μ k j) {a w : Int} (ha : rI a) (h : (w = -1 ∧ (0 ≤ a → a ≤ 7 → ∀ p : Nat, p < 60 → isP μ p → μ 82 p ≠ 3 + a)) ∨ (0 ≤ a ∧ a ≤ 7 ∧ ∃ p : Nat, p < 60 ∧ isP μ p ∧ μ 82 p = 3 + a ∧ w = (p : Int) ∧ μ 7 a.toNat = (p : Int))) : X11_isCrank a ν = some (if w = -1 then 0 else 1, ν) := by
  obtain ⟨r, e1, hc⟩ := isCr (μ := ν) ha
  have i : ∀ p, isP ν p ↔ isP μ p := isP_congr (e 70 23 (by decide)) (e 70 24 (by decide))
  rw [e1]
  rcases h with ⟨h1, h2⟩ | ⟨h1, h2, p, h3, h4, h5, h6, _⟩
  · rw [if_pos h1]
    rcases hc with ⟨c1, _⟩ | ⟨_, c2, c3, p, c4, c5, c6⟩
    · rw [c1]
    · rw [e 82 p (by decide)] at c6
      exact absurd c6 (h2 c2 c3 p c4 ((i p).mp c5))
  · rw [if_neg (by omega)]
    rcases hc with ⟨_, c2⟩ | ⟨c1, _⟩
    · exact absurd (by rw [e 82 p (by decide)]; exact h5) (c2 h1 h2 p h3 ((i p).mpr h4))
    · rw [c1]
theorem in_rg {v a b : Int} (μ : Mm) (h : a ≤ v ∧ v ≤ b) : X11_in v a b μ = some (1, μ) := by rw [in_eq, b2_t h]
theorem in_no {v a b : Int} (μ : Mm) (h : ¬ (a ≤ v ∧ v ≤ b)) : X11_in v a b μ = some (0, μ) := by rw [in_eq, b2_f h]
theorem Bm_lo {μ : Mm} (h : Bm μ) {a j : Nat} {v : Int} (ha : a < 70) : Bm (sM μ a j v) := fun k i hk => by rw [sM_a (by omega)]; exact h k i hk
theorem Ir_lo {μ : Mm} (h : Ir μ) {a j : Nat} {v : Int} (ha : a < 70) : Ir (sM μ a j v) := Ir_congr h (Bm_lo h.1 ha) (fun k i hp => sM_a (by unfold perI at hp; omega))
theorem Kc_8 {μ : Mm} (h : Kc μ 5 82 86 30 31) {c : Nat} {v : Int} : Kc (sM (sM μ 8 c v) 86 c v) 5 82 86 30 31 := by
  have e : ∀ k j, k ≠ 8 → k ≠ 86 → sM (sM μ 8 c v) 86 c v k j = μ k j := fun k j h1 h2 => by rw [sM_a h2, sM_a h1]
  have h' : Kc (sM (sM μ 8 c v) 86 c v) 5 82 86 30 31 ∨ True := Or.inr trivial
  obtain ⟨h1, h2, h3, h4, h5, h6, h7, h8, h9, h10⟩ := h
  have i : ∀ p, isP (sM (sM μ 8 c v) 86 c v) p ↔ isP μ p := isP_congr (e 70 23 (by decide) (by decide)) (e 70 24 (by decide) (by decide))
  refine ⟨fun p hp => ?_, fun p hp => ?_, fun d hd p hp => ?_, fun d hd => ?_, ?_, ?_, ?_, ?_, ?_, fun z d hd => ?_⟩
  · rw [i p, e _ _ (by decide) (by decide), e _ _ (by decide) (by decide)]; exact h1 p hp
  · rw [i p, e _ _ (by decide) (by decide), e _ _ (by decide) (by decide)]; exact h2 p hp
  · rw [i p, e _ _ (by decide) (by decide), e _ _ (by decide) (by decide)]; exact h3 d hd p hp
  · rw [e _ _ (by decide) (by decide)]; exact h4 d hd
  · rw [e _ _ (by decide) (by decide), e _ _ (by decide) (by decide)]; exact h5
  · rw [e _ _ (by decide) (by decide), h6]; exact (cnt_congr 8 (fun j _ => e 7 j (by decide) (by decide))).symm
  · rw [e _ _ (by decide) (by decide), h7]; exact (cnt_congr 60 (fun j _ => e 6 j (by decide) (by decide))).symm
  · rw [e _ _ (by decide) (by decide), e _ _ (by decide) (by decide)]; exact h8
  · rw [e _ _ (by decide) (by decide), e _ _ (by decide) (by decide)]; exact h9
  · show sM (sM μ 8 c v) 86 c v 8 d = sM (sM μ 8 c v) 86 c v 86 d
    rw [sM_a (by decide), sM_if, sM_if]
    by_cases q : d = c
    · rw [if_pos q, if_pos q]
    · rw [if_neg q, if_neg q, sM_a (by decide)]; rw [e _ _ (by decide) (by decide)] at z; exact h10 z d hd
theorem m_wind : ∀ a0, rI a0 → ∀ a1, rI a1 → sI Inv Inv (X10_wind a0 a1) (X11_wind a0 a1) := by
  intro a ha v hv μ hI
  have t1 := t_X10_wind (W := W70) (μs := μ) scr_70 (fun k j h => h) (hp_l1 := ha) (hp_l2 := hv) (St_rf hI.1)
  obtain ⟨w, e0, hw⟩ := crk hI ha
  have hc := crk_m (fun k j _ => rfl) ha hw
  by_cases c1 : w = -1
  · have e1 : X10_wind a v μ = some (0, μ) := by
      unfold X10_wind X0_tellWind
      rw [e0, bd_some, if_pos c1, bd_some, rZ_b (Or.inl rfl)]
    have e2 : X11_wind a v μ = some (0, μ) := by
      unfold X11_wind
      rw [hc, bd_some, if_pos (by rw [if_pos c1])]
    exact ⟨_, _, _, e1, e2, hI⟩
  · rcases hw with ⟨h, _⟩ | ⟨a1, a2, p, p1, p2, p3, p4, p5⟩
    · exact absurd h c1
    · by_cases c2 : 1 ≤ v ∧ v ≤ 30
      · have e1 : X10_wind a v μ = some (1, sM μ 8 a.toNat v) := by
          unfold X10_wind X0_tellWind stA
          rw [e0, bd_some, if_neg c1, if_neg (by omega), if_pos c2.2, if_pos (by show (0 : Int) ≤ a ∧ a < 8; omega), bd_some, rZ_b (Or.inr rfl)]
        have hc' := crk_m (ν := sM μ 8 a.toNat v) (μ := μ) (fun k j hk => sM_a (by omega)) ha (Or.inr ⟨a1, a2, p, p1, p2, p3, p4, p5⟩)
        have e2 : X11_wind a v (sM μ 8 a.toNat v) = some (1, sM (sM μ 8 a.toNat v) 86 a.toNat v) := by
          unfold X11_wind stA
          rw [hc', bd_some, if_neg (by rw [if_neg c1]; decide), in_rg _ c2, bd_some, if_neg (by decide), if_pos (by show (0 : Int) ≤ a ∧ a < 8; omega)]
        have hB1 := Bx_t t1 e1
        refine ⟨_, _, _, e1, e2, Inv_C hI (Bx_congr hB1 (fun k j hk => sM_a (by omega))) ?_ (fw_sM (fw_sM fw_rf (by unfold WC; omega)) (by unfold WC; omega)) (Kc_8 hI.2.2.2.2.2.1)⟩
        exact Ir_congr hI.2.1 (Bm_sM (Bm_lo hI.2.1.1 (by decide)) (show (0 : Int) ≤ v ∧ v ≤ 30 by omega)) (fun k j h => by rw [sM_a (by unfold perI at h; omega), sM_a (by unfold perI at h; omega)])
      · have e1 : X10_wind a v μ = some (0, μ) := by
          unfold X10_wind X0_tellWind
          rw [e0, bd_some, if_neg c1]
          by_cases c3 : v < 1
          · rw [if_pos c3, bd_some, rZ_b (Or.inl rfl)]
          · rw [if_neg c3, if_neg (by omega), bd_some, rZ_b (Or.inl rfl)]
        have e2 : X11_wind a v μ = some (0, μ) := by
          unfold X11_wind
          rw [hc, bd_some, if_neg (by rw [if_neg c1]; decide), in_no _ c2, bd_some, if_pos rfl]
        exact ⟨_, _, _, e1, e2, hI⟩
/-! set -/
theorem Kc_s {μ ν : Mm} (h : Kc μ 5 82 86 30 31) (e : ∀ k j, ¬ (k = 5 ∧ (j = 7 ∨ j = 8)) → ¬ (k = 70 ∧ (j = 30 ∨ j = 31 ∨ j = 32)) → ¬ (k = 0) → ν k j = μ k j) (es : ν 5 7 = ν 70 30) (eg : ν 5 8 = ν 70 31) : Kc ν 5 82 86 30 31 := by
  obtain ⟨h1, h2, h3, h4, h5, h6, h7, h8, h9, h10⟩ := h
  have w : ∀ k j, 6 ≤ k → k ≠ 70 → ν k j = μ k j := fun k j h1 h2 => e k j (by omega) (by omega) (by omega)
  have i : ∀ p, isP ν p ↔ isP μ p := isP_congr (e 70 23 (by omega) (by omega) (by omega)) (e 70 24 (by omega) (by omega) (by omega))
  have f : ∀ j, j ≤ 6 → ν 5 j = μ 5 j := fun j hj => e 5 j (by omega) (by omega) (by omega)
  refine ⟨fun p hp => ?_, fun p hp => ?_, fun d hd p hp => ?_, fun d hd => ?_, ?_, ?_, ?_, es, eg, fun z d hd => ?_⟩
  · rw [i p, w _ _ (by decide) (by decide), w _ _ (by decide) (by decide)]; exact h1 p hp
  · rw [i p, w _ _ (by decide) (by decide), f 3 (by decide)]; exact h2 p hp
  · rw [i p, w _ _ (by decide) (by decide), w _ _ (by decide) (by decide)]; exact h3 d hd p hp
  · rw [w _ _ (by decide) (by decide)]; exact h4 d hd
  · rw [f 4 (by decide), e 70 23 (by omega) (by omega) (by omega)]; exact h5
  · rw [f 5 (by decide), h6]; exact (cnt_congr 8 (fun j _ => w 7 j (by decide) (by decide))).symm
  · rw [f 6 (by decide), h7]; exact (cnt_congr 60 (fun j _ => w 6 j (by decide) (by decide))).symm
  · rw [e 70 23 (by omega) (by omega) (by omega)] at z
    rw [w _ _ (by decide) (by decide), w _ _ (by decide) (by decide)]; exact h10 z d hd
def WS (k j : Nat) : Prop := (k = 5 ∧ (j = 7 ∨ j = 8)) ∨ (k = 70 ∧ (j = 30 ∨ j = 31 ∨ j = 32)) ∨ (k = 0 ∧ j = 17)
theorem Inv_S {μ ν : Mm} (hI : Inv μ) (hB : Bx ν) (hM : Ir ν) (hf : fw WS μ ν) (es : ν 5 7 = ν 70 30) (eg : ν 5 8 = ν 70 31) (el : ν 0 17 = ν 70 32) : Inv ν := by
  refine Inv_W hI hB hM hf (Or.inl ?_) (Or.inl ?_) (Or.inl ?_) (Or.inr (Kc_s hI.2.2.2.2.2.1 (fun k j h1 h2 h3 => hf k j (by unfold WS; omega)) es eg)) (Or.inr el) (Or.inl ?_) (Or.inl ?_)
  · intro k j h; unfold kT at h; unfold WS; omega
  · intro k j h; unfold kP at h; unfold WS; omega
  · intro k j h; unfold kLw at h; unfold WS; omega
  · intro k j h; unfold kI at h; unfold WS; omega
  · intro k j h; unfold kU at h; unfold WS; omega
/-- what set leaves in the reference -/
def st3 (ν : Mm) (x y z : Int) : Mm := sM (sM (sM ν 70 30 x) 70 31 y) 70 32 z
theorem m_set : ∀ a0, rI a0 → ∀ a1, rI a1 → sI Inv Inv (X10_set a0 a1) (X11_set a0 a1) := by
  intro a ha v hv μ hI
  have t1 := t_X10_set (W := W70) (μs := μ) scr_70 (fun k j h => h) (hp_l1 := ha) (hp_l2 := hv) (St_rf hI.1)
  have hM := hI.2.1
  obtain ⟨_, _, _, _, _, _, _, k8, k9, _⟩ := id hI.2.2.2.2.2.1
  have kl := hI.2.2.2.2.2.2.1
  obtain ⟨m, m1, m2, m3, _⟩ := id hI.2.2.2.2.1
  have b30 : 1 ≤ μ 70 30 ∧ μ 70 30 ≤ 9 := hM.1 70 30 (by decide)
  have b31 : 0 ≤ μ 70 31 ∧ μ 70 31 ≤ 99 := hM.1 70 31 (by decide)
  have b32 : -1 ≤ μ 70 32 ∧ μ 70 32 ≤ 3 := hM.1 70 32 (by decide)
  have e1m : iS (μ 70 13) 1 = μ 70 13 - 1 := iS_id (by omega) (by omega)
  -- the last steps of the reference
  have fin : ∀ (ν : Mm) (x y z : Int), (∀ k j, 70 ≤ k → ν k j = μ k j) → Bx ν → fw WS μ ν → 1 ≤ x ∧ x ≤ 9 → 0 ≤ y ∧ y ≤ 99 → -1 ≤ z ∧ z < m → ν 5 7 = x → ν 5 8 = y → ν 0 17 = z → Inv (st3 ν x y z) := by
    intro ν x y z e hB hf hx hy hz h1 h2 h3
    have hBm : Bm ν := fun k j hk => by rw [e k j hk]; exact hM.1 k j hk
    have hB3 : Bm (st3 ν x y z) := Bm_sM (Bm_sM (Bm_sM hBm (show (1 : Int) ≤ x ∧ x ≤ 9 from hx)) (show (0 : Int) ≤ y ∧ y ≤ 99 from hy)) (show (-1 : Int) ≤ z ∧ z ≤ 3 by omega)
    have g : ∀ k j, ¬ (k = 70 ∧ (j = 30 ∨ j = 31 ∨ j = 32)) → st3 ν x y z k j = ν k j := fun k j h => by
      unfold st3 sM
      rw [if_neg (by omega), if_neg (by omega), if_neg (by omega)]
    have g30 : st3 ν x y z 70 30 = x := by unfold st3; rw [sM_j (by decide), sM_j (by decide), sM_s]
    have g31 : st3 ν x y z 70 31 = y := by unfold st3; rw [sM_j (by decide), sM_s]
    have g32 : st3 ν x y z 70 32 = z := by unfold st3; rw [sM_s]
    have hf3 : fw WS μ (st3 ν x y z) := fun k j hn => by rw [g k j (by unfold WS at hn; omega)]; exact hf k j hn
    refine Inv_S hI (Bx_congr hB (fun k j hk => g k j (by omega))) ?_ hf3 (by rw [g 5 7 (by omega), g30]; exact h1) (by rw [g 5 8 (by omega), g31]; exact h2) (by rw [g 0 17 (by omega), g32]; exact h3)
    obtain ⟨i1, i2, i3, i4, i5, i6, i7, i8⟩ := hM
    have q : ∀ k j, 70 ≤ k → ¬ (k = 70 ∧ (j = 30 ∨ j = 31 ∨ j = 32)) → st3 ν x y z k j = μ k j := fun k j h1 h2 => by rw [g k j h2, e k j h1]
    have e23 := q 70 23 (by decide) (by omega)
    have e24 := q 70 24 (by decide) (by omega)
    refine ⟨hB3, fun p k hp hk => ?_, fun h => ?_, fun h => ?_, ?_, fun l hl1 hl2 => ?_, UQ_congr i7 e23 e24 (fun p => q 82 p (by decide) (by omega)), fun h => ?_⟩
    · rw [q 70 28 (by decide) (by omega)] at hp
      rw [q 85 p (by decide) (by omega)] at hk
      rw [q 83 _ (by decide) (by omega)]
      exact i2 p k hp hk
    · rw [e23] at h
      obtain ⟨p, hp, ip, hp2⟩ := i3 h
      exact ⟨p, hp, (isP_congr e23 e24 p).mpr ip, by rw [q 82 p (by decide) (by omega)]; exact hp2⟩
    · rw [q 70 53 (by decide) (by omega)] at h
      obtain ⟨p, hp, ip, hp2⟩ := i4 h
      exact ⟨p, hp, (isP_congr e23 e24 p).mpr ip, by rw [q 96 p (by decide) (by omega)]; exact hp2⟩
    · rw [g32, q 70 13 (by decide) (by omega)]; omega
    · rw [q 70 13 (by decide) (by omega)] at hl2
      exact LawOK_congr (i6 l hl1 hl2) (agr_of l (fun k j h1 h2 => q k j (by omega) (by omega)))
    · rw [q 70 53 (by decide) (by omega)] at h
      exact UQ_congr (i8 h) e23 e24 (fun p => q 96 p (by decide) (by omega))
  have J85 : ∀ (ν : Mm) (s1 : Int), (∀ k j, 70 ≤ k → ν k j = μ k j) → X11_set_J85 a v s1 ν = some (1, st3 ν s1 (if a = 1 then v else μ 70 31) (if a = 2 then v else μ 70 32)) := by
    intro ν s1 e
    unfold X11_set_J85 X11_set_J102 sF st3
    dsimp only
    by_cases c1 : a = 1
    · rw [if_pos c1, if_pos c1, if_neg (by omega), if_neg (by omega)]
      rw [sM_j (by decide), sM_j (by decide), e 70 32 (by decide)]
    · rw [if_neg c1, if_neg c1, sM_j (k := 31) (by decide), e 70 31 (by decide)]
      by_cases c2 : a = 2
      · rw [if_pos c2, if_pos c2]
      · rw [if_neg c2, if_neg c2, sM_j (by decide), sM_j (by decide), e 70 32 (by decide)]
  by_cases c0 : a = 0
  · by_cases cs : μ 70 23 = 0
    · have e1 : X10_set a v μ = some (0, μ) := by
        unfold X10_set X0_tellStoop
        rw [if_pos c0, stands_5 hI, bd_some, if_pos (by rw [if_pos cs]), bd_some, rZ_b (Or.inl rfl)]
      have e2 : X11_set a v μ = some (0, μ) := by
        unfold X11_set
        rw [if_pos c0, if_pos cs]
      exact ⟨_, _, _, e1, e2, hI⟩
    · by_cases cv : 1 ≤ v ∧ v ≤ 9
      · have e1 : X10_set a v μ = some (1, sM μ 5 7 v) := by
          unfold X10_set X0_tellStoop sF
          dsimp only
          rw [if_pos c0, stands_5 hI, bd_some, if_neg (by rw [if_neg cs]; decide), if_neg (by omega), if_pos cv.2, bd_some, rZ_b (Or.inr rfl)]
        have e70 : ∀ k j, 70 ≤ k → sM μ 5 7 v k j = μ k j := fun k j hk => sM_a (by omega)
        have e2 : X11_set a v (sM μ 5 7 v) = some (1, st3 (sM μ 5 7 v) v (μ 70 31) (μ 70 32)) := by
          unfold X11_set
          rw [if_pos c0, e70 70 23 (by decide), if_neg cs]
          unfold X11_set_J11
          rw [in_rg _ (by omega), bd_some, if_neg (by decide), if_pos c0]
          unfold X11_set_J39
          rw [if_pos c0]
          unfold X11_set_J64
          rw [in_rg _ cv, bd_some, if_neg (by decide), if_pos c0, J85 _ _ e70, if_neg (by omega), if_neg (by omega)]
        exact ⟨_, _, _, e1, e2, fin _ _ _ _ e70 (Bx_t t1 e1) (fw_sM fw_rf (by unfold WS; omega)) cv b31 (by have := hM.2.2.2.2.1; omega) (by rw [sM_s]) (by rw [sM_j (by decide)]; exact k9) (by rw [sM_a (by decide)]; exact kl)⟩
      · have e1 : X10_set a v μ = some (0, μ) := by
          unfold X10_set X0_tellStoop
          rw [if_pos c0, stands_5 hI, bd_some, if_neg (by rw [if_neg cs]; decide)]
          by_cases c3 : v < 1
          · rw [if_pos c3, bd_some, rZ_b (Or.inl rfl)]
          · rw [if_neg c3, if_neg (by omega), bd_some, rZ_b (Or.inl rfl)]
        have e2 : X11_set a v μ = some (0, μ) := by
          unfold X11_set
          rw [if_pos c0, if_neg cs]
          unfold X11_set_J11
          rw [in_rg _ (by omega), bd_some, if_neg (by decide), if_pos c0]
          unfold X11_set_J39
          rw [if_pos c0]
          unfold X11_set_J64
          rw [in_no _ cv, bd_some, if_pos rfl]
        exact ⟨_, _, _, e1, e2, hI⟩
  · by_cases c1 : a = 1
    · by_cases cv : 0 ≤ v ∧ v ≤ 99
      · have e1 : X10_set a v μ = some (1, sM μ 5 8 v) := by
          unfold X10_set X0_tellNight sF
          dsimp only
          rw [if_neg c0, if_pos c1, if_neg (by omega), if_pos cv.2, bd_some, rZ_b (Or.inr rfl)]
        have e70 : ∀ k j, 70 ≤ k → sM μ 5 8 v k j = μ k j := fun k j hk => sM_a (by omega)
        have e2 : X11_set a v (sM μ 5 8 v) = some (1, st3 (sM μ 5 8 v) (μ 70 30) v (μ 70 32)) := by
          unfold X11_set
          rw [if_neg c0]
          unfold X11_set_J11
          rw [in_rg _ (by omega), bd_some, if_neg (by decide), if_neg c0, if_pos c1]
          unfold X11_set_J39
          rw [if_neg c0, if_pos c1]
          unfold X11_set_J64
          rw [in_rg _ cv, bd_some, if_neg (by decide), if_neg c0, J85 _ _ e70, if_pos c1, if_neg (by omega), e70 70 30 (by decide)]
        exact ⟨_, _, _, e1, e2, fin _ _ _ _ e70 (Bx_t t1 e1) (fw_sM fw_rf (by unfold WS; omega)) b30 cv (by have := hM.2.2.2.2.1; omega) (by rw [sM_j (by decide)]; exact k8) (by rw [sM_s]) (by rw [sM_a (by decide)]; exact kl)⟩
      · have e1 : X10_set a v μ = some (0, μ) := by
          unfold X10_set X0_tellNight
          rw [if_neg c0, if_pos c1]
          by_cases c3 : v < 0
          · rw [if_pos c3, bd_some, rZ_b (Or.inl rfl)]
          · rw [if_neg c3, if_neg (by omega), bd_some, rZ_b (Or.inl rfl)]
        have e2 : X11_set a v μ = some (0, μ) := by
          unfold X11_set
          rw [if_neg c0]
          unfold X11_set_J11
          rw [in_rg _ (by omega), bd_some, if_neg (by decide), if_neg c0, if_pos c1]
          unfold X11_set_J39
          rw [if_neg c0, if_pos c1]
          unfold X11_set_J64
          rw [in_no _ cv, bd_some, if_pos rfl]
        exact ⟨_, _, _, e1, e2, hI⟩
    · by_cases c2 : a = 2
      · by_cases cv : -1 ≤ v ∧ v ≤ μ 70 13 - 1
        · have e1 : X10_set a v μ = some (1, sM μ 0 17 v) := by
            unfold X10_set sF
            dsimp only
            rw [if_neg c0, if_neg c1, if_pos c2, if_neg (by omega), if_pos (by omega)]
          have e70 : ∀ k j, 70 ≤ k → sM μ 0 17 v k j = μ k j := fun k j hk => sM_a (by omega)
          have e2 : X11_set a v (sM μ 0 17 v) = some (1, st3 (sM μ 0 17 v) (μ 70 30) (μ 70 31) v) := by
            unfold X11_set
            rw [if_neg c0]
            unfold X11_set_J11
            rw [in_rg _ (by omega), bd_some, if_neg (by decide), if_neg c0, if_neg c1]
            unfold X11_set_J39
            rw [if_neg c0, if_neg c1, e70 70 13 (by decide), e1m]
            unfold X11_set_J64
            rw [in_rg _ cv, bd_some, if_neg (by decide), if_neg c0, J85 _ _ e70, if_neg c1, if_pos c2, e70 70 30 (by decide)]
          exact ⟨_, _, _, e1, e2, fin _ _ _ _ e70 (Bx_t t1 e1) (fw_sM fw_rf (by unfold WS; omega)) b30 b31 (by omega) (by rw [sM_a (by decide)]; exact k8) (by rw [sM_a (by decide)]; exact k9) (by rw [sM_s])⟩
        · have e1 : X10_set a v μ = some (0, μ) := by
            unfold X10_set
            rw [if_neg c0, if_neg c1, if_pos c2]
            by_cases c3 : v < -1
            · rw [if_pos c3]
            · rw [if_neg c3, if_neg (by omega)]
          have e2 : X11_set a v μ = some (0, μ) := by
            unfold X11_set
            rw [if_neg c0]
            unfold X11_set_J11
            rw [in_rg _ (by omega), bd_some, if_neg (by decide), if_neg c0, if_neg c1]
            unfold X11_set_J39
            rw [if_neg c0, if_neg c1, e1m]
            unfold X11_set_J64
            rw [in_no _ cv, bd_some, if_pos rfl]
          exact ⟨_, _, _, e1, e2, hI⟩
      · have e1 : X10_set a v μ = some (0, μ) := by
          unfold X10_set
          rw [if_neg c0, if_neg c1, if_neg c2]
        have e2 : X11_set a v μ = some (0, μ) := by
          unfold X11_set
          rw [if_neg c0]
          unfold X11_set_J11
          rw [in_no _ (by omega), bd_some, if_pos rfl]
        exact ⟨_, _, _, e1, e2, hI⟩
