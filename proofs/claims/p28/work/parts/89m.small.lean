/-! AT, COUNT: what both tell -/
theorem m_at : ∀ a0, rI a0 → sI Inv Inv (X10_at a0) (X11_at a0) := by
  intro a ha μ hI
  obtain ⟨h1, _⟩ := hI.2.2.2.2.2.1
  by_cases c0 : 0 ≤ a ∧ a < 60
  · obtain ⟨p, rfl⟩ : ∃ p : Nat, a = (p : Int) := ⟨a.toNat, by omega⟩
    have hp : p < 60 := by omega
    have e1 : X10_at (p : Int) μ = some (μ 6 p, μ) := by
      unfold X10_at X0_cellAt ldA
      rw [if_neg (by omega), if_neg (by omega), if_pos (by show (0 : Int) ≤ (p : Int) ∧ (p : Int) < 60; omega), Int.toNat_natCast, bd_some]
    have e2 : X11_at (p : Int) μ = some (μ 6 p, μ) := by
      unfold X11_at
      by_cases ip : isP μ p
      · rw [isPl_y hp ip, bd_some, if_neg (by decide)]
        unfold ldA
        rw [if_pos (by show (0 : Int) ≤ (p : Int) ∧ (p : Int) < 60; omega), Int.toNat_natCast]
        have h : μ 6 p = μ 82 p := (h1 p hp).1 ip
        rw [h]
      · have h : μ 6 p = -1 := (h1 p hp).2 ip
        rw [isPl_n hp ip, bd_some, if_pos rfl, h]
    exact ⟨_, _, _, e1, e2, hI⟩
  · have e1 : X10_at a μ = some (-1, μ) := by
      unfold X10_at X0_cellAt
      by_cases c : a < 0
      · rw [if_pos c, bd_some]
      · rw [if_neg c, if_pos (by omega), bd_some]
    have e2 : X11_at a μ = some (-1, μ) := by
      unfold X11_at
      rw [isPl_no hI.2.1.1 ha (by omega), bd_some, if_pos rfl]
    exact ⟨_, _, _, e1, e2, hI⟩
theorem crks_L {μ : Mm} (hK : Kc μ 5 82 86 30 31) (hI : Inv μ) : ∀ (d i fuel : Nat), i + d = 8 → d < fuel → X11_cranks_L4 fuel (cnt isX (μ 7) i) (i : Int) μ = some (cnt isX (μ 7) 8, μ) := by
  intro d
  induction d with
  | zero =>
    intro i fuel hi hf
    obtain ⟨g, rfl, _⟩ := lt_fuel hf
    show (if 8 ≤ (i : Int) then _ else _) = _
    rw [if_pos (by omega)]
    have : i = 8 := by omega
    rw [this]
  | succ d ih =>
    intro i fuel hi hf
    obtain ⟨g, rfl, _⟩ := lt_fuel hf
    have hb := cnt_b (P := isX) (f := μ 7) i
    have e0 : iA (cnt isX (μ 7) i) 0 = cnt isX (μ 7) i := by rw [iA_id (by omega) (by omega)]; omega
    have e1 : iA (cnt isX (μ 7) i) 1 = cnt isX (μ 7) i + 1 := iA_id (by omega) (by omega)
    have es : cnt isX (μ 7) (i + 1) = cnt isX (μ 7) i + (if isX (μ 7 i) then 1 else 0) := rfl
    have hn := ih (i + 1) g (by omega) (by omega)
    rw [es] at hn
    have ha : rI (i : Int) := ⟨by omega, by omega⟩
    obtain ⟨w, ew, hw⟩ := crk hI ha
    have hc := crk_m (μ := μ) (ν := μ) (fun k j _ => rfl) ha hw
    have e7 : w = μ 7 i := by
      have : X0_placeOf 5 (i : Int) μ = some (μ 7 i, μ) := by
        unfold X0_placeOf ldA
        rw [if_neg (by omega), if_neg (by omega), if_pos (by show (0 : Int) ≤ (i : Int) ∧ (i : Int) < 8; omega), Int.toNat_natCast]
      rw [this] at ew
      cases ew
      rfl
    show (if 8 ≤ (i : Int) then _ else _) = _
    rw [if_neg (by omega), hc, bd_some]
    rw [e7]
    by_cases c : μ 7 i = -1
    · rw [c] at hn ⊢
      rw [if_pos (by rw [if_pos rfl]), e0, iA_nat (by omega)]
      rw [if_neg (by decide)] at hn
      have z : cnt isX (μ 7) i + 0 = cnt isX (μ 7) i := by omega
      rw [z] at hn
      exact hn
    · rw [if_neg (by rw [if_neg c]; decide), e1, iA_nat (by omega)]
      rw [isX_i c, if_pos rfl] at hn
      exact hn
theorem crks_eq {μ : Mm} (hI : Inv μ) : X11_cranks μ = some (cnt isX (μ 7) 8, μ) := crks_L hI.2.2.2.2.2.1 hI 8 0 FU rfl (by decide)
theorem m_count : ∀ a0, rI a0 → sI Inv Inv (X10_count a0) (X11_count a0) := by
  intro a ha μ hI
  have hK := hI.2.2.2.2.2.1
  have h6 : μ 5 5 = cnt isX (μ 7) 8 := hK.2.2.2.2.2.1
  have h7 : μ 5 6 = cnt is1 (μ 6) 60 := hK.2.2.2.2.2.2.1
  have h8 : μ 5 7 = μ 70 30 := hK.2.2.2.2.2.2.2.1
  have h9 : μ 5 8 = μ 70 31 := hK.2.2.2.2.2.2.2.2.1
  obtain ⟨n1, _, t1, t2, _⟩ := id hI.2.2.1
  obtain ⟨n2, _, p1, p2, _⟩ := id hI.2.2.2.1
  obtain ⟨n3, _, l1, l2, _⟩ := id hI.2.2.2.2.1
  obtain ⟨n4, _, u1, u2, _⟩ := id hI.2.2.2.2.2.2.2.2
  have hw : μ 0 17 = μ 70 32 := hI.2.2.2.2.2.2.1
  have hp : X11_posts μ = some (cnt is1 (μ 6) 60, μ) := posts_eq hK.1
  have hc := crks_eq hI
  by_cases c0 : a = 0
  · refine ⟨μ 5 5, μ, μ, ?_, ?_, hI⟩
    · unfold X10_count
      rw [if_pos c0]
    · unfold X11_count
      rw [if_pos c0, hc, bd_some, ← h6]
  by_cases c1 : a = 1
  · refine ⟨μ 0 15, μ, μ, ?_, ?_, hI⟩
    · unfold X10_count
      rw [if_neg c0, if_pos c1]
    · unfold X11_count
      rw [if_neg c0, if_pos c1, p2, ← p1]
  by_cases c2 : a = 2
  · refine ⟨μ 0 16, μ, μ, ?_, ?_, hI⟩
    · unfold X10_count
      rw [if_neg c0, if_neg c1, if_pos c2]
    · unfold X11_count
      rw [if_neg c0, if_neg c1, if_pos c2, l2, ← l1]
  by_cases c3 : a = 3
  · refine ⟨μ 1 1, μ, μ, ?_, ?_, hI⟩
    · unfold X10_count
      rw [if_neg c0, if_neg c1, if_neg c2, if_pos c3]
    · unfold X11_count
      rw [if_neg c0, if_neg c1, if_neg c2, if_pos c3, t2, ← t1]
  by_cases c4 : a = 4
  · refine ⟨μ 5 7, μ, μ, ?_, ?_, hI⟩
    · unfold X10_count
      rw [if_neg c0, if_neg c1, if_neg c2, if_neg c3, if_pos c4]
    · unfold X11_count
      rw [if_neg c0, if_neg c1, if_neg c2, if_neg c3, if_pos c4, ← h8]
  by_cases c5 : a = 5
  · refine ⟨μ 5 8, μ, μ, ?_, ?_, hI⟩
    · unfold X10_count
      rw [if_neg c0, if_neg c1, if_neg c2, if_neg c3, if_neg c4, if_pos c5]
    · unfold X11_count
      rw [if_neg c0, if_neg c1, if_neg c2, if_neg c3, if_neg c4, if_pos c5, ← h9]
  by_cases c6 : a = 6
  · refine ⟨μ 0 17, μ, μ, ?_, ?_, hI⟩
    · unfold X10_count
      rw [if_neg c0, if_neg c1, if_neg c2, if_neg c3, if_neg c4, if_neg c5, if_pos c6]
    · unfold X11_count
      rw [if_neg c0, if_neg c1, if_neg c2, if_neg c3, if_neg c4, if_neg c5, if_pos c6, ← hw]
  by_cases c7 : a = 7
  · refine ⟨μ 67 2, μ, μ, ?_, ?_, hI⟩
    · unfold X10_count
      rw [if_neg c0, if_neg c1, if_neg c2, if_neg c3, if_neg c4, if_neg c5, if_neg c6, if_pos c7]
    · unfold X11_count
      rw [if_neg c0, if_neg c1, if_neg c2, if_neg c3, if_neg c4, if_neg c5, if_neg c6, if_pos c7, u2, ← u1]
  by_cases c8 : a = 8
  · refine ⟨μ 5 6, μ, μ, ?_, ?_, hI⟩
    · unfold X10_count
      rw [if_neg c0, if_neg c1, if_neg c2, if_neg c3, if_neg c4, if_neg c5, if_neg c6, if_neg c7, if_pos c8]
    · unfold X11_count
      rw [if_neg c0, if_neg c1, if_neg c2, if_neg c3, if_neg c4, if_neg c5, if_neg c6, if_neg c7, if_pos c8, hp, bd_some, ← h7]
  refine ⟨-1000000, μ, μ, ?_, ?_, hI⟩
  · unfold X10_count
    rw [if_neg c0, if_neg c1, if_neg c2, if_neg c3, if_neg c4, if_neg c5, if_neg c6, if_neg c7, if_neg c8]
  · unfold X11_count
    rw [if_neg c0, if_neg c1, if_neg c2, if_neg c3, if_neg c4, if_neg c5, if_neg c6, if_neg c7, if_neg c8]
