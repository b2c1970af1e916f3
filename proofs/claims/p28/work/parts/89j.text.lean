/-! TEXT: a CELLAR, a PLAY, a LAW is taken -/
theorem bit_cnt : ∀ x, x < 256 → bA (iA (iA (bA (iA (iA (bA (iS ((x : Nat) : Int) (bA (bU ((x : Nat) : Int) 1) 1431655765)) 858993459) (bA (bU (iS ((x : Nat) : Int) (bA (bU ((x : Nat) : Int) 1) 1431655765)) 2) 858993459)) (bU (iA (bA (iS ((x : Nat) : Int) (bA (bU ((x : Nat) : Int) 1) 1431655765)) 858993459) (bA (bU (iS ((x : Nat) : Int) (bA (bU ((x : Nat) : Int) 1) 1431655765)) 2) 858993459)) 4)) 252645135) (bU (bA (iA (iA (bA (iS ((x : Nat) : Int) (bA (bU ((x : Nat) : Int) 1) 1431655765)) 858993459) (bA (bU (iS ((x : Nat) : Int) (bA (bU ((x : Nat) : Int) 1) 1431655765)) 2) 858993459)) (bU (iA (bA (iS ((x : Nat) : Int) (bA (bU ((x : Nat) : Int) 1) 1431655765)) 858993459) (bA (bU (iS ((x : Nat) : Int) (bA (bU ((x : Nat) : Int) 1) 1431655765)) 2) 858993459)) 4)) 252645135) 8)) (bU (iA (bA (iA (iA (bA (iS ((x : Nat) : Int) (bA (bU ((x : Nat) : Int) 1) 1431655765)) 858993459) (bA (bU (iS ((x : Nat) : Int) (bA (bU ((x : Nat) : Int) 1) 1431655765)) 2) 858993459)) (bU (iA (bA (iS ((x : Nat) : Int) (bA (bU ((x : Nat) : Int) 1) 1431655765)) 858993459) (bA (bU (iS ((x : Nat) : Int) (bA (bU ((x : Nat) : Int) 1) 1431655765)) 2) 858993459)) 4)) 252645135) (bU (bA (iA (iA (bA (iS ((x : Nat) : Int) (bA (bU ((x : Nat) : Int) 1) 1431655765)) 858993459) (bA (bU (iS ((x : Nat) : Int) (bA (bU ((x : Nat) : Int) 1) 1431655765)) 2) 858993459)) (bU (iA (bA (iS ((x : Nat) : Int) (bA (bU ((x : Nat) : Int) 1) 1431655765)) 858993459) (bA (bU (iS ((x : Nat) : Int) (bA (bU ((x : Nat) : Int) 1) 1431655765)) 2) 858993459)) 4)) 252645135) 8)) 16)) 63 = pc ((x : Nat) : Int) := by decide +kernel
theorem bitc {x : Int} (h : 0 ≤ x ∧ x ≤ 255) (μ : Mm) : J6_bitCount_0f7a4 x μ = some (pc x, μ) := by
  obtain ⟨y, rfl⟩ : ∃ y : Nat, x = (y : Int) := ⟨x.toNat, by omega⟩
  rw [← bit_cnt y (by omega)]
  rfl
theorem nt_ {x : Int} (h : -1 ≤ x ∧ x ≤ 59) (h1 : x ≠ -1) : x = ((x.toNat : Nat) : Int) ∧ x.toNat < 60 := by omega
/-! a CELLAR -/
def WTC (k j : Nat) : Prop := k = 3 ∨ (k = 5 ∧ 3 ≤ j ∧ j ≤ 7) ∨ (6 ≤ k ∧ k ≤ 8) ∨ (k = 9 ∧ 3 ≤ j ∧ j ≤ 7) ∨ (10 ≤ k ∧ k ≤ 12) ∨ (k = 67 ∧ j = 2) ∨ (k = 1 ∧ j = 1)
theorem bxS {μ : Mm} (h : Bx μ) {a j : Nat} {v : Int} (hv : (bx a j).1 ≤ v ∧ v ≤ (bx a j).2) (h1 : ¬ (a = 3 ∧ j = 0)) (h2 : ¬ (a = 62 ∧ j = 4)) (h3 : ¬ (a = 67 ∧ j = 3)) : Bx (sM μ a j v) :=
  (St_sM (W := fun _ _ => True) (St_rf h) trivial hv h1 h2 h3).1
theorem bx_open {μ : Mm} (h : Bx μ) : Bx (cr (sM μ 3 0 1) 0 (-1)) := by
  have t1 := t_X4_open (W := W70) (μs := μ) (l1 := 1) scr_70 (by decide) (St_rf h)
  rw [open_eq, wp_some] at t1
  exact t1.1.1
theorem k_tc {t : Nat → Int} {n : Nat} {μ : Mm} (hBx : Bx μ) (h : Ta t n μ) {q : Nat × Nat × CS} (hq : celS t n = some q) : ∃ ν, X10_takeCellar μ = some (q.2.2.2.2.1, ν) ∧ CelC ν 5 q.2.2 ∧ ν 5 4 = (q.2.1 : Int) ∧ ν 5 7 = 1 ∧ (∀ j, j < 8 → ν 8 j = 3) ∧ ν 9 4 = 0 ∧ ν 67 2 = 0 ∧ ν 1 1 = 0 ∧ fw WTC μ ν ∧ Bx ν := by
  obtain ⟨ν', p', f, e, g1, g2, g3, hm⟩ := cellarC (l0 := 5) (by decide) (Ta_Tx h)
  rw [hq] at hm
  obtain ⟨_, m1, m2⟩ := hm
  obtain ⟨ν2, e2, k1, k2, k3, _, _⟩ := clearC (l0 := 9) (by decide) (cr ν' p' f)
  have bA : Bx (cr ν' p' f) := by
    have t1 := t_X0_read (W := W70) (l0 := 5) scr_70 (fun k j _ h2 => by unfold W70; omega) (by decide) (St_rf (bx_open hBx))
    rw [e, wp_some] at t1
    exact t1.1.1
  have bB : Bx ν2 := by
    have t1 := t_X0_clear (W := W70) (l0 := 9) scr_70 (fun k j _ h2 => by unfold W70; omega) (by decide) (St_rf bA)
    rw [e2, wp_some] at t1
    exact t1.1.1
  have o1 : ∀ k j, k ≠ 3 → ¬ wK 5 k j → ¬ wK 9 k j → ν2 k j = μ k j := fun k j h3 h5 h9 => by
    rw [k1 k j h9, cr_c h3, g1 k j h5, sM_a h3]
  have o5 : ∀ k j, 5 ≤ k → k ≤ 8 → ν2 k j = ν' k j := fun k j h1 h2 => by
    rw [k1 k j (by unfold wK; omega), cr_c (by omega)]
  have e11 : ν2 1 1 = (n : Int) := by rw [o1 1 1 (by decide) (by unfold wK; omega) (by unfold wK; omega)]; exact h.2.1
  refine ⟨sM (sM ν2 67 2 0) 1 1 0, ?_, ?_, ?_, ?_, fun j hj => ?_, ?_, ?_, ?_, ?_, bxS (bxS bB (by decide) (by decide) (by decide) (by decide)) (by decide) (by decide) (by decide) (by decide)⟩
  · unfold X10_takeCellar
    rw [open_eq, bd_some, e, bd_some, e2, bd_some]
    unfold sF X7_cut sF
    dsimp only
    rw [if_neg (by decide), if_pos (by rw [sM_a (by decide), e11]; omega)]
    rw [bd_some, sM_a (by decide), sM_a (by decide), o5 5 5 (by decide) (by decide), m1.2.2.2.1]
  · refine ⟨fun j hj => ?_, ?_, fun c hc => ?_, ?_, ?_⟩
    · rw [sM_a (by decide), sM_a (by decide), o5 (5 + 1) j (by decide) (by decide)]; exact m1.1 j hj
    · rw [sM_a (by decide), sM_a (by decide), o5 5 3 (by decide) (by decide)]; exact m1.2.1
    · rw [sM_a (by decide), sM_a (by decide), o5 (5 + 2) c (by decide) (by decide)]; exact m1.2.2.1 c hc
    · rw [sM_a (by decide), sM_a (by decide), o5 5 5 (by decide) (by decide)]; exact m1.2.2.2.1
    · rw [sM_a (by decide), sM_a (by decide), o5 5 6 (by decide) (by decide)]; exact m1.2.2.2.2
  · rw [sM_a (by decide), sM_a (by decide), o5 5 4 (by decide) (by decide)]; exact m2
  · rw [sM_a (by decide), sM_a (by decide), o5 5 7 (by decide) (by decide)]; exact g2
  · rw [sM_a (by decide), sM_a (by decide), o5 8 j (by decide) (by decide)]; exact g3 j hj
  · rw [sM_a (by decide), sM_a (by decide)]; exact k3
  · rw [sM_a (by decide), sM_s]
  · rw [sM_s]
  · refine fw_sM (fw_sM (fun k j hn => o1 k j (fun z => hn (by unfold WTC; omega)) (fun z => hn (by unfold wK at z; unfold WTC; omega)) (fun z => hn (by unfold wK at z; unfold WTC; omega))) (by unfold WTC; omega)) (by unfold WTC; omega)
def WMC (k j : Nat) : Prop := (k = 70 ∧ (j = 23 ∨ j = 24 ∨ j = 30 ∨ j = 45 ∨ j = 53)) ∨ k = 82 ∨ k = 86
theorem tk_L : ∀ (d i fuel : Nat) (μ : Mm), i + d = 60 → d < fuel → Bm μ → (∀ p, p < 60 → isP μ p → 0 ≤ μ 81 p) → ∃ ν, (∀ K : Mm → Rs, X11_takeCellar_L18 K fuel (i : Int) μ = K ν) ∧ Bm ν ∧ (∀ k j, k ≠ 82 → ν k j = μ k j) ∧ (∀ j, j < i → ν 82 j = μ 82 j) ∧ ∀ j, i ≤ j → j < 60 → (isP μ j → ν 82 j = μ 81 j) ∧ (¬ isP μ j → ν 82 j = 1) := by
  intro d
  induction d with
  | zero =>
    intro i fuel μ hi hf hB hP
    obtain ⟨g, rfl, _⟩ := lt_fuel hf
    refine ⟨μ, fun K => ?_, hB, fun _ _ _ => rfl, fun _ _ => rfl, fun j h1 h2 => absurd h1 (by omega)⟩
    show (if 60 ≤ (i : Int) then _ else _) = _
    rw [if_pos (by omega)]
  | succ d ih =>
    intro i fuel μ hi hf hB hP
    obtain ⟨g, rfl, _⟩ := lt_fuel hf
    have h81 : (-1 : Int) ≤ μ 81 i ∧ μ 81 i ≤ 10 := hB 81 i (by decide)
    have step : ∀ v : Int, (0 ≤ v ∧ v ≤ 10) → (isP μ i → v = μ 81 i) → (¬ isP μ i → v = 1) → (∀ K : Mm → Rs, X11_takeCellar_L18 K (g + 1) (i : Int) μ = X11_takeCellar_L18 K g ((i + 1 : Nat) : Int) (sM μ 82 i v)) → ∃ ν, (∀ K : Mm → Rs, X11_takeCellar_L18 K (g + 1) (i : Int) μ = K ν) ∧ Bm ν ∧ (∀ k j, k ≠ 82 → ν k j = μ k j) ∧ (∀ j, j < i → ν 82 j = μ 82 j) ∧ ∀ j, i ≤ j → j < 60 → (isP μ j → ν 82 j = μ 81 j) ∧ (¬ isP μ j → ν 82 j = 1) := by
      intro v hv v1 v2 e
      obtain ⟨ν, r1, r2, r3, r4, r5⟩ := ih (i + 1) g (sM μ 82 i v) (by omega) (by omega) (Bm_sM hB hv) (fun p hp ip => by
        rw [sM_a (by decide)]
        exact hP p hp ((isP_congr (μ := μ) (sM_a (by decide)) (sM_a (by decide)) p).mp ip))
      refine ⟨ν, fun K => (e K).trans (r1 K), r2, fun k j hk => by rw [r3 k j hk, sM_a hk], fun j hj => by rw [r4 j (by omega), sM_j (by omega)], fun j h1 h2 => ?_⟩
      by_cases c : j = i
      · have e82 : ν 82 j = v := by rw [c, r4 i (by omega), sM_s]
        rw [e82, c]
        exact ⟨v1, v2⟩
      · have := r5 j (by omega) h2
        rw [isP_congr (μ := μ) (sM_a (by decide)) (sM_a (by decide)) j, sM_a (show (81 : Nat) ≠ 82 by decide)] at this
        exact this
    by_cases ip : isP μ i
    · refine step (μ 81 i) ⟨hP i (by omega) ip, h81.2⟩ (fun _ => rfl) (fun n => absurd ip n) (fun K => ?_)
      show (if 60 ≤ (i : Int) then _ else _) = _
      rw [if_neg (by omega), isPl_y (by omega) ip, bd_some, if_neg (by decide)]
      unfold ldA stA
      rw [if_pos (by show (0 : Int) ≤ (i : Int) ∧ (i : Int) < 60; omega)]
      dsimp only
      rw [if_pos (by show (0 : Int) ≤ (i : Int) ∧ (i : Int) < 60; omega), Int.toNat_natCast, iA_nat (by omega)]
    · refine step 1 (by decide) (fun n => absurd n ip) (fun _ => rfl) (fun K => ?_)
      show (if 60 ≤ (i : Int) then _ else _) = _
      rw [if_neg (by omega), isPl_n (by omega) ip, bd_some, if_pos rfl]
      unfold stA
      rw [if_pos (by show (0 : Int) ≤ (i : Int) ∧ (i : Int) < 60; omega), Int.toNat_natCast, iA_nat (by omega)]
theorem tk_W : ∀ (d i fuel : Nat) (μ : Mm), i + d = 8 → d < fuel → Bm μ → ∃ ν, (∀ K : Mm → Rs, X11_takeCellar_L56 K fuel (i : Int) μ = K ν) ∧ Bm ν ∧ (∀ k j, k ≠ 86 → ν k j = μ k j) ∧ (∀ j, j < i → ν 86 j = μ 86 j) ∧ ∀ j, i ≤ j → j < 8 → ν 86 j = 3 := by
  intro d
  induction d with
  | zero =>
    intro i fuel μ hi hf hB
    obtain ⟨g, rfl, _⟩ := lt_fuel hf
    refine ⟨μ, fun K => ?_, hB, fun _ _ _ => rfl, fun _ _ => rfl, fun j h1 h2 => absurd h1 (by omega)⟩
    show (if 8 ≤ (i : Int) then _ else _) = _
    rw [if_pos (by omega)]
  | succ d ih =>
    intro i fuel μ hi hf hB
    obtain ⟨g, rfl, _⟩ := lt_fuel hf
    obtain ⟨ν, r1, r2, r3, r4, r5⟩ := ih (i + 1) g (sM μ 86 i 3) (by omega) (by omega) (Bm_sM hB (show (0 : Int) ≤ 3 ∧ (3 : Int) ≤ 30 by decide))
    refine ⟨ν, fun K => ?_, r2, fun k j hk => by rw [r3 k j hk, sM_a hk], fun j hj => by rw [r4 j (by omega), sM_j (by omega)], fun j h1 h2 => ?_⟩
    · rw [← r1 K]
      show (if 8 ≤ (i : Int) then _ else _) = _
      rw [if_neg (by omega)]
      unfold stA
      rw [if_pos (by show (0 : Int) ≤ (i : Int) ∧ (i : Int) < 8; omega), Int.toNat_natCast, iA_nat (by omega)]
    · by_cases c : j = i
      · rw [c, r4 i (by omega), sM_s]
      · exact r5 j (by omega) h2
theorem tk_L0 {μ : Mm} (hB : Bm μ) (hP : ∀ p, p < 60 → isP μ p → 0 ≤ μ 81 p) : ∃ ν, (∀ K : Mm → Rs, X11_takeCellar_L18 K FU 0 μ = K ν) ∧ Bm ν ∧ (∀ k j, k ≠ 82 → ν k j = μ k j) ∧ ∀ j, j < 60 → (isP μ j → ν 82 j = μ 81 j) ∧ (¬ isP μ j → ν 82 j = 1) := by
  obtain ⟨ν, a1, a2, a3, _, a5⟩ := tk_L 60 0 FU μ (by decide) (by decide) hB hP
  exact ⟨ν, a1, a2, a3, fun j hj => a5 j (Nat.zero_le _) hj⟩
theorem tk_W0 {μ : Mm} (hB : Bm μ) : ∃ ν, (∀ K : Mm → Rs, X11_takeCellar_L56 K FU 0 μ = K ν) ∧ Bm ν ∧ (∀ k j, k ≠ 86 → ν k j = μ k j) ∧ ∀ j, j < 8 → ν 86 j = 3 := by
  obtain ⟨ν, a1, a2, a3, _, a5⟩ := tk_W 8 0 FU μ (by decide) (by decide) hB
  exact ⟨ν, a1, a2, a3, fun j hj => a5 j (Nat.zero_le _) hj⟩
theorem sF_r (μ : Mm) (a j : Nat) (v : Int) (f : Mm → Rs) : sF μ a j v f = f (sM μ a j v) := rfl
theorem tc_eq {μ ν1 ν2 : Mm} {r w : Int} (h18 : μ 70 18 = r) (h19 : μ 70 19 = w) (a1 : ∀ K : Mm → Rs, X11_takeCellar_L18 K FU 0 (sM (sM μ 70 23 r) 70 24 w) = K ν1) (b1 : ∀ K : Mm → Rs, X11_takeCellar_L56 K FU 0 ν1 = K ν2) (hx : 0 ≤ ν2 70 20 ∧ ν2 70 20 ≤ 255) : X11_takeCellar μ = some (pc (ν2 70 20), sM (sM (sM ν2 70 30 1) 70 45 0) 70 53 0) := by
  unfold X11_takeCellar
  rw [sF_r]
  try dsimp only
  rw [sF_r]
  try dsimp only
  rw [sM_j (show (19 : Nat) ≠ 23 by decide), h18, h19, a1, b1]
  unfold sF sZ
  dsimp only
  rw [if_pos (Or.inl rfl), sM_j (show (20 : Nat) ≠ 53 by decide), sM_j (show (20 : Nat) ≠ 45 by decide), sM_j (show (20 : Nat) ≠ 30 by decide), bitc hx, bd_some]
theorem m_tc {μ : Mm} {σ : CS} {r w : Nat} (hB : Bm μ) (hC : CelM μ σ) (h18 : μ 70 18 = (r : Int)) (h19 : μ 70 19 = (w : Int)) (hr : r ≤ 6) (hw : w ≤ 9) (hP : ∀ j, j < 60 → rct r w j → 0 ≤ μ 81 j) : ∃ ν, X11_takeCellar μ = some (σ.2.2.1, ν) ∧ Bm ν ∧ fw WMC μ ν ∧ ν 70 23 = (r : Int) ∧ ν 70 24 = (w : Int) ∧ ν 70 30 = 1 ∧ ν 70 45 = 0 ∧ ν 70 53 = 0 ∧ (∀ j, j < 8 → ν 86 j = 3) ∧ ∀ j, j < 60 → rct r w j → ν 82 j = μ 81 j := by
  have hB2 : Bm (sM (sM μ 70 23 (r : Int)) 70 24 (w : Int)) := Bm_sM (Bm_sM hB (show (0 : Int) ≤ (r : Int) ∧ (r : Int) ≤ 6 by omega)) (show (0 : Int) ≤ (w : Int) ∧ (w : Int) ≤ 9 by omega)
  obtain ⟨ν1, a1, a2, a3, a5⟩ := tk_L0 hB2 (fun j hj ip => by
    rw [sM_a (by decide), sM_a (by decide)]
    refine hP j hj ?_
    unfold isP at ip
    rw [sM_j (by decide), sM_s, sM_s] at ip
    exact ⟨Int.ofNat_lt.mp ip.1, Int.ofNat_lt.mp ip.2⟩)
  obtain ⟨ν2, b1, b2, b3, b5⟩ := tk_W0 a2
  have o2 : ∀ k j, k ≠ 86 → k ≠ 82 → ν2 k j = sM (sM μ 70 23 (r : Int)) 70 24 (w : Int) k j := fun k j h1 h2 => by rw [b3 k j h1, a3 k j h2]
  have e20 : ν2 70 20 = μ 70 20 := by rw [o2 70 20 (by decide) (by decide), sM_j (by decide), sM_j (by decide)]
  have e1 : X11_takeCellar μ = some (σ.2.2.1, sM (sM (sM ν2 70 30 1) 70 45 0) 70 53 0) := by
    rw [tc_eq h18 h19 a1 b1 (by rw [e20]; exact hC.2.2.1), e20, hC.2.2.2.2]
  refine ⟨_, e1, ?_, ?_, ?_, ?_, ?_, ?_, ?_, fun j hj => ?_, fun j hj hc => ?_⟩
  · exact Bm_sM (Bm_sM (Bm_sM b2 (show (1 : Int) ≤ 1 ∧ (1 : Int) ≤ 9 by decide)) (show (0 : Int) ≤ 0 ∧ (0 : Int) ≤ 10 by decide)) (show (0 : Int) ≤ 0 ∧ (0 : Int) ≤ 1 by decide)
  · refine fw_sM (fw_sM (fw_sM (fun k j hn => ?_) (Or.inl ⟨rfl, by decide⟩)) (Or.inl ⟨rfl, by decide⟩)) (Or.inl ⟨rfl, by decide⟩)
    have h86 : k ≠ 86 := fun z => hn (Or.inr (Or.inr z))
    have h82 : k ≠ 82 := fun z => hn (Or.inr (Or.inl z))
    have h24 : ¬ (k = 70 ∧ j = 24) := fun z => hn (Or.inl ⟨z.1, Or.inr (Or.inl z.2)⟩)
    have h23 : ¬ (k = 70 ∧ j = 23) := fun z => hn (Or.inl ⟨z.1, Or.inl z.2⟩)
    rw [o2 k j h86 h82]
    unfold sM
    rw [if_neg h24, if_neg h23]
  · rw [sM_j (by decide), sM_j (by decide), sM_j (by decide), o2 70 23 (by decide) (by decide), sM_j (by decide), sM_s]
  · rw [sM_j (by decide), sM_j (by decide), sM_j (by decide), o2 70 24 (by decide) (by decide), sM_s]
  · rw [sM_j (by decide), sM_j (by decide), sM_s]
  · rw [sM_j (by decide), sM_s]
  · rw [sM_s]
  · rw [sM_a (by decide), sM_a (by decide), sM_a (by decide)]; exact b5 j hj
  · rw [sM_a (by decide), sM_a (by decide), sM_a (by decide), b3 82 j (by decide)]
    have ip : isP (sM (sM μ 70 23 (r : Int)) 70 24 (w : Int)) j := by
      unfold isP
      rw [sM_j (by decide), sM_s, sM_s]
      exact ⟨Int.ofNat_lt.mpr hc.1, Int.ofNat_lt.mpr hc.2⟩
    rw [(a5 j hj).1 ip, sM_a (by decide), sM_a (by decide)]
def WX (k j : Nat) : Prop := WTC k j ∨ wR k j ∨ WMC k j ∨ (k = 70 ∧ j = 2)
theorem x_cel {t : Nat → Int} {n : Nat} {μ : Mm} (hI : Inv μ) (h : Ta t n μ) {q : Nat × Nat × CS} (hq : celS t n = some q) : ∃ r ν μ', X10_takeCellar μ = some (r, ν) ∧ X11_text 0 ν = some (r, μ') ∧ Inv μ' := by
  obtain ⟨ν, e1, c1, c2, c3, c4, c5, c6, c7, cf, hBx⟩ := k_tc hI.1 h hq
  have o1 : ∀ k j, 70 ≤ k → ν k j = μ k j := fun k j hk => cf k j (by unfold WTC; omega)
  have hB1 : Bm ν := fun k j hk => by rw [o1 k j hk]; exact hI.2.1.1 k j hk
  have hok := celS_J hq
  obtain ⟨k1, k2, k3, k4, kJ, k5, k6⟩ := hok
  obtain ⟨j1, j2, j3, j4, j5, j6, j7⟩ := kJ
  have hTm : Ta t n (sM ν 1 1 (n : Int)) := ⟨h.1, sM_s _ _ _ _, by rw [sM_a (by decide), o1 70 2 (by decide)]; exact h.2.2.1, fun j hj => by rw [sM_a (by decide), cf 2 j (by unfold WTC; omega)]; exact h.2.2.2.1 j hj, fun j hj => by rw [sM_a (by decide), o1 71 j (by decide)]; exact h.2.2.2.2.1 j hj, h.2.2.2.2.2⟩
  have hTm' : Tm t n ν := ⟨h.1, by rw [o1 70 2 (by decide)]; exact h.2.2.1, fun j hj => by rw [o1 71 j (by decide)]; exact h.2.2.2.2.1 j hj⟩
  obtain ⟨f, μ', a, e2, ha, hf, h4, hm⟩ := cellarM h.2.2.2.2.2 hB1 hTm'
  rw [hq] at hm
  obtain ⟨m0, m1, m2, m3⟩ := hm
  have h160 := h.1
  have hB2 : Bm (sM (ma μ' a) 70 2 0) := Bm_sM (Bm_ma hf.1 (by omega)) (show (0 : Int) ≤ 0 ∧ (0 : Int) ≤ 160 by decide)
  have m1' : CelM (sM (ma μ' a) 70 2 0) q.2.2 := by
    obtain ⟨g1, g2, g3, g4, g5⟩ := CelM_ma (a := a) m1
    exact ⟨fun s hs z => by rw [sM_a (by decide)]; exact g1 s hs z, by rw [sM_j (by decide)]; exact g2, by rw [sM_j (by decide)]; exact g3, fun c hc => by rw [sM_j (by decide)]; exact g4 c hc, by rw [sM_j (by decide)]; exact g5⟩
  obtain ⟨ξ, e3, d1, d2, d3, d4, d5, d6, d7, d8, d9⟩ := m_tc hB2 m1' (by rw [sM_j (by decide), ma_j (by decide)]; exact m2) (by rw [sM_j (by decide), ma_j (by decide)]; exact m3) k2 k4 (fun j hj hc => by
    have e := m1'.1 j hj ((j1 j).mpr hc)
    have e2 := (j1 j).mpr hc
    have e3 := (j3 j).1
    rw [e]
    omega)
  have e4 : X11_text 0 ν = some (q.2.2.2.2.1, ξ) := by
    unfold X11_text
    rw [if_pos rfl, e2, bd_some, if_pos m0]
    unfold sF
    dsimp only
    rw [e3, bd_some]
  refine ⟨_, ν, ξ, e1, e4, ?_⟩
  have o2 : ∀ k j, k < 70 → ξ k j = ν k j := fun k j hk => by
    rw [d2 k j (by unfold WMC; omega), sM_a (by omega), ma_c (by omega), hf.2 k j (by unfold wR; omega)]
  have hfw : fw WX μ ξ := fun k j hn => by
    rw [d2 k j (fun z => hn (Or.inr (Or.inr (Or.inl z))))]
    have e5 : sM (ma μ' a) 70 2 0 k j = ma μ' a k j := by
      unfold sM
      rw [if_neg (fun z => hn (Or.inr (Or.inr (Or.inr z))))]
    have e6 : ma μ' a k j = μ' k j := by
      unfold ma sM
      rw [if_neg (fun z => hn (Or.inr (Or.inl (by unfold wR; omega))))]
    rw [e5, e6, hf.2 k j (fun z => hn (Or.inr (Or.inl z))), cf k j (fun z => hn (Or.inl z))]
  have ipx : ∀ p, isP ξ p ↔ rct q.1 q.2.1 p := fun p => by
    unfold isP rct
    rw [d3, d4]
    omega
  have e82 : ∀ p, p < 60 → isP ξ p → ξ 82 p = q.2.2.1 p := fun p hp ip => by
    have hc := (ipx p).mp ip
    rw [d9 p hp hc]
    exact m1'.1 p hp ((j1 p).mpr hc)
  have x6 : ∀ p, p < 60 → ξ 6 p = q.2.2.1 p := fun p hp => by rw [o2 6 p (by decide)]; exact c1.1 p hp
  have x7 : ∀ c, c < 8 → ξ 7 c = q.2.2.2.1 (3 + c) := fun c hc => by rw [o2 7 c (by decide)]; exact c1.2.2.1 c hc
  have nP : ∀ p, ¬ isP ξ p → q.2.2.1 p = -1 := fun p hn => Classical.byContradiction (fun z => hn ((ipx p).mpr ((j1 p).mp z)))
  have hK : Kc ξ 5 82 86 30 31 := by
    have h9 := hI.2.2.2.2.2.1.2.2.2.2.2.2.2.2.1
    refine ⟨fun p hp => ⟨fun ip => ?_, fun hn => ?_⟩, fun p hp => ?_, fun c hc p hp => ?_, fun c hc => ?_, ?_, ?_, ?_, ?_, ?_, fun _ c hc => ?_⟩
    · show ξ 6 p = ξ 82 p
      rw [x6 p hp, e82 p hp ip]
    · show ξ 6 p = -1
      rw [x6 p hp, nP p hn]
    · rw [o2 5 3 (by decide), c1.2.1]
      have k := j4 2 (by decide) (by decide) p
      constructor
      · rintro ⟨ip, e⟩
        rw [e82 p hp ip] at e
        exact k.mp e
      · intro e
        have e' := k.mpr e
        have ip : isP ξ p := Classical.byContradiction (fun hn => by rw [nP p hn] at e'; exact absurd e' (by decide))
        exact ⟨ip, by rw [e82 p hp ip]; exact e'⟩
    · show (isP ξ p ∧ ξ 82 p = 3 + ((c : Nat) : Int)) ↔ ξ 7 c = ((p : Nat) : Int)
      rw [x7 c hc]
      have k := j4 (3 + c) (by omega) (by omega) p
      have ec : ((3 + c : Nat) : Int) = 3 + (c : Int) := by omega
      rw [ec] at k
      constructor
      · rintro ⟨ip, e⟩
        rw [e82 p hp ip] at e
        exact k.mp e
      · intro e
        have e' := k.mpr e
        have ip : isP ξ p := Classical.byContradiction (fun hn => by rw [nP p hn] at e'; omega)
        exact ⟨ip, by rw [e82 p hp ip]; exact e'⟩
    · show -1 ≤ ξ 7 c ∧ ξ 7 c ≤ 59
      rw [x7 c hc]; exact j5 (3 + c) (by omega) (by omega)
    · rw [o2 5 4 (by decide), c2, d3]; omega
    · rw [o2 5 5 (by decide), c1.2.2.2.1, j6]
      exact cnt_congr 8 (fun c hc => (x7 c hc).symm)
    · rw [o2 5 6 (by decide), c1.2.2.2.2, j7]
      exact cnt_congr 60 (fun p hp => (x6 p hp).symm)
    · rw [o2 5 7 (by decide), c3, d5]
    · rw [hfw 5 8 (by unfold WX WTC wR WMC; omega), hfw 70 31 (by unfold WX WTC wR WMC; omega)]; exact h9
    · show ξ 8 c = ξ 86 c
      rw [o2 8 c (by decide), c4 c hc, d8 c hc]
  have hIr : Ir ξ := by
    obtain ⟨_, i2, _, _, i5, i6, _, _⟩ := hI.2.1
    have s : ∀ j, (j = 13 ∨ j = 28 ∨ j = 32) → ξ 70 j = μ 70 j := fun j hj => hfw 70 j (by unfold WX WTC wR WMC; omega)
    refine ⟨d1, fun p k hp hk => ?_, fun _ => ?_, fun z => absurd d7 z, ?_, fun l l1 l2 => ?_, fun a b ha hb ia ib e z => ?_, fun z => absurd d7 z⟩
    · rw [s 28 (by decide)] at hp
      rw [hfw 85 p (by unfold WX WTC wR WMC; omega)] at hk
      rw [hfw 83 _ (by unfold WX WTC wR WMC; omega)]
      exact i2 p k hp hk
    · have b2 := j5 2 (by decide) (by decide)
      obtain ⟨b3, b4⟩ := nt_ b2 k5
      have k := (j4 2 (by decide) (by decide) (q.2.2.2.1 2).toNat).mpr b3
      have ip : isP ξ (q.2.2.2.1 2).toNat := Classical.byContradiction (fun hn => by rw [nP _ hn] at k; exact absurd k (by decide))
      exact ⟨(q.2.2.2.1 2).toNat, b4, ip, by rw [e82 _ b4 ip]; exact k⟩
    · rw [s 32 (by decide), s 13 (by decide)]; exact i5
    · rw [s 13 (by decide)] at l2
      exact LawOK_congr (i6 l l1 l2) (agr_of l (fun k j h1 h2 => hfw k j (by unfold WX WTC wR WMC; omega)))
    · rw [e82 a ha ia, e82 b hb ib] at e
      rw [e82 a ha ia] at z
      have hb3 := j3 a
      obtain ⟨v, hv⟩ : ∃ v : Nat, q.2.2.1 a = (v : Int) := ⟨(q.2.2.1 a).toNat, by omega⟩
      have g1 := (j4 v (by omega) (by omega) a).mp hv
      have g2 := (j4 v (by omega) (by omega) b).mp (by rw [← e]; exact hv)
      omega
  refine Inv_W hI (Bx_congr hBx o2) hIr hfw (Or.inr ⟨0, by decide, ?_, ?_, fun j hj => absurd hj (by omega)⟩) (Or.inl ?_) (Or.inl ?_) (Or.inr hK) (Or.inl ?_) (Or.inr ⟨?_, fun z => absurd d7 z⟩) (Or.inr ⟨0, by decide, ?_, ?_, fun j hj => absurd hj (by omega)⟩)
  · rw [o2 1 1 (by decide), c7]; rfl
  · rw [d2 70 2 (by unfold WMC; omega), sM_s]; rfl
  · intro k j h; unfold kP at h; unfold WX WTC wR WMC; omega
  · intro k j h; unfold kLw at h; unfold WX WTC wR WMC; omega
  · intro k j h; unfold kH at h; unfold WX WTC wR WMC; omega
  · rw [o2 9 4 (by decide), c5, d7]; exact ⟨fun _ => rfl, fun _ => by decide⟩
  · rw [o2 67 2 (by decide), c6]; rfl
  · rw [d6]; rfl
