/-! FIT in the class -/
theorem gb_all11 : ∀ m, m < 11 → ∀ d, d < 32 → gb (iS (bL 1 ((m : Nat) : Int)) 1) d = decide (d < m) := by decide +kernel
theorem all_rI11 : ∀ m, m < 11 → -2147483648 ≤ iS (bL 1 ((m : Nat) : Int)) 1 ∧ iS (bL 1 ((m : Nat) : Int)) 1 ≤ 2147483647 := by decide +kernel
theorem gb_1 : ∀ d, d < 32 → gb 1 d = decide (d = 0) := by decide +kernel
theorem bit_01 (x : Int) : bA x 1 = 0 ∨ bA x 1 = 1 := by
  have e : bA x 1 = bA ((1 : Nat) : Int) x := gb_ext (bA_r _ _) (bA_r _ _) (fun d hd => by
    have e1 : ((1 : Nat) : Int) = 1 := rfl
    rw [gb_and, gb_and, e1, Bool.and_comm])
  have h := bA_lt (a := 1) (by decide) x
  rw [← e] at h
  omega
/-- H tells, of N THUDS, which are heard -/
def hmk (H : Int) (N : Nat) (h : Nat → Prop) : Prop := rI H ∧ ∀ d, d < 32 → (gb H d = true ↔ d < N ∧ h d)
theorem hmk_all {H : Int} {N : Nat} {h : Nat → Prop} (hN : N ≤ 10) (hh : hmk H N h) : H = iS (bL 1 (N : Int)) 1 ↔ ∀ j, j < N → h j := by
  constructor
  · intro e j hj
    have := (hh.2 j (by omega)).mp (by rw [e, gb_all11 N (by omega) j (by omega)]; exact decide_eq_true hj)
    exact this.2
  · intro z
    refine gb_ext hh.1 (all_rI11 N (by omega)) (fun d hd => ?_)
    rw [hh.2 d hd, gb_all11 N (by omega) d hd, decide_eq_true_iff]
    exact ⟨fun y => y.1, fun y => ⟨y, z d y⟩⟩
/-- the THUDS in the class -/
def ThC (ν : Mm) (N : Nat) (ts tc : Nat → Int) : Prop := ν 67 2 = (N : Int) ∧ ∀ j, j < N → ν 68 j = ts j ∧ ν 69 j = tc j
theorem heC_L {N : Nat} (hN : N ≤ 10) {ts tc : Nat → Int} {ν : Mm} (hT : ThC ν N ts tc) {c x y : Int} : ∀ (r j fuel : Nat) (H : Int), j + r = N → r < fuel → hmk H j (fun d => c = tc d ∧ x ≤ ts d ∧ ts d ≤ y) → ∃ H', X8_heardAt_L6 c x y fuel H (j : Int) ν = some (H', ν) ∧ hmk H' N (fun d => c = tc d ∧ x ≤ ts d ∧ ts d ≤ y) := by
  obtain ⟨h2, hd⟩ := hT
  intro r
  induction r with
  | zero =>
    intro j fuel H hr hf hH
    obtain ⟨g, rfl, _⟩ := lt_fuel hf
    have e : j = N := by omega
    rw [e] at hH
    refine ⟨H, ?_, hH⟩
    show (if (ν 67 2) ≤ (j : Int) then _ else _) = _
    rw [h2, if_pos (by omega)]
  | succ r ih =>
    intro j fuel H hr hf hH
    obtain ⟨g, rfl, _⟩ := lt_fuel hf
    have hj : j < N := by omega
    obtain ⟨d1, d2⟩ := hd j hj
    have i10 : (0 : Int) ≤ (j : Int) ∧ (j : Int) < 10 := by omega
    have skip : ¬ (c = tc j ∧ x ≤ ts j ∧ ts j ≤ y) → hmk H (j + 1) (fun d => c = tc d ∧ x ≤ ts d ∧ ts d ≤ y) := fun hn => ⟨hH.1, fun d hd2 => by
      rw [hH.2 d hd2]
      constructor
      · rintro ⟨z1, z2⟩; exact ⟨by omega, z2⟩
      · rintro ⟨z1, z2⟩
        by_cases e : d = j
        · rw [e] at z2; exact absurd z2 hn
        · exact ⟨by omega, z2⟩⟩
    have e0 : X8_heardAt_L6 c x y (g + 1) H (j : Int) ν = if tc j = c then (if ts j < x then X8_heardAt_L6 c x y g H ((j + 1 : Nat) : Int) ν else (if y < ts j then X8_heardAt_L6 c x y g H ((j + 1 : Nat) : Int) ν else X8_heardAt_L6 c x y g (bO H (bL 1 (j : Int))) ((j + 1 : Nat) : Int) ν)) else X8_heardAt_L6 c x y g H ((j + 1 : Nat) : Int) ν := by
      show (if (ν 67 2) ≤ (j : Int) then _ else _) = _
      have L69 : ∀ f : Int → Rs, ldA ν 69 (j : Int) f = f (tc j) := fun f => by
        unfold ldA
        rw [if_pos (by exact i10), Int.toNat_natCast, d2]
      have L68 : ∀ f : Int → Rs, ldA ν 68 (j : Int) f = f (ts j) := fun f => by
        unfold ldA
        rw [if_pos (by exact i10), Int.toNat_natCast, d1]
      rw [h2, if_neg (by omega), L69]
      try dsimp only
      rw [L68]
      try dsimp only
      rw [L68, iA_nat (by omega)]
      rfl
    rw [e0]
    by_cases c1 : tc j = c
    · rw [if_pos c1]
      by_cases c2 : ts j < x
      · rw [if_pos c2]
        exact ih (j + 1) g H (by omega) (by omega) (skip (fun z => by omega))
      · rw [if_neg c2]
        by_cases c3 : y < ts j
        · rw [if_pos c3]
          exact ih (j + 1) g H (by omega) (by omega) (skip (fun z => by omega))
        · rw [if_neg c3]
          refine ih (j + 1) g _ (by omega) (by omega) ⟨bO_r _ _, fun d hd2 => ?_⟩
          rw [gb_put (by omega) H hd2, hH.2 d hd2]
          constructor
          · rintro (⟨z1, z2⟩ | z)
            · exact ⟨by omega, z2⟩
            · rw [z]; exact ⟨by omega, c1.symm, by omega, by omega⟩
          · rintro ⟨z1, z2⟩
            by_cases e : d = j
            · exact Or.inr e
            · exact Or.inl ⟨by omega, z2⟩
    · rw [if_neg c1]
      exact ih (j + 1) g H (by omega) (by omega) (skip (fun z => c1 z.1.symm))
theorem heC {N : Nat} (hN : N ≤ 10) {ts tc : Nat → Int} {ν : Mm} (hT : ThC ν N ts tc) {c x y : Int} : ∃ H', X8_heardAt c x y ν = some (H', ν) ∧ hmk H' N (fun d => c = tc d ∧ x ≤ ts d ∧ ts d ≤ y) :=
  heC_L hN hT N 0 FU 0 (by omega) (by show N < 1000000; omega) ⟨show (-2147483648 : Int) ≤ 0 ∧ (0 : Int) ≤ 2147483647 by decide, fun d hd => ⟨fun z => absurd z (by rw [gb_zero d hd]; decide), fun z => absurd z.1 (Nat.not_lt_zero _)⟩⟩
theorem hmk_or {H H' : Int} {N : Nat} {h h' : Nat → Prop} (h1 : hmk H N h) (h2 : hmk H' N h') : hmk (bO H H') N (fun d => h d ∨ h' d) := ⟨bO_r _ _, fun d hd => by
  rw [gb_or, Bool.or_eq_true, h1.2 d hd, h2.2 d hd]
  constructor
  · rintro (⟨z1, z2⟩ | ⟨z1, z2⟩)
    · exact ⟨z1, Or.inl z2⟩
    · exact ⟨z1, Or.inr z2⟩
  · rintro ⟨z1, z2 | z2⟩
    · exact Or.inl ⟨z1, z2⟩
    · exact Or.inr ⟨z1, z2⟩⟩
theorem hmk_c {H : Int} {N : Nat} {h h' : Nat → Prop} (h1 : hmk H N h) (e : ∀ d, h d ↔ h' d) : hmk H N h' := ⟨h1.1, fun d hd => by rw [h1.2 d hd, e d]⟩
theorem msC_L {N : Nat} (hN : N ≤ 10) {ts tc : Nat → Int} {ν : Mm} (hT : ThC ν N ts tc) {H y : Int} {h : Nat → Prop} (hH : hmk H N h) : ∀ (r j fuel : Nat), j + r = N → r < fuel → (∀ d, d < j → ¬ (ts d ≤ y ∧ ¬ h d)) → ((∃ d, d < N ∧ ts d ≤ y ∧ ¬ h d) → X8_isMissed_L2 H y fuel (j : Int) ν = some (1, ν)) ∧ ((∀ d, d < N → ¬ (ts d ≤ y ∧ ¬ h d)) → X8_isMissed_L2 H y fuel (j : Int) ν = some (0, ν)) := by
  obtain ⟨h2, hd⟩ := hT
  intro r
  induction r with
  | zero =>
    intro j fuel hr hf hb
    obtain ⟨g, rfl, _⟩ := lt_fuel hf
    constructor
    · rintro ⟨d, z1, z2⟩
      exact absurd z2 (hb d (by omega))
    · intro _
      show (if (ν 67 2) ≤ (j : Int) then _ else _) = _
      rw [h2, if_pos (by omega)]
  | succ r ih =>
    intro j fuel hr hf hb
    obtain ⟨g, rfl, _⟩ := lt_fuel hf
    have hj : j < N := by omega
    obtain ⟨d1, d2⟩ := hd j hj
    have i10 : (0 : Int) ≤ (j : Int) ∧ (j : Int) < 10 := by omega
    have hbit : bA (bR H (j : Int)) 1 = 0 ↔ ¬ h j := by
      have h01 := bit_01 (bR H (j : Int))
      have hb1 : bA (bR H (j : Int)) 1 = 1 ↔ h j := by
        rw [bt1 (by omega), hH.2 j (by omega)]
        exact ⟨fun z => z.2, fun z => ⟨hj, z⟩⟩
      constructor
      · intro e z
        have := hb1.mpr z
        omega
      · intro z
        rcases h01 with e | e
        · exact e
        · exact absurd (hb1.mp e) z
    have e0 : X8_isMissed_L2 H y (g + 1) (j : Int) ν = if y < ts j then X8_isMissed_L2 H y g ((j + 1 : Nat) : Int) ν else (if (bA (bR H (j : Int)) 1) = 0 then some (1, ν) else X8_isMissed_L2 H y g ((j + 1 : Nat) : Int) ν) := by
      show (if (ν 67 2) ≤ (j : Int) then _ else _) = _
      rw [h2, if_neg (by omega)]
      unfold ldA
      rw [if_pos (by exact i10), Int.toNat_natCast, d1, iA_nat (by omega)]
    have nx : ¬ (ts j ≤ y ∧ ¬ h j) → ((∃ d, d < N ∧ ts d ≤ y ∧ ¬ h d) → X8_isMissed_L2 H y g ((j + 1 : Nat) : Int) ν = some (1, ν)) ∧ ((∀ d, d < N → ¬ (ts d ≤ y ∧ ¬ h d)) → X8_isMissed_L2 H y g ((j + 1 : Nat) : Int) ν = some (0, ν)) := fun hn => ih (j + 1) g (by omega) (by omega) (fun d hd2 => by
      by_cases e : d = j
      · rw [e]; exact hn
      · exact hb d (by omega))
    rw [e0]
    by_cases c1 : y < ts j
    · rw [if_pos c1]
      exact nx (fun z => by omega)
    · rw [if_neg c1]
      by_cases c2 : h j
      · rw [if_neg (fun z => hbit.mp z c2)]
        exact nx (fun z => z.2 c2)
      · rw [if_pos (hbit.mpr c2)]
        exact ⟨fun _ => rfl, fun z => absurd ⟨by omega, c2⟩ (z j hj)⟩
theorem msC {N : Nat} (hN : N ≤ 10) {ts tc : Nat → Int} {ν : Mm} (hT : ThC ν N ts tc) {H y : Int} {h : Nat → Prop} (hH : hmk H N h) : ((∃ d, d < N ∧ ts d ≤ y ∧ ¬ h d) → X8_isMissed H y ν = some (1, ν)) ∧ ((∀ d, d < N → ¬ (ts d ≤ y ∧ ¬ h d)) → X8_isMissed H y ν = some (0, ν)) :=
  msC_L hN hT hH N 0 FU (by omega) (by show N < 1000000; omega) (fun d hd => absurd hd (Nat.not_lt_zero _))
theorem fac_b : ∀ r, r < 9 → 1 ≤ facN r ∧ facN r ≤ 40320 := by decide +kernel
theorem paC_L {n : Nat} (hn : n ≤ 8) {K : Int → Mm → Rs} {ν : Mm} : ∀ (r j fuel : Nat), j + r = n + 1 → 1 ≤ j → r < fuel → X8_passesOver_L4 (n : Int) K fuel ((facN j : Nat) : Int) ((j + 1 : Nat) : Int) ν = K ((facN (max n j) : Nat) : Int) ν := by
  intro r
  induction r with
  | zero =>
    intro j fuel hr hj hf
    obtain ⟨g, rfl, _⟩ := lt_fuel hf
    have e : max n j = j := by omega
    show (if (n : Int) < ((j + 1 : Nat) : Int) then _ else _) = _
    rw [if_pos (by omega), e]
  | succ r ih =>
    intro j fuel hr hj hf
    obtain ⟨g, rfl, _⟩ := lt_fuel hf
    by_cases c : n < j + 1
    · have e : max n j = j := by omega
      show (if (n : Int) < ((j + 1 : Nat) : Int) then _ else _) = _
      rw [if_pos (by omega), e]
    · have hb := fac_b j (by omega)
      have hb2 := fac_b (j + 1) (by omega)
      have em : ((facN j : Nat) : Int) * ((j + 1 : Nat) : Int) = ((facN (j + 1) : Nat) : Int) := by
        have : facN (j + 1) = (j + 1) * facN j := rfl
        rw [this, Int.natCast_mul, Int.mul_comm]
      have e1 : iM ((facN j : Nat) : Int) ((j + 1 : Nat) : Int) = ((facN (j + 1) : Nat) : Int) := by
        rw [iM_id (by rw [em]; omega) (by rw [em]; omega), em]
      have e2 : iA ((j + 1 : Nat) : Int) 1 = ((j + 1 + 1 : Nat) : Int) := iA_nat (by clear e1 em; omega)
      have e3 : max n (j + 1) = max n j := by clear e1 e2 em; omega
      have h := ih (j + 1) g (by clear e1 e2 em; omega) (by clear e1 e2 em; omega) (by clear e1 e2 em; omega)
      rw [e3] at h
      rw [← h]
      show (if (n : Int) < ((j + 1 : Nat) : Int) then _ else _) = _
      rw [if_neg (by clear e1 e2 em; omega), e1, e2]
theorem paC {n : Nat} (hn : n ≤ 8) {ν : Mm} {w f : Int} (h4 : ν 67 4 = w) (h5 : ν 67 5 = f) (hf : 0 ≤ f ∧ f ≤ 20000000) (hw : -1 ≤ w ∧ w ≤ 2147483647) : X8_passesOver (n : Int) ν = if w = -1 ∨ ((facN n : Nat) : Int) ≤ w - f then some (1, sM ν 67 5 (f + ((facN n : Nat) : Int))) else some (0, ν) := by
  have hb := fac_b n (by omega)
  have h := paC_L (n := n) hn (ν := ν) (K := fun v2 μ3 => if (μ3 67 4) = (-1) then (sF μ3 67 5 (iA (μ3 67 5) v2) fun μ5 => some (1, μ5)) else (if v2 ≤ (iS (μ3 67 4) (μ3 67 5)) then (sF μ3 67 5 (iA (μ3 67 5) v2) fun μ7 => some (1, μ7)) else (some (0, μ3)))) n 1 FU (by omega) (Nat.le_refl _) (by show n < 1000000; omega)
  have hfm : facN (max n 1) = facN n := by
    by_cases c : n = 0
    · rw [c]; rfl
    · have : max n 1 = n := by omega
      rw [this]
  rw [hfm] at h
  have e1 : ((facN 1 : Nat) : Int) = 1 := rfl
  have h0 : X8_passesOver (n : Int) ν = if w = (-1) then (some (1, sM ν 67 5 (iA f ((facN n : Nat) : Int)))) else (if ((facN n : Nat) : Int) ≤ (iS w f) then (some (1, sM ν 67 5 (iA f ((facN n : Nat) : Int)))) else (some (0, ν))) := by
    have h2 := h
    try dsimp only at h2
    rw [h4, h5, sF_r] at h2
    exact h2
  rw [h0]
  have ea : iA f ((facN n : Nat) : Int) = f + ((facN n : Nat) : Int) := by clear h h0 e1; exact iA_id (by omega) (by omega)
  rw [ea]
  clear h h0 ea
  by_cases c1 : w = -1
  · rw [if_pos c1, if_pos (Or.inl c1)]
  · rw [if_neg c1]
    by_cases c2 : ((facN n : Nat) : Int) ≤ w - f
    · have es : iS w f = w - f := by
        obtain ⟨w1, w2⟩ := hw
        exact iS_id (by omega) (by omega)
      rw [es, if_pos c2, if_pos (Or.inr c2)]
    · have es : iS w f = w - f := by
        obtain ⟨w1, w2⟩ := hw
        exact iS_id (by omega) (by omega)
      rw [es, if_neg c2, if_neg (fun z => z.elim c1 c2)]
