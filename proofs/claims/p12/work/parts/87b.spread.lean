/-! SPREAD: it comes to an end -/
theorem filt_lt {p q : Nat → Bool} : ∀ (l : List Nat), (∀ x, x ∈ l → p x = true → q x = true) → (∃ x, x ∈ l ∧ q x = true ∧ p x = false) → (l.filter p).length < (l.filter q).length := by
  intro l
  have mono : ∀ (l : List Nat), (∀ x, x ∈ l → p x = true → q x = true) → (l.filter p).length ≤ (l.filter q).length := by
    intro l
    induction l with
    | nil => intro _; exact Nat.le_refl _
    | cons a l ih =>
      intro h
      have h1 := ih (fun x hx => h x (List.mem_cons_of_mem _ hx))
      rw [List.filter_cons, List.filter_cons]
      by_cases ha : p a = true
      · rw [if_pos ha, if_pos (h a List.mem_cons_self ha), List.length_cons, List.length_cons]; omega
      · rw [if_neg ha]
        by_cases hb : q a = true
        · rw [if_pos hb, List.length_cons]; omega
        · rw [if_neg hb]; exact h1
  induction l with
  | nil => intro _ ⟨x, hx, _⟩; exact absurd hx List.not_mem_nil
  | cons a l ih =>
    intro h hx
    rw [List.filter_cons, List.filter_cons]
    have hm := mono l (fun x hx => h x (List.mem_cons_of_mem _ hx))
    by_cases ha : p a = true
    · rw [if_pos ha, if_pos (h a List.mem_cons_self ha), List.length_cons, List.length_cons]
      obtain ⟨x, hx1, hx2, hx3⟩ := hx
      rcases List.mem_cons.mp hx1 with rfl | hx1
      · rw [ha] at hx3; cases hx3
      · have := ih (fun x hx => h x (List.mem_cons_of_mem _ hx)) ⟨x, hx1, hx2, hx3⟩
        omega
    · rw [if_neg ha]
      by_cases hb : q a = true
      · rw [if_pos hb, List.length_cons]; omega
      · rw [if_neg hb]
        obtain ⟨x, hx1, hx2, hx3⟩ := hx
        rcases List.mem_cons.mp hx1 with rfl | hx1
        · exact absurd hx2 hb
        · exact ih (fun x hx => h x (List.mem_cons_of_mem _ hx)) ⟨x, hx1, hx2, hx3⟩
/-- how many places aren't come to yet -/
def unr (μ : Mm) : Nat := ((List.range 60).filter (fun j => decide (μ 87 j = -1))).length
/-- from ν to μ some places that weren't come to are so by n + 1 steps -/
def spr (n : Int) (ν μ : Mm) : Prop := (∀ k, k ≠ 87 → μ k = ν k) ∧ ∀ j, μ 87 j = ν 87 j ∨ (j < 60 ∧ ν 87 j = -1 ∧ μ 87 j = n + 1)
theorem unr_lt {n : Int} {ν μ : Mm} (hn : 0 ≤ n) (h : spr n ν μ) (hc : ∃ j, μ 87 j ≠ ν 87 j) : unr μ < unr ν := by
  refine filt_lt _ (fun x _ hx => ?_) ?_
  · have hx := of_decide_eq_true hx
    refine decide_eq_true ?_
    rcases h.2 x with h1 | h1
    · rw [← h1]; exact hx
    · exact h1.2.1
  · obtain ⟨j, hj⟩ := hc
    rcases h.2 j with h1 | h1
    · exact absurd h1 hj
    · refine ⟨j, List.mem_range.mpr h1.1, decide_eq_true h1.2.1, decide_eq_false ?_⟩
      rw [h1.2.2]; omega
theorem unr_le (μ : Mm) : unr μ ≤ 60 := by
  have := List.length_filter_le (fun j => decide (μ 87 j = -1)) (List.range 60)
  rw [List.length_range] at this
  exact this
theorem spr_rf {n : Int} {ν : Mm} : spr n ν ν := ⟨fun _ _ => rfl, fun _ => Or.inl rfl⟩
theorem r_isPlace (a : Int) (μ : Mm) : ∃ r, X11_isPlace a μ = some (r, μ) ∧ (r = 0 ∨ (r = 1 ∧ 0 ≤ a)) := by
  unfold X11_isPlace
  by_cases h1 : a < 0
  · rw [if_pos h1]; exact ⟨0, rfl, Or.inl rfl⟩
  · rw [if_neg h1]
    by_cases h2 : μ 70 23 ≤ iD a 10
    · rw [if_pos h2]; exact ⟨0, rfl, Or.inl rfl⟩
    · rw [if_neg h2]
      by_cases h3 : μ 70 24 ≤ iR a 10
      · rw [if_pos h3]; exact ⟨0, rfl, Or.inl rfl⟩
      · rw [if_neg h3]; exact ⟨1, rfl, Or.inr ⟨rfl, by omega⟩⟩
theorem s_reach {ν μ : Mm} {n a : Int} (hn : 0 ≤ n ∧ n ≤ 1000) (hB : Bm ν) (h : spr n ν μ) (ha : rI a) : ∃ r μ', X11_reach a (iA n 1) μ = some (r, μ') ∧ spr n ν μ' := by
  have e1 : iA n 1 = n + 1 := iA_id (by omega) (by omega)
  have e70 : μ 70 = ν 70 := h.1 70 (by decide)
  rw [e1]
  unfold X11_reach
  obtain ⟨r, hr, hr2⟩ := r_isPlace a μ
  have hlt : r = 1 → a < 60 := by
    intro h1
    unfold X11_isPlace at hr
    by_cases g1 : a < 0
    · omega
    · rw [if_neg g1] at hr
      by_cases g2 : μ 70 23 ≤ iD a 10
      · rw [if_pos g2] at hr; cases hr; omega
      · rw [e70] at g2
        have g3 := (hB 70 23 (by decide))
        have g4 : (0 : Int) ≤ ν 70 23 ∧ ν 70 23 ≤ 6 := g3
        rw [iD_id (by omega) ha.2 (by decide)] at g2
        omega
  rw [hr, bd_some]
  rcases hr2 with h0 | ⟨h1, h2⟩
  · rw [if_pos h0]; exact ⟨_, _, rfl, h⟩
  · have h60 := hlt h1
    rw [if_neg (by omega)]
    unfold ldA
    rw [if_pos (by show 0 ≤ a ∧ a < 60; omega)]
    dsimp only
    by_cases c1 : μ 82 a.toNat = 1
    · rw [if_pos c1]; exact ⟨_, _, rfl, h⟩
    · rw [if_neg c1, if_pos (by show 0 ≤ a ∧ a < 60; omega)]
      by_cases c2 : μ 87 a.toNat = -1
      · rw [if_pos c2]
        unfold stA
        rw [if_pos (by show 0 ≤ a ∧ a < 60; omega)]
        refine ⟨_, _, rfl, fun k hk => ?_, fun j => ?_⟩
        · rw [← h.1 k hk]; funext i; exact sM_a hk
        · rw [sM_if]
          by_cases hj : j = a.toNat
          · rw [if_pos hj]
            refine Or.inr ⟨by omega, ?_, rfl⟩
            rcases h.2 j with h3 | h3
            · rw [← h3, hj]; exact c2
            · exact h3.2.1
          · rw [if_neg hj]; exact h.2 j
      · rw [if_neg c2]; exact ⟨_, _, rfl, h⟩
theorem s_L43 {ν : Mm} {l3 : Int} (hn : 0 ≤ l3 ∧ l3 ≤ 1000) (hB : Bm ν) {K : Int → Mm → Rs} {Q : Int → Mm → Prop} (hK : ∀ l2 μ, spr l3 ν μ → ((l2 = 0 ∧ μ = ν) ∨ (l2 = 1 ∧ ∃ j, j < 60 ∧ ν 87 j = l3)) → wp (K l2 μ) Q) : ∀ (d : Nat) (n : Nat) (l2 : Int) (μ : Mm), d ≤ 60 → d < n → spr l3 ν μ → ((l2 = 0 ∧ μ = ν) ∨ (l2 = 1 ∧ ∃ j, j < 60 ∧ ν 87 j = l3)) → wp (X11_spread_L43 l3 K n l2 (60 - (d : Int)) μ) Q := by
  intro d
  induction d with
  | zero =>
    intro n l2 μ _ hn2 h1 h2
    obtain ⟨m, rfl, -⟩ := lt_fuel hn2
    show wp (if 60 ≤ (60 - ((0 : Nat) : Int)) then _ else _) Q
    rw [if_pos (by omega)]
    exact hK l2 μ h1 h2
  | succ d ih =>
    intro n l2 μ hd hn2 h1 h2
    obtain ⟨m, rfl, hm⟩ := lt_fuel hn2
    have ea : iA (60 - ((d + 1 : Nat) : Int)) 1 = 60 - (d : Int) := by rw [iA_id (by omega) (by omega)]; omega
    show wp (if 60 ≤ (60 - ((d + 1 : Nat) : Int)) then _ else _) Q
    rw [if_neg (by omega)]
    unfold ldA
    rw [if_pos (by show 0 ≤ (60 - ((d + 1 : Nat) : Int)) ∧ (60 - ((d + 1 : Nat) : Int)) < 60; omega)]
    dsimp only
    by_cases c : μ 87 (60 - ((d + 1 : Nat) : Int)).toNat = l3
    · rw [if_pos c]
      have hex : ∃ j, j < 60 ∧ ν 87 j = l3 := by
        refine ⟨(60 - ((d + 1 : Nat) : Int)).toNat, by omega, ?_⟩
        rcases h1.2 (60 - ((d + 1 : Nat) : Int)).toNat with h3 | h3
        · rw [← h3]; exact c
        · rw [h3.2.2] at c; omega
      have rIx : ∀ x : Int, -2147483648 ≤ x → x ≤ 2147483647 → rI x := fun x h h' => ⟨h, h'⟩
      obtain ⟨r1, μ1, q1, s1⟩ := s_reach hn hB h1 (a := iS (60 - ((d + 1 : Nat) : Int)) 10) (wI_r _)
      obtain ⟨r2, μ2, q2, s2⟩ := s_reach hn hB s1 (a := iA (60 - ((d + 1 : Nat) : Int)) 10) (wI_r _)
      rw [q1, bd_some, q2, bd_some]
      have fin : ∀ s, rI s → wp (X11_spread_J104 (fun w2 w4 μq => X11_spread_L43 l3 K m w2 w4 μq) 1 l3 (60 - ((d + 1 : Nat) : Int)) s μ2) Q := by
        intro s hs
        unfold X11_spread_J104
        obtain ⟨r3, μ3, q3, s3⟩ := s_reach hn hB s2 (a := s) hs
        rw [q3, bd_some]
        refine wp_if (fun _ => ?_) (fun _ => ?_)
        · obtain ⟨r4, μ4, q4, s4⟩ := s_reach hn hB s3 (a := -1) ⟨by decide, by decide⟩
          rw [q4, bd_some, ea]
          exact ih m 1 μ4 (by omega) (by omega) s4 (Or.inr ⟨rfl, hex⟩)
        · obtain ⟨r4, μ4, q4, s4⟩ := s_reach hn hB s3 (a := iA (60 - ((d + 1 : Nat) : Int)) 1) (wI_r _)
          rw [q4, bd_some, ea]
          exact ih m 1 μ4 (by omega) (by omega) s4 (Or.inr ⟨rfl, hex⟩)
      refine wp_if (fun _ => ?_) (fun _ => ?_)
      · exact fin _ ⟨by decide, by decide⟩
      · exact fin _ (wI_r _)
    · rw [if_neg c, ea]
      exact ih m l2 μ (by omega) (by omega) h1 h2
/-- the rounds of SPREAD, by how many places aren't come to -/
theorem s_L34 {μ0' : Mm} : ∀ (φ : Nat) (n : Nat) (l3 : Int) (μ : Mm), unr μ ≤ φ → φ + 3 ≤ n → 0 ≤ l3 → l3 + φ ≤ 900 → Bm μ → (∀ k, k ≠ 87 → μ k = μ0' k) → (∀ j, j < 60 → μ 87 j ≤ l3) → (∀ j, rI (μ 87 j)) → wp (X11_spread_L34 n 1 l3 μ) (fun _ μ' => (∀ k, k ≠ 87 → μ' k = μ0' k) ∧ ∀ j, rI (μ' 87 j)) := by
  intro φ
  induction φ with
  | zero =>
    intro n l3 μ h1 h2 h3 h4 hB hk hj hr
    obtain ⟨m, rfl, hm⟩ := lt_fuel (d := 2) h2
    show wp (if (1 : Int) = 0 then _ else X11_spread_L43 l3 (fun v30 μ31 => X11_spread_L34 m v30 (iA l3 1) μ31) FU 0 0 μ) _
    rw [if_neg (by decide)]
    refine s_L43 (ν := μ) ⟨h3, by omega⟩ hB (fun l2 μ' hs hc => ?_) 60 FU 0 μ (by omega) (by decide) spr_rf (Or.inl ⟨rfl, rfl⟩)
    have hsame : ∀ j, μ' 87 j = μ 87 j := by
      intro j
      by_cases hx : μ' 87 j = μ 87 j
      · exact hx
      · have := unr_lt h3 hs ⟨j, hx⟩
        omega
    have hμ : μ' = μ := by
      funext k i
      by_cases hkk : k = 87
      · rw [hkk]; exact hsame i
      · rw [hs.1 k hkk]
    obtain ⟨m1, rfl, hm1⟩ := lt_fuel (d := 1) (n := m) (by omega)
    rcases hc with ⟨rfl, -⟩ | ⟨rfl, -⟩
    · show wp (if (0 : Int) = 0 then _ else _) _
      rw [if_pos rfl, hμ]
      exact ⟨hk, hr⟩
    · show wp (if (1 : Int) = 0 then _ else X11_spread_L43 (iA l3 1) (fun v30 μ31 => X11_spread_L34 m1 v30 (iA (iA l3 1) 1) μ31) FU 0 0 μ') _
      have e1 : iA l3 1 = l3 + 1 := iA_id (by omega) (by omega)
      rw [if_neg (by decide), e1, hμ]
      refine s_L43 (ν := μ) ⟨by omega, by omega⟩ hB (fun l2 μ2 hs2 hc2 => ?_) 60 FU 0 μ (by omega) (by decide) spr_rf (Or.inl ⟨rfl, rfl⟩)
      obtain ⟨m2, rfl, hm2⟩ := lt_fuel (d := 0) (n := m1) (by omega)
      rcases hc2 with ⟨rfl, h5⟩ | ⟨-, j, hj1, hj2⟩
      · show wp (if (0 : Int) = 0 then _ else _) _
        rw [if_pos rfl, h5]
        exact ⟨hk, hr⟩
      · have := hj j hj1
        omega
  | succ φ ih =>
    intro n l3 μ h1 h2 h3 h4 hB hk hj hr
    obtain ⟨m, rfl, hm⟩ := lt_fuel (d := φ + 3) h2
    show wp (if (1 : Int) = 0 then _ else X11_spread_L43 l3 (fun v30 μ31 => X11_spread_L34 m v30 (iA l3 1) μ31) FU 0 0 μ) _
    rw [if_neg (by decide)]
    have e1 : iA l3 1 = l3 + 1 := iA_id (by omega) (by omega)
    refine s_L43 (ν := μ) ⟨h3, by omega⟩ hB (fun l2 μ' hs hc => ?_) 60 FU 0 μ (by omega) (by decide) spr_rf (Or.inl ⟨rfl, rfl⟩)
    have hk' : ∀ k, k ≠ 87 → μ' k = μ0' k := fun k hkk => (hs.1 k hkk).trans (hk k hkk)
    have hr' : ∀ j, rI (μ' 87 j) := by
      intro j
      rcases hs.2 j with h5 | h5
      · rw [h5]; exact hr j
      · rw [h5.2.2]; exact ⟨by omega, by omega⟩
    have hB' : Bm μ' := by
      intro k j hk70
      by_cases hkk : k = 87
      · rw [hkk]; exact hr' j
      · rw [hs.1 k hkk]; exact hB k j hk70
    obtain ⟨m1, rfl, hm1⟩ := lt_fuel (d := 2) (n := m) (by omega)
    rcases hc with ⟨rfl, h5⟩ | ⟨rfl, -⟩
    · show wp (if (0 : Int) = 0 then _ else _) _
      rw [if_pos rfl]
      exact ⟨hk', hr'⟩
    · by_cases hx : ∃ j, μ' 87 j ≠ μ 87 j
      · have hlt := unr_lt h3 hs hx
        rw [e1]
        refine ih (m1 + 1) (l3 + 1) μ' (by omega) (by omega) (by omega) (by omega) hB' hk' (fun j hj1 => ?_) hr'
        rcases hs.2 j with h5 | h5
        · rw [h5]; have := hj j hj1; omega
        · rw [h5.2.2]; exact Int.le_refl _
      · have hμ : μ' = μ := by
          funext k i
          by_cases hkk : k = 87
          · rw [hkk]
            by_cases hy : μ' 87 i = μ 87 i
            · exact hy
            · exact absurd ⟨i, hy⟩ hx
          · rw [hs.1 k hkk]
        show wp (if (1 : Int) = 0 then _ else X11_spread_L43 (iA l3 1) (fun v30 μ31 => X11_spread_L34 m1 v30 (iA (iA l3 1) 1) μ31) FU 0 0 μ') _
        rw [if_neg (by decide), e1, hμ]
        refine s_L43 (ν := μ) ⟨by omega, by omega⟩ hB (fun l2 μ2 hs2 hc2 => ?_) 60 FU 0 μ (by omega) (by decide) spr_rf (Or.inl ⟨rfl, rfl⟩)
        obtain ⟨m2, rfl, hm2⟩ := lt_fuel (d := 0) (n := m1) (by omega)
        rcases hc2 with ⟨rfl, h5⟩ | ⟨-, j, hj1, hj2⟩
        · show wp (if (0 : Int) = 0 then _ else _) _
          rw [if_pos rfl, h5]
          exact ⟨hk, hr⟩
        · have := hj j hj1
          omega
theorem s_L2 (a : Int) {μ0' : Mm} {K : Mm → Rs} {Q : Int → Mm → Prop} (hK : ∀ μ, (∀ k, k ≠ 87 → μ k = μ0' k) → (∀ j, j < 60 → μ 87 j = -1 ∨ μ 87 j = 0) → (∀ j, rI (μ 87 j)) → wp (K μ) Q) : ∀ (d : Nat) (n : Nat) (μ : Mm), d ≤ 60 → d < n → (∀ k, k ≠ 87 → μ k = μ0' k) → (∀ j, j + d < 60 → μ 87 j = -1 ∨ μ 87 j = 0) → (∀ j, rI (μ 87 j)) → wp (X11_spread_L2 a K n (60 - (d : Int)) μ) Q := by
  intro d
  induction d with
  | zero =>
    intro n μ _ hn h1 h2 h3
    obtain ⟨m, rfl, -⟩ := lt_fuel hn
    show wp (if 60 ≤ (60 - ((0 : Nat) : Int)) then _ else _) Q
    rw [if_pos (by omega)]
    exact hK μ h1 (fun j hj => h2 j (by omega)) h3
  | succ d ih =>
    intro n μ hd hn h1 h2 h3
    obtain ⟨m, rfl, hm⟩ := lt_fuel hn
    have ea : iA (60 - ((d + 1 : Nat) : Int)) 1 = 60 - (d : Int) := by rw [iA_id (by omega) (by omega)]; omega
    show wp (if 60 ≤ (60 - ((d + 1 : Nat) : Int)) then _ else _) Q
    rw [if_neg (by omega)]
    have go : ∀ v : Int, v = -1 ∨ v = 0 → wp (stA μ 87 (60 - ((d + 1 : Nat) : Int)) v fun μ3 => X11_spread_L2 a K m (iA (60 - ((d + 1 : Nat) : Int)) 1) μ3) Q := by
      intro v hv
      unfold stA
      rw [if_pos (by show 0 ≤ (60 - ((d + 1 : Nat) : Int)) ∧ (60 - ((d + 1 : Nat) : Int)) < 60; omega), ea]
      refine ih m _ (by omega) (by omega) (fun k hk => ?_) (fun j hj => ?_) (fun j => ?_)
      · rw [← h1 k hk]; funext i; exact sM_a hk
      · rw [sM_if]
        by_cases c : j = (60 - ((d + 1 : Nat) : Int)).toNat
        · rw [if_pos c]; exact hv
        · rw [if_neg c]; exact h2 j (by omega)
      · rw [sM_if]
        by_cases c : j = (60 - ((d + 1 : Nat) : Int)).toNat
        · rw [if_pos c]; rcases hv with rfl | rfl <;> exact ⟨by decide, by decide⟩
        · rw [if_neg c]; exact h3 j
    refine wp_if (fun _ => ?_) (fun _ => ?_)
    · exact go 0 (Or.inr rfl)
    · exact go (-1) (Or.inl rfl)
theorem w_spread (a : Int) {μ : Mm} (hB : Bm μ) : wp (X11_spread a μ) (fun _ μ' => (∀ k, k ≠ 87 → μ' k = μ k) ∧ ∀ j, rI (μ' 87 j)) := by
  unfold X11_spread
  refine s_L2 a (μ0' := μ) (fun ν h1 h2 h3 => ?_) 60 FU μ (by omega) (by decide) (fun _ _ => rfl) (fun j hj => by omega) (fun j => hB 87 j (by decide))
  have hB' : Bm ν := by
    intro k j hk70
    by_cases hkk : k = 87
    · rw [hkk]; exact h3 j
    · rw [h1 k hkk]; exact hB k j hk70
  exact s_L34 (unr ν) FU 0 ν (Nat.le_refl _) (by have := unr_le ν; show unr ν + 3 ≤ 1000000; omega) (by decide) (by have := unr_le ν; omega) hB' h1 (fun j hj => by rcases h2 j hj with h | h <;> omega) h3
theorem t_X11_spread {μs : Mm} {l1 : Int} (_hI : Ir μs) (_hp : -2147483648 ≤ l1 ∧ l1 ≤ 2147483647) {μ : Mm} (hS : Sm μs μ) : wp (X11_spread l1 μ) (fun r μ' => Sm μs μ' ∧ True ∧ μ' 70 37 = μ 70 37) := by
  refine wp_mono (w_spread l1 hS.1) (fun r μ' h => ⟨⟨fun k j hk => ?_, fun k j hn => ?_⟩, trivial, by rw [h.1 70 (by decide)]⟩)
  · by_cases hkk : k = 87
    · rw [hkk]; exact h.2 j
    · rw [h.1 k hkk]; exact hS.1 k j hk
  · have hkk : k ≠ 87 := fun e => hn (by unfold scrM; omega)
    rw [h.1 k hkk]; exact hS.2 k j hn
