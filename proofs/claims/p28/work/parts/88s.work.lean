/-! LAWS worked out, the reference's -/
theorem bounded_eq (x : Int) (μ : Mm) : X11_bounded x μ = some (clm x, μ) := by
  unfold X11_bounded
  have := clm_b x
  show some (wI (clm x), μ) = _
  rw [wI_id (by omega) (by omega)]
theorem lC_0 (a b : Int) : (lC a b = 0 ↔ a = b) ∧ (0 ≤ lC a b ↔ b ≤ a) ∧ (lC a b ≤ 0 ↔ a ≤ b) := by
  unfold lC
  by_cases h1 : b < a
  · rw [if_pos h1]; omega
  · rw [if_neg h1]
    by_cases h2 : a = b
    · rw [if_pos h2]; omega
    · rw [if_neg h2]; omega
theorem worked_eq {o : Int} (ho : 2 ≤ o ∧ o ≤ 11 ∧ o ≠ 9) (a b : Int) (μ : Mm) : X11_worked o a b μ = some (wk o a b, μ) := by
  unfold X11_worked wk
  have hab := lC_0 a b
  have ha0 := lC_0 a 0
  have hb0 := lC_0 b 0
  by_cases h2 : o = 2
  · rw [if_pos h2, if_pos h2, bounded_eq, bd_some]
  · rw [if_neg h2, if_neg h2]
    by_cases h3 : o = 3
    · rw [if_pos h3, if_pos h3, bounded_eq, bd_some]
    · rw [if_neg h3, if_neg h3]
      by_cases h4 : o = 4
      · rw [if_pos h4, if_pos h4, bounded_eq, bd_some]
      · rw [if_neg h4, if_neg h4]
        by_cases h5 : o = 5
        · rw [if_pos h5, if_pos h5]
          by_cases c : b = 0
          · rw [if_pos (hb0.1.mpr c), if_pos c]
          · rw [if_neg (fun z => c (hb0.1.mp z)), if_neg c]
            unfold dZ
            rw [if_neg c, bounded_eq, bd_some]
        · rw [if_neg h5, if_neg h5]
          by_cases h6 : o = 6
          · rw [if_pos h6, if_pos h6]
            by_cases c : a = b
            · rw [if_pos (hab.1.mpr c), if_pos c]
            · rw [if_neg (fun z => c (hab.1.mp z)), if_neg c]
          · rw [if_neg h6, if_neg h6]
            by_cases h7 : o = 7
            · rw [if_pos h7, if_pos h7]
              by_cases c : b ≤ a
              · rw [if_pos (hab.2.1.mpr c), if_neg (by omega)]
              · rw [if_neg (fun z => c (hab.2.1.mp z)), if_pos (by omega)]
            · rw [if_neg h7, if_neg h7]
              by_cases h8 : o = 8
              · rw [if_pos h8, if_pos h8]
                by_cases c : a ≤ b
                · rw [if_pos (hab.2.2.mpr c), if_neg (by omega)]
                · rw [if_neg (fun z => c (hab.2.2.mp z)), if_pos (by omega)]
              · rw [if_neg h8, if_neg h8, if_neg ho.2.2]
                have za : (lC a 0 = 0) = (a = 0) := propext ha0.1
                have zb : (lC b 0 = 0) = (b = 0) := propext hb0.1
                by_cases h10 : o = 10
                · rw [if_pos h10, if_pos h10]
                  by_cases c : a = 0
                  · rw [if_pos (ha0.1.mpr c), if_pos c]
                  · rw [if_neg (fun z => c (ha0.1.mp z)), if_neg c]
                    by_cases c2 : b = 0
                    · rw [if_pos (hb0.1.mpr c2), if_pos c2]
                    · rw [if_neg (fun z => c2 (hb0.1.mp z)), if_neg c2]
                · rw [if_neg h10, if_neg h10]
                  by_cases c : a = 0
                  · rw [if_pos (ha0.1.mpr c), if_pos c]
                    by_cases c2 : b = 0
                    · rw [if_pos (hb0.1.mpr c2), if_pos c2]
                    · rw [if_neg (fun z => c2 (hb0.1.mp z)), if_neg c2]
                  · rw [if_neg (fun z => c (ha0.1.mp z)), if_neg c]
/-- the stack, its top first -/
def stk (μ : Mm) : List Int → Prop
  | [] => True
  | v :: s => μ 80 s.length = v ∧ stk μ s
theorem stk_s {μ : Mm} {k : Nat} {v : Int} : ∀ (s : List Int), s.length ≤ k → stk μ s → stk (sM μ 80 k v) s := by
  intro s
  induction s with
  | nil => intro _ _; trivial
  | cons x s ih =>
    intro h1 h2
    have h1 : s.length + 1 ≤ k := h1
    exact ⟨by rw [sM_j (by omega)]; exact h2.1, ih (by omega) h2.2⟩
def f80 (k _ : Nat) : Prop := k = 80
def r80 (μ : Mm) : Prop := ∀ j, rI (μ 80 j)
theorem r80_s {μ : Mm} (h : r80 μ) {k : Nat} {v : Int} (hv : rI v) : r80 (sM μ 80 k v) := by
  intro j
  rw [sM_if]
  split
  · exact hv
  · exact h j
theorem hasC_t {μ : Mm} {q j : Nat} {x : Int × Int} {c : Cd} (h : hasC μ q j (x :: c)) : (μ 72 (340 * q + j) = x.1 ∧ μ 73 (340 * q + j) = x.2) ∧ hasC μ q (j + 1) c := by
  refine ⟨h 0 (Nat.succ_pos _), fun k hk => ?_⟩
  have := h (k + 1) (Nat.succ_lt_succ hk)
  rw [show 340 * q + (j + 1) + k = 340 * q + j + (k + 1) by omega]
  exact this
theorem hasC_80 {μ : Mm} {q j k : Nat} {v : Int} {c : Cd} (h : hasC μ q j c) : hasC (sM μ 80 k v) q j c := by
  intro i hi
  rw [sM_a (by decide), sM_a (by decide)]
  exact h i hi
theorem e340 {q j : Nat} (hq : q ≤ 4) (hj : j ≤ 340) : iA (iM 340 (q : Int)) (j : Int) = ((340 * q + j : Nat) : Int) := by
  rw [iM_id (by omega) (by omega), iA_id (by omega) (by omega)]; omega
theorem e90 {q j : Nat} (hq : q ≤ 4) (hj : j ≤ 340) : iA (iM 90 (q : Int)) (j : Int) = ((90 * q + j : Nat) : Int) := by
  rw [iM_id (by omega) (by omega), iA_id (by omega) (by omega)]; omega
theorem ei1 (b : Int) (s1 : List Int) (h : s1.length ≤ 100) : iS (((b :: s1).length : Nat) : Int) 1 = (s1.length : Int) := by
  have hl : (b :: s1).length = s1.length + 1 := rfl
  rw [hl, iS_id (by omega) (by omega)]; omega
theorem ei2 (a b : Int) (s2 : List Int) (h : s2.length ≤ 100) : iA (((b :: a :: s2).length : Nat) : Int) (-1) = ((s2.length + 1 : Nat) : Int) := by
  have hl : (b :: a :: s2).length = s2.length + 2 := rfl
  rw [hl, iA_id (by omega) (by omega)]; omega
theorem ei3 {k : Nat} (h : k ≤ 100) : iS ((k + 1 : Nat) : Int) 1 = (k : Int) := by
  rw [iS_id (by omega) (by omega)]; omega
theorem ej340 {q j : Nat} (hq : q ≤ 4) (hj : j ≤ 340) : iA ((340 * q + j : Nat) : Int) 1 = ((340 * q + (j + 1) : Nat) : Int) := by
  rw [iA_nat (by omega)]; rfl
theorem work_L {q : Nat} (hq : q ≤ 4) {e : Nat → Int} : ∀ (c : Cd) (fuel j : Nat) (μ : Mm) (s : List Int), c.length < fuel → j + c.length ≤ 200 → hasC μ q j c → (∀ i, μ 79 i = e i) → (∀ i, rI (e i)) → stk μ s → s.length ≤ 80 → hOK c s.length → (∀ x, x ∈ c → okx x) → r80 μ → ∃ μ', X11_workOut_L12 (q : Int) ((j + c.length : Nat) : Int) fuel (s.length : Int) ((340 * q + j : Nat) : Int) μ = some (μ' 80 0, μ') ∧ fw f80 μ μ' ∧ r80 μ' ∧ stk μ' (ev e c s) := by
  intro c
  induction c with
  | nil =>
    intro fuel j μ s hf hj _ _ _ hs _ _ _ hr
    obtain ⟨f, rfl, -⟩ := lt_fuel hf
    refine ⟨μ, ?_, fw_rf, hr, hs⟩
    have hj : j + 0 ≤ 200 := hj
    show X11_workOut_L12 (q : Int) ((j : Nat) : Int) (f + 1) (s.length : Int) ((340 * q + j : Nat) : Int) μ = _
    rw [X11_workOut_L12, e340 hq (by omega), if_pos (by omega)]
    rfl
  | cons x c ih =>
    intro fuel j μ s hf hj hc he hre hs hs80 hh hx hr
    have hf : c.length + 1 < fuel := hf
    have hj : j + (c.length + 1) ≤ 200 := hj
    obtain ⟨f, rfl, hf'⟩ := lt_fuel (d := c.length + 1) hf
    obtain ⟨⟨hc1, hc2⟩, hc3⟩ := hasC_t hc
    have hxx := hx x (List.mem_cons_self ..)
    have hx' : ∀ y, y ∈ c → okx y := fun y hy => hx y (List.mem_cons_of_mem _ hy)
    have b72 : (0 : Int) ≤ ((340 * q + j : Nat) : Int) ∧ ((340 * q + j : Nat) : Int) < ((aN 72 : Nat) : Int) := by show _ ∧ _ < (1700 : Int); omega
    have b73 : (0 : Int) ≤ ((340 * q + j : Nat) : Int) ∧ ((340 * q + j : Nat) : Int) < ((aN 73 : Nat) : Int) := by show _ ∧ _ < (1700 : Int); omega
    have l72 : ∀ g : Int → Rs, ldA μ 72 ((340 * q + j : Nat) : Int) g = g x.1 := fun g => by
      unfold ldA; rw [if_pos b72, Int.toNat_natCast, hc1]
    have l73 : ∀ g : Int → Rs, ldA μ 73 ((340 * q + j : Nat) : Int) g = g x.2 := fun g => by
      unfold ldA; rw [if_pos b73, Int.toNat_natCast, hc2]
    have l80 : ∀ (k : Nat) (g : Int → Rs), k < 80 → ldA μ 80 (k : Int) g = g (μ 80 k) := fun k g hk => by
      unfold ldA; rw [if_pos (by show (0 : Int) ≤ (k : Int) ∧ (k : Int) < 80; omega), Int.toNat_natCast]
    have t80 : ∀ (k : Nat) (v : Int) (g : Mm → Rs), k < 80 → stA μ 80 (k : Int) v g = g (sM μ 80 k v) := fun k v g hk => by
      unfold stA; rw [if_pos (by show (0 : Int) ≤ (k : Int) ∧ (k : Int) < 80; omega), Int.toNat_natCast]
    have hq4 := hq
    have hj340 : j ≤ 340 := by omega
    have eend : ((j + (c.length + 1) : Nat) : Int) = ((j + 1 + c.length : Nat) : Int) := by omega
    have next : ∀ (k : Nat) (v : Int) (s' : List Int), s'.length + 0 = k → s'.length + 1 ≤ 80 → stk μ s' → rI v → hOK c (k + 1) → ev e (x :: c) s = ev e c (v :: s') → ∃ μ', X11_workOut_L12 (q : Int) ((j + (c.length + 1) : Nat) : Int) f ((k + 1 : Nat) : Int) ((340 * q + (j + 1) : Nat) : Int) (sM μ 80 k v) = some (μ' 80 0, μ') ∧ fw f80 μ μ' ∧ r80 μ' ∧ stk μ' (ev e (x :: c) s) := by
      intro k v s' hk hs' hst hv hok hev
      have hlen : (v :: s').length = k + 1 := by show s'.length + 1 = k + 1; omega
      obtain ⟨μ', g1, g2, g3, g4⟩ := ih f (j + 1) (sM μ 80 k v) (v :: s') (by omega) (by omega) (hasC_80 hc3) (fun i => by rw [sM_a (by decide)]; exact he i) hre ⟨by rw [show s'.length = k by omega, sM_s], stk_s s' (by omega) hst⟩ (by rw [hlen]; omega) (by rw [hlen]; exact hok) hx' (r80_s hr hv)
      rw [hlen, ← eend] at g1
      exact ⟨μ', g1, fw_tr (fw_sM fw_rf rfl) g2, g3, by rw [hev]; exact g4⟩
    show ∃ μ', X11_workOut_L12 (q : Int) ((j + (c.length + 1) : Nat) : Int) (f + 1) (s.length : Int) ((340 * q + j : Nat) : Int) μ = _ ∧ _
    rw [X11_workOut_L12, e340 hq (by omega), if_neg (by omega), l72, l72]
    have hh : if x.1 = 0 ∨ x.1 = 1 then s.length < 80 ∧ hOK c (s.length + 1) else if x.1 = 9 then 1 ≤ s.length ∧ hOK c s.length else 2 ≤ s.length ∧ hOK c (s.length - 1) := hh
    by_cases d0 : x.1 = 0
    · rw [if_pos (Or.inl d0)] at hh
      rw [if_pos d0]
      unfold X11_workOut_J45
      rw [l72, if_pos d0, l73, t80 s.length x.2 _ hh.1, iA_nat (by omega), ej340 hq4 hj340]
      refine next s.length x.2 s rfl (by omega) hs ?_ hh.2 ?_
      · unfold okx at hxx; exact ⟨by omega, by omega⟩
      · show ev e c (ev1 e x s) = _
        unfold ev1
        rw [if_pos d0]
    · rw [if_neg d0]
      by_cases d1 : x.1 = 1
      · rw [if_pos (Or.inr d1)] at hh
        have hi : 0 ≤ x.2 ∧ x.2 ≤ 4 := by unfold okx at hxx; omega
        rw [if_pos d1]
        unfold X11_workOut_J45
        have l79 : ∀ g : Int → Rs, ldA μ 79 x.2 g = g (e x.2.toNat) := fun g => by
          unfold ldA; rw [if_pos (by show (0 : Int) ≤ x.2 ∧ x.2 < 5; omega), he]
        rw [l72, if_neg d0, l73, l79, t80 s.length _ _ hh.1, iA_nat (by omega), ej340 hq4 hj340]
        refine next s.length _ s rfl (by omega) hs (hre _) hh.2 ?_
        show ev e c (ev1 e x s) = _
        unfold ev1
        rw [if_neg d0, if_pos d1]
      · rw [if_neg (fun z => z.elim d0 d1)] at hh
        rw [if_neg d1, l72]
        by_cases d9 : x.1 = 9
        · rw [if_pos d9] at hh
          rw [if_pos d9]
          cases s with
          | nil => exact absurd hh.1 (by decide)
          | cons b s1 =>
            have hl : (b :: s1).length = s1.length + 1 := rfl
            rw [ei1 b s1 (by omega), l80 s1.length _ (by omega), hs.1, t80 s1.length _ _ (by omega), ej340 hq4 hj340]
            have := next s1.length (iS 1 b) s1 rfl (by omega) hs.2 (wI_r _) hh.2 (by
              show ev e c (ev1 e x (b :: s1)) = _
              unfold ev1
              rw [if_neg d0, if_neg d1]
              show ev e c (if x.1 = 9 then _ else _) = _
              rw [if_pos d9]
              rfl)
            exact this
        · rw [if_neg d9] at hh
          rw [if_neg d9, l72]
          cases s with
          | nil => exact absurd hh.1 (by decide)
          | cons b s1 =>
            cases s1 with
            | nil => exact absurd hh.1 (by show ¬ (2 ≤ 1); decide)
            | cons a s2 =>
              have hl : (b :: a :: s2).length = s2.length + 2 := rfl
              have hb : μ 80 (s2.length + 1) = b := hs.1
              have ho : 2 ≤ x.1 ∧ x.1 ≤ 11 ∧ x.1 ≠ 9 := by unfold okx at hxx; omega
              rw [ei2 a b s2 (by omega), ei3 (by omega), l80 s2.length _ (by omega), l80 (s2.length + 1) _ (by omega), hb, hs.2.1, worked_eq ho, bd_some, t80 s2.length _ _ (by omega), ej340 hq4 hj340]
              have hw := wk_b x.1 a b
              exact next s2.length (wk x.1 a b) s2 rfl (by omega) hs.2.2 ⟨by omega, by omega⟩ (by rw [hl] at hh; exact hh.2) (by
                show ev e c (ev1 e x (b :: a :: s2)) = _
                unfold ev1
                rw [if_neg d0, if_neg d1]
                show ev e c (if x.1 = 9 then _ else _) = _
                rw [if_neg d9])
theorem wo_unf {q : Nat} (hq : q ≤ 4) {j : Nat} (hj : j ≤ 340) {l3 : Int} {μ : Mm} {r : Rs} (h : X11_workOut_L12 (q : Int) l3 FU 0 ((340 * q + j : Nat) : Int) μ = r) : X11_workOut (q : Int) (j : Int) l3 μ = r := by
  have e : ∀ l1 l2, X11_workOut l1 l2 l3 μ = X11_workOut_L12 l1 l3 FU 0 (iA (iM 340 l1) l2) μ := fun l1 l2 => by
    unfold X11_workOut lt_
    rfl
  rw [e, e340 hq hj]
  exact h
theorem work_eq {q : Nat} (hq : q ≤ 4) {c : Cd} {j : Nat} {μ : Mm} (hj : j + c.length ≤ 200) (hc : hasC μ q j c) (hg : gd c) (hp : pu c ≤ 80) (h79 : ∀ i, rI (μ 79 i)) (hr : r80 μ) : ∃ μ', X11_workOut (q : Int) (j : Int) ((j + c.length : Nat) : Int) μ = some (vl (μ 79) c, μ') ∧ fw f80 μ μ' ∧ r80 μ' ∧ rI (vl (μ 79) c) := by
  have hj' : j ≤ 340 := by omega
  have hcl : c.length < FU := by show c.length < 1000000; omega
  have hp0 : 0 + pu c ≤ 80 := by omega
  have hok : hOK c 0 := by
    have := hg.2.1 [] 0 hp0 trivial
    rw [List.append_nil] at this
    exact this
  have W := work_L hq (e := μ 79) c FU j μ [] hcl hj hc (fun i => rfl) h79 trivial (by decide) hok hg.2.2.2.1 hr
  rw [hg.1] at W
  obtain ⟨μ', g1, g2, g3, g4⟩ := W
  refine ⟨μ', ?_, g2, g3, ?_⟩
  · have hv : vl (μ 79) c = μ' 80 0 := g4.1.symm
    rw [hv]
    exact wo_unf hq hj' g1
  · have hv : vl (μ 79) c = μ' 80 0 := g4.1.symm
    rw [hv]; exact g3 0
theorem rows_75 {μ : Mm} {q : Nat} : ∀ (L : List (Cd × Cd)) (g i : Nat), rowsAt μ q g i L → μ 75 q = ((g + L.length : Nat) : Int) ∧ (L.length = 0 ∨ g + L.length ≤ 90) := by
  intro L
  induction L with
  | nil => intro g i h; exact ⟨h, Or.inl rfl⟩
  | cons x L ih =>
    intro g i h
    have := ih _ _ h.2
    have hg := h.1.2.2.2.2.2.2.2.2.2
    have hl : (x :: L).length = L.length + 1 := rfl
    rw [hl]
    refine ⟨by rw [this.1]; omega, Or.inr (by omega)⟩
theorem rows_80 {μ μ' : Mm} {q : Nat} (hf : fw f80 μ μ') : ∀ (L : List (Cd × Cd)) (g i : Nat), rowsAt μ q g i L → rowsAt μ' q g i L := by
  have e : ∀ k j, k ≠ 80 → μ' k j = μ k j := fun k j h => hf k j h
  intro L
  induction L with
  | nil => intro g i h; show μ' 75 q = _; rw [e 75 q (by decide)]; exact h
  | cons x L ih =>
    intro g i h
    obtain ⟨⟨h1, h2, h3, h4, h5⟩, h6⟩ := h
    exact ⟨⟨by rw [e _ _ (by decide)]; exact h1, by rw [e _ _ (by decide)]; exact h2, by rw [e _ _ (by decide)]; exact h3, fun k hk => by rw [e _ _ (by decide), e _ _ (by decide)]; exact h4 k hk, h5⟩, ih _ _ h6⟩
theorem worth_L {q : Nat} (hq : q ≤ 4) {e : Nat → Int} (he : ∀ i, rI (e i)) : ∀ (L : List (Cd × Cd)) (fuel g i : Nat) (μ : Mm), L.length < fuel → g + L.length ≤ 90 → rowsAt μ q g i L → (∀ i, μ 79 i = e i) → r80 μ → ∃ μ', X11_worthOf_L5 (q : Int) (fun v17 μ18 => X11_worthOf_J55 (q : Int) v17 μ18) fuel ((90 * q + g : Nat) : Int) μ = some (lawV e L, μ') ∧ fw f80 μ μ' ∧ r80 μ' ∧ rI (lawV e L) := by
  intro L
  induction L with
  | nil =>
    intro fuel g i μ hf hg hR h79 hr
    obtain ⟨f, rfl, -⟩ := lt_fuel hf
    have b75 : (0 : Int) ≤ (q : Int) ∧ (q : Int) < ((aN 75 : Nat) : Int) := by show _ ∧ _ < (5 : Int); omega
    have h75 : μ 75 q = (g : Int) := hR
    refine ⟨μ, ?_, fw_rf, hr, by show rI 0; exact ⟨by decide, by decide⟩⟩
    rw [X11_worthOf_L5]
    unfold ldA
    have hg : g + 0 ≤ 90 := hg
    rw [if_pos b75]
    simp only [Int.toNat_natCast]
    rw [h75, e90 hq (by omega), if_pos (by omega)]
    rfl
  | cons x L ih =>
    intro fuel g i μ hf hg hR h79 hr
    have hf : L.length + 1 < fuel := hf
    have hg : g + (L.length + 1) ≤ 90 := hg
    obtain ⟨f, rfl, hf'⟩ := lt_fuel (d := L.length + 1) hf
    have h75 := (rows_75 _ _ _ hR).1
    have hl : (x :: L).length = L.length + 1 := rfl
    rw [hl] at h75
    obtain ⟨⟨r1, r2, r3, r4, r5, r6, r7, r8, r9, r10⟩, hR2⟩ := hR
    have b75 : (0 : Int) ≤ (q : Int) ∧ (q : Int) < ((aN 75 : Nat) : Int) := by show _ ∧ _ < (5 : Int); omega
    have bg : ∀ a, a = 76 ∨ a = 77 ∨ a = 78 → (0 : Int) ≤ ((90 * q + g : Nat) : Int) ∧ ((90 * q + g : Nat) : Int) < ((aN a : Nat) : Int) := by
      rintro a (rfl | rfl | rfl) <;> (show _ ∧ _ < (450 : Int)) <;> omega
    have ld : ∀ (ν : Mm) (a : Nat) (k : Int → Rs), (a = 76 ∨ a = 77 ∨ a = 78) → ldA ν a ((90 * q + g : Nat) : Int) k = k (ν a (90 * q + g)) := fun ν a k ha => by
      unfold ldA; rw [if_pos (bg a ha), Int.toNat_natCast]
    have hv : ∀ ν : Mm, fw f80 μ ν → r80 ν → ∃ μ', X11_worthOf_J55 (q : Int) ((90 * q + g : Nat) : Int) ν = some (vl e x.2, μ') ∧ fw f80 ν μ' ∧ r80 μ' ∧ rI (vl e x.2) := by
      intro ν hfν hrν
      have e79 : ν 79 = e := by funext i; rw [hfν 79 i (by unfold f80; decide)]; exact h79 i
      have hcν : hasC ν q (i + x.1.length) x.2 := by
        intro k hk
        have := r4 (x.1.length + k) (by rw [List.length_append]; omega)
        have e2 : (x.1 ++ x.2).getD (x.1.length + k) (0, 0) = x.2.getD k (0, 0) := by
          rw [List.getD_eq_getElem?_getD, List.getD_eq_getElem?_getD, List.getElem?_append_right (by omega)]
          congr 2; omega
        rw [e2, show 340 * q + i + (x.1.length + k) = 340 * q + (i + x.1.length) + k by omega] at this
        rw [hfν 72 _ (by unfold f80; decide), hfν 73 _ (by unfold f80; decide)]
        exact this
      obtain ⟨μ', g1, g2, g3, g4⟩ := work_eq hq (by omega) hcν r5 r9 (by rw [e79]; exact he) hrν
      rw [e79] at g1 g4
      refine ⟨μ', ?_, g2, g3, g4⟩
      unfold X11_worthOf_J55
      rw [ld ν 77 _ (by decide), ld ν 78 _ (by decide), hfν 77 _ (by unfold f80; decide), hfν 78 _ (by unfold f80; decide), r2, r3, g1, bd_some]
    have e1 : X11_worthOf_L5 (q : Int) (fun v17 μ18 => X11_worthOf_J55 (q : Int) v17 μ18) (f + 1) ((90 * q + g : Nat) : Int) μ = if (i : Int) = ((i + x.1.length : Nat) : Int) then X11_worthOf_J55 (q : Int) ((90 * q + g : Nat) : Int) μ else bd (X11_workOut (q : Int) (i : Int) ((i + x.1.length : Nat) : Int) μ) fun v13 μ14 => if v13 = 0 then (X11_worthOf_L5 (q : Int) (fun v17 μ18 => X11_worthOf_J55 (q : Int) v17 μ18) f (iA ((90 * q + g : Nat) : Int) 1) μ14) else (X11_worthOf_J55 (q : Int) ((90 * q + g : Nat) : Int) μ14) := by
      have l75 : ∀ k : Int → Rs, ldA μ 75 (q : Int) k = k ((g + (L.length + 1) : Nat) : Int) := fun k => by
        unfold ldA; rw [if_pos b75, Int.toNat_natCast, h75]
      rw [X11_worthOf_L5, l75, e90 hq (by omega), if_neg (by omega), ld μ 76 _ (by decide), ld μ 77 _ (by decide), ld μ 76 _ (by decide), ld μ 77 _ (by decide), r1, r2]
    show ∃ μ', _ = some (if x.1 = [] then vl e x.2 else if vl e x.1 = 0 then lawV e L else vl e x.2, μ') ∧ _ ∧ _ ∧ rI (if x.1 = [] then vl e x.2 else if vl e x.1 = 0 then lawV e L else vl e x.2)
    rw [e1]
    by_cases c : x.1 = []
    · rw [if_pos c, if_pos (by rw [c]; rfl)]
      exact hv μ fw_rf hr
    · have hlen : 1 ≤ x.1.length := by
        cases h : x.1 with
        | nil => exact absurd h c
        | cons y z => exact Nat.succ_pos _
      rw [if_neg c, if_neg (by omega)]
      have hc1 : hasC μ q i x.1 := by
        intro k hk
        have := r4 k (by rw [List.length_append]; omega)
        have e2 : (x.1 ++ x.2).getD k (0, 0) = x.1.getD k (0, 0) := by
          rw [List.getD_eq_getElem?_getD, List.getD_eq_getElem?_getD, List.getElem?_append_left hk]
        rw [e2] at this
        exact this
      have e79 : μ 79 = e := by funext i; exact h79 i
      obtain ⟨μ1, g1, g2, g3, g4⟩ := work_eq hq (by omega) hc1 (r6.resolve_left c) r8 (by rw [e79]; exact he) hr
      rw [e79] at g1
      rw [g1, bd_some]
      by_cases c2 : vl e x.1 = 0
      · rw [if_pos c2, if_pos c2, iA_nat (by omega)]
        obtain ⟨μ2, k1, k2, k3, k4⟩ := ih f (g + 1) _ μ1 (by omega) (by omega) (rows_80 g2 _ _ _ hR2) (fun i => by rw [g2 79 i (by unfold f80; decide)]; exact h79 i) g3
        exact ⟨μ2, k1, fw_tr g2 k2, k3, k4⟩
      · rw [if_neg c2, if_neg c2]
        obtain ⟨μ2, k1, k2, k3, k4⟩ := hv μ1 g2 g3
        exact ⟨μ2, k1, fw_tr g2 k2, k3, k4⟩
/-- a LAW that was read, worked out for five letters -/
theorem worthM {q : Nat} (hq : q ≤ 4) {L : List (Cd × Cd)} {μ : Mm} (hB : Bm μ) (hR : rowsAt μ q 0 0 L) : ∃ μ', X11_worthOf (q : Int) μ = some (lawV (μ 79) L, μ') ∧ fw f80 μ μ' ∧ r80 μ' ∧ rI (lawV (μ 79) L) := by
  have h := rows_75 _ _ _ hR
  have e1 : iM 90 (q : Int) = ((90 * q + 0 : Nat) : Int) := by rw [iM_id (by omega) (by omega)]; omega
  unfold X11_worthOf
  rw [e1]
  exact worth_L hq (fun i => hB 79 i (by decide)) L FU 0 0 μ (by show L.length < 1000000; omega) (by omega) hR (fun i => rfl) (fun j => hB 80 j (by decide))
theorem rows_agr {μ ν : Mm} {q : Nat} (ha : agr (q : Int) ν μ) : ∀ (L : List (Cd × Cd)) (g i : Nat), rowsAt μ q g i L → rowsAt ν q g i L := by
  obtain ⟨a1, a2, a3⟩ := ha
  rw [Int.toNat_natCast] at a2
  intro L
  induction L with
  | nil => intro g i h; show ν 75 q = _; rw [a2]; exact h
  | cons x L ih =>
    intro g i h
    obtain ⟨⟨h1, h2, h3, h4, h5, h6, h7, h8, h9, h10⟩, h11⟩ := h
    have r := a3 (90 * q + g) (by omega) (by omega)
    refine ⟨⟨by rw [r.1]; exact h1, by rw [r.2.1]; exact h2, by rw [r.2.2]; exact h3, fun k hk => ?_, h5, h6, h7, h8, h9, h10⟩, ih _ _ h11⟩
    have hk2 : k < x.1.length + x.2.length := by rw [← List.length_append]; exact hk
    have r1 := a1 (340 * q + i + k) (by omega) (by omega)
    rw [r1.1, r1.2]
    exact h4 k hk
theorem LawOK_rows {μ : Mm} {q : Nat} (hq : q ≤ 4) {L : List (Cd × Cd)} (hR : rowsAt μ q 0 0 L) : LawOK μ (q : Int) := by
  intro ν hB ha
  obtain ⟨ν', g1, g2, g3, g4⟩ := worthM hq hB (rows_agr ha _ _ _ hR)
  rw [g1, wp_some]
  exact ⟨g2, g3, g4⟩
