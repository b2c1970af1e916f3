/-! BOXES: what values the cells of the class may hold -/
def bxR : List (Int × Int) := [(-2147483648, 2147483647), (-2147483648, 2147483647), (-2147483648, 2147483647), (-2147483648, 2147483647), (-2147483648, 2147483647), (-2147483648, 2147483647), (-1, 10), (-1, 59), (1, 30), (-2147483648, 2147483647), (-1, 10), (-1, 59), (1, 30), (-2147483648, 2147483647), (-1, 10), (-1, 59), (1, 30), (-2147483648, 2147483647), (-2147483648, 2147483647), (0, 7), (0, 999), (-2147483648, 2147483647), (0, 7), (0, 999), (-2147483648, 2147483647), (0, 7), (0, 999), (-2147483648, 2147483647), (0, 7), (0, 999), (-2147483648, 2147483647), (0, 7), (0, 999), (-2147483648, 2147483647), (0, 7), (0, 999), (-2147483648, 2147483647), (-2147483648, 2147483647), (-2147483648, 2147483647), (-2147483648, 2147483647), (-2147483648, 2147483647), (-2147483648, 2147483647), (-2147483648, 2147483647), (-2147483648, 2147483647), (-2147483648, 2147483647), (-2147483648, 2147483647), (-2147483648, 2147483647), (0, 59), (-2147483648, 2147483647), (0, 7), (-2147483648, 2147483647), (-2147483648, 2147483647), (-2147483648, 2147483647), (-2147483648, 2147483647), (0, 7), (-2147483648, 2147483647), (-2147483648, 2147483647), (-2147483648, 2147483647), (-2147483648, 2147483647), (0, 7), (-2147483648, 2147483647), (-2147483648, 2147483647), (-2147483648, 2147483647), (-2147483648, 2147483647), (-2147483648, 2147483647), (-2147483648, 2147483647), (-2147483648, 2147483647), (-2147483648, 2147483647), (0, 999), (0, 7)]
def bxO : List (List (Int × Int)) := [[(-2147483648, 2147483647), (-2147483648, 2147483647), (-2147483648, 2147483647), (-1, 59), (0, 9), (-2147483648, 2147483647), (-2147483648, 2147483647), (1, 9), (0, 99)], [(-2147483648, 2147483647), (-2147483648, 2147483647), (-2147483648, 2147483647), (-2147483648, 2147483647), (-2147483648, 2147483647), (0, 8), (-2147483648, 2147483647)], [(-2147483648, 2147483647), (-2147483648, 2147483647), (-2147483648, 2147483647), (-2147483648, 2147483647), (-2147483648, 2147483647), (-2147483648, 2147483647)], [(-2147483648, 2147483647), (-2147483648, 2147483647), (0, 8)], [(-2147483648, 2147483647), (0, 160), (-1, 160)], [(-2147483648, 2147483647), (-2147483648, 2147483647), (-2147483648, 2147483647), (0, 8), (-2147483648, 2147483647), (-2147483648, 2147483647), (-2147483648, 2147483647), (-2147483648, 2147483647), (-2147483648, 2147483647), (-2147483648, 2147483647)], [(-2147483648, 2147483647), (-2147483648, 2147483647), (-2147483648, 2147483647), (-2147483648, 2147483647), (-2147483648, 2147483647), (-2147483648, 2147483647), (-2147483648, 2147483647), (-2147483648, 2147483647), (-2147483648, 2147483647)], [(-2147483648, 2147483647), (0, 160)], [(-2147483648, 2147483647), (-2147483648, 2147483647), (0, 10), (-2147483648, 2147483647), (-2147483648, 2147483647), (-2147483648, 2147483647), (-2147483648, 2147483647)], [(-2147483648, 2147483647), (-2147483648, 2147483647), (0, 60)], [(-2147483648, 2147483647), (-2147483648, 2147483647), (-2147483648, 2147483647), (-2147483648, 2147483647), (-2147483648, 2147483647), (-2147483648, 2147483647), (-2147483648, 2147483647), (-2147483648, 2147483647), (-2147483648, 2147483647), (-2147483648, 2147483647), (-2147483648, 2147483647), (-2147483648, 2147483647), (-2147483648, 2147483647), (-2147483648, 2147483647), (-2147483648, 2147483647), (0, 5), (0, 4), (-1, 3)], [(-2147483648, 2147483647), (-2147483648, 2147483647), (-2147483648, 2147483647), (-2147483648, 2147483647), (-2147483648, 2147483647), (-2147483648, 2147483647), (-2147483648, 2147483647), (-2147483648, 2147483647), (-2147483648, 2147483647), (-2147483648, 2147483647), (-2147483648, 2147483647), (-2147483648, 2147483647), (-2147483648, 2147483647), (-2147483648, 2147483647), (-2147483648, 2147483647), (-2147483648, 2147483647), (-2147483648, 2147483647), (-2147483648, 2147483647), (-2147483648, 2147483647), (-2147483648, 2147483647), (-2147483648, 2147483647), (-2147483648, 2147483647), (-2147483648, 2147483647), (-2147483648, 2147483647), (-2147483648, 2147483647), (-2147483648, 2147483647), (-2147483648, 2147483647), (-2147483648, 2147483647), (-2147483648, 2147483647), (-2147483648, 2147483647), (-2147483648, 2147483647), (-2147483648, 2147483647), (-2147483648, 2147483647), (-2147483648, 2147483647), (-2147483648, 2147483647), (-2147483648, 2147483647), (-2147483648, 2147483647), (-2147483648, 2147483647), (-2147483648, 2147483647), (-2147483648, 2147483647), (-2147483648, 2147483647), (-2147483648, 2147483647), (-2147483648, 2147483647), (-2147483648, 2147483647), (-2147483648, 2147483647), (-2147483648, 2147483647), (-2147483648, 2147483647), (-2147483648, 2147483647), (-2147483648, 2147483647), (-2147483648, 2147483647), (-2147483648, 2147483647), (-2147483648, 2147483647), (-2147483648, 2147483647), (-2147483648, 2147483647)]]
def bx (k j : Nat) : Int × Int := if (kD k).1 < 10 then bxR.getD k (-2147483648, 2147483647) else (bxO.getD ((kD k).1 - 10) []).getD j (-2147483648, 2147483647)
def Bx (μ : Mm) : Prop := (∀ k j, k < 70 → (bx k j).1 ≤ μ k j ∧ μ k j ≤ (bx k j).2) ∧ kD (μ 3 0).toNat = (17, 2) ∧ kD (μ 62 4).toNat = (11, 7) ∧ kD (μ 67 3).toNat = (11, 7)
def fw (W : Nat → Nat → Prop) (μ μ' : Mm) : Prop := ∀ k j, ¬ W k j → μ' k j = μ k j
theorem fw_rf {W : Nat → Nat → Prop} {μ : Mm} : fw W μ μ := fun _ _ _ => rfl
theorem fw_tr {W : Nat → Nat → Prop} {μ μ' μ'' : Mm} (h1 : fw W μ μ') (h2 : fw W μ' μ'') : fw W μ μ'' := fun k j h => (h2 k j h).trans (h1 k j h)
theorem fw_sM {W : Nat → Nat → Prop} {μ μ' : Mm} {a j : Nat} {v : Int} (h : fw W μ μ') (hw : W a j) : fw W μ (sM μ' a j v) := fun k i hn => by
  rw [← h k i hn]
  unfold sM
  rw [if_neg]
  rintro ⟨rfl, rfl⟩
  exact hn hw
def St (W : Nat → Nat → Prop) (μs μ : Mm) : Prop := Bx μ ∧ fw W μs μ
/-- what a question of the class may write -/
def scr (k j : Nat) : Prop := k = 3 ∨ k = 4 ∨ (13 ≤ k ∧ k ≤ 16) ∨ (33 ≤ k ∧ k ≤ 35) ∨ (45 ≤ k ∧ k ≤ 66) ∨ (k = 67 ∧ 3 ≤ j)
theorem St_sM {W : Nat → Nat → Prop} {μs μ : Mm} {a j : Nat} {v : Int} (h : St W μs μ) (hw : W a j) (hv : (bx a j).1 ≤ v ∧ v ≤ (bx a j).2) (h1 : ¬ (a = 3 ∧ j = 0)) (h2 : ¬ (a = 62 ∧ j = 4)) (h3 : ¬ (a = 67 ∧ j = 3)) : St W μs (sM μ a j v) := by
  refine ⟨⟨fun k i hk => ?_, ?_, ?_, ?_⟩, fw_sM h.2 hw⟩
  · unfold sM
    by_cases c : k = a ∧ i = j
    · rw [if_pos c, c.1, c.2]; exact hv
    · rw [if_neg c]; exact h.1.1 k i hk
  · have : sM μ a j v 3 0 = μ 3 0 := by unfold sM; rw [if_neg (fun c => h1 ⟨c.1.symm, c.2.symm⟩)]
    rw [this]; exact h.1.2.1
  · have : sM μ a j v 62 4 = μ 62 4 := by unfold sM; rw [if_neg (fun c => h2 ⟨c.1.symm, c.2.symm⟩)]
    rw [this]; exact h.1.2.2.1
  · have : sM μ a j v 67 3 = μ 67 3 := by unfold sM; rw [if_neg (fun c => h3 ⟨c.1.symm, c.2.symm⟩)]
    rw [this]; exact h.1.2.2.2
theorem kD_ne {a b c n c' n' : Nat} (h : kD a = (c, n)) (h' : kD b = (c', n')) (hc : c ≠ c') : a ≠ b := fun e => by
  rw [e, h'] at h
  exact hc (congrArg Prod.fst h).symm

theorem gO_0_0 {W : Nat → Nat → Prop} {μs μ : Mm} {c : Nat} (hc : kD c = (10, 9)) (h70 : c < 70) (h : St W μs μ) : -2147483648 ≤ μ c 0 ∧ μ c 0 ≤ 2147483647 := by
  have h1 := h.1.1 c 0 h70
  unfold bx at h1
  rw [hc] at h1
  exact h1
theorem pO_0_0 {W : Nat → Nat → Prop} {μs μ : Mm} {c : Nat} {v : Int} (hc : kD c = (10, 9)) (h : St W μs μ) (hw : W c 0) (hv : -2147483648 ≤ v ∧ v ≤ 2147483647) : St W μs (sM μ c 0 v) := by
  refine St_sM h hw ?_ ?_ ?_ ?_
  · unfold bx
    rw [hc]
    exact hv
  · exact fun e => kD_ne (c' := 14) (n' := 3) (b := 3) hc (by decide) (by decide) e.1
  · exact fun e => kD_ne (c' := 16) (n' := 9) (b := 62) hc (by decide) (by decide) e.1
  · exact fun e => kD_ne (c' := 18) (n' := 7) (b := 67) hc (by decide) (by decide) e.1
theorem gO_0_1 {W : Nat → Nat → Prop} {μs μ : Mm} {c : Nat} (hc : kD c = (10, 9)) (h70 : c < 70) (h : St W μs μ) : -2147483648 ≤ μ c 1 ∧ μ c 1 ≤ 2147483647 := by
  have h1 := h.1.1 c 1 h70
  unfold bx at h1
  rw [hc] at h1
  exact h1
theorem pO_0_1 {W : Nat → Nat → Prop} {μs μ : Mm} {c : Nat} {v : Int} (hc : kD c = (10, 9)) (h : St W μs μ) (hw : W c 1) (hv : -2147483648 ≤ v ∧ v ≤ 2147483647) : St W μs (sM μ c 1 v) := by
  refine St_sM h hw ?_ ?_ ?_ ?_
  · unfold bx
    rw [hc]
    exact hv
  · exact fun e => kD_ne (c' := 14) (n' := 3) (b := 3) hc (by decide) (by decide) e.1
  · exact fun e => kD_ne (c' := 16) (n' := 9) (b := 62) hc (by decide) (by decide) e.1
  · exact fun e => kD_ne (c' := 18) (n' := 7) (b := 67) hc (by decide) (by decide) e.1
theorem gO_0_2 {W : Nat → Nat → Prop} {μs μ : Mm} {c : Nat} (hc : kD c = (10, 9)) (h70 : c < 70) (h : St W μs μ) : -2147483648 ≤ μ c 2 ∧ μ c 2 ≤ 2147483647 := by
  have h1 := h.1.1 c 2 h70
  unfold bx at h1
  rw [hc] at h1
  exact h1
theorem pO_0_2 {W : Nat → Nat → Prop} {μs μ : Mm} {c : Nat} {v : Int} (hc : kD c = (10, 9)) (h : St W μs μ) (hw : W c 2) (hv : -2147483648 ≤ v ∧ v ≤ 2147483647) : St W μs (sM μ c 2 v) := by
  refine St_sM h hw ?_ ?_ ?_ ?_
  · unfold bx
    rw [hc]
    exact hv
  · exact fun e => kD_ne (c' := 14) (n' := 3) (b := 3) hc (by decide) (by decide) e.1
  · exact fun e => kD_ne (c' := 16) (n' := 9) (b := 62) hc (by decide) (by decide) e.1
  · exact fun e => kD_ne (c' := 18) (n' := 7) (b := 67) hc (by decide) (by decide) e.1
theorem gO_0_3 {W : Nat → Nat → Prop} {μs μ : Mm} {c : Nat} (hc : kD c = (10, 9)) (h70 : c < 70) (h : St W μs μ) : -1 ≤ μ c 3 ∧ μ c 3 ≤ 59 := by
  have h1 := h.1.1 c 3 h70
  unfold bx at h1
  rw [hc] at h1
  exact h1
theorem pO_0_3 {W : Nat → Nat → Prop} {μs μ : Mm} {c : Nat} {v : Int} (hc : kD c = (10, 9)) (h : St W μs μ) (hw : W c 3) (hv : -1 ≤ v ∧ v ≤ 59) : St W μs (sM μ c 3 v) := by
  refine St_sM h hw ?_ ?_ ?_ ?_
  · unfold bx
    rw [hc]
    exact hv
  · exact fun e => kD_ne (c' := 14) (n' := 3) (b := 3) hc (by decide) (by decide) e.1
  · exact fun e => kD_ne (c' := 16) (n' := 9) (b := 62) hc (by decide) (by decide) e.1
  · exact fun e => kD_ne (c' := 18) (n' := 7) (b := 67) hc (by decide) (by decide) e.1
theorem gO_0_4 {W : Nat → Nat → Prop} {μs μ : Mm} {c : Nat} (hc : kD c = (10, 9)) (h70 : c < 70) (h : St W μs μ) : 0 ≤ μ c 4 ∧ μ c 4 ≤ 9 := by
  have h1 := h.1.1 c 4 h70
  unfold bx at h1
  rw [hc] at h1
  exact h1
theorem pO_0_4 {W : Nat → Nat → Prop} {μs μ : Mm} {c : Nat} {v : Int} (hc : kD c = (10, 9)) (h : St W μs μ) (hw : W c 4) (hv : 0 ≤ v ∧ v ≤ 9) : St W μs (sM μ c 4 v) := by
  refine St_sM h hw ?_ ?_ ?_ ?_
  · unfold bx
    rw [hc]
    exact hv
  · exact fun e => kD_ne (c' := 14) (n' := 3) (b := 3) hc (by decide) (by decide) e.1
  · exact fun e => kD_ne (c' := 16) (n' := 9) (b := 62) hc (by decide) (by decide) e.1
  · exact fun e => kD_ne (c' := 18) (n' := 7) (b := 67) hc (by decide) (by decide) e.1
theorem gO_0_5 {W : Nat → Nat → Prop} {μs μ : Mm} {c : Nat} (hc : kD c = (10, 9)) (h70 : c < 70) (h : St W μs μ) : -2147483648 ≤ μ c 5 ∧ μ c 5 ≤ 2147483647 := by
  have h1 := h.1.1 c 5 h70
  unfold bx at h1
  rw [hc] at h1
  exact h1
theorem pO_0_5 {W : Nat → Nat → Prop} {μs μ : Mm} {c : Nat} {v : Int} (hc : kD c = (10, 9)) (h : St W μs μ) (hw : W c 5) (hv : -2147483648 ≤ v ∧ v ≤ 2147483647) : St W μs (sM μ c 5 v) := by
  refine St_sM h hw ?_ ?_ ?_ ?_
  · unfold bx
    rw [hc]
    exact hv
  · exact fun e => kD_ne (c' := 14) (n' := 3) (b := 3) hc (by decide) (by decide) e.1
  · exact fun e => kD_ne (c' := 16) (n' := 9) (b := 62) hc (by decide) (by decide) e.1
  · exact fun e => kD_ne (c' := 18) (n' := 7) (b := 67) hc (by decide) (by decide) e.1
theorem gO_0_6 {W : Nat → Nat → Prop} {μs μ : Mm} {c : Nat} (hc : kD c = (10, 9)) (h70 : c < 70) (h : St W μs μ) : -2147483648 ≤ μ c 6 ∧ μ c 6 ≤ 2147483647 := by
  have h1 := h.1.1 c 6 h70
  unfold bx at h1
  rw [hc] at h1
  exact h1
theorem pO_0_6 {W : Nat → Nat → Prop} {μs μ : Mm} {c : Nat} {v : Int} (hc : kD c = (10, 9)) (h : St W μs μ) (hw : W c 6) (hv : -2147483648 ≤ v ∧ v ≤ 2147483647) : St W μs (sM μ c 6 v) := by
  refine St_sM h hw ?_ ?_ ?_ ?_
  · unfold bx
    rw [hc]
    exact hv
  · exact fun e => kD_ne (c' := 14) (n' := 3) (b := 3) hc (by decide) (by decide) e.1
  · exact fun e => kD_ne (c' := 16) (n' := 9) (b := 62) hc (by decide) (by decide) e.1
  · exact fun e => kD_ne (c' := 18) (n' := 7) (b := 67) hc (by decide) (by decide) e.1
theorem gO_0_7 {W : Nat → Nat → Prop} {μs μ : Mm} {c : Nat} (hc : kD c = (10, 9)) (h70 : c < 70) (h : St W μs μ) : 1 ≤ μ c 7 ∧ μ c 7 ≤ 9 := by
  have h1 := h.1.1 c 7 h70
  unfold bx at h1
  rw [hc] at h1
  exact h1
theorem pO_0_7 {W : Nat → Nat → Prop} {μs μ : Mm} {c : Nat} {v : Int} (hc : kD c = (10, 9)) (h : St W μs μ) (hw : W c 7) (hv : 1 ≤ v ∧ v ≤ 9) : St W μs (sM μ c 7 v) := by
  refine St_sM h hw ?_ ?_ ?_ ?_
  · unfold bx
    rw [hc]
    exact hv
  · exact fun e => kD_ne (c' := 14) (n' := 3) (b := 3) hc (by decide) (by decide) e.1
  · exact fun e => kD_ne (c' := 16) (n' := 9) (b := 62) hc (by decide) (by decide) e.1
  · exact fun e => kD_ne (c' := 18) (n' := 7) (b := 67) hc (by decide) (by decide) e.1
theorem gO_0_8 {W : Nat → Nat → Prop} {μs μ : Mm} {c : Nat} (hc : kD c = (10, 9)) (h70 : c < 70) (h : St W μs μ) : 0 ≤ μ c 8 ∧ μ c 8 ≤ 99 := by
  have h1 := h.1.1 c 8 h70
  unfold bx at h1
  rw [hc] at h1
  exact h1
theorem pO_0_8 {W : Nat → Nat → Prop} {μs μ : Mm} {c : Nat} {v : Int} (hc : kD c = (10, 9)) (h : St W μs μ) (hw : W c 8) (hv : 0 ≤ v ∧ v ≤ 99) : St W μs (sM μ c 8 v) := by
  refine St_sM h hw ?_ ?_ ?_ ?_
  · unfold bx
    rw [hc]
    exact hv
  · exact fun e => kD_ne (c' := 14) (n' := 3) (b := 3) hc (by decide) (by decide) e.1
  · exact fun e => kD_ne (c' := 16) (n' := 9) (b := 62) hc (by decide) (by decide) e.1
  · exact fun e => kD_ne (c' := 18) (n' := 7) (b := 67) hc (by decide) (by decide) e.1
theorem bA_0_1 {c : Nat} (hc : kD c = (10, 9)) (h70 : c < 70) (j : Nat) : bx (c + 1) j = (-1, 10) ∧ (kD (c + 1)).1 = 0 ∧ aN (c + 1) = 60 := by
  have h := (by decide +kernel : ∀ a, a < 70 → kD a = (10, 9) → bxR.getD (a + 1) (-2147483648, 2147483647) = (-1, 10) ∧ (kD (a + 1)).1 = 0 ∧ aN (a + 1) = 60) c h70 hc
  refine ⟨?_, h.2.1, h.2.2⟩
  unfold bx
  rw [h.2.1, if_pos (by decide)]
  exact h.1
theorem gA_0_1 {W : Nat → Nat → Prop} {μs μ : Mm} {c : Nat} (hc : kD c = (10, 9)) (h70 : c + 1 < 70) (h : St W μs μ) (j : Nat) : -1 ≤ μ (c + 1) j ∧ μ (c + 1) j ≤ 10 := by
  have h1 := h.1.1 (c + 1) j h70
  rw [(bA_0_1 hc (by omega) j).1] at h1
  exact h1
theorem pA_0_1 {W : Nat → Nat → Prop} {μs μ : Mm} {c j : Nat} {v : Int} (hc : kD c = (10, 9)) (h70 : c < 70) (h : St W μs μ) (hw : W (c + 1) j) (hv : -1 ≤ v ∧ v ≤ 10) : St W μs (sM μ (c + 1) j v) := by
  have hb := bA_0_1 hc h70 j
  have hk : ∀ q, (kD q).1 ≠ 0 → c + 1 ≠ q := fun q hq e => hq (e ▸ hb.2.1)
  refine St_sM h hw (by rw [hb.1]; exact hv) (fun e => hk 3 (by decide) e.1) (fun e => hk 62 (by decide) e.1) (fun e => hk 67 (by decide) e.1)
theorem bA_0_2 {c : Nat} (hc : kD c = (10, 9)) (h70 : c < 70) (j : Nat) : bx (c + 2) j = (-1, 59) ∧ (kD (c + 2)).1 = 0 ∧ aN (c + 2) = 8 := by
  have h := (by decide +kernel : ∀ a, a < 70 → kD a = (10, 9) → bxR.getD (a + 2) (-2147483648, 2147483647) = (-1, 59) ∧ (kD (a + 2)).1 = 0 ∧ aN (a + 2) = 8) c h70 hc
  refine ⟨?_, h.2.1, h.2.2⟩
  unfold bx
  rw [h.2.1, if_pos (by decide)]
  exact h.1
theorem gA_0_2 {W : Nat → Nat → Prop} {μs μ : Mm} {c : Nat} (hc : kD c = (10, 9)) (h70 : c + 2 < 70) (h : St W μs μ) (j : Nat) : -1 ≤ μ (c + 2) j ∧ μ (c + 2) j ≤ 59 := by
  have h1 := h.1.1 (c + 2) j h70
  rw [(bA_0_2 hc (by omega) j).1] at h1
  exact h1
theorem pA_0_2 {W : Nat → Nat → Prop} {μs μ : Mm} {c j : Nat} {v : Int} (hc : kD c = (10, 9)) (h70 : c < 70) (h : St W μs μ) (hw : W (c + 2) j) (hv : -1 ≤ v ∧ v ≤ 59) : St W μs (sM μ (c + 2) j v) := by
  have hb := bA_0_2 hc h70 j
  have hk : ∀ q, (kD q).1 ≠ 0 → c + 2 ≠ q := fun q hq e => hq (e ▸ hb.2.1)
  refine St_sM h hw (by rw [hb.1]; exact hv) (fun e => hk 3 (by decide) e.1) (fun e => hk 62 (by decide) e.1) (fun e => hk 67 (by decide) e.1)
theorem bA_0_3 {c : Nat} (hc : kD c = (10, 9)) (h70 : c < 70) (j : Nat) : bx (c + 3) j = (1, 30) ∧ (kD (c + 3)).1 = 0 ∧ aN (c + 3) = 8 := by
  have h := (by decide +kernel : ∀ a, a < 70 → kD a = (10, 9) → bxR.getD (a + 3) (-2147483648, 2147483647) = (1, 30) ∧ (kD (a + 3)).1 = 0 ∧ aN (a + 3) = 8) c h70 hc
  refine ⟨?_, h.2.1, h.2.2⟩
  unfold bx
  rw [h.2.1, if_pos (by decide)]
  exact h.1
theorem gA_0_3 {W : Nat → Nat → Prop} {μs μ : Mm} {c : Nat} (hc : kD c = (10, 9)) (h70 : c + 3 < 70) (h : St W μs μ) (j : Nat) : 1 ≤ μ (c + 3) j ∧ μ (c + 3) j ≤ 30 := by
  have h1 := h.1.1 (c + 3) j h70
  rw [(bA_0_3 hc (by omega) j).1] at h1
  exact h1
theorem pA_0_3 {W : Nat → Nat → Prop} {μs μ : Mm} {c j : Nat} {v : Int} (hc : kD c = (10, 9)) (h70 : c < 70) (h : St W μs μ) (hw : W (c + 3) j) (hv : 1 ≤ v ∧ v ≤ 30) : St W μs (sM μ (c + 3) j v) := by
  have hb := bA_0_3 hc h70 j
  have hk : ∀ q, (kD q).1 ≠ 0 → c + 3 ≠ q := fun q hq e => hq (e ▸ hb.2.1)
  refine St_sM h hw (by rw [hb.1]; exact hv) (fun e => hk 3 (by decide) e.1) (fun e => hk 62 (by decide) e.1) (fun e => hk 67 (by decide) e.1)
theorem gO_1_0 {W : Nat → Nat → Prop} {μs μ : Mm} {c : Nat} (hc : kD c = (11, 7)) (h70 : c < 70) (h : St W μs μ) : -2147483648 ≤ μ c 0 ∧ μ c 0 ≤ 2147483647 := by
  have h1 := h.1.1 c 0 h70
  unfold bx at h1
  rw [hc] at h1
  exact h1
theorem pO_1_0 {W : Nat → Nat → Prop} {μs μ : Mm} {c : Nat} {v : Int} (hc : kD c = (11, 7)) (h : St W μs μ) (hw : W c 0) (hv : -2147483648 ≤ v ∧ v ≤ 2147483647) : St W μs (sM μ c 0 v) := by
  refine St_sM h hw ?_ ?_ ?_ ?_
  · unfold bx
    rw [hc]
    exact hv
  · exact fun e => kD_ne (c' := 14) (n' := 3) (b := 3) hc (by decide) (by decide) e.1
  · exact fun e => kD_ne (c' := 16) (n' := 9) (b := 62) hc (by decide) (by decide) e.1
  · exact fun e => kD_ne (c' := 18) (n' := 7) (b := 67) hc (by decide) (by decide) e.1
theorem gO_1_1 {W : Nat → Nat → Prop} {μs μ : Mm} {c : Nat} (hc : kD c = (11, 7)) (h70 : c < 70) (h : St W μs μ) : -2147483648 ≤ μ c 1 ∧ μ c 1 ≤ 2147483647 := by
  have h1 := h.1.1 c 1 h70
  unfold bx at h1
  rw [hc] at h1
  exact h1
theorem pO_1_1 {W : Nat → Nat → Prop} {μs μ : Mm} {c : Nat} {v : Int} (hc : kD c = (11, 7)) (h : St W μs μ) (hw : W c 1) (hv : -2147483648 ≤ v ∧ v ≤ 2147483647) : St W μs (sM μ c 1 v) := by
  refine St_sM h hw ?_ ?_ ?_ ?_
  · unfold bx
    rw [hc]
    exact hv
  · exact fun e => kD_ne (c' := 14) (n' := 3) (b := 3) hc (by decide) (by decide) e.1
  · exact fun e => kD_ne (c' := 16) (n' := 9) (b := 62) hc (by decide) (by decide) e.1
  · exact fun e => kD_ne (c' := 18) (n' := 7) (b := 67) hc (by decide) (by decide) e.1
theorem gO_1_2 {W : Nat → Nat → Prop} {μs μ : Mm} {c : Nat} (hc : kD c = (11, 7)) (h70 : c < 70) (h : St W μs μ) : -2147483648 ≤ μ c 2 ∧ μ c 2 ≤ 2147483647 := by
  have h1 := h.1.1 c 2 h70
  unfold bx at h1
  rw [hc] at h1
  exact h1
theorem pO_1_2 {W : Nat → Nat → Prop} {μs μ : Mm} {c : Nat} {v : Int} (hc : kD c = (11, 7)) (h : St W μs μ) (hw : W c 2) (hv : -2147483648 ≤ v ∧ v ≤ 2147483647) : St W μs (sM μ c 2 v) := by
  refine St_sM h hw ?_ ?_ ?_ ?_
  · unfold bx
    rw [hc]
    exact hv
  · exact fun e => kD_ne (c' := 14) (n' := 3) (b := 3) hc (by decide) (by decide) e.1
  · exact fun e => kD_ne (c' := 16) (n' := 9) (b := 62) hc (by decide) (by decide) e.1
  · exact fun e => kD_ne (c' := 18) (n' := 7) (b := 67) hc (by decide) (by decide) e.1
theorem gO_1_3 {W : Nat → Nat → Prop} {μs μ : Mm} {c : Nat} (hc : kD c = (11, 7)) (h70 : c < 70) (h : St W μs μ) : -2147483648 ≤ μ c 3 ∧ μ c 3 ≤ 2147483647 := by
  have h1 := h.1.1 c 3 h70
  unfold bx at h1
  rw [hc] at h1
  exact h1
theorem pO_1_3 {W : Nat → Nat → Prop} {μs μ : Mm} {c : Nat} {v : Int} (hc : kD c = (11, 7)) (h : St W μs μ) (hw : W c 3) (hv : -2147483648 ≤ v ∧ v ≤ 2147483647) : St W μs (sM μ c 3 v) := by
  refine St_sM h hw ?_ ?_ ?_ ?_
  · unfold bx
    rw [hc]
    exact hv
  · exact fun e => kD_ne (c' := 14) (n' := 3) (b := 3) hc (by decide) (by decide) e.1
  · exact fun e => kD_ne (c' := 16) (n' := 9) (b := 62) hc (by decide) (by decide) e.1
  · exact fun e => kD_ne (c' := 18) (n' := 7) (b := 67) hc (by decide) (by decide) e.1
theorem gO_1_4 {W : Nat → Nat → Prop} {μs μ : Mm} {c : Nat} (hc : kD c = (11, 7)) (h70 : c < 70) (h : St W μs μ) : -2147483648 ≤ μ c 4 ∧ μ c 4 ≤ 2147483647 := by
  have h1 := h.1.1 c 4 h70
  unfold bx at h1
  rw [hc] at h1
  exact h1
theorem pO_1_4 {W : Nat → Nat → Prop} {μs μ : Mm} {c : Nat} {v : Int} (hc : kD c = (11, 7)) (h : St W μs μ) (hw : W c 4) (hv : -2147483648 ≤ v ∧ v ≤ 2147483647) : St W μs (sM μ c 4 v) := by
  refine St_sM h hw ?_ ?_ ?_ ?_
  · unfold bx
    rw [hc]
    exact hv
  · exact fun e => kD_ne (c' := 14) (n' := 3) (b := 3) hc (by decide) (by decide) e.1
  · exact fun e => kD_ne (c' := 16) (n' := 9) (b := 62) hc (by decide) (by decide) e.1
  · exact fun e => kD_ne (c' := 18) (n' := 7) (b := 67) hc (by decide) (by decide) e.1
theorem gO_1_5 {W : Nat → Nat → Prop} {μs μ : Mm} {c : Nat} (hc : kD c = (11, 7)) (h70 : c < 70) (h : St W μs μ) : 0 ≤ μ c 5 ∧ μ c 5 ≤ 8 := by
  have h1 := h.1.1 c 5 h70
  unfold bx at h1
  rw [hc] at h1
  exact h1
theorem pO_1_5 {W : Nat → Nat → Prop} {μs μ : Mm} {c : Nat} {v : Int} (hc : kD c = (11, 7)) (h : St W μs μ) (hw : W c 5) (hv : 0 ≤ v ∧ v ≤ 8) : St W μs (sM μ c 5 v) := by
  refine St_sM h hw ?_ ?_ ?_ ?_
  · unfold bx
    rw [hc]
    exact hv
  · exact fun e => kD_ne (c' := 14) (n' := 3) (b := 3) hc (by decide) (by decide) e.1
  · exact fun e => kD_ne (c' := 16) (n' := 9) (b := 62) hc (by decide) (by decide) e.1
  · exact fun e => kD_ne (c' := 18) (n' := 7) (b := 67) hc (by decide) (by decide) e.1
theorem gO_1_6 {W : Nat → Nat → Prop} {μs μ : Mm} {c : Nat} (hc : kD c = (11, 7)) (h70 : c < 70) (h : St W μs μ) : -2147483648 ≤ μ c 6 ∧ μ c 6 ≤ 2147483647 := by
  have h1 := h.1.1 c 6 h70
  unfold bx at h1
  rw [hc] at h1
  exact h1
theorem pO_1_6 {W : Nat → Nat → Prop} {μs μ : Mm} {c : Nat} {v : Int} (hc : kD c = (11, 7)) (h : St W μs μ) (hw : W c 6) (hv : -2147483648 ≤ v ∧ v ≤ 2147483647) : St W μs (sM μ c 6 v) := by
  refine St_sM h hw ?_ ?_ ?_ ?_
  · unfold bx
    rw [hc]
    exact hv
  · exact fun e => kD_ne (c' := 14) (n' := 3) (b := 3) hc (by decide) (by decide) e.1
  · exact fun e => kD_ne (c' := 16) (n' := 9) (b := 62) hc (by decide) (by decide) e.1
  · exact fun e => kD_ne (c' := 18) (n' := 7) (b := 67) hc (by decide) (by decide) e.1
theorem bA_1_1 {c : Nat} (hc : kD c = (11, 7)) (h70 : c < 70) (j : Nat) : bx (c + 1) j = (0, 7) ∧ (kD (c + 1)).1 = 0 ∧ aN (c + 1) = 8 := by
  have h := (by decide +kernel : ∀ a, a < 70 → kD a = (11, 7) → bxR.getD (a + 1) (-2147483648, 2147483647) = (0, 7) ∧ (kD (a + 1)).1 = 0 ∧ aN (a + 1) = 8) c h70 hc
  refine ⟨?_, h.2.1, h.2.2⟩
  unfold bx
  rw [h.2.1, if_pos (by decide)]
  exact h.1
theorem gA_1_1 {W : Nat → Nat → Prop} {μs μ : Mm} {c : Nat} (hc : kD c = (11, 7)) (h70 : c + 1 < 70) (h : St W μs μ) (j : Nat) : 0 ≤ μ (c + 1) j ∧ μ (c + 1) j ≤ 7 := by
  have h1 := h.1.1 (c + 1) j h70
  rw [(bA_1_1 hc (by omega) j).1] at h1
  exact h1
theorem pA_1_1 {W : Nat → Nat → Prop} {μs μ : Mm} {c j : Nat} {v : Int} (hc : kD c = (11, 7)) (h70 : c < 70) (h : St W μs μ) (hw : W (c + 1) j) (hv : 0 ≤ v ∧ v ≤ 7) : St W μs (sM μ (c + 1) j v) := by
  have hb := bA_1_1 hc h70 j
  have hk : ∀ q, (kD q).1 ≠ 0 → c + 1 ≠ q := fun q hq e => hq (e ▸ hb.2.1)
  refine St_sM h hw (by rw [hb.1]; exact hv) (fun e => hk 3 (by decide) e.1) (fun e => hk 62 (by decide) e.1) (fun e => hk 67 (by decide) e.1)
theorem bA_1_2 {c : Nat} (hc : kD c = (11, 7)) (h70 : c < 70) (j : Nat) : bx (c + 2) j = (-2147483648, 2147483647) ∧ (kD (c + 2)).1 = 0 ∧ aN (c + 2) = 8 := by
  have h := (by decide +kernel : ∀ a, a < 70 → kD a = (11, 7) → bxR.getD (a + 2) (-2147483648, 2147483647) = (-2147483648, 2147483647) ∧ (kD (a + 2)).1 = 0 ∧ aN (a + 2) = 8) c h70 hc
  refine ⟨?_, h.2.1, h.2.2⟩
  unfold bx
  rw [h.2.1, if_pos (by decide)]
  exact h.1
theorem gA_1_2 {W : Nat → Nat → Prop} {μs μ : Mm} {c : Nat} (hc : kD c = (11, 7)) (h70 : c + 2 < 70) (h : St W μs μ) (j : Nat) : -2147483648 ≤ μ (c + 2) j ∧ μ (c + 2) j ≤ 2147483647 := by
  have h1 := h.1.1 (c + 2) j h70
  rw [(bA_1_2 hc (by omega) j).1] at h1
  exact h1
theorem pA_1_2 {W : Nat → Nat → Prop} {μs μ : Mm} {c j : Nat} {v : Int} (hc : kD c = (11, 7)) (h70 : c < 70) (h : St W μs μ) (hw : W (c + 2) j) (hv : -2147483648 ≤ v ∧ v ≤ 2147483647) : St W μs (sM μ (c + 2) j v) := by
  have hb := bA_1_2 hc h70 j
  have hk : ∀ q, (kD q).1 ≠ 0 → c + 2 ≠ q := fun q hq e => hq (e ▸ hb.2.1)
  refine St_sM h hw (by rw [hb.1]; exact hv) (fun e => hk 3 (by decide) e.1) (fun e => hk 62 (by decide) e.1) (fun e => hk 67 (by decide) e.1)
theorem bA_1_3 {c : Nat} (hc : kD c = (11, 7)) (h70 : c < 70) (j : Nat) : bx (c + 3) j = (-2147483648, 2147483647) ∧ (kD (c + 3)).1 = 0 ∧ aN (c + 3) = 8 := by
  have h := (by decide +kernel : ∀ a, a < 70 → kD a = (11, 7) → bxR.getD (a + 3) (-2147483648, 2147483647) = (-2147483648, 2147483647) ∧ (kD (a + 3)).1 = 0 ∧ aN (a + 3) = 8) c h70 hc
  refine ⟨?_, h.2.1, h.2.2⟩
  unfold bx
  rw [h.2.1, if_pos (by decide)]
  exact h.1
theorem gA_1_3 {W : Nat → Nat → Prop} {μs μ : Mm} {c : Nat} (hc : kD c = (11, 7)) (h70 : c + 3 < 70) (h : St W μs μ) (j : Nat) : -2147483648 ≤ μ (c + 3) j ∧ μ (c + 3) j ≤ 2147483647 := by
  have h1 := h.1.1 (c + 3) j h70
  rw [(bA_1_3 hc (by omega) j).1] at h1
  exact h1
theorem pA_1_3 {W : Nat → Nat → Prop} {μs μ : Mm} {c j : Nat} {v : Int} (hc : kD c = (11, 7)) (h70 : c < 70) (h : St W μs μ) (hw : W (c + 3) j) (hv : -2147483648 ≤ v ∧ v ≤ 2147483647) : St W μs (sM μ (c + 3) j v) := by
  have hb := bA_1_3 hc h70 j
  have hk : ∀ q, (kD q).1 ≠ 0 → c + 3 ≠ q := fun q hq e => hq (e ▸ hb.2.1)
  refine St_sM h hw (by rw [hb.1]; exact hv) (fun e => hk 3 (by decide) e.1) (fun e => hk 62 (by decide) e.1) (fun e => hk 67 (by decide) e.1)
theorem bA_1_4 {c : Nat} (hc : kD c = (11, 7)) (h70 : c < 70) (j : Nat) : bx (c + 4) j = (-2147483648, 2147483647) ∧ (kD (c + 4)).1 = 0 ∧ aN (c + 4) = 72 := by
  have h := (by decide +kernel : ∀ a, a < 70 → kD a = (11, 7) → bxR.getD (a + 4) (-2147483648, 2147483647) = (-2147483648, 2147483647) ∧ (kD (a + 4)).1 = 0 ∧ aN (a + 4) = 72) c h70 hc
  refine ⟨?_, h.2.1, h.2.2⟩
  unfold bx
  rw [h.2.1, if_pos (by decide)]
  exact h.1
theorem gA_1_4 {W : Nat → Nat → Prop} {μs μ : Mm} {c : Nat} (hc : kD c = (11, 7)) (h70 : c + 4 < 70) (h : St W μs μ) (j : Nat) : -2147483648 ≤ μ (c + 4) j ∧ μ (c + 4) j ≤ 2147483647 := by
  have h1 := h.1.1 (c + 4) j h70
  rw [(bA_1_4 hc (by omega) j).1] at h1
  exact h1
theorem pA_1_4 {W : Nat → Nat → Prop} {μs μ : Mm} {c j : Nat} {v : Int} (hc : kD c = (11, 7)) (h70 : c < 70) (h : St W μs μ) (hw : W (c + 4) j) (hv : -2147483648 ≤ v ∧ v ≤ 2147483647) : St W μs (sM μ (c + 4) j v) := by
  have hb := bA_1_4 hc h70 j
  have hk : ∀ q, (kD q).1 ≠ 0 → c + 4 ≠ q := fun q hq e => hq (e ▸ hb.2.1)
  refine St_sM h hw (by rw [hb.1]; exact hv) (fun e => hk 3 (by decide) e.1) (fun e => hk 62 (by decide) e.1) (fun e => hk 67 (by decide) e.1)
theorem gO_2_0 {W : Nat → Nat → Prop} {μs μ : Mm} {c : Nat} (hc : kD c = (12, 6)) (h70 : c < 70) (h : St W μs μ) : -2147483648 ≤ μ c 0 ∧ μ c 0 ≤ 2147483647 := by
  have h1 := h.1.1 c 0 h70
  unfold bx at h1
  rw [hc] at h1
  exact h1
theorem pO_2_0 {W : Nat → Nat → Prop} {μs μ : Mm} {c : Nat} {v : Int} (hc : kD c = (12, 6)) (h : St W μs μ) (hw : W c 0) (hv : -2147483648 ≤ v ∧ v ≤ 2147483647) : St W μs (sM μ c 0 v) := by
  refine St_sM h hw ?_ ?_ ?_ ?_
  · unfold bx
    rw [hc]
    exact hv
  · exact fun e => kD_ne (c' := 14) (n' := 3) (b := 3) hc (by decide) (by decide) e.1
  · exact fun e => kD_ne (c' := 16) (n' := 9) (b := 62) hc (by decide) (by decide) e.1
  · exact fun e => kD_ne (c' := 18) (n' := 7) (b := 67) hc (by decide) (by decide) e.1
theorem gO_2_1 {W : Nat → Nat → Prop} {μs μ : Mm} {c : Nat} (hc : kD c = (12, 6)) (h70 : c < 70) (h : St W μs μ) : -2147483648 ≤ μ c 1 ∧ μ c 1 ≤ 2147483647 := by
  have h1 := h.1.1 c 1 h70
  unfold bx at h1
  rw [hc] at h1
  exact h1
theorem pO_2_1 {W : Nat → Nat → Prop} {μs μ : Mm} {c : Nat} {v : Int} (hc : kD c = (12, 6)) (h : St W μs μ) (hw : W c 1) (hv : -2147483648 ≤ v ∧ v ≤ 2147483647) : St W μs (sM μ c 1 v) := by
  refine St_sM h hw ?_ ?_ ?_ ?_
  · unfold bx
    rw [hc]
    exact hv
  · exact fun e => kD_ne (c' := 14) (n' := 3) (b := 3) hc (by decide) (by decide) e.1
  · exact fun e => kD_ne (c' := 16) (n' := 9) (b := 62) hc (by decide) (by decide) e.1
  · exact fun e => kD_ne (c' := 18) (n' := 7) (b := 67) hc (by decide) (by decide) e.1
theorem gO_2_2 {W : Nat → Nat → Prop} {μs μ : Mm} {c : Nat} (hc : kD c = (12, 6)) (h70 : c < 70) (h : St W μs μ) : -2147483648 ≤ μ c 2 ∧ μ c 2 ≤ 2147483647 := by
  have h1 := h.1.1 c 2 h70
  unfold bx at h1
  rw [hc] at h1
  exact h1
theorem pO_2_2 {W : Nat → Nat → Prop} {μs μ : Mm} {c : Nat} {v : Int} (hc : kD c = (12, 6)) (h : St W μs μ) (hw : W c 2) (hv : -2147483648 ≤ v ∧ v ≤ 2147483647) : St W μs (sM μ c 2 v) := by
  refine St_sM h hw ?_ ?_ ?_ ?_
  · unfold bx
    rw [hc]
    exact hv
  · exact fun e => kD_ne (c' := 14) (n' := 3) (b := 3) hc (by decide) (by decide) e.1
  · exact fun e => kD_ne (c' := 16) (n' := 9) (b := 62) hc (by decide) (by decide) e.1
  · exact fun e => kD_ne (c' := 18) (n' := 7) (b := 67) hc (by decide) (by decide) e.1
theorem gO_2_3 {W : Nat → Nat → Prop} {μs μ : Mm} {c : Nat} (hc : kD c = (12, 6)) (h70 : c < 70) (h : St W μs μ) : -2147483648 ≤ μ c 3 ∧ μ c 3 ≤ 2147483647 := by
  have h1 := h.1.1 c 3 h70
  unfold bx at h1
  rw [hc] at h1
  exact h1
theorem pO_2_3 {W : Nat → Nat → Prop} {μs μ : Mm} {c : Nat} {v : Int} (hc : kD c = (12, 6)) (h : St W μs μ) (hw : W c 3) (hv : -2147483648 ≤ v ∧ v ≤ 2147483647) : St W μs (sM μ c 3 v) := by
  refine St_sM h hw ?_ ?_ ?_ ?_
  · unfold bx
    rw [hc]
    exact hv
  · exact fun e => kD_ne (c' := 14) (n' := 3) (b := 3) hc (by decide) (by decide) e.1
  · exact fun e => kD_ne (c' := 16) (n' := 9) (b := 62) hc (by decide) (by decide) e.1
  · exact fun e => kD_ne (c' := 18) (n' := 7) (b := 67) hc (by decide) (by decide) e.1
theorem gO_2_4 {W : Nat → Nat → Prop} {μs μ : Mm} {c : Nat} (hc : kD c = (12, 6)) (h70 : c < 70) (h : St W μs μ) : -2147483648 ≤ μ c 4 ∧ μ c 4 ≤ 2147483647 := by
  have h1 := h.1.1 c 4 h70
  unfold bx at h1
  rw [hc] at h1
  exact h1
theorem pO_2_4 {W : Nat → Nat → Prop} {μs μ : Mm} {c : Nat} {v : Int} (hc : kD c = (12, 6)) (h : St W μs μ) (hw : W c 4) (hv : -2147483648 ≤ v ∧ v ≤ 2147483647) : St W μs (sM μ c 4 v) := by
  refine St_sM h hw ?_ ?_ ?_ ?_
  · unfold bx
    rw [hc]
    exact hv
  · exact fun e => kD_ne (c' := 14) (n' := 3) (b := 3) hc (by decide) (by decide) e.1
  · exact fun e => kD_ne (c' := 16) (n' := 9) (b := 62) hc (by decide) (by decide) e.1
  · exact fun e => kD_ne (c' := 18) (n' := 7) (b := 67) hc (by decide) (by decide) e.1
theorem gO_2_5 {W : Nat → Nat → Prop} {μs μ : Mm} {c : Nat} (hc : kD c = (12, 6)) (h70 : c < 70) (h : St W μs μ) : -2147483648 ≤ μ c 5 ∧ μ c 5 ≤ 2147483647 := by
  have h1 := h.1.1 c 5 h70
  unfold bx at h1
  rw [hc] at h1
  exact h1
theorem pO_2_5 {W : Nat → Nat → Prop} {μs μ : Mm} {c : Nat} {v : Int} (hc : kD c = (12, 6)) (h : St W μs μ) (hw : W c 5) (hv : -2147483648 ≤ v ∧ v ≤ 2147483647) : St W μs (sM μ c 5 v) := by
  refine St_sM h hw ?_ ?_ ?_ ?_
  · unfold bx
    rw [hc]
    exact hv
  · exact fun e => kD_ne (c' := 14) (n' := 3) (b := 3) hc (by decide) (by decide) e.1
  · exact fun e => kD_ne (c' := 16) (n' := 9) (b := 62) hc (by decide) (by decide) e.1
  · exact fun e => kD_ne (c' := 18) (n' := 7) (b := 67) hc (by decide) (by decide) e.1
theorem gO_3_0 {W : Nat → Nat → Prop} {μs μ : Mm} {c : Nat} (hc : kD c = (13, 3)) (h70 : c < 70) (h : St W μs μ) : -2147483648 ≤ μ c 0 ∧ μ c 0 ≤ 2147483647 := by
  have h1 := h.1.1 c 0 h70
  unfold bx at h1
  rw [hc] at h1
  exact h1
theorem pO_3_0 {W : Nat → Nat → Prop} {μs μ : Mm} {c : Nat} {v : Int} (hc : kD c = (13, 3)) (h : St W μs μ) (hw : W c 0) (hv : -2147483648 ≤ v ∧ v ≤ 2147483647) : St W μs (sM μ c 0 v) := by
  refine St_sM h hw ?_ ?_ ?_ ?_
  · unfold bx
    rw [hc]
    exact hv
  · exact fun e => kD_ne (c' := 14) (n' := 3) (b := 3) hc (by decide) (by decide) e.1
  · exact fun e => kD_ne (c' := 16) (n' := 9) (b := 62) hc (by decide) (by decide) e.1
  · exact fun e => kD_ne (c' := 18) (n' := 7) (b := 67) hc (by decide) (by decide) e.1
theorem gO_3_1 {W : Nat → Nat → Prop} {μs μ : Mm} {c : Nat} (hc : kD c = (13, 3)) (h70 : c < 70) (h : St W μs μ) : -2147483648 ≤ μ c 1 ∧ μ c 1 ≤ 2147483647 := by
  have h1 := h.1.1 c 1 h70
  unfold bx at h1
  rw [hc] at h1
  exact h1
theorem pO_3_1 {W : Nat → Nat → Prop} {μs μ : Mm} {c : Nat} {v : Int} (hc : kD c = (13, 3)) (h : St W μs μ) (hw : W c 1) (hv : -2147483648 ≤ v ∧ v ≤ 2147483647) : St W μs (sM μ c 1 v) := by
  refine St_sM h hw ?_ ?_ ?_ ?_
  · unfold bx
    rw [hc]
    exact hv
  · exact fun e => kD_ne (c' := 14) (n' := 3) (b := 3) hc (by decide) (by decide) e.1
  · exact fun e => kD_ne (c' := 16) (n' := 9) (b := 62) hc (by decide) (by decide) e.1
  · exact fun e => kD_ne (c' := 18) (n' := 7) (b := 67) hc (by decide) (by decide) e.1
theorem gO_3_2 {W : Nat → Nat → Prop} {μs μ : Mm} {c : Nat} (hc : kD c = (13, 3)) (h70 : c < 70) (h : St W μs μ) : 0 ≤ μ c 2 ∧ μ c 2 ≤ 8 := by
  have h1 := h.1.1 c 2 h70
  unfold bx at h1
  rw [hc] at h1
  exact h1
theorem pO_3_2 {W : Nat → Nat → Prop} {μs μ : Mm} {c : Nat} {v : Int} (hc : kD c = (13, 3)) (h : St W μs μ) (hw : W c 2) (hv : 0 ≤ v ∧ v ≤ 8) : St W μs (sM μ c 2 v) := by
  refine St_sM h hw ?_ ?_ ?_ ?_
  · unfold bx
    rw [hc]
    exact hv
  · exact fun e => kD_ne (c' := 14) (n' := 3) (b := 3) hc (by decide) (by decide) e.1
  · exact fun e => kD_ne (c' := 16) (n' := 9) (b := 62) hc (by decide) (by decide) e.1
  · exact fun e => kD_ne (c' := 18) (n' := 7) (b := 67) hc (by decide) (by decide) e.1
theorem bA_3_1 {c : Nat} (hc : kD c = (13, 3)) (h70 : c < 70) (j : Nat) : bx (c + 1) j = (0, 7) ∧ (kD (c + 1)).1 = 0 ∧ aN (c + 1) = 8 := by
  have h := (by decide +kernel : ∀ a, a < 70 → kD a = (13, 3) → bxR.getD (a + 1) (-2147483648, 2147483647) = (0, 7) ∧ (kD (a + 1)).1 = 0 ∧ aN (a + 1) = 8) c h70 hc
  refine ⟨?_, h.2.1, h.2.2⟩
  unfold bx
  rw [h.2.1, if_pos (by decide)]
  exact h.1
theorem gA_3_1 {W : Nat → Nat → Prop} {μs μ : Mm} {c : Nat} (hc : kD c = (13, 3)) (h70 : c + 1 < 70) (h : St W μs μ) (j : Nat) : 0 ≤ μ (c + 1) j ∧ μ (c + 1) j ≤ 7 := by
  have h1 := h.1.1 (c + 1) j h70
  rw [(bA_3_1 hc (by omega) j).1] at h1
  exact h1
theorem pA_3_1 {W : Nat → Nat → Prop} {μs μ : Mm} {c j : Nat} {v : Int} (hc : kD c = (13, 3)) (h70 : c < 70) (h : St W μs μ) (hw : W (c + 1) j) (hv : 0 ≤ v ∧ v ≤ 7) : St W μs (sM μ (c + 1) j v) := by
  have hb := bA_3_1 hc h70 j
  have hk : ∀ q, (kD q).1 ≠ 0 → c + 1 ≠ q := fun q hq e => hq (e ▸ hb.2.1)
  refine St_sM h hw (by rw [hb.1]; exact hv) (fun e => hk 3 (by decide) e.1) (fun e => hk 62 (by decide) e.1) (fun e => hk 67 (by decide) e.1)
theorem bA_3_2 {c : Nat} (hc : kD c = (13, 3)) (h70 : c < 70) (j : Nat) : bx (c + 2) j = (0, 999) ∧ (kD (c + 2)).1 = 0 ∧ aN (c + 2) = 8 := by
  have h := (by decide +kernel : ∀ a, a < 70 → kD a = (13, 3) → bxR.getD (a + 2) (-2147483648, 2147483647) = (0, 999) ∧ (kD (a + 2)).1 = 0 ∧ aN (a + 2) = 8) c h70 hc
  refine ⟨?_, h.2.1, h.2.2⟩
  unfold bx
  rw [h.2.1, if_pos (by decide)]
  exact h.1
theorem gA_3_2 {W : Nat → Nat → Prop} {μs μ : Mm} {c : Nat} (hc : kD c = (13, 3)) (h70 : c + 2 < 70) (h : St W μs μ) (j : Nat) : 0 ≤ μ (c + 2) j ∧ μ (c + 2) j ≤ 999 := by
  have h1 := h.1.1 (c + 2) j h70
  rw [(bA_3_2 hc (by omega) j).1] at h1
  exact h1
theorem pA_3_2 {W : Nat → Nat → Prop} {μs μ : Mm} {c j : Nat} {v : Int} (hc : kD c = (13, 3)) (h70 : c < 70) (h : St W μs μ) (hw : W (c + 2) j) (hv : 0 ≤ v ∧ v ≤ 999) : St W μs (sM μ (c + 2) j v) := by
  have hb := bA_3_2 hc h70 j
  have hk : ∀ q, (kD q).1 ≠ 0 → c + 2 ≠ q := fun q hq e => hq (e ▸ hb.2.1)
  refine St_sM h hw (by rw [hb.1]; exact hv) (fun e => hk 3 (by decide) e.1) (fun e => hk 62 (by decide) e.1) (fun e => hk 67 (by decide) e.1)
theorem gO_4_0 {W : Nat → Nat → Prop} {μs μ : Mm} {c : Nat} (hc : kD c = (14, 3)) (h70 : c < 70) (h : St W μs μ) : -2147483648 ≤ μ c 0 ∧ μ c 0 ≤ 2147483647 := by
  have h1 := h.1.1 c 0 h70
  unfold bx at h1
  rw [hc] at h1
  exact h1
theorem gO_4_1 {W : Nat → Nat → Prop} {μs μ : Mm} {c : Nat} (hc : kD c = (14, 3)) (h70 : c < 70) (h : St W μs μ) : 0 ≤ μ c 1 ∧ μ c 1 ≤ 160 := by
  have h1 := h.1.1 c 1 h70
  unfold bx at h1
  rw [hc] at h1
  exact h1
theorem pO_4_1 {W : Nat → Nat → Prop} {μs μ : Mm} {c : Nat} {v : Int} (hc : kD c = (14, 3)) (h : St W μs μ) (hw : W c 1) (hv : 0 ≤ v ∧ v ≤ 160) : St W μs (sM μ c 1 v) := by
  refine St_sM h hw ?_ ?_ ?_ ?_
  · unfold bx
    rw [hc]
    exact hv
  · exact fun e => absurd e.2 (by decide)
  · exact fun e => kD_ne (c' := 16) (n' := 9) (b := 62) hc (by decide) (by decide) e.1
  · exact fun e => kD_ne (c' := 18) (n' := 7) (b := 67) hc (by decide) (by decide) e.1
theorem gO_4_2 {W : Nat → Nat → Prop} {μs μ : Mm} {c : Nat} (hc : kD c = (14, 3)) (h70 : c < 70) (h : St W μs μ) : -1 ≤ μ c 2 ∧ μ c 2 ≤ 160 := by
  have h1 := h.1.1 c 2 h70
  unfold bx at h1
  rw [hc] at h1
  exact h1
theorem pO_4_2 {W : Nat → Nat → Prop} {μs μ : Mm} {c : Nat} {v : Int} (hc : kD c = (14, 3)) (h : St W μs μ) (hw : W c 2) (hv : -1 ≤ v ∧ v ≤ 160) : St W μs (sM μ c 2 v) := by
  refine St_sM h hw ?_ ?_ ?_ ?_
  · unfold bx
    rw [hc]
    exact hv
  · exact fun e => absurd e.2 (by decide)
  · exact fun e => kD_ne (c' := 16) (n' := 9) (b := 62) hc (by decide) (by decide) e.1
  · exact fun e => kD_ne (c' := 18) (n' := 7) (b := 67) hc (by decide) (by decide) e.1
theorem gO_5_0 {W : Nat → Nat → Prop} {μs μ : Mm} {c : Nat} (hc : kD c = (15, 10)) (h70 : c < 70) (h : St W μs μ) : -2147483648 ≤ μ c 0 ∧ μ c 0 ≤ 2147483647 := by
  have h1 := h.1.1 c 0 h70
  unfold bx at h1
  rw [hc] at h1
  exact h1
theorem pO_5_0 {W : Nat → Nat → Prop} {μs μ : Mm} {c : Nat} {v : Int} (hc : kD c = (15, 10)) (h : St W μs μ) (hw : W c 0) (hv : -2147483648 ≤ v ∧ v ≤ 2147483647) : St W μs (sM μ c 0 v) := by
  refine St_sM h hw ?_ ?_ ?_ ?_
  · unfold bx
    rw [hc]
    exact hv
  · exact fun e => kD_ne (c' := 14) (n' := 3) (b := 3) hc (by decide) (by decide) e.1
  · exact fun e => kD_ne (c' := 16) (n' := 9) (b := 62) hc (by decide) (by decide) e.1
  · exact fun e => kD_ne (c' := 18) (n' := 7) (b := 67) hc (by decide) (by decide) e.1
theorem gO_5_1 {W : Nat → Nat → Prop} {μs μ : Mm} {c : Nat} (hc : kD c = (15, 10)) (h70 : c < 70) (h : St W μs μ) : -2147483648 ≤ μ c 1 ∧ μ c 1 ≤ 2147483647 := by
  have h1 := h.1.1 c 1 h70
  unfold bx at h1
  rw [hc] at h1
  exact h1
theorem pO_5_1 {W : Nat → Nat → Prop} {μs μ : Mm} {c : Nat} {v : Int} (hc : kD c = (15, 10)) (h : St W μs μ) (hw : W c 1) (hv : -2147483648 ≤ v ∧ v ≤ 2147483647) : St W μs (sM μ c 1 v) := by
  refine St_sM h hw ?_ ?_ ?_ ?_
  · unfold bx
    rw [hc]
    exact hv
  · exact fun e => kD_ne (c' := 14) (n' := 3) (b := 3) hc (by decide) (by decide) e.1
  · exact fun e => kD_ne (c' := 16) (n' := 9) (b := 62) hc (by decide) (by decide) e.1
  · exact fun e => kD_ne (c' := 18) (n' := 7) (b := 67) hc (by decide) (by decide) e.1
theorem gO_5_2 {W : Nat → Nat → Prop} {μs μ : Mm} {c : Nat} (hc : kD c = (15, 10)) (h70 : c < 70) (h : St W μs μ) : -2147483648 ≤ μ c 2 ∧ μ c 2 ≤ 2147483647 := by
  have h1 := h.1.1 c 2 h70
  unfold bx at h1
  rw [hc] at h1
  exact h1
theorem pO_5_2 {W : Nat → Nat → Prop} {μs μ : Mm} {c : Nat} {v : Int} (hc : kD c = (15, 10)) (h : St W μs μ) (hw : W c 2) (hv : -2147483648 ≤ v ∧ v ≤ 2147483647) : St W μs (sM μ c 2 v) := by
  refine St_sM h hw ?_ ?_ ?_ ?_
  · unfold bx
    rw [hc]
    exact hv
  · exact fun e => kD_ne (c' := 14) (n' := 3) (b := 3) hc (by decide) (by decide) e.1
  · exact fun e => kD_ne (c' := 16) (n' := 9) (b := 62) hc (by decide) (by decide) e.1
  · exact fun e => kD_ne (c' := 18) (n' := 7) (b := 67) hc (by decide) (by decide) e.1
theorem gO_5_3 {W : Nat → Nat → Prop} {μs μ : Mm} {c : Nat} (hc : kD c = (15, 10)) (h70 : c < 70) (h : St W μs μ) : 0 ≤ μ c 3 ∧ μ c 3 ≤ 8 := by
  have h1 := h.1.1 c 3 h70
  unfold bx at h1
  rw [hc] at h1
  exact h1
theorem pO_5_3 {W : Nat → Nat → Prop} {μs μ : Mm} {c : Nat} {v : Int} (hc : kD c = (15, 10)) (h : St W μs μ) (hw : W c 3) (hv : 0 ≤ v ∧ v ≤ 8) : St W μs (sM μ c 3 v) := by
  refine St_sM h hw ?_ ?_ ?_ ?_
  · unfold bx
    rw [hc]
    exact hv
  · exact fun e => kD_ne (c' := 14) (n' := 3) (b := 3) hc (by decide) (by decide) e.1
  · exact fun e => kD_ne (c' := 16) (n' := 9) (b := 62) hc (by decide) (by decide) e.1
  · exact fun e => kD_ne (c' := 18) (n' := 7) (b := 67) hc (by decide) (by decide) e.1
theorem gO_5_4 {W : Nat → Nat → Prop} {μs μ : Mm} {c : Nat} (hc : kD c = (15, 10)) (h70 : c < 70) (h : St W μs μ) : -2147483648 ≤ μ c 4 ∧ μ c 4 ≤ 2147483647 := by
  have h1 := h.1.1 c 4 h70
  unfold bx at h1
  rw [hc] at h1
  exact h1
theorem pO_5_4 {W : Nat → Nat → Prop} {μs μ : Mm} {c : Nat} {v : Int} (hc : kD c = (15, 10)) (h : St W μs μ) (hw : W c 4) (hv : -2147483648 ≤ v ∧ v ≤ 2147483647) : St W μs (sM μ c 4 v) := by
  refine St_sM h hw ?_ ?_ ?_ ?_
  · unfold bx
    rw [hc]
    exact hv
  · exact fun e => kD_ne (c' := 14) (n' := 3) (b := 3) hc (by decide) (by decide) e.1
  · exact fun e => kD_ne (c' := 16) (n' := 9) (b := 62) hc (by decide) (by decide) e.1
  · exact fun e => kD_ne (c' := 18) (n' := 7) (b := 67) hc (by decide) (by decide) e.1
theorem gO_5_5 {W : Nat → Nat → Prop} {μs μ : Mm} {c : Nat} (hc : kD c = (15, 10)) (h70 : c < 70) (h : St W μs μ) : -2147483648 ≤ μ c 5 ∧ μ c 5 ≤ 2147483647 := by
  have h1 := h.1.1 c 5 h70
  unfold bx at h1
  rw [hc] at h1
  exact h1
theorem pO_5_5 {W : Nat → Nat → Prop} {μs μ : Mm} {c : Nat} {v : Int} (hc : kD c = (15, 10)) (h : St W μs μ) (hw : W c 5) (hv : -2147483648 ≤ v ∧ v ≤ 2147483647) : St W μs (sM μ c 5 v) := by
  refine St_sM h hw ?_ ?_ ?_ ?_
  · unfold bx
    rw [hc]
    exact hv
  · exact fun e => kD_ne (c' := 14) (n' := 3) (b := 3) hc (by decide) (by decide) e.1
  · exact fun e => kD_ne (c' := 16) (n' := 9) (b := 62) hc (by decide) (by decide) e.1
  · exact fun e => kD_ne (c' := 18) (n' := 7) (b := 67) hc (by decide) (by decide) e.1
theorem gO_5_6 {W : Nat → Nat → Prop} {μs μ : Mm} {c : Nat} (hc : kD c = (15, 10)) (h70 : c < 70) (h : St W μs μ) : -2147483648 ≤ μ c 6 ∧ μ c 6 ≤ 2147483647 := by
  have h1 := h.1.1 c 6 h70
  unfold bx at h1
  rw [hc] at h1
  exact h1
theorem pO_5_6 {W : Nat → Nat → Prop} {μs μ : Mm} {c : Nat} {v : Int} (hc : kD c = (15, 10)) (h : St W μs μ) (hw : W c 6) (hv : -2147483648 ≤ v ∧ v ≤ 2147483647) : St W μs (sM μ c 6 v) := by
  refine St_sM h hw ?_ ?_ ?_ ?_
  · unfold bx
    rw [hc]
    exact hv
  · exact fun e => kD_ne (c' := 14) (n' := 3) (b := 3) hc (by decide) (by decide) e.1
  · exact fun e => kD_ne (c' := 16) (n' := 9) (b := 62) hc (by decide) (by decide) e.1
  · exact fun e => kD_ne (c' := 18) (n' := 7) (b := 67) hc (by decide) (by decide) e.1
theorem gO_5_7 {W : Nat → Nat → Prop} {μs μ : Mm} {c : Nat} (hc : kD c = (15, 10)) (h70 : c < 70) (h : St W μs μ) : -2147483648 ≤ μ c 7 ∧ μ c 7 ≤ 2147483647 := by
  have h1 := h.1.1 c 7 h70
  unfold bx at h1
  rw [hc] at h1
  exact h1
theorem pO_5_7 {W : Nat → Nat → Prop} {μs μ : Mm} {c : Nat} {v : Int} (hc : kD c = (15, 10)) (h : St W μs μ) (hw : W c 7) (hv : -2147483648 ≤ v ∧ v ≤ 2147483647) : St W μs (sM μ c 7 v) := by
  refine St_sM h hw ?_ ?_ ?_ ?_
  · unfold bx
    rw [hc]
    exact hv
  · exact fun e => kD_ne (c' := 14) (n' := 3) (b := 3) hc (by decide) (by decide) e.1
  · exact fun e => kD_ne (c' := 16) (n' := 9) (b := 62) hc (by decide) (by decide) e.1
  · exact fun e => kD_ne (c' := 18) (n' := 7) (b := 67) hc (by decide) (by decide) e.1
theorem gO_5_8 {W : Nat → Nat → Prop} {μs μ : Mm} {c : Nat} (hc : kD c = (15, 10)) (h70 : c < 70) (h : St W μs μ) : -2147483648 ≤ μ c 8 ∧ μ c 8 ≤ 2147483647 := by
  have h1 := h.1.1 c 8 h70
  unfold bx at h1
  rw [hc] at h1
  exact h1
theorem pO_5_8 {W : Nat → Nat → Prop} {μs μ : Mm} {c : Nat} {v : Int} (hc : kD c = (15, 10)) (h : St W μs μ) (hw : W c 8) (hv : -2147483648 ≤ v ∧ v ≤ 2147483647) : St W μs (sM μ c 8 v) := by
  refine St_sM h hw ?_ ?_ ?_ ?_
  · unfold bx
    rw [hc]
    exact hv
  · exact fun e => kD_ne (c' := 14) (n' := 3) (b := 3) hc (by decide) (by decide) e.1
  · exact fun e => kD_ne (c' := 16) (n' := 9) (b := 62) hc (by decide) (by decide) e.1
  · exact fun e => kD_ne (c' := 18) (n' := 7) (b := 67) hc (by decide) (by decide) e.1
theorem gO_5_9 {W : Nat → Nat → Prop} {μs μ : Mm} {c : Nat} (hc : kD c = (15, 10)) (h70 : c < 70) (h : St W μs μ) : -2147483648 ≤ μ c 9 ∧ μ c 9 ≤ 2147483647 := by
  have h1 := h.1.1 c 9 h70
  unfold bx at h1
  rw [hc] at h1
  exact h1
theorem pO_5_9 {W : Nat → Nat → Prop} {μs μ : Mm} {c : Nat} {v : Int} (hc : kD c = (15, 10)) (h : St W μs μ) (hw : W c 9) (hv : -2147483648 ≤ v ∧ v ≤ 2147483647) : St W μs (sM μ c 9 v) := by
  refine St_sM h hw ?_ ?_ ?_ ?_
  · unfold bx
    rw [hc]
    exact hv
  · exact fun e => kD_ne (c' := 14) (n' := 3) (b := 3) hc (by decide) (by decide) e.1
  · exact fun e => kD_ne (c' := 16) (n' := 9) (b := 62) hc (by decide) (by decide) e.1
  · exact fun e => kD_ne (c' := 18) (n' := 7) (b := 67) hc (by decide) (by decide) e.1
theorem bA_5_1 {c : Nat} (hc : kD c = (15, 10)) (h70 : c < 70) (j : Nat) : bx (c + 1) j = (0, 7) ∧ (kD (c + 1)).1 = 0 ∧ aN (c + 1) = 8 := by
  have h := (by decide +kernel : ∀ a, a < 70 → kD a = (15, 10) → bxR.getD (a + 1) (-2147483648, 2147483647) = (0, 7) ∧ (kD (a + 1)).1 = 0 ∧ aN (a + 1) = 8) c h70 hc
  refine ⟨?_, h.2.1, h.2.2⟩
  unfold bx
  rw [h.2.1, if_pos (by decide)]
  exact h.1
theorem gA_5_1 {W : Nat → Nat → Prop} {μs μ : Mm} {c : Nat} (hc : kD c = (15, 10)) (h70 : c + 1 < 70) (h : St W μs μ) (j : Nat) : 0 ≤ μ (c + 1) j ∧ μ (c + 1) j ≤ 7 := by
  have h1 := h.1.1 (c + 1) j h70
  rw [(bA_5_1 hc (by omega) j).1] at h1
  exact h1
theorem pA_5_1 {W : Nat → Nat → Prop} {μs μ : Mm} {c j : Nat} {v : Int} (hc : kD c = (15, 10)) (h70 : c < 70) (h : St W μs μ) (hw : W (c + 1) j) (hv : 0 ≤ v ∧ v ≤ 7) : St W μs (sM μ (c + 1) j v) := by
  have hb := bA_5_1 hc h70 j
  have hk : ∀ q, (kD q).1 ≠ 0 → c + 1 ≠ q := fun q hq e => hq (e ▸ hb.2.1)
  refine St_sM h hw (by rw [hb.1]; exact hv) (fun e => hk 3 (by decide) e.1) (fun e => hk 62 (by decide) e.1) (fun e => hk 67 (by decide) e.1)
theorem bA_5_2 {c : Nat} (hc : kD c = (15, 10)) (h70 : c < 70) (j : Nat) : bx (c + 2) j = (-2147483648, 2147483647) ∧ (kD (c + 2)).1 = 0 ∧ aN (c + 2) = 8 := by
  have h := (by decide +kernel : ∀ a, a < 70 → kD a = (15, 10) → bxR.getD (a + 2) (-2147483648, 2147483647) = (-2147483648, 2147483647) ∧ (kD (a + 2)).1 = 0 ∧ aN (a + 2) = 8) c h70 hc
  refine ⟨?_, h.2.1, h.2.2⟩
  unfold bx
  rw [h.2.1, if_pos (by decide)]
  exact h.1
theorem gA_5_2 {W : Nat → Nat → Prop} {μs μ : Mm} {c : Nat} (hc : kD c = (15, 10)) (h70 : c + 2 < 70) (h : St W μs μ) (j : Nat) : -2147483648 ≤ μ (c + 2) j ∧ μ (c + 2) j ≤ 2147483647 := by
  have h1 := h.1.1 (c + 2) j h70
  rw [(bA_5_2 hc (by omega) j).1] at h1
  exact h1
theorem pA_5_2 {W : Nat → Nat → Prop} {μs μ : Mm} {c j : Nat} {v : Int} (hc : kD c = (15, 10)) (h70 : c < 70) (h : St W μs μ) (hw : W (c + 2) j) (hv : -2147483648 ≤ v ∧ v ≤ 2147483647) : St W μs (sM μ (c + 2) j v) := by
  have hb := bA_5_2 hc h70 j
  have hk : ∀ q, (kD q).1 ≠ 0 → c + 2 ≠ q := fun q hq e => hq (e ▸ hb.2.1)
  refine St_sM h hw (by rw [hb.1]; exact hv) (fun e => hk 3 (by decide) e.1) (fun e => hk 62 (by decide) e.1) (fun e => hk 67 (by decide) e.1)
theorem bA_5_3 {c : Nat} (hc : kD c = (15, 10)) (h70 : c < 70) (j : Nat) : bx (c + 3) j = (-2147483648, 2147483647) ∧ (kD (c + 3)).1 = 0 ∧ aN (c + 3) = 8 := by
  have h := (by decide +kernel : ∀ a, a < 70 → kD a = (15, 10) → bxR.getD (a + 3) (-2147483648, 2147483647) = (-2147483648, 2147483647) ∧ (kD (a + 3)).1 = 0 ∧ aN (a + 3) = 8) c h70 hc
  refine ⟨?_, h.2.1, h.2.2⟩
  unfold bx
  rw [h.2.1, if_pos (by decide)]
  exact h.1
theorem gA_5_3 {W : Nat → Nat → Prop} {μs μ : Mm} {c : Nat} (hc : kD c = (15, 10)) (h70 : c + 3 < 70) (h : St W μs μ) (j : Nat) : -2147483648 ≤ μ (c + 3) j ∧ μ (c + 3) j ≤ 2147483647 := by
  have h1 := h.1.1 (c + 3) j h70
  rw [(bA_5_3 hc (by omega) j).1] at h1
  exact h1
theorem pA_5_3 {W : Nat → Nat → Prop} {μs μ : Mm} {c j : Nat} {v : Int} (hc : kD c = (15, 10)) (h70 : c < 70) (h : St W μs μ) (hw : W (c + 3) j) (hv : -2147483648 ≤ v ∧ v ≤ 2147483647) : St W μs (sM μ (c + 3) j v) := by
  have hb := bA_5_3 hc h70 j
  have hk : ∀ q, (kD q).1 ≠ 0 → c + 3 ≠ q := fun q hq e => hq (e ▸ hb.2.1)
  refine St_sM h hw (by rw [hb.1]; exact hv) (fun e => hk 3 (by decide) e.1) (fun e => hk 62 (by decide) e.1) (fun e => hk 67 (by decide) e.1)
theorem gO_6_0 {W : Nat → Nat → Prop} {μs μ : Mm} {c : Nat} (hc : kD c = (16, 9)) (h70 : c < 70) (h : St W μs μ) : -2147483648 ≤ μ c 0 ∧ μ c 0 ≤ 2147483647 := by
  have h1 := h.1.1 c 0 h70
  unfold bx at h1
  rw [hc] at h1
  exact h1
theorem pO_6_0 {W : Nat → Nat → Prop} {μs μ : Mm} {c : Nat} {v : Int} (hc : kD c = (16, 9)) (h : St W μs μ) (hw : W c 0) (hv : -2147483648 ≤ v ∧ v ≤ 2147483647) : St W μs (sM μ c 0 v) := by
  refine St_sM h hw ?_ ?_ ?_ ?_
  · unfold bx
    rw [hc]
    exact hv
  · exact fun e => kD_ne (c' := 14) (n' := 3) (b := 3) hc (by decide) (by decide) e.1
  · exact fun e => absurd e.2 (by decide)
  · exact fun e => kD_ne (c' := 18) (n' := 7) (b := 67) hc (by decide) (by decide) e.1
theorem gO_6_1 {W : Nat → Nat → Prop} {μs μ : Mm} {c : Nat} (hc : kD c = (16, 9)) (h70 : c < 70) (h : St W μs μ) : -2147483648 ≤ μ c 1 ∧ μ c 1 ≤ 2147483647 := by
  have h1 := h.1.1 c 1 h70
  unfold bx at h1
  rw [hc] at h1
  exact h1
theorem pO_6_1 {W : Nat → Nat → Prop} {μs μ : Mm} {c : Nat} {v : Int} (hc : kD c = (16, 9)) (h : St W μs μ) (hw : W c 1) (hv : -2147483648 ≤ v ∧ v ≤ 2147483647) : St W μs (sM μ c 1 v) := by
  refine St_sM h hw ?_ ?_ ?_ ?_
  · unfold bx
    rw [hc]
    exact hv
  · exact fun e => kD_ne (c' := 14) (n' := 3) (b := 3) hc (by decide) (by decide) e.1
  · exact fun e => absurd e.2 (by decide)
  · exact fun e => kD_ne (c' := 18) (n' := 7) (b := 67) hc (by decide) (by decide) e.1
theorem gO_6_2 {W : Nat → Nat → Prop} {μs μ : Mm} {c : Nat} (hc : kD c = (16, 9)) (h70 : c < 70) (h : St W μs μ) : -2147483648 ≤ μ c 2 ∧ μ c 2 ≤ 2147483647 := by
  have h1 := h.1.1 c 2 h70
  unfold bx at h1
  rw [hc] at h1
  exact h1
theorem pO_6_2 {W : Nat → Nat → Prop} {μs μ : Mm} {c : Nat} {v : Int} (hc : kD c = (16, 9)) (h : St W μs μ) (hw : W c 2) (hv : -2147483648 ≤ v ∧ v ≤ 2147483647) : St W μs (sM μ c 2 v) := by
  refine St_sM h hw ?_ ?_ ?_ ?_
  · unfold bx
    rw [hc]
    exact hv
  · exact fun e => kD_ne (c' := 14) (n' := 3) (b := 3) hc (by decide) (by decide) e.1
  · exact fun e => absurd e.2 (by decide)
  · exact fun e => kD_ne (c' := 18) (n' := 7) (b := 67) hc (by decide) (by decide) e.1
theorem gO_6_3 {W : Nat → Nat → Prop} {μs μ : Mm} {c : Nat} (hc : kD c = (16, 9)) (h70 : c < 70) (h : St W μs μ) : -2147483648 ≤ μ c 3 ∧ μ c 3 ≤ 2147483647 := by
  have h1 := h.1.1 c 3 h70
  unfold bx at h1
  rw [hc] at h1
  exact h1
theorem pO_6_3 {W : Nat → Nat → Prop} {μs μ : Mm} {c : Nat} {v : Int} (hc : kD c = (16, 9)) (h : St W μs μ) (hw : W c 3) (hv : -2147483648 ≤ v ∧ v ≤ 2147483647) : St W μs (sM μ c 3 v) := by
  refine St_sM h hw ?_ ?_ ?_ ?_
  · unfold bx
    rw [hc]
    exact hv
  · exact fun e => kD_ne (c' := 14) (n' := 3) (b := 3) hc (by decide) (by decide) e.1
  · exact fun e => absurd e.2 (by decide)
  · exact fun e => kD_ne (c' := 18) (n' := 7) (b := 67) hc (by decide) (by decide) e.1
theorem gO_6_4 {W : Nat → Nat → Prop} {μs μ : Mm} {c : Nat} (hc : kD c = (16, 9)) (h70 : c < 70) (h : St W μs μ) : -2147483648 ≤ μ c 4 ∧ μ c 4 ≤ 2147483647 := by
  have h1 := h.1.1 c 4 h70
  unfold bx at h1
  rw [hc] at h1
  exact h1
theorem gO_6_5 {W : Nat → Nat → Prop} {μs μ : Mm} {c : Nat} (hc : kD c = (16, 9)) (h70 : c < 70) (h : St W μs μ) : -2147483648 ≤ μ c 5 ∧ μ c 5 ≤ 2147483647 := by
  have h1 := h.1.1 c 5 h70
  unfold bx at h1
  rw [hc] at h1
  exact h1
theorem pO_6_5 {W : Nat → Nat → Prop} {μs μ : Mm} {c : Nat} {v : Int} (hc : kD c = (16, 9)) (h : St W μs μ) (hw : W c 5) (hv : -2147483648 ≤ v ∧ v ≤ 2147483647) : St W μs (sM μ c 5 v) := by
  refine St_sM h hw ?_ ?_ ?_ ?_
  · unfold bx
    rw [hc]
    exact hv
  · exact fun e => kD_ne (c' := 14) (n' := 3) (b := 3) hc (by decide) (by decide) e.1
  · exact fun e => absurd e.2 (by decide)
  · exact fun e => kD_ne (c' := 18) (n' := 7) (b := 67) hc (by decide) (by decide) e.1
theorem gO_6_6 {W : Nat → Nat → Prop} {μs μ : Mm} {c : Nat} (hc : kD c = (16, 9)) (h70 : c < 70) (h : St W μs μ) : -2147483648 ≤ μ c 6 ∧ μ c 6 ≤ 2147483647 := by
  have h1 := h.1.1 c 6 h70
  unfold bx at h1
  rw [hc] at h1
  exact h1
theorem pO_6_6 {W : Nat → Nat → Prop} {μs μ : Mm} {c : Nat} {v : Int} (hc : kD c = (16, 9)) (h : St W μs μ) (hw : W c 6) (hv : -2147483648 ≤ v ∧ v ≤ 2147483647) : St W μs (sM μ c 6 v) := by
  refine St_sM h hw ?_ ?_ ?_ ?_
  · unfold bx
    rw [hc]
    exact hv
  · exact fun e => kD_ne (c' := 14) (n' := 3) (b := 3) hc (by decide) (by decide) e.1
  · exact fun e => absurd e.2 (by decide)
  · exact fun e => kD_ne (c' := 18) (n' := 7) (b := 67) hc (by decide) (by decide) e.1
theorem gO_6_7 {W : Nat → Nat → Prop} {μs μ : Mm} {c : Nat} (hc : kD c = (16, 9)) (h70 : c < 70) (h : St W μs μ) : -2147483648 ≤ μ c 7 ∧ μ c 7 ≤ 2147483647 := by
  have h1 := h.1.1 c 7 h70
  unfold bx at h1
  rw [hc] at h1
  exact h1
theorem pO_6_7 {W : Nat → Nat → Prop} {μs μ : Mm} {c : Nat} {v : Int} (hc : kD c = (16, 9)) (h : St W μs μ) (hw : W c 7) (hv : -2147483648 ≤ v ∧ v ≤ 2147483647) : St W μs (sM μ c 7 v) := by
  refine St_sM h hw ?_ ?_ ?_ ?_
  · unfold bx
    rw [hc]
    exact hv
  · exact fun e => kD_ne (c' := 14) (n' := 3) (b := 3) hc (by decide) (by decide) e.1
  · exact fun e => absurd e.2 (by decide)
  · exact fun e => kD_ne (c' := 18) (n' := 7) (b := 67) hc (by decide) (by decide) e.1
theorem gO_6_8 {W : Nat → Nat → Prop} {μs μ : Mm} {c : Nat} (hc : kD c = (16, 9)) (h70 : c < 70) (h : St W μs μ) : -2147483648 ≤ μ c 8 ∧ μ c 8 ≤ 2147483647 := by
  have h1 := h.1.1 c 8 h70
  unfold bx at h1
  rw [hc] at h1
  exact h1
theorem pO_6_8 {W : Nat → Nat → Prop} {μs μ : Mm} {c : Nat} {v : Int} (hc : kD c = (16, 9)) (h : St W μs μ) (hw : W c 8) (hv : -2147483648 ≤ v ∧ v ≤ 2147483647) : St W μs (sM μ c 8 v) := by
  refine St_sM h hw ?_ ?_ ?_ ?_
  · unfold bx
    rw [hc]
    exact hv
  · exact fun e => kD_ne (c' := 14) (n' := 3) (b := 3) hc (by decide) (by decide) e.1
  · exact fun e => absurd e.2 (by decide)
  · exact fun e => kD_ne (c' := 18) (n' := 7) (b := 67) hc (by decide) (by decide) e.1
theorem bA_6_1 {c : Nat} (hc : kD c = (16, 9)) (h70 : c < 70) (j : Nat) : bx (c + 1) j = (-2147483648, 2147483647) ∧ (kD (c + 1)).1 = 0 ∧ aN (c + 1) = 2048 := by
  have h := (by decide +kernel : ∀ a, a < 70 → kD a = (16, 9) → bxR.getD (a + 1) (-2147483648, 2147483647) = (-2147483648, 2147483647) ∧ (kD (a + 1)).1 = 0 ∧ aN (a + 1) = 2048) c h70 hc
  refine ⟨?_, h.2.1, h.2.2⟩
  unfold bx
  rw [h.2.1, if_pos (by decide)]
  exact h.1
theorem gA_6_1 {W : Nat → Nat → Prop} {μs μ : Mm} {c : Nat} (hc : kD c = (16, 9)) (h70 : c + 1 < 70) (h : St W μs μ) (j : Nat) : -2147483648 ≤ μ (c + 1) j ∧ μ (c + 1) j ≤ 2147483647 := by
  have h1 := h.1.1 (c + 1) j h70
  rw [(bA_6_1 hc (by omega) j).1] at h1
  exact h1
theorem pA_6_1 {W : Nat → Nat → Prop} {μs μ : Mm} {c j : Nat} {v : Int} (hc : kD c = (16, 9)) (h70 : c < 70) (h : St W μs μ) (hw : W (c + 1) j) (hv : -2147483648 ≤ v ∧ v ≤ 2147483647) : St W μs (sM μ (c + 1) j v) := by
  have hb := bA_6_1 hc h70 j
  have hk : ∀ q, (kD q).1 ≠ 0 → c + 1 ≠ q := fun q hq e => hq (e ▸ hb.2.1)
  refine St_sM h hw (by rw [hb.1]; exact hv) (fun e => hk 3 (by decide) e.1) (fun e => hk 62 (by decide) e.1) (fun e => hk 67 (by decide) e.1)
theorem bA_6_2 {c : Nat} (hc : kD c = (16, 9)) (h70 : c < 70) (j : Nat) : bx (c + 2) j = (-2147483648, 2147483647) ∧ (kD (c + 2)).1 = 0 ∧ aN (c + 2) = 2048 := by
  have h := (by decide +kernel : ∀ a, a < 70 → kD a = (16, 9) → bxR.getD (a + 2) (-2147483648, 2147483647) = (-2147483648, 2147483647) ∧ (kD (a + 2)).1 = 0 ∧ aN (a + 2) = 2048) c h70 hc
  refine ⟨?_, h.2.1, h.2.2⟩
  unfold bx
  rw [h.2.1, if_pos (by decide)]
  exact h.1
theorem gA_6_2 {W : Nat → Nat → Prop} {μs μ : Mm} {c : Nat} (hc : kD c = (16, 9)) (h70 : c + 2 < 70) (h : St W μs μ) (j : Nat) : -2147483648 ≤ μ (c + 2) j ∧ μ (c + 2) j ≤ 2147483647 := by
  have h1 := h.1.1 (c + 2) j h70
  rw [(bA_6_2 hc (by omega) j).1] at h1
  exact h1
theorem pA_6_2 {W : Nat → Nat → Prop} {μs μ : Mm} {c j : Nat} {v : Int} (hc : kD c = (16, 9)) (h70 : c < 70) (h : St W μs μ) (hw : W (c + 2) j) (hv : -2147483648 ≤ v ∧ v ≤ 2147483647) : St W μs (sM μ (c + 2) j v) := by
  have hb := bA_6_2 hc h70 j
  have hk : ∀ q, (kD q).1 ≠ 0 → c + 2 ≠ q := fun q hq e => hq (e ▸ hb.2.1)
  refine St_sM h hw (by rw [hb.1]; exact hv) (fun e => hk 3 (by decide) e.1) (fun e => hk 62 (by decide) e.1) (fun e => hk 67 (by decide) e.1)
theorem bA_6_3 {c : Nat} (hc : kD c = (16, 9)) (h70 : c < 70) (j : Nat) : bx (c + 3) j = (-2147483648, 2147483647) ∧ (kD (c + 3)).1 = 0 ∧ aN (c + 3) = 256 := by
  have h := (by decide +kernel : ∀ a, a < 70 → kD a = (16, 9) → bxR.getD (a + 3) (-2147483648, 2147483647) = (-2147483648, 2147483647) ∧ (kD (a + 3)).1 = 0 ∧ aN (a + 3) = 256) c h70 hc
  refine ⟨?_, h.2.1, h.2.2⟩
  unfold bx
  rw [h.2.1, if_pos (by decide)]
  exact h.1
theorem gA_6_3 {W : Nat → Nat → Prop} {μs μ : Mm} {c : Nat} (hc : kD c = (16, 9)) (h70 : c + 3 < 70) (h : St W μs μ) (j : Nat) : -2147483648 ≤ μ (c + 3) j ∧ μ (c + 3) j ≤ 2147483647 := by
  have h1 := h.1.1 (c + 3) j h70
  rw [(bA_6_3 hc (by omega) j).1] at h1
  exact h1
theorem pA_6_3 {W : Nat → Nat → Prop} {μs μ : Mm} {c j : Nat} {v : Int} (hc : kD c = (16, 9)) (h70 : c < 70) (h : St W μs μ) (hw : W (c + 3) j) (hv : -2147483648 ≤ v ∧ v ≤ 2147483647) : St W μs (sM μ (c + 3) j v) := by
  have hb := bA_6_3 hc h70 j
  have hk : ∀ q, (kD q).1 ≠ 0 → c + 3 ≠ q := fun q hq e => hq (e ▸ hb.2.1)
  refine St_sM h hw (by rw [hb.1]; exact hv) (fun e => hk 3 (by decide) e.1) (fun e => hk 62 (by decide) e.1) (fun e => hk 67 (by decide) e.1)
theorem bA_6_4 {c : Nat} (hc : kD c = (16, 9)) (h70 : c < 70) (j : Nat) : bx (c + 4) j = (-2147483648, 2147483647) ∧ (kD (c + 4)).1 = 0 ∧ aN (c + 4) = 256 := by
  have h := (by decide +kernel : ∀ a, a < 70 → kD a = (16, 9) → bxR.getD (a + 4) (-2147483648, 2147483647) = (-2147483648, 2147483647) ∧ (kD (a + 4)).1 = 0 ∧ aN (a + 4) = 256) c h70 hc
  refine ⟨?_, h.2.1, h.2.2⟩
  unfold bx
  rw [h.2.1, if_pos (by decide)]
  exact h.1
theorem gA_6_4 {W : Nat → Nat → Prop} {μs μ : Mm} {c : Nat} (hc : kD c = (16, 9)) (h70 : c + 4 < 70) (h : St W μs μ) (j : Nat) : -2147483648 ≤ μ (c + 4) j ∧ μ (c + 4) j ≤ 2147483647 := by
  have h1 := h.1.1 (c + 4) j h70
  rw [(bA_6_4 hc (by omega) j).1] at h1
  exact h1
theorem pA_6_4 {W : Nat → Nat → Prop} {μs μ : Mm} {c j : Nat} {v : Int} (hc : kD c = (16, 9)) (h70 : c < 70) (h : St W μs μ) (hw : W (c + 4) j) (hv : -2147483648 ≤ v ∧ v ≤ 2147483647) : St W μs (sM μ (c + 4) j v) := by
  have hb := bA_6_4 hc h70 j
  have hk : ∀ q, (kD q).1 ≠ 0 → c + 4 ≠ q := fun q hq e => hq (e ▸ hb.2.1)
  refine St_sM h hw (by rw [hb.1]; exact hv) (fun e => hk 3 (by decide) e.1) (fun e => hk 62 (by decide) e.1) (fun e => hk 67 (by decide) e.1)
theorem gO_7_0 {W : Nat → Nat → Prop} {μs μ : Mm} {c : Nat} (hc : kD c = (17, 2)) (h70 : c < 70) (h : St W μs μ) : -2147483648 ≤ μ c 0 ∧ μ c 0 ≤ 2147483647 := by
  have h1 := h.1.1 c 0 h70
  unfold bx at h1
  rw [hc] at h1
  exact h1
theorem pO_7_0 {W : Nat → Nat → Prop} {μs μ : Mm} {c : Nat} {v : Int} (hc : kD c = (17, 2)) (h : St W μs μ) (hw : W c 0) (hv : -2147483648 ≤ v ∧ v ≤ 2147483647) : St W μs (sM μ c 0 v) := by
  refine St_sM h hw ?_ ?_ ?_ ?_
  · unfold bx
    rw [hc]
    exact hv
  · exact fun e => kD_ne (c' := 14) (n' := 3) (b := 3) hc (by decide) (by decide) e.1
  · exact fun e => kD_ne (c' := 16) (n' := 9) (b := 62) hc (by decide) (by decide) e.1
  · exact fun e => kD_ne (c' := 18) (n' := 7) (b := 67) hc (by decide) (by decide) e.1
theorem gO_7_1 {W : Nat → Nat → Prop} {μs μ : Mm} {c : Nat} (hc : kD c = (17, 2)) (h70 : c < 70) (h : St W μs μ) : 0 ≤ μ c 1 ∧ μ c 1 ≤ 160 := by
  have h1 := h.1.1 c 1 h70
  unfold bx at h1
  rw [hc] at h1
  exact h1
theorem pO_7_1 {W : Nat → Nat → Prop} {μs μ : Mm} {c : Nat} {v : Int} (hc : kD c = (17, 2)) (h : St W μs μ) (hw : W c 1) (hv : 0 ≤ v ∧ v ≤ 160) : St W μs (sM μ c 1 v) := by
  refine St_sM h hw ?_ ?_ ?_ ?_
  · unfold bx
    rw [hc]
    exact hv
  · exact fun e => kD_ne (c' := 14) (n' := 3) (b := 3) hc (by decide) (by decide) e.1
  · exact fun e => kD_ne (c' := 16) (n' := 9) (b := 62) hc (by decide) (by decide) e.1
  · exact fun e => kD_ne (c' := 18) (n' := 7) (b := 67) hc (by decide) (by decide) e.1
theorem bA_7_1 {c : Nat} (hc : kD c = (17, 2)) (h70 : c < 70) (j : Nat) : bx (c + 1) j = (-2147483648, 2147483647) ∧ (kD (c + 1)).1 = 0 ∧ aN (c + 1) = 160 := by
  have h := (by decide +kernel : ∀ a, a < 70 → kD a = (17, 2) → bxR.getD (a + 1) (-2147483648, 2147483647) = (-2147483648, 2147483647) ∧ (kD (a + 1)).1 = 0 ∧ aN (a + 1) = 160) c h70 hc
  refine ⟨?_, h.2.1, h.2.2⟩
  unfold bx
  rw [h.2.1, if_pos (by decide)]
  exact h.1
theorem gA_7_1 {W : Nat → Nat → Prop} {μs μ : Mm} {c : Nat} (hc : kD c = (17, 2)) (h70 : c + 1 < 70) (h : St W μs μ) (j : Nat) : -2147483648 ≤ μ (c + 1) j ∧ μ (c + 1) j ≤ 2147483647 := by
  have h1 := h.1.1 (c + 1) j h70
  rw [(bA_7_1 hc (by omega) j).1] at h1
  exact h1
theorem pA_7_1 {W : Nat → Nat → Prop} {μs μ : Mm} {c j : Nat} {v : Int} (hc : kD c = (17, 2)) (h70 : c < 70) (h : St W μs μ) (hw : W (c + 1) j) (hv : -2147483648 ≤ v ∧ v ≤ 2147483647) : St W μs (sM μ (c + 1) j v) := by
  have hb := bA_7_1 hc h70 j
  have hk : ∀ q, (kD q).1 ≠ 0 → c + 1 ≠ q := fun q hq e => hq (e ▸ hb.2.1)
  refine St_sM h hw (by rw [hb.1]; exact hv) (fun e => hk 3 (by decide) e.1) (fun e => hk 62 (by decide) e.1) (fun e => hk 67 (by decide) e.1)
theorem gO_8_0 {W : Nat → Nat → Prop} {μs μ : Mm} {c : Nat} (hc : kD c = (18, 7)) (h70 : c < 70) (h : St W μs μ) : -2147483648 ≤ μ c 0 ∧ μ c 0 ≤ 2147483647 := by
  have h1 := h.1.1 c 0 h70
  unfold bx at h1
  rw [hc] at h1
  exact h1
theorem pO_8_0 {W : Nat → Nat → Prop} {μs μ : Mm} {c : Nat} {v : Int} (hc : kD c = (18, 7)) (h : St W μs μ) (hw : W c 0) (hv : -2147483648 ≤ v ∧ v ≤ 2147483647) : St W μs (sM μ c 0 v) := by
  refine St_sM h hw ?_ ?_ ?_ ?_
  · unfold bx
    rw [hc]
    exact hv
  · exact fun e => kD_ne (c' := 14) (n' := 3) (b := 3) hc (by decide) (by decide) e.1
  · exact fun e => kD_ne (c' := 16) (n' := 9) (b := 62) hc (by decide) (by decide) e.1
  · exact fun e => absurd e.2 (by decide)
theorem gO_8_1 {W : Nat → Nat → Prop} {μs μ : Mm} {c : Nat} (hc : kD c = (18, 7)) (h70 : c < 70) (h : St W μs μ) : -2147483648 ≤ μ c 1 ∧ μ c 1 ≤ 2147483647 := by
  have h1 := h.1.1 c 1 h70
  unfold bx at h1
  rw [hc] at h1
  exact h1
theorem pO_8_1 {W : Nat → Nat → Prop} {μs μ : Mm} {c : Nat} {v : Int} (hc : kD c = (18, 7)) (h : St W μs μ) (hw : W c 1) (hv : -2147483648 ≤ v ∧ v ≤ 2147483647) : St W μs (sM μ c 1 v) := by
  refine St_sM h hw ?_ ?_ ?_ ?_
  · unfold bx
    rw [hc]
    exact hv
  · exact fun e => kD_ne (c' := 14) (n' := 3) (b := 3) hc (by decide) (by decide) e.1
  · exact fun e => kD_ne (c' := 16) (n' := 9) (b := 62) hc (by decide) (by decide) e.1
  · exact fun e => absurd e.2 (by decide)
theorem gO_8_2 {W : Nat → Nat → Prop} {μs μ : Mm} {c : Nat} (hc : kD c = (18, 7)) (h70 : c < 70) (h : St W μs μ) : 0 ≤ μ c 2 ∧ μ c 2 ≤ 10 := by
  have h1 := h.1.1 c 2 h70
  unfold bx at h1
  rw [hc] at h1
  exact h1
theorem pO_8_2 {W : Nat → Nat → Prop} {μs μ : Mm} {c : Nat} {v : Int} (hc : kD c = (18, 7)) (h : St W μs μ) (hw : W c 2) (hv : 0 ≤ v ∧ v ≤ 10) : St W μs (sM μ c 2 v) := by
  refine St_sM h hw ?_ ?_ ?_ ?_
  · unfold bx
    rw [hc]
    exact hv
  · exact fun e => kD_ne (c' := 14) (n' := 3) (b := 3) hc (by decide) (by decide) e.1
  · exact fun e => kD_ne (c' := 16) (n' := 9) (b := 62) hc (by decide) (by decide) e.1
  · exact fun e => absurd e.2 (by decide)
theorem gO_8_3 {W : Nat → Nat → Prop} {μs μ : Mm} {c : Nat} (hc : kD c = (18, 7)) (h70 : c < 70) (h : St W μs μ) : -2147483648 ≤ μ c 3 ∧ μ c 3 ≤ 2147483647 := by
  have h1 := h.1.1 c 3 h70
  unfold bx at h1
  rw [hc] at h1
  exact h1
theorem gO_8_4 {W : Nat → Nat → Prop} {μs μ : Mm} {c : Nat} (hc : kD c = (18, 7)) (h70 : c < 70) (h : St W μs μ) : -2147483648 ≤ μ c 4 ∧ μ c 4 ≤ 2147483647 := by
  have h1 := h.1.1 c 4 h70
  unfold bx at h1
  rw [hc] at h1
  exact h1
theorem pO_8_4 {W : Nat → Nat → Prop} {μs μ : Mm} {c : Nat} {v : Int} (hc : kD c = (18, 7)) (h : St W μs μ) (hw : W c 4) (hv : -2147483648 ≤ v ∧ v ≤ 2147483647) : St W μs (sM μ c 4 v) := by
  refine St_sM h hw ?_ ?_ ?_ ?_
  · unfold bx
    rw [hc]
    exact hv
  · exact fun e => kD_ne (c' := 14) (n' := 3) (b := 3) hc (by decide) (by decide) e.1
  · exact fun e => kD_ne (c' := 16) (n' := 9) (b := 62) hc (by decide) (by decide) e.1
  · exact fun e => absurd e.2 (by decide)
theorem gO_8_5 {W : Nat → Nat → Prop} {μs μ : Mm} {c : Nat} (hc : kD c = (18, 7)) (h70 : c < 70) (h : St W μs μ) : -2147483648 ≤ μ c 5 ∧ μ c 5 ≤ 2147483647 := by
  have h1 := h.1.1 c 5 h70
  unfold bx at h1
  rw [hc] at h1
  exact h1
theorem pO_8_5 {W : Nat → Nat → Prop} {μs μ : Mm} {c : Nat} {v : Int} (hc : kD c = (18, 7)) (h : St W μs μ) (hw : W c 5) (hv : -2147483648 ≤ v ∧ v ≤ 2147483647) : St W μs (sM μ c 5 v) := by
  refine St_sM h hw ?_ ?_ ?_ ?_
  · unfold bx
    rw [hc]
    exact hv
  · exact fun e => kD_ne (c' := 14) (n' := 3) (b := 3) hc (by decide) (by decide) e.1
  · exact fun e => kD_ne (c' := 16) (n' := 9) (b := 62) hc (by decide) (by decide) e.1
  · exact fun e => absurd e.2 (by decide)
theorem gO_8_6 {W : Nat → Nat → Prop} {μs μ : Mm} {c : Nat} (hc : kD c = (18, 7)) (h70 : c < 70) (h : St W μs μ) : -2147483648 ≤ μ c 6 ∧ μ c 6 ≤ 2147483647 := by
  have h1 := h.1.1 c 6 h70
  unfold bx at h1
  rw [hc] at h1
  exact h1
theorem pO_8_6 {W : Nat → Nat → Prop} {μs μ : Mm} {c : Nat} {v : Int} (hc : kD c = (18, 7)) (h : St W μs μ) (hw : W c 6) (hv : -2147483648 ≤ v ∧ v ≤ 2147483647) : St W μs (sM μ c 6 v) := by
  refine St_sM h hw ?_ ?_ ?_ ?_
  · unfold bx
    rw [hc]
    exact hv
  · exact fun e => kD_ne (c' := 14) (n' := 3) (b := 3) hc (by decide) (by decide) e.1
  · exact fun e => kD_ne (c' := 16) (n' := 9) (b := 62) hc (by decide) (by decide) e.1
  · exact fun e => absurd e.2 (by decide)
theorem bA_8_1 {c : Nat} (hc : kD c = (18, 7)) (h70 : c < 70) (j : Nat) : bx (c + 1) j = (0, 999) ∧ (kD (c + 1)).1 = 0 ∧ aN (c + 1) = 10 := by
  have h := (by decide +kernel : ∀ a, a < 70 → kD a = (18, 7) → bxR.getD (a + 1) (-2147483648, 2147483647) = (0, 999) ∧ (kD (a + 1)).1 = 0 ∧ aN (a + 1) = 10) c h70 hc
  refine ⟨?_, h.2.1, h.2.2⟩
  unfold bx
  rw [h.2.1, if_pos (by decide)]
  exact h.1
theorem gA_8_1 {W : Nat → Nat → Prop} {μs μ : Mm} {c : Nat} (hc : kD c = (18, 7)) (h70 : c + 1 < 70) (h : St W μs μ) (j : Nat) : 0 ≤ μ (c + 1) j ∧ μ (c + 1) j ≤ 999 := by
  have h1 := h.1.1 (c + 1) j h70
  rw [(bA_8_1 hc (by omega) j).1] at h1
  exact h1
theorem pA_8_1 {W : Nat → Nat → Prop} {μs μ : Mm} {c j : Nat} {v : Int} (hc : kD c = (18, 7)) (h70 : c < 70) (h : St W μs μ) (hw : W (c + 1) j) (hv : 0 ≤ v ∧ v ≤ 999) : St W μs (sM μ (c + 1) j v) := by
  have hb := bA_8_1 hc h70 j
  have hk : ∀ q, (kD q).1 ≠ 0 → c + 1 ≠ q := fun q hq e => hq (e ▸ hb.2.1)
  refine St_sM h hw (by rw [hb.1]; exact hv) (fun e => hk 3 (by decide) e.1) (fun e => hk 62 (by decide) e.1) (fun e => hk 67 (by decide) e.1)
theorem bA_8_2 {c : Nat} (hc : kD c = (18, 7)) (h70 : c < 70) (j : Nat) : bx (c + 2) j = (0, 7) ∧ (kD (c + 2)).1 = 0 ∧ aN (c + 2) = 10 := by
  have h := (by decide +kernel : ∀ a, a < 70 → kD a = (18, 7) → bxR.getD (a + 2) (-2147483648, 2147483647) = (0, 7) ∧ (kD (a + 2)).1 = 0 ∧ aN (a + 2) = 10) c h70 hc
  refine ⟨?_, h.2.1, h.2.2⟩
  unfold bx
  rw [h.2.1, if_pos (by decide)]
  exact h.1
theorem gA_8_2 {W : Nat → Nat → Prop} {μs μ : Mm} {c : Nat} (hc : kD c = (18, 7)) (h70 : c + 2 < 70) (h : St W μs μ) (j : Nat) : 0 ≤ μ (c + 2) j ∧ μ (c + 2) j ≤ 7 := by
  have h1 := h.1.1 (c + 2) j h70
  rw [(bA_8_2 hc (by omega) j).1] at h1
  exact h1
theorem pA_8_2 {W : Nat → Nat → Prop} {μs μ : Mm} {c j : Nat} {v : Int} (hc : kD c = (18, 7)) (h70 : c < 70) (h : St W μs μ) (hw : W (c + 2) j) (hv : 0 ≤ v ∧ v ≤ 7) : St W μs (sM μ (c + 2) j v) := by
  have hb := bA_8_2 hc h70 j
  have hk : ∀ q, (kD q).1 ≠ 0 → c + 2 ≠ q := fun q hq e => hq (e ▸ hb.2.1)
  refine St_sM h hw (by rw [hb.1]; exact hv) (fun e => hk 3 (by decide) e.1) (fun e => hk 62 (by decide) e.1) (fun e => hk 67 (by decide) e.1)
theorem gO_9_0 {W : Nat → Nat → Prop} {μs μ : Mm} {c : Nat} (hc : kD c = (19, 3)) (h70 : c < 70) (h : St W μs μ) : -2147483648 ≤ μ c 0 ∧ μ c 0 ≤ 2147483647 := by
  have h1 := h.1.1 c 0 h70
  unfold bx at h1
  rw [hc] at h1
  exact h1
theorem pO_9_0 {W : Nat → Nat → Prop} {μs μ : Mm} {c : Nat} {v : Int} (hc : kD c = (19, 3)) (h : St W μs μ) (hw : W c 0) (hv : -2147483648 ≤ v ∧ v ≤ 2147483647) : St W μs (sM μ c 0 v) := by
  refine St_sM h hw ?_ ?_ ?_ ?_
  · unfold bx
    rw [hc]
    exact hv
  · exact fun e => kD_ne (c' := 14) (n' := 3) (b := 3) hc (by decide) (by decide) e.1
  · exact fun e => kD_ne (c' := 16) (n' := 9) (b := 62) hc (by decide) (by decide) e.1
  · exact fun e => kD_ne (c' := 18) (n' := 7) (b := 67) hc (by decide) (by decide) e.1
theorem gO_9_1 {W : Nat → Nat → Prop} {μs μ : Mm} {c : Nat} (hc : kD c = (19, 3)) (h70 : c < 70) (h : St W μs μ) : -2147483648 ≤ μ c 1 ∧ μ c 1 ≤ 2147483647 := by
  have h1 := h.1.1 c 1 h70
  unfold bx at h1
  rw [hc] at h1
  exact h1
theorem pO_9_1 {W : Nat → Nat → Prop} {μs μ : Mm} {c : Nat} {v : Int} (hc : kD c = (19, 3)) (h : St W μs μ) (hw : W c 1) (hv : -2147483648 ≤ v ∧ v ≤ 2147483647) : St W μs (sM μ c 1 v) := by
  refine St_sM h hw ?_ ?_ ?_ ?_
  · unfold bx
    rw [hc]
    exact hv
  · exact fun e => kD_ne (c' := 14) (n' := 3) (b := 3) hc (by decide) (by decide) e.1
  · exact fun e => kD_ne (c' := 16) (n' := 9) (b := 62) hc (by decide) (by decide) e.1
  · exact fun e => kD_ne (c' := 18) (n' := 7) (b := 67) hc (by decide) (by decide) e.1
theorem gO_9_2 {W : Nat → Nat → Prop} {μs μ : Mm} {c : Nat} (hc : kD c = (19, 3)) (h70 : c < 70) (h : St W μs μ) : 0 ≤ μ c 2 ∧ μ c 2 ≤ 60 := by
  have h1 := h.1.1 c 2 h70
  unfold bx at h1
  rw [hc] at h1
  exact h1
theorem pO_9_2 {W : Nat → Nat → Prop} {μs μ : Mm} {c : Nat} {v : Int} (hc : kD c = (19, 3)) (h : St W μs μ) (hw : W c 2) (hv : 0 ≤ v ∧ v ≤ 60) : St W μs (sM μ c 2 v) := by
  refine St_sM h hw ?_ ?_ ?_ ?_
  · unfold bx
    rw [hc]
    exact hv
  · exact fun e => kD_ne (c' := 14) (n' := 3) (b := 3) hc (by decide) (by decide) e.1
  · exact fun e => kD_ne (c' := 16) (n' := 9) (b := 62) hc (by decide) (by decide) e.1
  · exact fun e => kD_ne (c' := 18) (n' := 7) (b := 67) hc (by decide) (by decide) e.1
theorem bA_9_1 {c : Nat} (hc : kD c = (19, 3)) (h70 : c < 70) (j : Nat) : bx (c + 1) j = (-2147483648, 2147483647) ∧ (kD (c + 1)).1 = 0 ∧ aN (c + 1) = 60 := by
  have h := (by decide +kernel : ∀ a, a < 70 → kD a = (19, 3) → bxR.getD (a + 1) (-2147483648, 2147483647) = (-2147483648, 2147483647) ∧ (kD (a + 1)).1 = 0 ∧ aN (a + 1) = 60) c h70 hc
  refine ⟨?_, h.2.1, h.2.2⟩
  unfold bx
  rw [h.2.1, if_pos (by decide)]
  exact h.1
theorem gA_9_1 {W : Nat → Nat → Prop} {μs μ : Mm} {c : Nat} (hc : kD c = (19, 3)) (h70 : c + 1 < 70) (h : St W μs μ) (j : Nat) : -2147483648 ≤ μ (c + 1) j ∧ μ (c + 1) j ≤ 2147483647 := by
  have h1 := h.1.1 (c + 1) j h70
  rw [(bA_9_1 hc (by omega) j).1] at h1
  exact h1
theorem pA_9_1 {W : Nat → Nat → Prop} {μs μ : Mm} {c j : Nat} {v : Int} (hc : kD c = (19, 3)) (h70 : c < 70) (h : St W μs μ) (hw : W (c + 1) j) (hv : -2147483648 ≤ v ∧ v ≤ 2147483647) : St W μs (sM μ (c + 1) j v) := by
  have hb := bA_9_1 hc h70 j
  have hk : ∀ q, (kD q).1 ≠ 0 → c + 1 ≠ q := fun q hq e => hq (e ▸ hb.2.1)
  refine St_sM h hw (by rw [hb.1]; exact hv) (fun e => hk 3 (by decide) e.1) (fun e => hk 62 (by decide) e.1) (fun e => hk 67 (by decide) e.1)
theorem bA_9_2 {c : Nat} (hc : kD c = (19, 3)) (h70 : c < 70) (j : Nat) : bx (c + 2) j = (0, 59) ∧ (kD (c + 2)).1 = 0 ∧ aN (c + 2) = 60 := by
  have h := (by decide +kernel : ∀ a, a < 70 → kD a = (19, 3) → bxR.getD (a + 2) (-2147483648, 2147483647) = (0, 59) ∧ (kD (a + 2)).1 = 0 ∧ aN (a + 2) = 60) c h70 hc
  refine ⟨?_, h.2.1, h.2.2⟩
  unfold bx
  rw [h.2.1, if_pos (by decide)]
  exact h.1
theorem gA_9_2 {W : Nat → Nat → Prop} {μs μ : Mm} {c : Nat} (hc : kD c = (19, 3)) (h70 : c + 2 < 70) (h : St W μs μ) (j : Nat) : 0 ≤ μ (c + 2) j ∧ μ (c + 2) j ≤ 59 := by
  have h1 := h.1.1 (c + 2) j h70
  rw [(bA_9_2 hc (by omega) j).1] at h1
  exact h1
theorem pA_9_2 {W : Nat → Nat → Prop} {μs μ : Mm} {c j : Nat} {v : Int} (hc : kD c = (19, 3)) (h70 : c < 70) (h : St W μs μ) (hw : W (c + 2) j) (hv : 0 ≤ v ∧ v ≤ 59) : St W μs (sM μ (c + 2) j v) := by
  have hb := bA_9_2 hc h70 j
  have hk : ∀ q, (kD q).1 ≠ 0 → c + 2 ≠ q := fun q hq e => hq (e ▸ hb.2.1)
  refine St_sM h hw (by rw [hb.1]; exact hv) (fun e => hk 3 (by decide) e.1) (fun e => hk 62 (by decide) e.1) (fun e => hk 67 (by decide) e.1)
theorem gO_10_0 {W : Nat → Nat → Prop} {μs μ : Mm} {c : Nat} (hc : kD c = (20, 18)) (h70 : c < 70) (h : St W μs μ) : -2147483648 ≤ μ c 0 ∧ μ c 0 ≤ 2147483647 := by
  have h1 := h.1.1 c 0 h70
  unfold bx at h1
  rw [hc] at h1
  exact h1
theorem pO_10_0 {W : Nat → Nat → Prop} {μs μ : Mm} {c : Nat} {v : Int} (hc : kD c = (20, 18)) (h : St W μs μ) (hw : W c 0) (hv : -2147483648 ≤ v ∧ v ≤ 2147483647) : St W μs (sM μ c 0 v) := by
  refine St_sM h hw ?_ ?_ ?_ ?_
  · unfold bx
    rw [hc]
    exact hv
  · exact fun e => kD_ne (c' := 14) (n' := 3) (b := 3) hc (by decide) (by decide) e.1
  · exact fun e => kD_ne (c' := 16) (n' := 9) (b := 62) hc (by decide) (by decide) e.1
  · exact fun e => kD_ne (c' := 18) (n' := 7) (b := 67) hc (by decide) (by decide) e.1
theorem gO_10_1 {W : Nat → Nat → Prop} {μs μ : Mm} {c : Nat} (hc : kD c = (20, 18)) (h70 : c < 70) (h : St W μs μ) : -2147483648 ≤ μ c 1 ∧ μ c 1 ≤ 2147483647 := by
  have h1 := h.1.1 c 1 h70
  unfold bx at h1
  rw [hc] at h1
  exact h1
theorem pO_10_1 {W : Nat → Nat → Prop} {μs μ : Mm} {c : Nat} {v : Int} (hc : kD c = (20, 18)) (h : St W μs μ) (hw : W c 1) (hv : -2147483648 ≤ v ∧ v ≤ 2147483647) : St W μs (sM μ c 1 v) := by
  refine St_sM h hw ?_ ?_ ?_ ?_
  · unfold bx
    rw [hc]
    exact hv
  · exact fun e => kD_ne (c' := 14) (n' := 3) (b := 3) hc (by decide) (by decide) e.1
  · exact fun e => kD_ne (c' := 16) (n' := 9) (b := 62) hc (by decide) (by decide) e.1
  · exact fun e => kD_ne (c' := 18) (n' := 7) (b := 67) hc (by decide) (by decide) e.1
theorem gO_10_2 {W : Nat → Nat → Prop} {μs μ : Mm} {c : Nat} (hc : kD c = (20, 18)) (h70 : c < 70) (h : St W μs μ) : -2147483648 ≤ μ c 2 ∧ μ c 2 ≤ 2147483647 := by
  have h1 := h.1.1 c 2 h70
  unfold bx at h1
  rw [hc] at h1
  exact h1
theorem pO_10_2 {W : Nat → Nat → Prop} {μs μ : Mm} {c : Nat} {v : Int} (hc : kD c = (20, 18)) (h : St W μs μ) (hw : W c 2) (hv : -2147483648 ≤ v ∧ v ≤ 2147483647) : St W μs (sM μ c 2 v) := by
  refine St_sM h hw ?_ ?_ ?_ ?_
  · unfold bx
    rw [hc]
    exact hv
  · exact fun e => kD_ne (c' := 14) (n' := 3) (b := 3) hc (by decide) (by decide) e.1
  · exact fun e => kD_ne (c' := 16) (n' := 9) (b := 62) hc (by decide) (by decide) e.1
  · exact fun e => kD_ne (c' := 18) (n' := 7) (b := 67) hc (by decide) (by decide) e.1
theorem gO_10_3 {W : Nat → Nat → Prop} {μs μ : Mm} {c : Nat} (hc : kD c = (20, 18)) (h70 : c < 70) (h : St W μs μ) : -2147483648 ≤ μ c 3 ∧ μ c 3 ≤ 2147483647 := by
  have h1 := h.1.1 c 3 h70
  unfold bx at h1
  rw [hc] at h1
  exact h1
theorem pO_10_3 {W : Nat → Nat → Prop} {μs μ : Mm} {c : Nat} {v : Int} (hc : kD c = (20, 18)) (h : St W μs μ) (hw : W c 3) (hv : -2147483648 ≤ v ∧ v ≤ 2147483647) : St W μs (sM μ c 3 v) := by
  refine St_sM h hw ?_ ?_ ?_ ?_
  · unfold bx
    rw [hc]
    exact hv
  · exact fun e => kD_ne (c' := 14) (n' := 3) (b := 3) hc (by decide) (by decide) e.1
  · exact fun e => kD_ne (c' := 16) (n' := 9) (b := 62) hc (by decide) (by decide) e.1
  · exact fun e => kD_ne (c' := 18) (n' := 7) (b := 67) hc (by decide) (by decide) e.1
theorem gO_10_4 {W : Nat → Nat → Prop} {μs μ : Mm} {c : Nat} (hc : kD c = (20, 18)) (h70 : c < 70) (h : St W μs μ) : -2147483648 ≤ μ c 4 ∧ μ c 4 ≤ 2147483647 := by
  have h1 := h.1.1 c 4 h70
  unfold bx at h1
  rw [hc] at h1
  exact h1
theorem pO_10_4 {W : Nat → Nat → Prop} {μs μ : Mm} {c : Nat} {v : Int} (hc : kD c = (20, 18)) (h : St W μs μ) (hw : W c 4) (hv : -2147483648 ≤ v ∧ v ≤ 2147483647) : St W μs (sM μ c 4 v) := by
  refine St_sM h hw ?_ ?_ ?_ ?_
  · unfold bx
    rw [hc]
    exact hv
  · exact fun e => kD_ne (c' := 14) (n' := 3) (b := 3) hc (by decide) (by decide) e.1
  · exact fun e => kD_ne (c' := 16) (n' := 9) (b := 62) hc (by decide) (by decide) e.1
  · exact fun e => kD_ne (c' := 18) (n' := 7) (b := 67) hc (by decide) (by decide) e.1
theorem gO_10_5 {W : Nat → Nat → Prop} {μs μ : Mm} {c : Nat} (hc : kD c = (20, 18)) (h70 : c < 70) (h : St W μs μ) : -2147483648 ≤ μ c 5 ∧ μ c 5 ≤ 2147483647 := by
  have h1 := h.1.1 c 5 h70
  unfold bx at h1
  rw [hc] at h1
  exact h1
theorem pO_10_5 {W : Nat → Nat → Prop} {μs μ : Mm} {c : Nat} {v : Int} (hc : kD c = (20, 18)) (h : St W μs μ) (hw : W c 5) (hv : -2147483648 ≤ v ∧ v ≤ 2147483647) : St W μs (sM μ c 5 v) := by
  refine St_sM h hw ?_ ?_ ?_ ?_
  · unfold bx
    rw [hc]
    exact hv
  · exact fun e => kD_ne (c' := 14) (n' := 3) (b := 3) hc (by decide) (by decide) e.1
  · exact fun e => kD_ne (c' := 16) (n' := 9) (b := 62) hc (by decide) (by decide) e.1
  · exact fun e => kD_ne (c' := 18) (n' := 7) (b := 67) hc (by decide) (by decide) e.1
theorem gO_10_6 {W : Nat → Nat → Prop} {μs μ : Mm} {c : Nat} (hc : kD c = (20, 18)) (h70 : c < 70) (h : St W μs μ) : -2147483648 ≤ μ c 6 ∧ μ c 6 ≤ 2147483647 := by
  have h1 := h.1.1 c 6 h70
  unfold bx at h1
  rw [hc] at h1
  exact h1
theorem pO_10_6 {W : Nat → Nat → Prop} {μs μ : Mm} {c : Nat} {v : Int} (hc : kD c = (20, 18)) (h : St W μs μ) (hw : W c 6) (hv : -2147483648 ≤ v ∧ v ≤ 2147483647) : St W μs (sM μ c 6 v) := by
  refine St_sM h hw ?_ ?_ ?_ ?_
  · unfold bx
    rw [hc]
    exact hv
  · exact fun e => kD_ne (c' := 14) (n' := 3) (b := 3) hc (by decide) (by decide) e.1
  · exact fun e => kD_ne (c' := 16) (n' := 9) (b := 62) hc (by decide) (by decide) e.1
  · exact fun e => kD_ne (c' := 18) (n' := 7) (b := 67) hc (by decide) (by decide) e.1
theorem gO_10_7 {W : Nat → Nat → Prop} {μs μ : Mm} {c : Nat} (hc : kD c = (20, 18)) (h70 : c < 70) (h : St W μs μ) : -2147483648 ≤ μ c 7 ∧ μ c 7 ≤ 2147483647 := by
  have h1 := h.1.1 c 7 h70
  unfold bx at h1
  rw [hc] at h1
  exact h1
theorem pO_10_7 {W : Nat → Nat → Prop} {μs μ : Mm} {c : Nat} {v : Int} (hc : kD c = (20, 18)) (h : St W μs μ) (hw : W c 7) (hv : -2147483648 ≤ v ∧ v ≤ 2147483647) : St W μs (sM μ c 7 v) := by
  refine St_sM h hw ?_ ?_ ?_ ?_
  · unfold bx
    rw [hc]
    exact hv
  · exact fun e => kD_ne (c' := 14) (n' := 3) (b := 3) hc (by decide) (by decide) e.1
  · exact fun e => kD_ne (c' := 16) (n' := 9) (b := 62) hc (by decide) (by decide) e.1
  · exact fun e => kD_ne (c' := 18) (n' := 7) (b := 67) hc (by decide) (by decide) e.1
theorem gO_10_8 {W : Nat → Nat → Prop} {μs μ : Mm} {c : Nat} (hc : kD c = (20, 18)) (h70 : c < 70) (h : St W μs μ) : -2147483648 ≤ μ c 8 ∧ μ c 8 ≤ 2147483647 := by
  have h1 := h.1.1 c 8 h70
  unfold bx at h1
  rw [hc] at h1
  exact h1
theorem pO_10_8 {W : Nat → Nat → Prop} {μs μ : Mm} {c : Nat} {v : Int} (hc : kD c = (20, 18)) (h : St W μs μ) (hw : W c 8) (hv : -2147483648 ≤ v ∧ v ≤ 2147483647) : St W μs (sM μ c 8 v) := by
  refine St_sM h hw ?_ ?_ ?_ ?_
  · unfold bx
    rw [hc]
    exact hv
  · exact fun e => kD_ne (c' := 14) (n' := 3) (b := 3) hc (by decide) (by decide) e.1
  · exact fun e => kD_ne (c' := 16) (n' := 9) (b := 62) hc (by decide) (by decide) e.1
  · exact fun e => kD_ne (c' := 18) (n' := 7) (b := 67) hc (by decide) (by decide) e.1
theorem gO_10_9 {W : Nat → Nat → Prop} {μs μ : Mm} {c : Nat} (hc : kD c = (20, 18)) (h70 : c < 70) (h : St W μs μ) : -2147483648 ≤ μ c 9 ∧ μ c 9 ≤ 2147483647 := by
  have h1 := h.1.1 c 9 h70
  unfold bx at h1
  rw [hc] at h1
  exact h1
theorem pO_10_9 {W : Nat → Nat → Prop} {μs μ : Mm} {c : Nat} {v : Int} (hc : kD c = (20, 18)) (h : St W μs μ) (hw : W c 9) (hv : -2147483648 ≤ v ∧ v ≤ 2147483647) : St W μs (sM μ c 9 v) := by
  refine St_sM h hw ?_ ?_ ?_ ?_
  · unfold bx
    rw [hc]
    exact hv
  · exact fun e => kD_ne (c' := 14) (n' := 3) (b := 3) hc (by decide) (by decide) e.1
  · exact fun e => kD_ne (c' := 16) (n' := 9) (b := 62) hc (by decide) (by decide) e.1
  · exact fun e => kD_ne (c' := 18) (n' := 7) (b := 67) hc (by decide) (by decide) e.1
theorem gO_10_10 {W : Nat → Nat → Prop} {μs μ : Mm} {c : Nat} (hc : kD c = (20, 18)) (h70 : c < 70) (h : St W μs μ) : -2147483648 ≤ μ c 10 ∧ μ c 10 ≤ 2147483647 := by
  have h1 := h.1.1 c 10 h70
  unfold bx at h1
  rw [hc] at h1
  exact h1
theorem pO_10_10 {W : Nat → Nat → Prop} {μs μ : Mm} {c : Nat} {v : Int} (hc : kD c = (20, 18)) (h : St W μs μ) (hw : W c 10) (hv : -2147483648 ≤ v ∧ v ≤ 2147483647) : St W μs (sM μ c 10 v) := by
  refine St_sM h hw ?_ ?_ ?_ ?_
  · unfold bx
    rw [hc]
    exact hv
  · exact fun e => kD_ne (c' := 14) (n' := 3) (b := 3) hc (by decide) (by decide) e.1
  · exact fun e => kD_ne (c' := 16) (n' := 9) (b := 62) hc (by decide) (by decide) e.1
  · exact fun e => kD_ne (c' := 18) (n' := 7) (b := 67) hc (by decide) (by decide) e.1
theorem gO_10_11 {W : Nat → Nat → Prop} {μs μ : Mm} {c : Nat} (hc : kD c = (20, 18)) (h70 : c < 70) (h : St W μs μ) : -2147483648 ≤ μ c 11 ∧ μ c 11 ≤ 2147483647 := by
  have h1 := h.1.1 c 11 h70
  unfold bx at h1
  rw [hc] at h1
  exact h1
theorem pO_10_11 {W : Nat → Nat → Prop} {μs μ : Mm} {c : Nat} {v : Int} (hc : kD c = (20, 18)) (h : St W μs μ) (hw : W c 11) (hv : -2147483648 ≤ v ∧ v ≤ 2147483647) : St W μs (sM μ c 11 v) := by
  refine St_sM h hw ?_ ?_ ?_ ?_
  · unfold bx
    rw [hc]
    exact hv
  · exact fun e => kD_ne (c' := 14) (n' := 3) (b := 3) hc (by decide) (by decide) e.1
  · exact fun e => kD_ne (c' := 16) (n' := 9) (b := 62) hc (by decide) (by decide) e.1
  · exact fun e => kD_ne (c' := 18) (n' := 7) (b := 67) hc (by decide) (by decide) e.1
theorem gO_10_12 {W : Nat → Nat → Prop} {μs μ : Mm} {c : Nat} (hc : kD c = (20, 18)) (h70 : c < 70) (h : St W μs μ) : -2147483648 ≤ μ c 12 ∧ μ c 12 ≤ 2147483647 := by
  have h1 := h.1.1 c 12 h70
  unfold bx at h1
  rw [hc] at h1
  exact h1
theorem pO_10_12 {W : Nat → Nat → Prop} {μs μ : Mm} {c : Nat} {v : Int} (hc : kD c = (20, 18)) (h : St W μs μ) (hw : W c 12) (hv : -2147483648 ≤ v ∧ v ≤ 2147483647) : St W μs (sM μ c 12 v) := by
  refine St_sM h hw ?_ ?_ ?_ ?_
  · unfold bx
    rw [hc]
    exact hv
  · exact fun e => kD_ne (c' := 14) (n' := 3) (b := 3) hc (by decide) (by decide) e.1
  · exact fun e => kD_ne (c' := 16) (n' := 9) (b := 62) hc (by decide) (by decide) e.1
  · exact fun e => kD_ne (c' := 18) (n' := 7) (b := 67) hc (by decide) (by decide) e.1
theorem gO_10_13 {W : Nat → Nat → Prop} {μs μ : Mm} {c : Nat} (hc : kD c = (20, 18)) (h70 : c < 70) (h : St W μs μ) : -2147483648 ≤ μ c 13 ∧ μ c 13 ≤ 2147483647 := by
  have h1 := h.1.1 c 13 h70
  unfold bx at h1
  rw [hc] at h1
  exact h1
theorem pO_10_13 {W : Nat → Nat → Prop} {μs μ : Mm} {c : Nat} {v : Int} (hc : kD c = (20, 18)) (h : St W μs μ) (hw : W c 13) (hv : -2147483648 ≤ v ∧ v ≤ 2147483647) : St W μs (sM μ c 13 v) := by
  refine St_sM h hw ?_ ?_ ?_ ?_
  · unfold bx
    rw [hc]
    exact hv
  · exact fun e => kD_ne (c' := 14) (n' := 3) (b := 3) hc (by decide) (by decide) e.1
  · exact fun e => kD_ne (c' := 16) (n' := 9) (b := 62) hc (by decide) (by decide) e.1
  · exact fun e => kD_ne (c' := 18) (n' := 7) (b := 67) hc (by decide) (by decide) e.1
theorem gO_10_14 {W : Nat → Nat → Prop} {μs μ : Mm} {c : Nat} (hc : kD c = (20, 18)) (h70 : c < 70) (h : St W μs μ) : -2147483648 ≤ μ c 14 ∧ μ c 14 ≤ 2147483647 := by
  have h1 := h.1.1 c 14 h70
  unfold bx at h1
  rw [hc] at h1
  exact h1
theorem pO_10_14 {W : Nat → Nat → Prop} {μs μ : Mm} {c : Nat} {v : Int} (hc : kD c = (20, 18)) (h : St W μs μ) (hw : W c 14) (hv : -2147483648 ≤ v ∧ v ≤ 2147483647) : St W μs (sM μ c 14 v) := by
  refine St_sM h hw ?_ ?_ ?_ ?_
  · unfold bx
    rw [hc]
    exact hv
  · exact fun e => kD_ne (c' := 14) (n' := 3) (b := 3) hc (by decide) (by decide) e.1
  · exact fun e => kD_ne (c' := 16) (n' := 9) (b := 62) hc (by decide) (by decide) e.1
  · exact fun e => kD_ne (c' := 18) (n' := 7) (b := 67) hc (by decide) (by decide) e.1
theorem gO_10_15 {W : Nat → Nat → Prop} {μs μ : Mm} {c : Nat} (hc : kD c = (20, 18)) (h70 : c < 70) (h : St W μs μ) : 0 ≤ μ c 15 ∧ μ c 15 ≤ 5 := by
  have h1 := h.1.1 c 15 h70
  unfold bx at h1
  rw [hc] at h1
  exact h1
theorem pO_10_15 {W : Nat → Nat → Prop} {μs μ : Mm} {c : Nat} {v : Int} (hc : kD c = (20, 18)) (h : St W μs μ) (hw : W c 15) (hv : 0 ≤ v ∧ v ≤ 5) : St W μs (sM μ c 15 v) := by
  refine St_sM h hw ?_ ?_ ?_ ?_
  · unfold bx
    rw [hc]
    exact hv
  · exact fun e => kD_ne (c' := 14) (n' := 3) (b := 3) hc (by decide) (by decide) e.1
  · exact fun e => kD_ne (c' := 16) (n' := 9) (b := 62) hc (by decide) (by decide) e.1
  · exact fun e => kD_ne (c' := 18) (n' := 7) (b := 67) hc (by decide) (by decide) e.1
theorem gO_10_16 {W : Nat → Nat → Prop} {μs μ : Mm} {c : Nat} (hc : kD c = (20, 18)) (h70 : c < 70) (h : St W μs μ) : 0 ≤ μ c 16 ∧ μ c 16 ≤ 4 := by
  have h1 := h.1.1 c 16 h70
  unfold bx at h1
  rw [hc] at h1
  exact h1
theorem pO_10_16 {W : Nat → Nat → Prop} {μs μ : Mm} {c : Nat} {v : Int} (hc : kD c = (20, 18)) (h : St W μs μ) (hw : W c 16) (hv : 0 ≤ v ∧ v ≤ 4) : St W μs (sM μ c 16 v) := by
  refine St_sM h hw ?_ ?_ ?_ ?_
  · unfold bx
    rw [hc]
    exact hv
  · exact fun e => kD_ne (c' := 14) (n' := 3) (b := 3) hc (by decide) (by decide) e.1
  · exact fun e => kD_ne (c' := 16) (n' := 9) (b := 62) hc (by decide) (by decide) e.1
  · exact fun e => kD_ne (c' := 18) (n' := 7) (b := 67) hc (by decide) (by decide) e.1
theorem gO_10_17 {W : Nat → Nat → Prop} {μs μ : Mm} {c : Nat} (hc : kD c = (20, 18)) (h70 : c < 70) (h : St W μs μ) : -1 ≤ μ c 17 ∧ μ c 17 ≤ 3 := by
  have h1 := h.1.1 c 17 h70
  unfold bx at h1
  rw [hc] at h1
  exact h1
theorem pO_10_17 {W : Nat → Nat → Prop} {μs μ : Mm} {c : Nat} {v : Int} (hc : kD c = (20, 18)) (h : St W μs μ) (hw : W c 17) (hv : -1 ≤ v ∧ v ≤ 3) : St W μs (sM μ c 17 v) := by
  refine St_sM h hw ?_ ?_ ?_ ?_
  · unfold bx
    rw [hc]
    exact hv
  · exact fun e => kD_ne (c' := 14) (n' := 3) (b := 3) hc (by decide) (by decide) e.1
  · exact fun e => kD_ne (c' := 16) (n' := 9) (b := 62) hc (by decide) (by decide) e.1
  · exact fun e => kD_ne (c' := 18) (n' := 7) (b := 67) hc (by decide) (by decide) e.1
theorem pM_4 {W : Nat → Nat → Prop} {μs μ : Mm} {v : Nat} (h : St W μs μ) (hw : W 3 0) (hv : kD ((v : Nat) : Int).toNat = (17, 2)) : St W μs (sM μ 3 0 (v : Int)) := by
  have hv2 : v < 98 := kD_e (show kD v = (17, 2) from hv) (by decide)
  refine ⟨⟨fun k i hk => ?_, by rw [sM_s]; exact hv, by rw [sM_a (by decide)]; exact h.1.2.2.1, by rw [sM_a (by decide)]; exact h.1.2.2.2⟩, fw_sM h.2 hw⟩
  unfold sM
  by_cases c : k = 3 ∧ i = 0
  · rw [if_pos c, c.1, c.2]
    exact ⟨Int.le_trans (by decide : (-2147483648 : Int) ≤ 0) (Int.natCast_nonneg v), by show (v : Int) ≤ 2147483647; omega⟩
  · rw [if_neg c]; exact h.1.1 k i hk
theorem pM_6 {W : Nat → Nat → Prop} {μs μ : Mm} {v : Nat} (h : St W μs μ) (hw : W 62 4) (hv : kD ((v : Nat) : Int).toNat = (11, 7)) : St W μs (sM μ 62 4 (v : Int)) := by
  have hv2 : v < 98 := kD_e (show kD v = (11, 7) from hv) (by decide)
  refine ⟨⟨fun k i hk => ?_, by rw [sM_a (by decide)]; exact h.1.2.1, by rw [sM_s]; exact hv, by rw [sM_a (by decide)]; exact h.1.2.2.2⟩, fw_sM h.2 hw⟩
  unfold sM
  by_cases c : k = 62 ∧ i = 4
  · rw [if_pos c, c.1, c.2]
    exact ⟨Int.le_trans (by decide : (-2147483648 : Int) ≤ 0) (Int.natCast_nonneg v), by show (v : Int) ≤ 2147483647; omega⟩
  · rw [if_neg c]; exact h.1.1 k i hk
theorem pM_8 {W : Nat → Nat → Prop} {μs μ : Mm} {v : Nat} (h : St W μs μ) (hw : W 67 3) (hv : kD ((v : Nat) : Int).toNat = (11, 7)) : St W μs (sM μ 67 3 (v : Int)) := by
  have hv2 : v < 98 := kD_e (show kD v = (11, 7) from hv) (by decide)
  refine ⟨⟨fun k i hk => ?_, by rw [sM_a (by decide)]; exact h.1.2.1, by rw [sM_a (by decide)]; exact h.1.2.2.1, by rw [sM_s]; exact hv⟩, fw_sM h.2 hw⟩
  unfold sM
  by_cases c : k = 67 ∧ i = 3
  · rw [if_pos c, c.1, c.2]
    exact ⟨Int.le_trans (by decide : (-2147483648 : Int) ≤ 0) (Int.natCast_nonneg v), by show (v : Int) ≤ 2147483647; omega⟩
  · rw [if_neg c]; exact h.1.1 k i hk
theorem St_cA {W : Nat → Nat → Prop} {μs μ : Mm} {a b : Nat} {n : Int} (h : St W μs μ) (ha : a < 70) (hb : ∀ j, W b j) (hab : ∀ j, bx a j = bx b j) (h1 : (kD b).1 = 0) : St W μs (cA_ μ a b n) := by
  have hk : ∀ q, (kD q).1 ≠ 0 → q ≠ b := fun q hq e => hq (e ▸ h1)
  have ho : ∀ q j, (kD q).1 ≠ 0 → cA_ μ a b n q j = μ q j := fun q j hq => by unfold cA_; rw [if_neg (fun c => hk q hq c.1)]
  refine ⟨⟨fun k i hk2 => ?_, by rw [ho 3 0 (by decide)]; exact h.1.2.1, by rw [ho 62 4 (by decide)]; exact h.1.2.2.1, by rw [ho 67 3 (by decide)]; exact h.1.2.2.2⟩, fun k i hn => ?_⟩
  · unfold cA_
    by_cases c : k = b ∧ (i : Int) < n
    · rw [if_pos c, c.1, ← hab i]; exact h.1.1 a i ha
    · rw [if_neg c]; exact h.1.1 k i hk2
  · rw [← h.2 k i hn]
    unfold cA_
    rw [if_neg (fun c : k = b ∧ (i : Int) < n => hn (by rw [c.1]; exact hb i))]
theorem kJr {c : Nat} (h : kD c = (11, 7)) : c = 48 ∨ c = 53 := (by decide +kernel : ∀ a, a < nC → kD a = (11, 7) → a = 48 ∨ a = 53) c (kD_e h (by decide)) h
theorem kCr {c : Nat} (h : kD c = (10, 9)) : c = 5 ∨ c = 9 ∨ c = 13 := (by decide +kernel : ∀ a, a < nC → kD a = (10, 9) → a = 5 ∨ a = 9 ∨ a = 13) c (kD_e h (by decide)) h
theorem kPr {c : Nat} (h : kD c = (13, 3)) : c = 18 ∨ c = 21 ∨ c = 24 ∨ c = 27 ∨ c = 30 ∨ c = 33 := (by decide +kernel : ∀ a, a < nC → kD a = (13, 3) → a = 18 ∨ a = 21 ∨ a = 24 ∨ a = 27 ∨ a = 30 ∨ a = 33) c (kD_e h (by decide)) h
theorem kJr' {c : Nat} (h : kD c = (11, 7)) : 48 ≤ c ∧ c ≤ 53 := by have := kJr h; omega
theorem kCr' {c : Nat} (h : kD c = (10, 9)) : 5 ≤ c ∧ c ≤ 13 := by have := kCr h; omega
theorem kPr' {c : Nat} (h : kD c = (13, 3)) : 18 ≤ c ∧ c ≤ 33 := by have := kPr h; omega
theorem kTr {c : Nat} (h : kD c = (17, 2)) : c = 1 ∨ c = 37 ∨ c = 39 ∨ c = 41 ∨ c = 43 := (by decide +kernel : ∀ a, a < nC → kD a = (17, 2) → a = 1 ∨ a = 37 ∨ a = 39 ∨ a = 41 ∨ a = 43) c (kD_e h (by decide)) h
theorem kTr' {c : Nat} (h : kD c = (17, 2)) : 1 ≤ c ∧ c ≤ 43 := by have := kTr h; omega
/-! the steps -/
theorem wp_if {c : Prop} {_ : Decidable c} {x y : Rs} {Q : Int → Mm → Prop} (h1 : c → wp x Q) (h2 : ¬ c → wp y Q) : wp (if c then x else y) Q := by
  by_cases h : c
  · rw [if_pos h]; exact h1 h
  · rw [if_neg h]; exact h2 h
theorem wp_call {x : Rs} {f : Int → Mm → Rs} {P Q : Int → Mm → Prop} (h : wp x P) (k : ∀ r μ, P r μ → wp (f r μ) Q) : wp (bd x f) Q := by
  rw [wp_bd]; exact wp_mono h k
theorem wp_ldv {μ : Mm} {a : Nat} {i : Int} {f : Int → Rs} {Q : Int → Mm → Prop} (h : 0 ≤ i ∧ i < aN a) (k : ∀ v, v = μ a i.toNat → wp (f v) Q) : wp (ldA μ a i f) Q := by
  rw [wp_ldA]; exact ⟨h, k _ rfl⟩
theorem wp_stv {μ : Mm} {a : Nat} {i v : Int} {f : Mm → Rs} {P : Mm → Prop} {Q : Int → Mm → Prop} (h : 0 ≤ i ∧ i < aN a) (hp : P (sM μ a i.toNat v)) (k : ∀ μ', P μ' → μ' = sM μ a i.toNat v → wp (f μ') Q) : wp (stA μ a i v f) Q := by
  rw [wp_stA]; exact ⟨h, k _ hp rfl⟩
theorem wp_sFv {μ : Mm} {a j : Nat} {v : Int} {f : Mm → Rs} {P : Mm → Prop} {Q : Int → Mm → Prop} (hp : P (sM μ a j v)) (k : ∀ μ', P μ' → μ' = sM μ a j v → wp (f μ') Q) : wp (sF μ a j v f) Q := k _ hp rfl
theorem wp_ltv {x : Int} {f : Int → Rs} {Q : Int → Mm → Prop} (k : ∀ v, v = x → wp (f v) Q) : wp (lt_ x f) Q := k _ rfl
theorem wp_aLv {a : Nat} {i : Int} {f : Nat → Rs} {Q : Int → Mm → Prop} (h : 0 ≤ i ∧ i < aN a) (k : ∀ v, v = aE a i.toNat → wp (f v) Q) : wp (aL a i f) Q := by
  rw [wp_aL]; exact ⟨h, k _ rfl⟩
theorem wp_mRv {μ : Mm} {a j : Nat} {q : Nat × Nat} {f : Nat → Rs} {Q : Int → Mm → Prop} (h : kD (μ a j).toNat = q) (k : ∀ v, kD v = q → v = (μ a j).toNat → wp (f v) Q) : wp (mR μ a j q f) Q := by
  rw [wp_mR]; exact ⟨h, k _ h rfl⟩
theorem wp_mRe {μ : Mm} {a j v : Nat} {q : Nat × Nat} {f : Nat → Rs} {Q : Int → Mm → Prop} (h : kD v = q) (e : v = (μ a j).toNat) (k : wp (f v) Q) : wp (mR μ a j q f) Q := by
  subst e
  rw [wp_mR]; exact ⟨h, k⟩
theorem wp_kCv {c : Int} {q : Nat × Nat} {f : Nat → Rs} {Q : Int → Mm → Prop} (h : kD c.toNat = q) (k : ∀ v, v = c.toNat → wp (f v) Q) : wp (kC c q f) Q := by
  rw [wp_kC]; exact ⟨h, k _ rfl⟩
theorem wp_rZv {v : Int} {μ : Mm} {Q : Int → Mm → Prop} (h : v = 0 ∨ v = 1) (k : Q v μ) : wp (rZ v μ) Q := by
  rw [wp_rZ]; exact ⟨h, k⟩
theorem wp_dZv {b : Int} {f : Rs} {Q : Int → Mm → Prop} (h : b ≠ 0) (k : wp f Q) : wp (dZ b f) Q := by
  rw [wp_dZ]; exact ⟨h, k⟩
theorem wp_cpv {μ : Mm} {a b : Nat} {n : Int} {f : Mm → Rs} {P : Mm → Prop} {Q : Int → Mm → Prop} (h : 0 ≤ n ∧ n ≤ aN a ∧ n ≤ aN b) (hp : P (cA_ μ a b n)) (k : ∀ μ', P μ' → wp (f μ') Q) : wp (cpA μ a b n f) Q := by
  rw [wp_cpA]; exact ⟨h, k _ hp⟩
theorem wI_r (x : Int) : -2147483648 ≤ wI x ∧ wI x ≤ 2147483647 := by
  unfold wI
  have h1 := Int.le_bmod (x := x) (m := 4294967296) (by decide)
  have h2 := Int.bmod_lt (x := x) (m := 4294967296) (by decide)
  omega
theorem wI_c (x : Int) : (x < -2147483648 ∨ 2147483647 < x ∨ wI x = x) ∧ -2147483648 ≤ wI x ∧ wI x ≤ 2147483647 := by
  refine ⟨?_, wI_r x⟩
  by_cases h : -2147483648 ≤ x ∧ x ≤ 2147483647
  · exact Or.inr (Or.inr (wI_id h.1 h.2))
  · omega
theorem iA_c (a b : Int) : (a + b < -2147483648 ∨ 2147483647 < a + b ∨ iA a b = a + b) ∧ -2147483648 ≤ iA a b ∧ iA a b ≤ 2147483647 := wI_c (a + b)
theorem iS_c (a b : Int) : (a - b < -2147483648 ∨ 2147483647 < a - b ∨ iS a b = a - b) ∧ -2147483648 ≤ iS a b ∧ iS a b ≤ 2147483647 := wI_c (a - b)
theorem iM_c (a b : Int) : (a * b < -2147483648 ∨ 2147483647 < a * b ∨ iM a b = a * b) ∧ -2147483648 ≤ iM a b ∧ iM a b ≤ 2147483647 := wI_c (a * b)
theorem iM_r (a b : Int) : -2147483648 ≤ iM a b ∧ iM a b ≤ 2147483647 := wI_r (a * b)
theorem iD_r (a b : Int) : -2147483648 ≤ iD a b ∧ iD a b ≤ 2147483647 := wI_r _
theorem iD_10 (a : Int) (h : -2147483648 ≤ a ∧ a ≤ 2147483647) : (a < 0 ∨ iD a 10 = a / 10) ∧ -2147483648 ≤ iD a 10 ∧ iD a 10 ≤ 2147483647 := by
  refine ⟨?_, iD_r a 10⟩
  by_cases h0 : 0 ≤ a
  · exact Or.inr (iD_id h0 h.2 (by decide))
  · exact Or.inl (by omega)
theorem iR_10 (a : Int) (h : -2147483648 ≤ a ∧ a ≤ 2147483647) : -9 ≤ iR a 10 ∧ iR a 10 ≤ 9 ∧ (a < 0 ∨ iR a 10 = a % 10) := by
  by_cases h0 : 0 ≤ a
  · have h1 := iR_id (b := 10) h0 h.2 (by decide)
    refine ⟨by omega, by omega, Or.inr h1⟩
  · have h1 : iD a 10 = -((-a) / 10) := by
      unfold iD
      have h2 : a.tdiv 10 = -((-a) / 10) := by
        have h3 := Int.neg_tdiv (-a) 10
        rw [Int.neg_neg] at h3
        rw [h3, Int.tdiv_eq_ediv_of_nonneg (by omega)]
      rw [h2]
      exact wI_id (by omega) (by omega)
    have h4 : iR a 10 = a - (-((-a) / 10)) * 10 := by
      unfold iR
      rw [h1]
      exact wI_id (by omega) (by omega)
    refine ⟨by omega, by omega, Or.inl (by omega)⟩
theorem mX_c (a b : Int) : (mX a b = a ∧ b ≤ a) ∨ (mX a b = b ∧ a ≤ b) := by
  unfold mX; omega
theorem mN_c (a b : Int) : (mN a b = a ∧ a ≤ b) ∨ (mN a b = b ∧ b ≤ a) := by
  unfold mN; omega
theorem i32_r (x : Int32) : -2147483648 ≤ x.toInt ∧ x.toInt ≤ 2147483647 := by
  have h1 := x.le_toInt
  have h2 := x.toInt_lt
  omega
theorem bA_r (a b : Int) : -2147483648 ≤ bA a b ∧ bA a b ≤ 2147483647 := i32_r _
theorem bO_r (a b : Int) : -2147483648 ≤ bO a b ∧ bO a b ≤ 2147483647 := i32_r _
theorem bX_r (a b : Int) : -2147483648 ≤ bX a b ∧ bX a b ≤ 2147483647 := i32_r _
theorem bL_r (a b : Int) : -2147483648 ≤ bL a b ∧ bL a b ≤ 2147483647 := i32_r _
theorem bR_r (a b : Int) : -2147483648 ≤ bR a b ∧ bR a b ≤ 2147483647 := i32_r _
theorem bU_r (a b : Int) : -2147483648 ≤ bU a b ∧ bU a b ≤ 2147483647 := i32_r _
theorem bL_1 {s : Int} (h : 0 ≤ s ∧ s ≤ 8) : 1 ≤ bL 1 s ∧ bL 1 s ≤ 256 := by
  have h1 : s = ((s.toNat : Nat) : Int) := by omega
  rw [h1]
  exact (by decide +kernel : ∀ k, k < 9 → 1 ≤ bL 1 ((k : Nat) : Int) ∧ bL 1 ((k : Nat) : Int) ≤ 256) s.toNat (by omega)
theorem bA_le {a : Int} (b : Int) (h : 0 ≤ a ∧ a ≤ 255) : 0 ≤ bA a b ∧ bA a b ≤ 255 := by
  have h1 : a = ((a.toNat : Nat) : Int) := by omega
  have h2 : (Int32.ofInt a).toBitVec.toNat ≤ 255 := by
    rw [h1]
    exact (by decide +kernel : ∀ k, k < 256 → (Int32.ofInt ((k : Nat) : Int)).toBitVec.toNat ≤ 255) a.toNat (by omega)
  have h3 : (bA a b) = (((Int32.ofInt a).toBitVec &&& (Int32.ofInt b).toBitVec).toNat : Int) := by
    show ((Int32.ofInt a).toBitVec &&& (Int32.ofInt b).toBitVec).toInt = _
    have h4 : ((Int32.ofInt a).toBitVec &&& (Int32.ofInt b).toBitVec).toNat ≤ 255 := by
      rw [BitVec.toNat_and]
      exact Nat.le_trans Nat.and_le_left h2
    rw [BitVec.toInt_eq_toNat_cond, if_pos (by omega)]
  have h4 : ((Int32.ofInt a).toBitVec &&& (Int32.ofInt b).toBitVec).toNat ≤ 255 := by
    rw [BitVec.toNat_and]
    exact Nat.le_trans Nat.and_le_left h2
  rw [h3]
  omega
theorem iR_r (a b : Int) : -2147483648 ≤ iR a b ∧ iR a b ≤ 2147483647 := wI_r _
theorem wL_r (x : Int) : -9223372036854775808 ≤ wL x ∧ wL x ≤ 9223372036854775807 := by
  unfold wL
  have h1 := Int.le_bmod (x := x) (m := 18446744073709551616) (by decide)
  have h2 := Int.bmod_lt (x := x) (m := 18446744073709551616) (by decide)
  omega
theorem lA_r (a b : Int) : -9223372036854775808 ≤ lA a b ∧ lA a b ≤ 9223372036854775807 := wL_r _
theorem lS_r (a b : Int) : -9223372036854775808 ≤ lS a b ∧ lS a b ≤ 9223372036854775807 := wL_r _
theorem lM_r (a b : Int) : -9223372036854775808 ≤ lM a b ∧ lM a b ≤ 9223372036854775807 := wL_r _
theorem lD_r (a b : Int) : -9223372036854775808 ≤ lD a b ∧ lD a b ≤ 9223372036854775807 := wL_r _
theorem wp_calls {x : Rs} {μ : Mm} {f : Int → Mm → Rs} {P : Int → Prop} {Q : Int → Mm → Prop} (h : wp x (fun r m => m = μ ∧ P r)) (k : ∀ r, P r → wp (f r μ) Q) : wp (bd x f) Q := by
  rw [wp_bd]
  exact wp_mono h (fun r m hh => by rw [hh.1]; exact k r hh.2)
theorem wp_monos {x : Rs} {μ : Mm} {P : Int → Prop} {Q : Int → Mm → Prop} (h : wp x (fun r m => m = μ ∧ P r)) (k : ∀ r, P r → Q r μ) : wp x Q := wp_mono h (fun r m hh => by rw [hh.1]; exact k r hh.2)
theorem RD_v : ((RD : Nat) : Int) = 12 := rfl
theorem FU_v : ((FU : Nat) : Int) = 1000000 := rfl

