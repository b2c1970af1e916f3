/-! FIT, and what is altered for a while -/
theorem pc_0 : pc 0 = 0 := by decide +kernel
theorem fitF_L {μs : Mm} {rec : Int → Int → Int → Int → Mm → Rs} {l1 l2 l3 l4 mm : Int} (hl2 : 0 ≤ l2 ∧ l2 ≤ 255) (hmm : 0 ≤ mm ∧ mm ≤ 8) (hpc : 1 ≤ mm - pc l2 + 1) (hv : OV l3 mm (mm - pc l2)) (hrec : ∀ a b μ, Sm μs μ → μ 70 37 = mm → 0 ≤ a ∧ a ≤ 255 → pc a + 1 = pc l2 → OV b mm (mm - pc a) → wp (rec l1 a b l4 μ) (fun _ μ' => Sm μs μ' ∧ μ' 70 37 = mm)) : ∀ (n : Nat) (c : Int) (μ : Mm), Sm μs μ → μ 70 37 = mm → 0 ≤ c ∧ c ≤ 8 → 8 - c + 1 ≤ ((n : Nat) : Int) → wp (X11_fitFrom_L55 rec l1 l2 l3 l4 n c μ) (fun _ μ' => Sm μs μ' ∧ μ' 70 37 = mm) := by
  intro n
  induction n with
  | zero => intro c μ _ _ hc h; exact absurd h (by have : ((0 : Nat) : Int) = 0 := rfl; omega)
  | succ n ih =>
    intro c μ hS hm hc hn
    have hn1 : ((n + 1 : Nat) : Int) = ((n : Nat) : Int) + 1 := rfl
    show wp (if μ 70 37 ≤ c then _ else _) _
    refine wp_if (fun g => ?_) (fun g => ?_)
    · exact ⟨hS, hm⟩
    · have e1 : iA c 1 = c + 1 := iA_id (by omega) (by omega)
      refine wp_calls (t_X11_has (l0 := l2) (l1 := c) (by omega) (by omega) hS) (fun v hh => ?_)
      refine wp_if (fun g2 => ?_) (fun g2 => ?_)
      · rw [e1]
        exact ih (c + 1) μ hS hm (by omega) (by omega)
      · have hb := (pcl (x := l2) (c := c) hl2 (by omega)).resolve_left (fun h => h (hh.2.resolve_left g2))
        have hpr := pc_r hl2
        have h9 := OV_le hv (by omega)
        have h0 := hv.1
        rw [iM_id (by omega) (by omega), iA_id (a := 10 * l3) (by omega) (by omega)]
        have hv2 := OV_s (d := c) (by omega) hv (by omega) hmm.2
        have e2 : mm - pc l2 + 1 = mm - pc (bA l2 (bX (bL 1 c) (-1))) := by omega
        rw [e2] at hv2
        refine wp_call (hrec _ _ μ hS hm ⟨hb.1, hb.2.1⟩ hb.2.2 hv2) (fun r μ2 h2 => ?_)
        rw [e1]
        exact ih (c + 1) μ2 h2.1 h2.2 (by omega) (by omega)
theorem w_fitFrom {μs : Mm} (hI : Ir μs) {l1 l4 mm : Int} (hl1 : 0 ≤ l1 ∧ l1 ≤ 4) (hl4 : -2147483648 ≤ l4 ∧ l4 ≤ 2147483647) (hmm : 0 ≤ mm ∧ mm ≤ 8) : ∀ (n : Nat) (l2 l3 : Int) (μ : Mm), Sm μs μ → μ 70 37 = mm → 0 ≤ l2 ∧ l2 ≤ 255 → pc l2 ≤ mm → OV l3 mm (mm - pc l2) → pc l2 + 1 ≤ ((n : Nat) : Int) → wp (X11_fitFrom n l1 l2 l3 l4 μ) (fun _ μ' => Sm μs μ' ∧ μ' 70 37 = mm) := by
  intro n
  induction n with
  | zero => intro l2 l3 μ _ _ hl2 hp _ h; exact absurd h (by have : ((0 : Nat) : Int) = 0 := rfl; have := pc_r hl2; omega)
  | succ n ih =>
    intro l2 l3 μ hS hm hl2 hp hv hn
    have hn1 : ((n + 1 : Nat) : Int) = ((n : Nat) : Int) + 1 := rfl
    rw [X11_fitFrom]
    refine wp_if (fun g => ?_) (fun g => ?_)
    · rw [g, pc_0, Int.sub_zero] at hv
      have hod := OV_D hmm hv
      have h9 := OV_le hv hmm.2
      have h0 := hv.1
      refine wp_call (t_X11_go (l1 := l3) hI (by omega) hS (by rw [hm]; exact hod)) (fun r μ2 h2 => ?_)
      obtain ⟨h2, hr2, hp2⟩ := h2
      rw [hm] at hp2
      refine wp_if (fun g2 => ?_) (fun g2 => ?_)
      · exact ⟨h2, hp2⟩
      · refine wp_calls (t_X11_fits (l1 := l1) hl1 h2) (fun v hh => ?_)
        refine wp_if (fun g3 => ?_) (fun g3 => ?_)
        · exact ⟨h2, hp2⟩
        · have fin : ∀ x : Int, -2147483648 ≤ x ∧ x ≤ 2147483647 → Sm μs (sM (sM μ2 70 47 x) 70 46 (iA ((sM μ2 70 47 x) 70 46) 1)) ∧ (sM (sM μ2 70 47 x) 70 46 (iA ((sM μ2 70 47 x) 70 46) 1)) 70 37 = mm := by
            intro x hx
            refine ⟨pO_11_46 (pO_11_47 h2 (by unfold scrM; omega) hx) (by unfold scrM; omega) (wI_r _), ?_⟩
            rw [sM_j (by decide), sM_j (by decide)]
            exact hp2
          refine wp_if (fun g4 => ?_) (fun g4 => ?_)
          · exact fin l3 (by omega)
          · exact fin _ (gO_11_47 h2)
    · have hpr := pc_r hl2
      refine fitF_L hl2 hmm (by omega) hv (fun a b μ2 hS2 hm2 ha hpa hb => ?_) FU 0 μ hS hm (by omega) (by rw [FU_v]; omega)
      exact ih a b μ2 hS2 hm2 ha (by omega) hb (by omega)
theorem t_X11_fit {μs : Mm} {l1 l2 : Int} (hI : Ir μs) (hp_l1 : -2147483648 ≤ l1 ∧ l1 ≤ 2147483647) (hp_l2 : -2147483648 ≤ l2 ∧ l2 ≤ 2147483647) {μ : Mm} (hS : Sm μs μ) : wp (X11_fit l1 l2 μ) (fun r μ' => Sm μs μ' ∧ (-2147483648 ≤ r ∧ r ≤ 2147483647) ∧ True) := by
  unfold X11_fit
  refine wp_call (t_X11_isReady (l1 := l1) hI hp_l1 hS) (fun v μ2 hh => ?_)
  obtain ⟨h2, hr2, hp2⟩ := hh
  refine wp_if (fun g => ?_) (fun g => ?_)
  · exact ⟨h2, by omega, trivial⟩
  · refine wp_sFv (P := Sm μs) (pO_11_46 h2 (by unfold scrM; omega) (by omega)) (fun μ3 h3 _ => ?_)
    refine wp_sFv (P := Sm μs) (pO_11_47 h3 (by unfold scrM; omega) (by omega)) (fun μ4 h4 _ => ?_)
    have hb := gO_11_37 h4
    have e : μ4 70 37 = (((μ4 70 37).toNat : Nat) : Int) := by omega
    have hall : 0 ≤ iS (bL 1 (μ4 70 37)) 1 ∧ iS (bL 1 (μ4 70 37)) 1 ≤ 255 := by
      have h1 := bL_1 (s := μ4 70 37) hb
      have h2 := iS_c (bL 1 (μ4 70 37)) 1
      omega
    have hpa : pc (iS (bL 1 (μ4 70 37)) 1) = μ4 70 37 := by
      have := pc_all (μ4 70 37).toNat (by omega)
      rw [← e] at this
      exact this
    unfold X11_all
    rw [bd_some]
    refine wp_call (w_fitFrom hI (l1 := l1) (l4 := l2) (by omega) hp_l2 hb RD _ 0 μ4 h4 rfl hall (by omega) (by rw [hpa, Int.sub_self]; exact OV_0 _) (by rw [RD_v]; omega)) (fun r μ5 h5 => ?_)
    refine wp_if (fun g2 => ?_) (fun g2 => ?_)
    · exact ⟨h5.1, gO_11_46 h5.1, trivial⟩
    · exact ⟨h5.1, gO_11_47 h5.1, trivial⟩
