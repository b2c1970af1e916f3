/-! THE QUESTIONS leave what is kept -/
theorem q_at : ∀ a0, rI a0 → sD Inv Inv (X10_at a0) (X11_at a0) := by
  intro a0 h0
  intro μ hI
  have t1 := t_X10_at (W := scr) (μs := μ) (hp_l1 := h0) (St_rf hI.1)
  have t2 := t_X11_at (μs := μ) (hp_l1 := h0) (Sm_rf hI.2.1.1)
  obtain ⟨r, μ1, e1, g1, _⟩ := wp_ex t1
  obtain ⟨r2, μ2, e2, g2, _⟩ := wp_ex t2
  subst g1
  subst g2
  exact ⟨r, _, r2, _, e1, e2, hI⟩
theorem q_way : ∀ a0, rI a0 → ∀ a1, rI a1 → sD Inv Inv (X10_way a0 a1) (X11_way a0 a1) := by
  intro a0 h0 a1 h1
  intro μ hI
  have t1 := t_X10_way (W := scr) (μs := μ) (hW := fun _ _ h => h) (hp_l1 := h0) (hp_l2 := h1) (St_rf hI.1)
  obtain ⟨r, μ1, e1, g1, _⟩ := wp_ex t1
  have hI1 := Inv_St hI g1
  have t2 := t_X11_way (μs := μ1) (hI := hI1.2.1) (hp_l1 := h0) (hp_l2 := h1) (Sm_rf hI1.2.1.1)
  obtain ⟨r2, μ2, e2, g2, _⟩ := wp_ex t2
  exact ⟨r, μ1, r2, μ2, e1, e2, Inv_Sm hI1 g2⟩
theorem q_cue : ∀ a0, rI a0 → ∀ a1, rI a1 → ∀ a2, rI a2 → sD Inv Inv (X10_cue a0 a1 a2) (X11_cue a0 a1 a2) := by
  intro a0 h0 a1 h1 a2 h2
  intro μ hI
  have t1 := t_X10_cue (W := scr) (μs := μ) (hW := fun _ _ h => h) (hp_l1 := h0) (hp_l2 := h1) (hp_l3 := h2) (St_rf hI.1)
  obtain ⟨r, μ1, e1, g1, _⟩ := wp_ex t1
  have hI1 := Inv_St hI g1
  have t2 := t_X11_cue (μs := μ1) (hI := hI1.2.1) (hp_l1 := h0) (hp_l2 := h1) (hp_l3 := h2) (Sm_rf hI1.2.1.1)
  obtain ⟨r2, μ2, e2, g2, _⟩ := wp_ex t2
  exact ⟨r, μ1, r2, μ2, e1, e2, Inv_Sm hI1 g2⟩
theorem q_order : ∀ a0, rI a0 → ∀ a1, rI a1 → ∀ a2, rI a2 → sD Inv Inv (X10_order a0 a1 a2) (X11_order a0 a1 a2) := by
  intro a0 h0 a1 h1 a2 h2
  intro μ hI
  have t1 := t_X10_order (W := scr) (μs := μ) (hW := fun _ _ h => h) (hp_l1 := h0) (hp_l2 := h1) (hp_l3 := h2) (St_rf hI.1)
  obtain ⟨r, μ1, e1, g1, _⟩ := wp_ex t1
  have hI1 := Inv_St hI g1
  have t2 := t_X11_order (μs := μ1) (hI := hI1.2.1) (hp_l1 := h0) (hp_l2 := h1) (hp_l3 := h2) (Sm_rf hI1.2.1.1)
  obtain ⟨r2, μ2, e2, g2, _⟩ := wp_ex t2
  exact ⟨r, μ1, r2, μ2, e1, e2, Inv_Sm hI1 g2⟩
theorem q_done : ∀ a0, rI a0 → ∀ a1, rI a1 → ∀ a2, rI a2 → ∀ a3, rI a3 → sD Inv Inv (X10_done a0 a1 a2 a3) (X11_done a0 a1 a2 a3) := by
  intro a0 h0 a1 h1 a2 h2 a3 h3
  intro μ hI
  have t1 := t_X10_done (W := scr) (μs := μ) (hW := fun _ _ h => h) (hp_l1 := h0) (hp_l2 := h1) (hp_l3 := h2) (hp_l4 := h3) (St_rf hI.1)
  obtain ⟨r, μ1, e1, g1, _⟩ := wp_ex t1
  have hI1 := Inv_St hI g1
  have t2 := t_X11_done (μs := μ1) (hI := hI1.2.1) (hp_l1 := h0) (hp_l2 := h1) (hp_l3 := h2) (hp_l4 := h3) (Sm_rf hI1.2.1.1)
  obtain ⟨r2, μ2, e2, g2, _⟩ := wp_ex t2
  exact ⟨r, μ1, r2, μ2, e1, e2, Inv_Sm hI1 g2⟩
theorem q_where : ∀ a0, rI a0 → ∀ a1, rI a1 → ∀ a2, rI a2 → sD Inv Inv (X10_where a0 a1 a2) (X11_where a0 a1 a2) := by
  intro a0 h0 a1 h1 a2 h2
  intro μ hI
  have t1 := t_X10_where (W := scr) (μs := μ) (hW := fun _ _ h => h) (hp_l1 := h0) (hp_l2 := h1) (hp_l3 := h2) (St_rf hI.1)
  obtain ⟨r, μ1, e1, g1, _⟩ := wp_ex t1
  have hI1 := Inv_St hI g1
  have t2 := t_X11_where (μs := μ1) (hI := hI1.2.1) (hp_l1 := h0) (hp_l2 := h1) (hp_l3 := h2) (Sm_rf hI1.2.1.1)
  obtain ⟨r2, μ2, e2, g2, _⟩ := wp_ex t2
  exact ⟨r, μ1, r2, μ2, e1, e2, Inv_Sm hI1 g2⟩
theorem q_best : ∀ a0, rI a0 → ∀ a1, rI a1 → ∀ a2, rI a2 → sD Inv Inv (X10_best a0 a1 a2) (X11_best a0 a1 a2) := by
  intro a0 h0 a1 h1 a2 h2
  intro μ hI
  have t1 := t_X10_best (W := scr) (μs := μ) (hW := fun _ _ h => h) (hp_l1 := h0) (hp_l2 := h1) (hp_l3 := h2) (St_rf hI.1)
  obtain ⟨r, μ1, e1, g1, _⟩ := wp_ex t1
  have hI1 := Inv_St hI g1
  have t2 := t_X11_best (μs := μ1) (hI := hI1.2.1) (hp_l1 := h0) (hp_l2 := h1) (hp_l3 := h2) (Sm_rf hI1.2.1.1)
  obtain ⟨r2, μ2, e2, g2, _⟩ := wp_ex t2
  exact ⟨r, μ1, r2, μ2, e1, e2, Inv_Sm hI1 g2⟩
theorem q_met : ∀ a0, rI a0 → ∀ a1, rI a1 → sD Inv Inv (X10_met a0 a1) (X11_met a0 a1) := by
  intro a0 h0 a1 h1
  intro μ hI
  have t1 := t_X10_met (W := scr) (μs := μ) (hW := fun _ _ h => h) (hp_l1 := h0) (hp_l2 := h1) (St_rf hI.1)
  obtain ⟨r, μ1, e1, g1, _⟩ := wp_ex t1
  have hI1 := Inv_St hI g1
  have t2 := t_X11_met (μs := μ1) (hI := hI1.2.1) (hp_l1 := h0) (hp_l2 := h1) (Sm_rf hI1.2.1.1)
  obtain ⟨r2, μ2, e2, g2, _⟩ := wp_ex t2
  exact ⟨r, μ1, r2, μ2, e1, e2, Inv_Sm hI1 g2⟩
theorem q_knot : ∀ a0, rI a0 → sD Inv Inv (X10_knot a0) (X11_knot a0) := by
  intro a0 h0
  intro μ hI
  have t1 := t_X10_knot (W := scr) (μs := μ) (hW := fun _ _ h => h) (hp_l1 := h0) (St_rf hI.1)
  obtain ⟨r, μ1, e1, g1, _⟩ := wp_ex t1
  have hI1 := Inv_St hI g1
  have t2 := t_X11_knot (μs := μ1) (hI := hI1.2.1) (hp_l1 := h0) (Sm_rf hI1.2.1.1)
  obtain ⟨r2, μ2, e2, g2, _⟩ := wp_ex t2
  exact ⟨r, μ1, r2, μ2, e1, e2, Inv_Sm hI1 g2⟩
theorem q_age : ∀ a0, rI a0 → sD Inv Inv (X10_age a0) (X11_age a0) := by
  intro a0 h0
  intro μ hI
  have t1 := t_X10_age (W := scr) (μs := μ) (hW := fun _ _ h => h) (hp_l1 := h0) (St_rf hI.1)
  obtain ⟨r, μ1, e1, g1, _⟩ := wp_ex t1
  have hI1 := Inv_St hI g1
  have t2 := t_X11_age (μs := μ1) (hI := hI1.2.1) (hp_l1 := h0) (Sm_rf hI1.2.1.1)
  obtain ⟨r2, μ2, e2, g2, _⟩ := wp_ex t2
  exact ⟨r, μ1, r2, μ2, e1, e2, Inv_Sm hI1 g2⟩
theorem q_first : sD Inv Inv (X10_first) (X11_first) := by
  intro μ hI
  have t1 := t_X10_first (W := scr) (μs := μ) (hW := fun _ _ h => h) (St_rf hI.1)
  obtain ⟨r, μ1, e1, g1, _⟩ := wp_ex t1
  have hI1 := Inv_St hI g1
  have t2 := t_X11_first (μs := μ1) (hI := hI1.2.1) (Sm_rf hI1.2.1.1)
  obtain ⟨r2, μ2, e2, g2, _⟩ := wp_ex t2
  exact ⟨r, μ1, r2, μ2, e1, e2, Inv_Sm hI1 g2⟩
theorem q_post : ∀ a0, rI a0 → ∀ a1, rI a1 → sD Inv Inv (X10_post a0 a1) (X11_post a0 a1) := by
  intro a0 h0 a1 h1
  intro μ hI
  have t1 := t_X10_post (W := scr) (μs := μ) (hW := fun _ _ h => h) (hp_l1 := h0) (hp_l2 := h1) (St_rf hI.1)
  obtain ⟨r, μ1, e1, g1, _⟩ := wp_ex t1
  have hI1 := Inv_St hI g1
  have t2 := t_X11_post (μs := μ1) (hI := hI1.2.1) (hp_l1 := h0) (hp_l2 := h1) (Sm_rf hI1.2.1.1)
  obtain ⟨r2, μ2, e2, g2, _⟩ := wp_ex t2
  exact ⟨r, μ1, r2, μ2, e1, e2, Inv_Sm hI1 g2⟩
theorem q_rope : ∀ a0, rI a0 → ∀ a1, rI a1 → sD Inv Inv (X10_rope a0 a1) (X11_rope a0 a1) := by
  intro a0 h0 a1 h1
  intro μ hI
  have t1 := t_X10_rope (W := scr) (μs := μ) (hW := fun _ _ h => h) (hp_l1 := h0) (hp_l2 := h1) (St_rf hI.1)
  obtain ⟨r, μ1, e1, g1, _⟩ := wp_ex t1
  have hI1 := Inv_St hI g1
  have t2 := t_X11_rope (μs := μ1) (hI := hI1.2.1) (hp_l1 := h0) (hp_l2 := h1) (Sm_rf hI1.2.1.1)
  obtain ⟨r2, μ2, e2, g2, _⟩ := wp_ex t2
  exact ⟨r, μ1, r2, μ2, e1, e2, Inv_Sm hI1 g2⟩
theorem q_exchange : ∀ a0, rI a0 → ∀ a1, rI a1 → ∀ a2, rI a2 → sD Inv Inv (X10_exchange a0 a1 a2) (X11_exchange a0 a1 a2) := by
  intro a0 h0 a1 h1 a2 h2
  intro μ hI
  have t1 := t_X10_exchange (W := scr) (μs := μ) (hW := fun _ _ h => h) (hp_l1 := h0) (hp_l2 := h1) (hp_l3 := h2) (St_rf hI.1)
  obtain ⟨r, μ1, e1, g1, _⟩ := wp_ex t1
  have hI1 := Inv_St hI g1
  have t2 := t_X11_exchange (μs := μ1) (hI := hI1.2.1) (hp_l1 := h0) (hp_l2 := h1) (hp_l3 := h2) (Sm_rf hI1.2.1.1)
  obtain ⟨r2, μ2, e2, g2, _⟩ := wp_ex t2
  exact ⟨r, μ1, r2, μ2, e1, e2, Inv_Sm hI1 g2⟩
theorem q_skip : ∀ a0, rI a0 → ∀ a1, rI a1 → ∀ a2, rI a2 → sD Inv Inv (X10_skip a0 a1 a2) (X11_skip a0 a1 a2) := by
  intro a0 h0 a1 h1 a2 h2
  intro μ hI
  have t1 := t_X10_skip (W := scr) (μs := μ) (hW := fun _ _ h => h) (hp_l1 := h0) (hp_l2 := h1) (hp_l3 := h2) (St_rf hI.1)
  obtain ⟨r, μ1, e1, g1, _⟩ := wp_ex t1
  have hI1 := Inv_St hI g1
  have t2 := t_X11_skip (μs := μ1) (hI := hI1.2.1) (hp_l1 := h0) (hp_l2 := h1) (hp_l3 := h2) (Sm_rf hI1.2.1.1)
  obtain ⟨r2, μ2, e2, g2, _⟩ := wp_ex t2
  exact ⟨r, μ1, r2, μ2, e1, e2, Inv_Sm hI1 g2⟩
theorem q_nights : ∀ a0, rI a0 → ∀ a1, rI a1 → ∀ a2, rI a2 → sD Inv Inv (X10_nights a0 a1 a2) (X11_nights a0 a1 a2) := by
  intro a0 h0 a1 h1 a2 h2
  intro μ hI
  have t1 := t_X10_nights (W := scr) (μs := μ) (hW := fun _ _ h => h) (hp_l1 := h0) (hp_l2 := h1) (hp_l3 := h2) (St_rf hI.1)
  obtain ⟨r, μ1, e1, g1, _⟩ := wp_ex t1
  have hI1 := Inv_St hI g1
  have t2 := t_X11_nights (μs := μ1) (hI := hI1.2.1) (hp_l1 := h0) (hp_l2 := h1) (hp_l3 := h2) (Sm_rf hI1.2.1.1)
  obtain ⟨r2, μ2, e2, g2, _⟩ := wp_ex t2
  exact ⟨r, μ1, r2, μ2, e1, e2, Inv_Sm hI1 g2⟩
theorem q_fit : ∀ a0, rI a0 → ∀ a1, rI a1 → sD Inv Inv (X10_fit a0 a1) (X11_fit a0 a1) := by
  intro a0 h0 a1 h1
  intro μ hI
  have t1 := t_X10_fit (W := scr) (μs := μ) (hW := fun _ _ h => h) (hp_l1 := h0) (hp_l2 := h1) (St_rf hI.1)
  obtain ⟨r, μ1, e1, g1, _⟩ := wp_ex t1
  have hI1 := Inv_St hI g1
  have t2 := t_X11_fit (μs := μ1) (hI := hI1.2.1) (hp_l1 := h0) (hp_l2 := h1) (Sm_rf hI1.2.1.1)
  obtain ⟨r2, μ2, e2, g2, _⟩ := wp_ex t2
  exact ⟨r, μ1, r2, μ2, e1, e2, Inv_Sm hI1 g2⟩
theorem q_boy : ∀ a0, rI a0 → ∀ a1, rI a1 → ∀ a2, rI a2 → ∀ a3, rI a3 → sD Inv Inv (X10_boy a0 a1 a2 a3) (X11_boy a0 a1 a2 a3) := by
  intro a0 h0 a1 h1 a2 h2 a3 h3
  intro μ hI
  have t1 := t_X10_boy (W := scr) (μs := μ) (hW := fun _ _ h => h) (hp_l1 := h0) (hp_l2 := h1) (hp_l3 := h2) (hp_l4 := h3) (St_rf hI.1)
  obtain ⟨r, μ1, e1, g1, _⟩ := wp_ex t1
  have hI1 := Inv_St hI g1
  have t2 := t_X11_boy (μs := μ1) (hI := hI1.2.1) (hp_l1 := h0) (hp_l2 := h1) (hp_l3 := h2) (hp_l4 := h3) (Sm_rf hI1.2.1.1)
  obtain ⟨r2, μ2, e2, g2, _⟩ := wp_ex t2
  exact ⟨r, μ1, r2, μ2, e1, e2, Inv_Sm hI1 g2⟩
theorem q_out : ∀ a0, rI a0 → sD Inv Inv (X10_out a0) (X11_out a0) := by
  intro a0 h0
  intro μ hI
  have t1 := t_X10_out (W := scr) (μs := μ) (hW := fun _ _ h => h) (hp_l1 := h0) (St_rf hI.1)
  obtain ⟨r, μ1, e1, g1, _⟩ := wp_ex t1
  have hI1 := Inv_St hI g1
  have t2 := t_X11_out (μs := μ1) (hI := hI1.2.1) (hp_l1 := h0) (Sm_rf hI1.2.1.1)
  obtain ⟨r2, μ2, e2, g2, _⟩ := wp_ex t2
  exact ⟨r, μ1, r2, μ2, e1, e2, Inv_Sm hI1 g2⟩
theorem q_walk : ∀ a0, rI a0 → ∀ a1, rI a1 → ∀ a2, rI a2 → sD Inv Inv (X10_walk a0 a1 a2) (X11_walk a0 a1 a2) := by
  intro a0 h0 a1 h1 a2 h2
  intro μ hI
  have t1 := t_X10_walk (W := scr) (μs := μ) (hW := fun _ _ h => h) (hp_l1 := h0) (hp_l2 := h1) (hp_l3 := h2) (St_rf hI.1)
  obtain ⟨r, μ1, e1, g1, _⟩ := wp_ex t1
  have hI1 := Inv_St hI g1
  have t2 := t_X11_walk (μs := μ1) (hI := hI1.2.1) (hp_l1 := h0) (hp_l2 := h1) (hp_l3 := h2) (Sm_rf hI1.2.1.1)
  obtain ⟨r2, μ2, e2, g2, _⟩ := wp_ex t2
  exact ⟨r, μ1, r2, μ2, e1, e2, Inv_Sm hI1 g2⟩
theorem q_mend : ∀ a0, rI a0 → ∀ a1, rI a1 → ∀ a2, rI a2 → sD Inv Inv (X10_mend a0 a1 a2) (X11_mend a0 a1 a2) := by
  intro a0 h0 a1 h1 a2 h2
  intro μ hI
  have t1 := t_X10_mend (W := scr) (μs := μ) (hW := fun _ _ h => h) (hp_l1 := h0) (hp_l2 := h1) (hp_l3 := h2) (St_rf hI.1)
  obtain ⟨r, μ1, e1, g1, _⟩ := wp_ex t1
  have hI1 := Inv_St hI g1
  have t2 := t_X11_mend (μs := μ1) (hI := hI1.2.1) (hp_l1 := h0) (hp_l2 := h1) (hp_l3 := h2) (Sm_rf hI1.2.1.1)
  obtain ⟨r2, μ2, e2, g2, _⟩ := wp_ex t2
  exact ⟨r, μ1, r2, μ2, e1, e2, Inv_Sm hI1 g2⟩
theorem q_slack : ∀ a0, rI a0 → ∀ a1, rI a1 → sD Inv Inv (X10_slack a0 a1) (X11_slack a0 a1) := by
  intro a0 h0 a1 h1
  intro μ hI
  have t1 := t_X10_slack (W := scr) (μs := μ) (hW := fun _ _ h => h) (hp_l1 := h0) (hp_l2 := h1) (St_rf hI.1)
  obtain ⟨r, μ1, e1, g1, _⟩ := wp_ex t1
  have hI1 := Inv_St hI g1
  have t2 := t_X11_slack (μs := μ1) (hI := hI1.2.1) (hp_l1 := h0) (hp_l2 := h1) (Sm_rf hI1.2.1.1)
  obtain ⟨r2, μ2, e2, g2, _⟩ := wp_ex t2
  exact ⟨r, μ1, r2, μ2, e1, e2, Inv_Sm hI1 g2⟩
theorem q_urgent : ∀ a0, rI a0 → sD Inv Inv (X10_urgent a0) (X11_urgent a0) := by
  intro a0 h0
  intro μ hI
  have t1 := t_X10_urgent (W := scr) (μs := μ) (hW := fun _ _ h => h) (hp_l1 := h0) (St_rf hI.1)
  obtain ⟨r, μ1, e1, g1, _⟩ := wp_ex t1
  have hI1 := Inv_St hI g1
  have t2 := t_X11_urgent (μs := μ1) (hI := hI1.2.1) (hp_l1 := h0) (Sm_rf hI1.2.1.1)
  obtain ⟨r2, μ2, e2, g2, _⟩ := wp_ex t2
  exact ⟨r, μ1, r2, μ2, e1, e2, Inv_Sm hI1 g2⟩
theorem q_dead : sD Inv Inv (X10_dead) (X11_dead) := by
  intro μ hI
  have t1 := t_X10_dead (W := scr) (μs := μ) (hW := fun _ _ h => h) (St_rf hI.1)
  obtain ⟨r, μ1, e1, g1, _⟩ := wp_ex t1
  have hI1 := Inv_St hI g1
  have t2 := t_X11_dead (μs := μ1) (hI := hI1.2.1) (Sm_rf hI1.2.1.1)
  obtain ⟨r2, μ2, e2, g2, _⟩ := wp_ex t2
  exact ⟨r, μ1, r2, μ2, e1, e2, Inv_Sm hI1 g2⟩
theorem q_pillar : ∀ a0, rI a0 → ∀ a1, rI a1 → sD Inv Inv (X10_pillar a0 a1) (X11_pillar a0 a1) := by
  intro a0 h0 a1 h1
  intro μ hI
  have t1 := t_X10_pillar (W := scr) (μs := μ) (hW := fun _ _ h => h) (hp_l1 := h0) (hp_l2 := h1) (St_rf hI.1)
  obtain ⟨r, μ1, e1, g1, _⟩ := wp_ex t1
  have hI1 := Inv_St hI g1
  have t2 := t_X11_pillar (μs := μ1) (hI := hI1.2.1) (hp_l1 := h0) (hp_l2 := h1) (Sm_rf hI1.2.1.1)
  obtain ⟨r2, μ2, e2, g2, _⟩ := wp_ex t2
  exact ⟨r, μ1, r2, μ2, e1, e2, Inv_Sm hI1 g2⟩
theorem q_count : ∀ a0, rI a0 → sD Inv Inv (X10_count a0) (X11_count a0) := by
  intro a0 h0
  intro μ hI
  have t1 := t_X10_count (W := scr) (μs := μ) (hp_l1 := h0) (St_rf hI.1)
  have t2 := t_X11_count (μs := μ) (hp_l1 := h0) (Sm_rf hI.2.1.1)
  obtain ⟨r, μ1, e1, g1, _⟩ := wp_ex t1
  obtain ⟨r2, μ2, e2, g2, _⟩ := wp_ex t2
  subst g1
  subst g2
  exact ⟨r, _, r2, _, e1, e2, hI⟩
