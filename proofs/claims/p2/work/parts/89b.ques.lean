/-! THE QUESTIONS leave what is kept -/
theorem q_at : s_at Inv Inv := by
  intro a0 h0
  intro μ hI
  have t1 := t_X10_at (W := scr) (μs := μ) (hp_l1 := h0) (St_rf hI.1)
  have t2 := t_X11_at (μs := μ) (hp_l1 := h0) (Sm_rf hI.2.1.1)
  obtain ⟨r, μ1, e1, g1, _⟩ := wp_ex t1
  obtain ⟨r2, μ2, e2, g2, _⟩ := wp_ex t2
  subst g1
  subst g2
  exact ⟨r, _, r2, _, e1, e2, hI⟩
theorem q_way : s_way Inv Inv := by
  intro a0 h0 a1 h1
  intro μ hI
  have t1 := t_X10_way (W := scr) (μs := μ) (hW := fun _ _ h => h) (hp_l1 := h0) (hp_l2 := h1) (St_rf hI.1)
  obtain ⟨r, μ1, e1, g1, _⟩ := wp_ex t1
  have hI1 := Inv_St hI g1
  have t2 := t_X11_way (μs := μ1) (hI := hI1.2.1) (hp_l1 := h0) (hp_l2 := h1) (Sm_rf hI1.2.1.1)
  obtain ⟨r2, μ2, e2, g2, _⟩ := wp_ex t2
  exact ⟨r, μ1, r2, μ2, e1, e2, Inv_Sm hI1 g2⟩
theorem q_cue : s_cue Inv Inv := by
  intro a0 h0 a1 h1 a2 h2
  intro μ hI
  have t1 := t_X10_cue (W := scr) (μs := μ) (hW := fun _ _ h => h) (hp_l1 := h0) (hp_l2 := h1) (hp_l3 := h2) (St_rf hI.1)
  obtain ⟨r, μ1, e1, g1, _⟩ := wp_ex t1
  have hI1 := Inv_St hI g1
  have t2 := t_X11_cue (μs := μ1) (hI := hI1.2.1) (hp_l1 := h0) (hp_l2 := h1) (hp_l3 := h2) (Sm_rf hI1.2.1.1)
  obtain ⟨r2, μ2, e2, g2, _⟩ := wp_ex t2
  exact ⟨r, μ1, r2, μ2, e1, e2, Inv_Sm hI1 g2⟩
theorem q_order : s_order Inv Inv := by
  intro a0 h0 a1 h1 a2 h2
  intro μ hI
  have t1 := t_X10_order (W := scr) (μs := μ) (hW := fun _ _ h => h) (hp_l1 := h0) (hp_l2 := h1) (hp_l3 := h2) (St_rf hI.1)
  obtain ⟨r, μ1, e1, g1, _⟩ := wp_ex t1
  have hI1 := Inv_St hI g1
  have t2 := t_X11_order (μs := μ1) (hI := hI1.2.1) (hp_l1 := h0) (hp_l2 := h1) (hp_l3 := h2) (Sm_rf hI1.2.1.1)
  obtain ⟨r2, μ2, e2, g2, _⟩ := wp_ex t2
  exact ⟨r, μ1, r2, μ2, e1, e2, Inv_Sm hI1 g2⟩
theorem q_done : s_done Inv Inv := by
  intro a0 h0 a1 h1 a2 h2 a3 h3
  intro μ hI
  have t1 := t_X10_done (W := scr) (μs := μ) (hW := fun _ _ h => h) (hp_l1 := h0) (hp_l2 := h1) (hp_l3 := h2) (hp_l4 := h3) (St_rf hI.1)
  obtain ⟨r, μ1, e1, g1, _⟩ := wp_ex t1
  have hI1 := Inv_St hI g1
  have t2 := t_X11_done (μs := μ1) (hI := hI1.2.1) (hp_l1 := h0) (hp_l2 := h1) (hp_l3 := h2) (hp_l4 := h3) (Sm_rf hI1.2.1.1)
  obtain ⟨r2, μ2, e2, g2, _⟩ := wp_ex t2
  exact ⟨r, μ1, r2, μ2, e1, e2, Inv_Sm hI1 g2⟩
theorem q_where : s_where Inv Inv := by
  intro a0 h0 a1 h1 a2 h2
  intro μ hI
  have t1 := t_X10_where (W := scr) (μs := μ) (hW := fun _ _ h => h) (hp_l1 := h0) (hp_l2 := h1) (hp_l3 := h2) (St_rf hI.1)
  obtain ⟨r, μ1, e1, g1, _⟩ := wp_ex t1
  have hI1 := Inv_St hI g1
  have t2 := t_X11_where (μs := μ1) (hI := hI1.2.1) (hp_l1 := h0) (hp_l2 := h1) (hp_l3 := h2) (Sm_rf hI1.2.1.1)
  obtain ⟨r2, μ2, e2, g2, _⟩ := wp_ex t2
  exact ⟨r, μ1, r2, μ2, e1, e2, Inv_Sm hI1 g2⟩
theorem q_best : s_best Inv Inv := by
  intro a0 h0 a1 h1 a2 h2
  intro μ hI
  have t1 := t_X10_best (W := scr) (μs := μ) (hW := fun _ _ h => h) (hp_l1 := h0) (hp_l2 := h1) (hp_l3 := h2) (St_rf hI.1)
  obtain ⟨r, μ1, e1, g1, _⟩ := wp_ex t1
  have hI1 := Inv_St hI g1
  have t2 := t_X11_best (μs := μ1) (hI := hI1.2.1) (hp_l1 := h0) (hp_l2 := h1) (hp_l3 := h2) (Sm_rf hI1.2.1.1)
  obtain ⟨r2, μ2, e2, g2, _⟩ := wp_ex t2
  exact ⟨r, μ1, r2, μ2, e1, e2, Inv_Sm hI1 g2⟩
theorem q_met : s_met Inv Inv := by
  intro a0 h0 a1 h1
  intro μ hI
  have t1 := t_X10_met (W := scr) (μs := μ) (hW := fun _ _ h => h) (hp_l1 := h0) (hp_l2 := h1) (St_rf hI.1)
  obtain ⟨r, μ1, e1, g1, _⟩ := wp_ex t1
  have hI1 := Inv_St hI g1
  have t2 := t_X11_met (μs := μ1) (hI := hI1.2.1) (hp_l1 := h0) (hp_l2 := h1) (Sm_rf hI1.2.1.1)
  obtain ⟨r2, μ2, e2, g2, _⟩ := wp_ex t2
  exact ⟨r, μ1, r2, μ2, e1, e2, Inv_Sm hI1 g2⟩
theorem q_knot : s_knot Inv Inv := by
  intro a0 h0
  intro μ hI
  have t1 := t_X10_knot (W := scr) (μs := μ) (hW := fun _ _ h => h) (hp_l1 := h0) (St_rf hI.1)
  obtain ⟨r, μ1, e1, g1, _⟩ := wp_ex t1
  have hI1 := Inv_St hI g1
  have t2 := t_X11_knot (μs := μ1) (hI := hI1.2.1) (hp_l1 := h0) (Sm_rf hI1.2.1.1)
  obtain ⟨r2, μ2, e2, g2, _⟩ := wp_ex t2
  exact ⟨r, μ1, r2, μ2, e1, e2, Inv_Sm hI1 g2⟩
theorem q_age : s_age Inv Inv := by
  intro a0 h0
  intro μ hI
  have t1 := t_X10_age (W := scr) (μs := μ) (hW := fun _ _ h => h) (hp_l1 := h0) (St_rf hI.1)
  obtain ⟨r, μ1, e1, g1, _⟩ := wp_ex t1
  have hI1 := Inv_St hI g1
  have t2 := t_X11_age (μs := μ1) (hI := hI1.2.1) (hp_l1 := h0) (Sm_rf hI1.2.1.1)
  obtain ⟨r2, μ2, e2, g2, _⟩ := wp_ex t2
  exact ⟨r, μ1, r2, μ2, e1, e2, Inv_Sm hI1 g2⟩
theorem q_first : s_first Inv Inv := by
  intro μ hI
  have t1 := t_X10_first (W := scr) (μs := μ) (hW := fun _ _ h => h) (St_rf hI.1)
  obtain ⟨r, μ1, e1, g1, _⟩ := wp_ex t1
  have hI1 := Inv_St hI g1
  have t2 := t_X11_first (μs := μ1) (hI := hI1.2.1) (Sm_rf hI1.2.1.1)
  obtain ⟨r2, μ2, e2, g2, _⟩ := wp_ex t2
  exact ⟨r, μ1, r2, μ2, e1, e2, Inv_Sm hI1 g2⟩
theorem q_post : s_post Inv Inv := by
  intro a0 h0 a1 h1
  intro μ hI
  have t1 := t_X10_post (W := scr) (μs := μ) (hW := fun _ _ h => h) (hp_l1 := h0) (hp_l2 := h1) (St_rf hI.1)
  obtain ⟨r, μ1, e1, g1, _⟩ := wp_ex t1
  have hI1 := Inv_St hI g1
  have t2 := t_X11_post (μs := μ1) (hI := hI1.2.1) (hp_l1 := h0) (hp_l2 := h1) (Sm_rf hI1.2.1.1)
  obtain ⟨r2, μ2, e2, g2, _⟩ := wp_ex t2
  exact ⟨r, μ1, r2, μ2, e1, e2, Inv_Sm hI1 g2⟩
theorem q_rope : s_rope Inv Inv := by
  intro a0 h0 a1 h1
  intro μ hI
  have t1 := t_X10_rope (W := scr) (μs := μ) (hW := fun _ _ h => h) (hp_l1 := h0) (hp_l2 := h1) (St_rf hI.1)
  obtain ⟨r, μ1, e1, g1, _⟩ := wp_ex t1
  have hI1 := Inv_St hI g1
  have t2 := t_X11_rope (μs := μ1) (hI := hI1.2.1) (hp_l1 := h0) (hp_l2 := h1) (Sm_rf hI1.2.1.1)
  obtain ⟨r2, μ2, e2, g2, _⟩ := wp_ex t2
  exact ⟨r, μ1, r2, μ2, e1, e2, Inv_Sm hI1 g2⟩
theorem q_exchange : s_exchange Inv Inv := by
  intro a0 h0 a1 h1 a2 h2
  intro μ hI
  have t1 := t_X10_exchange (W := scr) (μs := μ) (hW := fun _ _ h => h) (hp_l1 := h0) (hp_l2 := h1) (hp_l3 := h2) (St_rf hI.1)
  obtain ⟨r, μ1, e1, g1, _⟩ := wp_ex t1
  have hI1 := Inv_St hI g1
  have t2 := t_X11_exchange (μs := μ1) (hI := hI1.2.1) (hp_l1 := h0) (hp_l2 := h1) (hp_l3 := h2) (Sm_rf hI1.2.1.1)
  obtain ⟨r2, μ2, e2, g2, _⟩ := wp_ex t2
  exact ⟨r, μ1, r2, μ2, e1, e2, Inv_Sm hI1 g2⟩
theorem q_skip : s_skip Inv Inv := by
  intro a0 h0 a1 h1 a2 h2
  intro μ hI
  have t1 := t_X10_skip (W := scr) (μs := μ) (hW := fun _ _ h => h) (hp_l1 := h0) (hp_l2 := h1) (hp_l3 := h2) (St_rf hI.1)
  obtain ⟨r, μ1, e1, g1, _⟩ := wp_ex t1
  have hI1 := Inv_St hI g1
  have t2 := t_X11_skip (μs := μ1) (hI := hI1.2.1) (hp_l1 := h0) (hp_l2 := h1) (hp_l3 := h2) (Sm_rf hI1.2.1.1)
  obtain ⟨r2, μ2, e2, g2, _⟩ := wp_ex t2
  exact ⟨r, μ1, r2, μ2, e1, e2, Inv_Sm hI1 g2⟩
theorem q_nights : s_nights Inv Inv := by
  intro a0 h0 a1 h1 a2 h2
  intro μ hI
  have t1 := t_X10_nights (W := scr) (μs := μ) (hW := fun _ _ h => h) (hp_l1 := h0) (hp_l2 := h1) (hp_l3 := h2) (St_rf hI.1)
  obtain ⟨r, μ1, e1, g1, _⟩ := wp_ex t1
  have hI1 := Inv_St hI g1
  have t2 := t_X11_nights (μs := μ1) (hI := hI1.2.1) (hp_l1 := h0) (hp_l2 := h1) (hp_l3 := h2) (Sm_rf hI1.2.1.1)
  obtain ⟨r2, μ2, e2, g2, _⟩ := wp_ex t2
  exact ⟨r, μ1, r2, μ2, e1, e2, Inv_Sm hI1 g2⟩
theorem q_fit : s_fit Inv Inv := by
  intro a0 h0 a1 h1
  intro μ hI
  have t1 := t_X10_fit (W := scr) (μs := μ) (hW := fun _ _ h => h) (hp_l1 := h0) (hp_l2 := h1) (St_rf hI.1)
  obtain ⟨r, μ1, e1, g1, _⟩ := wp_ex t1
  have hI1 := Inv_St hI g1
  have t2 := t_X11_fit (μs := μ1) (hI := hI1.2.1) (hp_l1 := h0) (hp_l2 := h1) (Sm_rf hI1.2.1.1)
  obtain ⟨r2, μ2, e2, g2, _⟩ := wp_ex t2
  exact ⟨r, μ1, r2, μ2, e1, e2, Inv_Sm hI1 g2⟩
theorem q_boy : s_boy Inv Inv := by
  intro a0 h0 a1 h1 a2 h2 a3 h3
  intro μ hI
  have t1 := t_X10_boy (W := scr) (μs := μ) (hW := fun _ _ h => h) (hp_l1 := h0) (hp_l2 := h1) (hp_l3 := h2) (hp_l4 := h3) (St_rf hI.1)
  obtain ⟨r, μ1, e1, g1, _⟩ := wp_ex t1
  have hI1 := Inv_St hI g1
  have t2 := t_X11_boy (μs := μ1) (hI := hI1.2.1) (hp_l1 := h0) (hp_l2 := h1) (hp_l3 := h2) (hp_l4 := h3) (Sm_rf hI1.2.1.1)
  obtain ⟨r2, μ2, e2, g2, _⟩ := wp_ex t2
  exact ⟨r, μ1, r2, μ2, e1, e2, Inv_Sm hI1 g2⟩
theorem q_out : s_out Inv Inv := by
  intro a0 h0
  intro μ hI
  have t1 := t_X10_out (W := scr) (μs := μ) (hW := fun _ _ h => h) (hp_l1 := h0) (St_rf hI.1)
  obtain ⟨r, μ1, e1, g1, _⟩ := wp_ex t1
  have hI1 := Inv_St hI g1
  have t2 := t_X11_out (μs := μ1) (hI := hI1.2.1) (hp_l1 := h0) (Sm_rf hI1.2.1.1)
  obtain ⟨r2, μ2, e2, g2, _⟩ := wp_ex t2
  exact ⟨r, μ1, r2, μ2, e1, e2, Inv_Sm hI1 g2⟩
theorem q_walk : s_walk Inv Inv := by
  intro a0 h0 a1 h1 a2 h2
  intro μ hI
  have t1 := t_X10_walk (W := scr) (μs := μ) (hW := fun _ _ h => h) (hp_l1 := h0) (hp_l2 := h1) (hp_l3 := h2) (St_rf hI.1)
  obtain ⟨r, μ1, e1, g1, _⟩ := wp_ex t1
  have hI1 := Inv_St hI g1
  have t2 := t_X11_walk (μs := μ1) (hI := hI1.2.1) (hp_l1 := h0) (hp_l2 := h1) (hp_l3 := h2) (Sm_rf hI1.2.1.1)
  obtain ⟨r2, μ2, e2, g2, _⟩ := wp_ex t2
  exact ⟨r, μ1, r2, μ2, e1, e2, Inv_Sm hI1 g2⟩
theorem q_mend : s_mend Inv Inv := by
  intro a0 h0 a1 h1 a2 h2
  intro μ hI
  have t1 := t_X10_mend (W := scr) (μs := μ) (hW := fun _ _ h => h) (hp_l1 := h0) (hp_l2 := h1) (hp_l3 := h2) (St_rf hI.1)
  obtain ⟨r, μ1, e1, g1, _⟩ := wp_ex t1
  have hI1 := Inv_St hI g1
  have t2 := t_X11_mend (μs := μ1) (hI := hI1.2.1) (hp_l1 := h0) (hp_l2 := h1) (hp_l3 := h2) (Sm_rf hI1.2.1.1)
  obtain ⟨r2, μ2, e2, g2, _⟩ := wp_ex t2
  exact ⟨r, μ1, r2, μ2, e1, e2, Inv_Sm hI1 g2⟩
theorem q_slack : s_slack Inv Inv := by
  intro a0 h0 a1 h1
  intro μ hI
  have t1 := t_X10_slack (W := scr) (μs := μ) (hW := fun _ _ h => h) (hp_l1 := h0) (hp_l2 := h1) (St_rf hI.1)
  obtain ⟨r, μ1, e1, g1, _⟩ := wp_ex t1
  have hI1 := Inv_St hI g1
  have t2 := t_X11_slack (μs := μ1) (hI := hI1.2.1) (hp_l1 := h0) (hp_l2 := h1) (Sm_rf hI1.2.1.1)
  obtain ⟨r2, μ2, e2, g2, _⟩ := wp_ex t2
  exact ⟨r, μ1, r2, μ2, e1, e2, Inv_Sm hI1 g2⟩
theorem q_urgent : s_urgent Inv Inv := by
  intro a0 h0
  intro μ hI
  have t1 := t_X10_urgent (W := scr) (μs := μ) (hW := fun _ _ h => h) (hp_l1 := h0) (St_rf hI.1)
  obtain ⟨r, μ1, e1, g1, _⟩ := wp_ex t1
  have hI1 := Inv_St hI g1
  have t2 := t_X11_urgent (μs := μ1) (hI := hI1.2.1) (hp_l1 := h0) (Sm_rf hI1.2.1.1)
  obtain ⟨r2, μ2, e2, g2, _⟩ := wp_ex t2
  exact ⟨r, μ1, r2, μ2, e1, e2, Inv_Sm hI1 g2⟩
theorem q_dead : s_dead Inv Inv := by
  intro μ hI
  have t1 := t_X10_dead (W := scr) (μs := μ) (hW := fun _ _ h => h) (St_rf hI.1)
  obtain ⟨r, μ1, e1, g1, _⟩ := wp_ex t1
  have hI1 := Inv_St hI g1
  have t2 := t_X11_dead (μs := μ1) (hI := hI1.2.1) (Sm_rf hI1.2.1.1)
  obtain ⟨r2, μ2, e2, g2, _⟩ := wp_ex t2
  exact ⟨r, μ1, r2, μ2, e1, e2, Inv_Sm hI1 g2⟩
theorem q_pillar : s_pillar Inv Inv := by
  intro a0 h0 a1 h1
  intro μ hI
  have t1 := t_X10_pillar (W := scr) (μs := μ) (hW := fun _ _ h => h) (hp_l1 := h0) (hp_l2 := h1) (St_rf hI.1)
  obtain ⟨r, μ1, e1, g1, _⟩ := wp_ex t1
  have hI1 := Inv_St hI g1
  have t2 := t_X11_pillar (μs := μ1) (hI := hI1.2.1) (hp_l1 := h0) (hp_l2 := h1) (Sm_rf hI1.2.1.1)
  obtain ⟨r2, μ2, e2, g2, _⟩ := wp_ex t2
  exact ⟨r, μ1, r2, μ2, e1, e2, Inv_Sm hI1 g2⟩
theorem q_count : s_count Inv Inv := by
  intro a0 h0
  intro μ hI
  have t1 := t_X10_count (W := scr) (μs := μ) (hp_l1 := h0) (St_rf hI.1)
  have t2 := t_X11_count (μs := μ) (hp_l1 := h0) (Sm_rf hI.2.1.1)
  obtain ⟨r, μ1, e1, g1, _⟩ := wp_ex t1
  obtain ⟨r2, μ2, e2, g2, _⟩ := wp_ex t2
  subst g1
  subst g2
  exact ⟨r, _, r2, _, e1, e2, hI⟩
