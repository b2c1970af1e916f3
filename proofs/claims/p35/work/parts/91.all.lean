/-! ALL CALLS keep what is kept -/
theorem sC_I : sC Inv Inv := by
  intro a ha μ hI
  obtain ⟨w, b, μ2, e1, e2, h2, _⟩ := m_crank ha hI
  exact ⟨w, μ, b, μ2, e1, e2, h2⟩
theorem sAll_I : sAll Inv Inv := ⟨fun _ h => h, sC_I, (fun a0 h0 a1 h1 a2 h2 a3 h3 a4 h4 => sD_I (m_feed a0 h0 a1 h1 a2 h2 a3 h3 a4 h4)), (fun a0 h0 => sD_I (m_end a0 h0)), d_fault, (fun a0 h0 => sD_I (m_text a0 h0)), (fun a0 h0 => sD_I (m_at a0 h0)), (fun a0 h0 a1 h1 => sD_I (m_way a0 h0 a1 h1)), (fun a0 h0 a1 h1 a2 h2 => sD_I (m_cue a0 h0 a1 h1 a2 h2)), (fun a0 h0 a1 h1 => sD_I (m_set a0 h0 a1 h1)), (fun a0 h0 a1 h1 => sD_I (m_wind a0 h0 a1 h1)), (fun a0 h0 a1 h1 => sD_I (m_swap a0 h0 a1 h1)), (fun a0 h0 => sD_I (m_knock a0 h0)), q_order, q_done, q_where, q_best, q_met, q_knot, q_age, q_first, q_post, q_rope, q_exchange, q_skip, q_nights, (fun a0 h0 a1 h1 => sD_I (m_thud a0 h0 a1 h1)), q_fit, q_boy, (fun a0 h0 => sD_I (m_out a0 h0)), q_walk, q_mend, q_slack, q_urgent, m_dead, q_pillar, (sD_I (m_image)), (sD_I (m_back)), (fun a0 h0 => sD_I (m_count a0 h0))⟩
