/-! CRANK -/
theorem cr_70 {μ : Mm} (hI : Inv μ) {v : Int} (hv : rI v) : Inv (sM μ 70 0 v) := by
  have e : ∀ k j, ¬ (k = 70 ∧ j = 0) → sM μ 70 0 v k j = μ k j := fun k j h => by unfold sM; rw [if_neg h]
  exact Inv_congr hI (Bx_congr hI.1 (fun k j h => e k j (by omega))) (Ir_congr hI.2.1 (Bm_sM hI.2.1.1 hv) (fun k j h => e k j (by unfold perI at h; omega))) (fun k j h => e k j (by unfold kep at h; omega))
theorem m_crank {a : Int} (ha : rI a) {μ : Mm} (hI : Inv μ) : ∃ w b μ2, X0_placeOf 5 a μ = some (w, μ) ∧ X11_crank a μ = some (b, μ2) ∧ Inv μ2 ∧ (w = -1 → μ2 70 0 = 1) ∧ (w ≠ -1 → μ2 70 0 = 0 ∧ b = w) ∧ rI w ∧ rI b := by
  obtain ⟨w, e0, hw⟩ := crk hI ha
  have hc := crk_m (μ := μ) (ν := μ) (fun k j _ => rfl) ha hw
  by_cases c1 : w = -1
  · refine ⟨w, 0, sM μ 70 0 1, e0, ?_, cr_70 hI (by unfold rI; omega), fun _ => sM_s _ _ _ _, fun h => absurd c1 h, by rw [c1]; exact ⟨by decide, by decide⟩, ⟨by decide, by decide⟩⟩
    unfold X11_crank
    rw [hc, bd_some, if_pos (by rw [if_pos c1])]
    unfold X11_crank_J14 sF
    dsimp only
    rw [if_pos (sM_s _ _ _ _)]
  · rcases hw with ⟨h, _⟩ | ⟨ha0, ha7, p, hp, ip, ep, ew, _⟩
    · exact absurd h c1
    · have hI2 : Inv (sM μ 70 0 0) := cr_70 hI (by unfold rI; omega)
      refine ⟨w, w, sM μ 70 0 0, e0, ?_, hI2, fun h => absurd h c1, fun _ => ⟨sM_s _ _ _ _, rfl⟩, by rw [ew]; exact ⟨by omega, by omega⟩, by rw [ew]; exact ⟨by omega, by omega⟩⟩
      unfold X11_crank
      rw [hc, bd_some, if_neg (by rw [if_neg c1]; decide)]
      unfold X11_crank_J14 sF
      have i1 : iA 3 a = 3 + a := iA_id (by omega) (by omega)
      have ip2 : isP (sM μ 70 0 0) p := (isP_congr (sM_j (by decide)) (sM_j (by decide)) p).mpr ip
      dsimp only
      rw [if_neg (by rw [sM_s]; decide), i1, plc_at hI2.2.1.2.2.2.2.2.2.1 hp ip2 (by rw [sM_a (by decide)]; exact ep) (by omega), bd_some, ew]
