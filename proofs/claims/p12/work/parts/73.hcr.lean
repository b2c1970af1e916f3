/-! HCr: the law's call of its own crank -/
theorem wsS_good : GoodIn tG (va_wsS R_law 37 yL_crank wsLc) := by
  have h : ([.methodLink R_law 37 yL_crank, .static yL_crank, .initialized yL_crank.cls, .initialized R_law, Cond.codeWith yL_crank cL_crank 4 (some .int) [(0, 9, 12, 13)]] : List Cond).all (fun w => decide (w ∈ lw_tbl) && goodWord w) = true := by decide +kernel
  intro w hw
  by_cases c : w ∈ tG
  · exact ⟨c, tG_good c⟩
  · have h2 : (decide (w ∈ lw_tbl) && goodWord w) = true := by
      refine List.all_eq_true.mp h w ?_
      simp only [va_wsS, List.mem_append, List.mem_cons, List.not_mem_nil, or_false] at hw ⊢
      rcases hw with hw | hw | hw
      · rcases hw with hw | hw | hw
        · exact Or.inl hw
        · exact Or.inr (Or.inl hw)
        · exact Or.inr (Or.inr (Or.inl hw))
      · exact Or.inr (Or.inr (Or.inr (Or.inr hw)))
      · exact absurd hw c
    simp only [Bool.and_eq_true, decide_eq_true_eq] at h2
    have h3 := tG_of h2.1 h2.2
    exact ⟨h3, tG_good h3⟩
theorem lays_U : Cond.laysStatic Bundle.tN "UNASSIGNED_STACK" Bundle.steD ∈ lw_tbl := by decide +kernel
theorem lays_N : Cond.laysStatic Bundle.tN "SUPPRESSED_SENTINEL" Bundle.listD ∈ lw_tbl := by decide +kernel
theorem init_T : Cond.initialized Bundle.tN ∈ lw_tbl := by decide +kernel
theorem str_173 : Cond.stringRef RX10 173 "no such crank" ∈ lw_tbl := by decide +kernel
set_option maxHeartbeats 1000000 in
theorem hCr : HCr := by
  intro L sc ls μ μ1 v k n a w hpl hk hn k1 k2
  intro p l e s m below meth c b xs H locs dC dI D cL ad ls' X hxs hH hL hS hn7 hl hs
  obtain ⟨⟨hx, hb, hr', hml, hown, hts, hX, hbl, hlk, hgv⟩, hfl, hK, hP, had, hab⟩ := id X
  have hlT : l.stackTraces = false := by unfold Launch.stackTraces; rw [hfl]; decide +kernel
  have hts' : ∀ w ∈ tG, w.before #[Value.ref b] s = true := fun w hw => hts w (List.mem_filter.mp hw).1
  have hfg := flat_of_before _ hgv
  have hex : (Cond.exactly (.string RX10 173) "java/lang/String").before #[Value.ref b] s = true := hfg _ (by decide +kernel)
  obtain ⟨sa, c1, ce1, kk1, q1, -⟩ := Cond.exactly_spec (args := #[Value.ref b]) (first := s) (o := none) (s := s) (idx := []) hex
  have hstr : vk_R RX10 173 "no such crank" sa s := vk_R.of (A := #[Value.ref b]) (hts _ str_173) q1
  have hZ0 : tnZ (fun q : Nat => s.heap.size ≤ q) s s.heap := ⟨vx_Zqof (hts _ lays_U) (hts _ init_T) (hfg _ (by decide +kernel)) (fun a h1 h2 => absurd h1 (Nat.not_lt.mpr h2)), vx_Zqof (hts _ lays_N) (hts _ init_T) (hfg _ (by decide +kernel)) (fun a h1 h2 => absurd h1 (Nat.not_lt.mpr h2))⟩
  have hZ : tnZ (fun q : Nat => s.heap.size ≤ q) s H := hZ0.kept hS.2.1
  have hB : nsB s := nsB.of (A := #[Value.ref b]) (fun w hw => hts w (nsW4_tbl w hw))
  have hA : ∀ q, A2 ad H.size q → s.heap.size ≤ q := by
    rintro q ((⟨j, h1, rfl⟩ | h) | rfl)
    · exact had j h1
    · exact Nat.le_trans hS.1 h
    · exact hL.2.2
  have ha : rI a := ok_h (ok_t hs)
  refine va_calli (A0 := fun q : Nat => s.heap.size ≤ q) (A1 := A2 ad H.size) (rest := [])
    (vx_runSW (As := [.ref (ad 0), .int (Int32.ofInt a), .ref (ad 98)]) (nL := 7) (n := 3) ⟨hx, hb, hml, hown, hts'⟩ (cr_L (sz := H.size) (sa := sa) (v := v) (dC := dC) (dI := dI) (D := D) (cL := cL) hlT hP hpl)
      (vx_cwSW (Ts := tG) (ws' := tG) 3 hts' wsS_good rfl rfl rfl ⟨by decide, by decide, by decide +kernel⟩ ⟨by decide, by decide⟩)
      ⟨pY_blind, fun U hU hW => ⟨rfl, by rw [hU], by rw [hU]; exact hH, by rw [hU]; exact ⟨hL.1, hL.2.1⟩, va_K.moved hW.alike hK, nS_warm hW (nS_tbl hts), ha, vk_R.warm hW hstr, by rw [hU]; exact (tnZ.moved hW.alike hZ).narrow hA, hB.moved hW.alike⟩⟩
      rfl rfl (hl.1.trans hn7) rfl (by show 2 * 0 + 0 ≤ 8; omega) dL_law_364 ⟨by show k + 1 ≤ 601024; omega, by show n + 6 ≤ 7293034; omega⟩)
    hS (fun q _ h => hA q h) hA (fun r u t H1 locs1 ht hvm hpost hb1 hsz hk1 hS1 => ?_)
  obtain ⟨hO1, hC1⟩ := hb1
  rw [ht] at hO1 hC1
  refine W.widen (k := k + 1) (n := n + 10) (Nat.le_refl _) (by omega) ?_
  by_cases hw : w = -1
  · rw [if_pos hw] at hpost hC1
    subst hpost
    exact k1 v hw p l e s m below meth c b xs H1 locs1 dC dI D cL ad ls' X hxs hO1 ⟨hC1.1, hL.2⟩ hS1 hn7 hl (ok_c (by show rI 1; unfold rI; omega) (fun _ h => nomatch h))
  · rw [if_neg hw] at hpost hC1
    subst hpost
    exact k2 hw p l e s m below meth c b xs H1 locs1 dC dI D cL ad ls' X hxs hO1 ⟨hC1.1, hL.2⟩ hS1 hn7 hl (ok_c (by show rI 0; unfold rI; omega) (fun _ h => nomatch h))
