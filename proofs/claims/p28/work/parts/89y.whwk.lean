/-! WHERE and WALK -/
section WW
variable {m : Nat} {B : Nat → Nat → Int} {T Wd : Nat → Int} {cr : Nat → Nat} {S : Int} {ord a c : Int} {ν ξ : Mm}
theorem whereL (hJ : JOK m B T Wd S) (hP : PO m ord) (hC : JobC 48 ν m B T Wd cr S) (h3 : ν 58 3 = (m : Int)) (h59 : ∀ k, k < m → ν 59 k = ((dgN m ord k : Nat) : Int)) (hR : RunC ν m B T Wd S (dgN m ord) m) (h37 : ξ 70 37 = (m : Int)) (hM : RunM ξ m B T Wd S (dgN m ord) m) : ∀ (r i : Nat), i + r = m → (∃ q, q < m ∧ (∀ K fuel, r < fuel → X5_crankAt_L2 48 c K fuel (i : Int) ν = some (((cr q : Nat) : Int), ν)) ∧ (∀ K1 K2 fuel, r < fuel → X11_where_L33 a ord c K1 K2 fuel (i : Int) ξ = K2 ((q : Nat) : Int) ξ)) ∨ ((∀ K fuel, r < fuel → X5_crankAt_L2 48 c K fuel (i : Int) ν = K ν) ∧ (∀ K1 K2 fuel, r < fuel → X11_where_L33 a ord c K1 K2 fuel (i : Int) ξ = K1 ξ)) := by
  have hm8 := hJ.2.1
  have h8 : (10 : Int) ^ m ≤ 100000000 := p10_mono (b := 8) (by omega)
  have hord : 0 ≤ ord ∧ ord ≤ 2147483647 := ⟨hP.1, by have := hP.2.1; omega⟩
  intro r
  induction r with
  | zero =>
    intro i hr
    refine Or.inr ⟨fun K fuel hf => ?_, fun K1 K2 fuel hf => ?_⟩
    · obtain ⟨g, rfl, _⟩ := lt_fuel hf
      show (if (ν 58 3) ≤ (i : Int) then _ else _) = _
      rw [h3, if_pos (by omega)]
    · obtain ⟨g, rfl, _⟩ := lt_fuel hf
      show (if (ξ 70 37) ≤ (i : Int) then _ else _) = _
      rw [h37, if_pos (by omega)]
  | succ r ih =>
    intro i hr
    have him : i < m := by omega
    obtain ⟨q, hq⟩ : ∃ q, q = dgN m ord i := ⟨_, rfl⟩
    have hqm : q < m := by rw [hq]; exact hP.2.2.1 i him
    obtain ⟨x, hx⟩ : ∃ x, x = rc m B T Wd S (dgN m ord) i := ⟨_, rfl⟩
    obtain ⟨y, hy⟩ : ∃ y, y = rt m B T Wd S (dgN m ord) (i + 1) := ⟨_, rfl⟩
    have z60 : ν 60 q = x := by rw [hq, hx]; exact (hR.2.2.2.2.2.2 i him).1
    have z61 : ν 61 q = y := by rw [hq, hy]; exact (hR.2.2.2.2.2.2 i him).2
    have m91 : ξ 91 q = x := by rw [hq, hx]; exact (hM i him).1
    have m92 : ξ 92 q = y := by rw [hq, hy]; exact (hM i him).2
    have hcrq : ν 49 q = ((cr q : Nat) : Int) := (hC.2.2.1 q hqm).1
    have hq8 : (0 : Int) ≤ ((q : Nat) : Int) ∧ ((q : Nat) : Int) < 8 := by omega
    have eC : ∀ K g, X5_crankAt_L2 48 c K (g + 1) (i : Int) ν = if c < x then X5_crankAt_L2 48 c K g ((i + 1 : Nat) : Int) ν else if y < c then X5_crankAt_L2 48 c K g ((i + 1 : Nat) : Int) ν else some (((cr q : Nat) : Int), ν) := by
      intro K g
      show (if (ν 58 3) ≤ (i : Int) then _ else _) = _
      rw [h3, if_neg (by omega), if_neg (by omega)]
      unfold ldA
      rw [if_pos (by show (0 : Int) ≤ (i : Int) ∧ (i : Int) < 8; omega), Int.toNat_natCast, h59 i him, ← hq]
      try dsimp only
      rw [if_pos (by exact hq8), Int.toNat_natCast, z60, iA_nat (by omega)]
      try dsimp only
      by_cases c1 : c < x
      · rw [if_pos c1, if_pos c1]
      · rw [if_neg c1, if_neg c1, if_pos (by exact hq8), z61]
        try dsimp only
        by_cases c2 : y < c
        · rw [if_pos c2, if_pos c2]
        · rw [if_neg c2, if_neg c2, if_pos (by exact hq8), hcrq]
    have eM : ∀ K1 K2 g, X11_where_L33 a ord c K1 K2 (g + 1) (i : Int) ξ = if c < x then X11_where_L33 a ord c K1 K2 g ((i + 1 : Nat) : Int) ξ else if y < c then X11_where_L33 a ord c K1 K2 g ((i + 1 : Nat) : Int) ξ else K2 ((q : Nat) : Int) ξ := by
      intro K1 K2 g
      show (if (ξ 70 37) ≤ (i : Int) then _ else _) = _
      rw [h37, if_neg (by omega), nthM hm8 hord him h37, bd_some, ← hq]
      unfold ldA
      rw [if_pos (by exact hq8), Int.toNat_natCast]
      try dsimp only
      rw [if_pos (by exact hq8), m91, m92, iA_nat (by omega)]
      unfold X11_in
      by_cases c1 : c < x
      · rw [if_pos c1, if_pos c1, bd_some, if_pos rfl]
      · rw [if_neg c1, if_neg c1]
        by_cases c2 : y < c
        · rw [if_pos c2, if_pos c2, bd_some, if_pos rfl]
        · rw [if_neg c2, if_neg c2, bd_some, if_neg (by decide)]
    by_cases c1 : c < x
    · rcases ih (i + 1) (by omega) with ⟨q', hq', w1, w2⟩ | ⟨w1, w2⟩
      · refine Or.inl ⟨q', hq', fun K fuel hf => ?_, fun K1 K2 fuel hf => ?_⟩
        · obtain ⟨g, rfl, _⟩ := lt_fuel hf
          rw [eC, if_pos c1]; exact w1 K g (by omega)
        · obtain ⟨g, rfl, _⟩ := lt_fuel hf
          rw [eM, if_pos c1]; exact w2 K1 K2 g (by omega)
      · refine Or.inr ⟨fun K fuel hf => ?_, fun K1 K2 fuel hf => ?_⟩
        · obtain ⟨g, rfl, _⟩ := lt_fuel hf
          rw [eC, if_pos c1]; exact w1 K g (by omega)
        · obtain ⟨g, rfl, _⟩ := lt_fuel hf
          rw [eM, if_pos c1]; exact w2 K1 K2 g (by omega)
    · by_cases c2 : y < c
      · rcases ih (i + 1) (by omega) with ⟨q', hq', w1, w2⟩ | ⟨w1, w2⟩
        · refine Or.inl ⟨q', hq', fun K fuel hf => ?_, fun K1 K2 fuel hf => ?_⟩
          · obtain ⟨g, rfl, _⟩ := lt_fuel hf
            rw [eC, if_neg c1, if_pos c2]; exact w1 K g (by omega)
          · obtain ⟨g, rfl, _⟩ := lt_fuel hf
            rw [eM, if_neg c1, if_pos c2]; exact w2 K1 K2 g (by omega)
        · refine Or.inr ⟨fun K fuel hf => ?_, fun K1 K2 fuel hf => ?_⟩
          · obtain ⟨g, rfl, _⟩ := lt_fuel hf
            rw [eC, if_neg c1, if_pos c2]; exact w1 K g (by omega)
          · obtain ⟨g, rfl, _⟩ := lt_fuel hf
            rw [eM, if_neg c1, if_pos c2]; exact w2 K1 K2 g (by omega)
      · refine Or.inl ⟨q, hqm, fun K fuel hf => ?_, fun K1 K2 fuel hf => ?_⟩
        · obtain ⟨g, rfl, _⟩ := lt_fuel hf
          rw [eC, if_neg c1, if_neg c2]
        · obtain ⟨g, rfl, _⟩ := lt_fuel hf
          rw [eM, if_neg c1, if_neg c2]
theorem walkL (hJ : JOK m B T Wd S) (hP : PO m ord) (hF : feas m B (dgN m ord) m) (hM : JobM ξ m B T Wd S) (hR : RunM ξ m B T Wd S (dgN m ord) m) {K : Int → Int → Mm → Rs} : ∀ (r i fuel : Nat), i + r = m → r < fuel → X11_walk_L50 ord c K fuel ((frO m (dgN m ord) i : Nat) : Int) (sK (wyK m B (dgN m ord)) i) (sK (idK m B T Wd S (dgN m ord)) i) (i : Int) ξ = K (sK (wyK m B (dgN m ord)) m) (sK (idK m B T Wd S (dgN m ord)) m) ξ := by
  have hm8 := hJ.2.1
  have h8 : (10 : Int) ^ m ≤ 100000000 := p10_mono (b := 8) (by omega)
  have hord : 0 ≤ ord ∧ ord ≤ 2147483647 := ⟨hP.1, by have := hP.2.1; omega⟩
  have ho := hP.2.2.1
  intro r
  induction r with
  | zero =>
    intro i fuel hr hf
    obtain ⟨g, rfl, _⟩ := lt_fuel hf
    have e : i = m := by omega
    show (if (ξ 70 37) ≤ (i : Int) then _ else _) = _
    rw [hM.1, if_pos (by omega), e]
  | succ r ih =>
    intro i fuel hr hf
    obtain ⟨g, rfl, _⟩ := lt_fuel hf
    have him : i < m := by omega
    have hoi := ho i him
    have hfr := fr_le ho him
    have e89 : ξ 89 (8 * frO m (dgN m ord) i + dgN m ord i) = B (frO m (dgN m ord) i) (dgN m ord i) := hM.2.2.2 _ _ hfr hoi
    have hw := way_b hJ ho him (hF i him)
    have hl := laK_b hJ hm8 ho him (fun k hk => hF k (by omega))
    have hs8 := sK_b (f := wyK m B (dgN m ord)) (c := 59) (by decide) i (fun j hj => by
      have := way_b hJ ho (k := j) (by omega) (hF j (by omega))
      exact ⟨this.1, this.2.1⟩)
    have hs9 := sK_b (f := idK m B T Wd S (dgN m ord)) (c := 6000) (by decide) i (fun j hj => (laK_b hJ hm8 ho (k := j) (by omega) (fun x hx => hF x (by omega))).2)
    have hrt := rt_b hJ ho i (by omega) (fun j hj => hF j (by omega))
    have hrt1 := rt_b hJ ho (i + 1) (by omega) (fun j hj => hF j (by omega))
    have hW := hJ.2.2.2.2.2 _ hoi
    have hrc : rc m B T Wd S (dgN m ord) i = rt m B T Wd S (dgN m ord) i + B (frO m (dgN m ord) i) (dgN m ord i) * S := rfl
    have a8 : iA (sK (wyK m B (dgN m ord)) i) (B (frO m (dgN m ord) i) (dgN m ord i)) = sK (wyK m B (dgN m ord)) (i + 1) := iA_id (by omega) (by omega)
    have hid : rt m B T Wd S (dgN m ord) (i + 1) - rc m B T Wd S (dgN m ord) i - Wd (dgN m ord i) = idK m B T Wd S (dgN m ord) i := by
      unfold idK; omega
    have a9 : iA (sK (idK m B T Wd S (dgN m ord)) i) (iS (iS (rt m B T Wd S (dgN m ord) (i + 1)) (rc m B T Wd S (dgN m ord) i)) (Wd (dgN m ord i))) = sK (idK m B T Wd S (dgN m ord)) (i + 1) := by
      rw [iS_id (a := rt m B T Wd S (dgN m ord) (i + 1)) (by omega) (by omega), iS_id (by omega) (by omega), hid]
      exact iA_id (by omega) (by omega)
    have e0 : X11_walk_L50 ord c K (g + 1) ((frO m (dgN m ord) i : Nat) : Int) (sK (wyK m B (dgN m ord)) i) (sK (idK m B T Wd S (dgN m ord)) i) (i : Int) ξ = X11_walk_L50 ord c K g ((dgN m ord i : Nat) : Int) (sK (wyK m B (dgN m ord)) (i + 1)) (sK (idK m B T Wd S (dgN m ord)) (i + 1)) ((i + 1 : Nat) : Int) ξ := by
      show (if (ξ 70 37) ≤ (i : Int) then _ else _) = _
      rw [hM.1, if_neg (by omega), nthM hm8 hord him hM.1, bd_some, off8 (by omega) (by omega)]
      unfold ldA lt_
      try dsimp only
      rw [if_pos (by show (0 : Int) ≤ ((8 * frO m (dgN m ord) i + dgN m ord i : Nat) : Int) ∧ ((8 * frO m (dgN m ord) i + dgN m ord i : Nat) : Int) < 72; omega), Int.toNat_natCast, e89]
      try dsimp only
      rw [if_pos (by show (0 : Int) ≤ ((dgN m ord i : Nat) : Int) ∧ ((dgN m ord i : Nat) : Int) < 8; omega), Int.toNat_natCast]
      try dsimp only
      rw [if_pos (by show (0 : Int) ≤ ((dgN m ord i : Nat) : Int) ∧ ((dgN m ord i : Nat) : Int) < 8; omega)]
      try dsimp only
      rw [if_pos (by show (0 : Int) ≤ ((dgN m ord i : Nat) : Int) ∧ ((dgN m ord i : Nat) : Int) < 8; omega)]
      try dsimp only
      rw [(hR i him).1, (hR i him).2, (hM.2.2.1 _ hoi).2, a8, a9, iA_nat (by omega)]
    rw [e0]
    exact ih (i + 1) g (by omega) (by omega)
end WW
theorem m_where : ∀ a0, rI a0 → ∀ a1, rI a1 → ∀ a2, rI a2 → sI Inv Inv (X10_where a0 a1 a2) (X11_where a0 a1 a2) := by
  intro a ha b hb c hc μ hI
  have no : ∀ ν, Inv ν → (RefNo a b ν ∨ (RefAny a b ν ∧ c < 0)) → ∃ μ2, X11_where a b c ν = some (-1, μ2) ∧ Inv μ2 := by
    intro ν hν h
    have base : RefNo a b ν → ∃ μ2, X11_where a b c ν = some (-1, μ2) ∧ Inv μ2 := by
      intro h
      rcases h with h | ⟨ξ, h1, h2, h | ⟨h3, ξ', h4, h5⟩⟩
      · exact ⟨ν, by unfold X11_where; rw [h, bd_some, if_pos rfl], hν⟩
      · exact ⟨ξ, by unfold X11_where; rw [h1, bd_some, if_neg (by decide), h, bd_some, if_pos rfl], Inv_Sm hν h2⟩
      · by_cases cc : c < 0
        · exact ⟨ξ, by unfold X11_where; rw [h1, bd_some, if_neg (by decide), h3, bd_some, if_neg (by decide), if_pos cc], Inv_Sm hν h2⟩
        · exact ⟨ξ', by unfold X11_where; rw [h1, bd_some, if_neg (by decide), h3, bd_some, if_neg (by decide), if_neg cc, h4, bd_some, if_pos rfl], Inv_Sm hν h5⟩
    rcases h with h | ⟨h | ⟨ξ, ξ', h1, h2, h3, h4, h5⟩, cc⟩
    · exact base h
    · exact base h
    · exact ⟨ξ, by unfold X11_where; rw [h1, bd_some, if_neg (by decide), h3, bd_some, if_neg (by decide), if_pos cc], Inv_Sm hν h2⟩
  by_cases cc : c < 0
  · obtain ⟨μ2, e2, h2⟩ := no μ hI (Or.inr ⟨refAny hI ha hb, cc⟩)
    exact ⟨-1, μ, μ2, by unfold X10_where; rw [if_pos cc], e2, h2⟩
  · rcases runs2 hI ha hb with ⟨ν, r1, g1, g2⟩ | ⟨ν, m, p, B, T, Wd, cr, S, hap, hp4, hP, hJ, hF, r1, g1, hCJ, h583, h59, hR, hcr, g2⟩
    · have hI1 := Inv_St hI g1
      obtain ⟨μ2, e2, h2⟩ := no ν hI1 (Or.inl (g2 ν hI1 (St_same g1)))
      refine ⟨-1, ν, μ2, ?_, e2, h2⟩
      unfold X10_where
      rw [if_neg cc, r1, bd_some, if_pos rfl]
    · have hI1 := Inv_St hI g1
      have hm8 := hJ.2.1
      obtain ⟨ξ, ξ', y1, y2, y3, y4, y5, y6, y7, y8⟩ := g2 ν hI1 (St_same g1)
      have h83 : ∀ k, k < m → ξ' 83 (8 * p + k) = ((cr k : Nat) : Int) := fun k hk => by
        rw [y6.2 83 _ (by unfold scrM; omega), (St_same g1) 83 _ (by unfold scr; omega)]; exact (hcr k hk).2
      have R1 : X10_where a b c μ = bd (X5_crankAt 48 c ν) fun v6 μ7 => some (v6, μ7) := by
        unfold X10_where
        rw [if_neg cc, r1, bd_some, if_neg (by decide)]
      have R2 : X11_where a b c ν = X11_where_L33 a b c (fun μ26 => ldA μ26 92 (iR b 10) fun v27 => if c ≤ v27 then (some (8, μ26)) else (some (9, μ26))) (fun v30 μ31 => ldA μ31 83 (iA (iM 8 a) v30) fun v32 => some (v32, μ31)) FU 0 ξ' := by
        unfold X11_where
        rw [y1, bd_some, if_neg (by decide), y4, bd_some, if_neg (by decide), if_neg cc, y5, bd_some, if_neg (by decide)]
      rcases whereL (a := a) (c := c) hJ hP hCJ h583 h59 hR y7.1 y8 m 0 (by omega) with ⟨q, hq, w1, w2⟩ | ⟨w1, w2⟩
      · have w1' : ∀ K, X5_crankAt_L2 48 c K FU 0 ν = some (((cr q : Nat) : Int), ν) := fun K => w1 K FU (by show m < 1000000; omega)
        have w2' : ∀ K1 K2, X11_where_L33 a b c K1 K2 FU 0 ξ' = K2 ((q : Nat) : Int) ξ' := fun K1 K2 => w2 K1 K2 FU (by show m < 1000000; omega)
        refine ⟨((cr q : Nat) : Int), ν, ξ', ?_, ?_, Inv_Sm hI1 y6⟩
        · rw [R1]
          unfold X5_crankAt
          rw [w1', bd_some]
        · rw [R2, w2', hap, off8 (by omega) (by omega)]
          unfold ldA
          rw [if_pos (by show (0 : Int) ≤ ((8 * p + q : Nat) : Int) ∧ ((8 * p + q : Nat) : Int) < 48; omega), Int.toNat_natCast, h83 q hq]
          try dsimp only
      · have w1' : ∀ K, X5_crankAt_L2 48 c K FU 0 ν = K ν := fun K => w1 K FU (by show m < 1000000; omega)
        have w2' : ∀ K1 K2, X11_where_L33 a b c K1 K2 FU 0 ξ' = K1 ξ' := fun K1 K2 => w2 K1 K2 FU (by show m < 1000000; omega)
        have h8 : (10 : Int) ^ m ≤ 100000000 := p10_mono (b := 8) (by omega)
        have hm1 := hJ.1
        have e10 : iR b 10 = ((dgN m b (m - 1) : Nat) : Int) := by
          rw [iR_id hP.1 (by have := hP.2.1; omega) (by decide)]
          have z := dgN_e (m := m) (o := b) (k := m - 1)
          have z0 : m - 1 - (m - 1) = 0 := by omega
          rw [z0, Int.pow_zero, Int.ediv_one] at z
          exact z
        have hlt := hP.2.2.1 (m - 1) (by omega)
        have h92 : ξ' 92 (dgN m b (m - 1)) = rt m B T Wd S (dgN m b) m := by
          have z := (y8 (m - 1) (by omega)).2
          have z1 : m - 1 + 1 = m := by omega
          rw [z1] at z
          exact z
        refine ⟨if c ≤ rt m B T Wd S (dgN m b) m then 8 else 9, ν, ξ', ?_, ?_, Inv_Sm hI1 y6⟩
        · rw [R1]
          unfold X5_crankAt
          rw [w1']
          try dsimp only
          rw [hR.1]
          by_cases c8 : c ≤ rt m B T Wd S (dgN m b) m
          · rw [if_pos c8, if_pos c8, bd_some]
          · rw [if_neg c8, if_neg c8, bd_some]
        · rw [R2, w2']
          try dsimp only
          rw [e10]
          unfold ldA
          rw [if_pos (by show (0 : Int) ≤ ((dgN m b (m - 1) : Nat) : Int) ∧ ((dgN m b (m - 1) : Nat) : Int) < 8; omega), Int.toNat_natCast, h92]
          try dsimp only
          by_cases c8 : c ≤ rt m B T Wd S (dgN m b) m
          · rw [if_pos c8, if_pos c8]
          · rw [if_neg c8, if_neg c8]
theorem m_walk : ∀ a0, rI a0 → ∀ a1, rI a1 → ∀ a2, rI a2 → sI Inv Inv (X10_walk a0 a1 a2) (X11_walk a0 a1 a2) := by
  intro a ha b hb c hc μ hI
  have no : ∀ ν, Inv ν → (RefNo a b ν ∨ (RefAny a b ν ∧ ¬ (0 ≤ c ∧ c ≤ 1))) → ∃ μ2, X11_walk a b c ν = some (-1, μ2) ∧ Inv μ2 := by
    intro ν hν h
    have base : RefNo a b ν → ∃ μ2, X11_walk a b c ν = some (-1, μ2) ∧ Inv μ2 := by
      intro h
      rcases h with h | ⟨ξ, h1, h2, h | ⟨h3, ξ', h4, h5⟩⟩
      · exact ⟨ν, by unfold X11_walk; rw [h, bd_some, if_pos rfl], hν⟩
      · exact ⟨ξ, by unfold X11_walk; rw [h1, bd_some, if_neg (by decide), h, bd_some, if_pos rfl], Inv_Sm hν h2⟩
      · by_cases cc : 0 ≤ c ∧ c ≤ 1
        · exact ⟨ξ', by unfold X11_walk; rw [h1, bd_some, if_neg (by decide), h3, bd_some, if_neg (by decide), in_rg _ cc, bd_some, if_neg (by decide), h4, bd_some, if_pos rfl], Inv_Sm hν h5⟩
        · exact ⟨ξ, by unfold X11_walk; rw [h1, bd_some, if_neg (by decide), h3, bd_some, if_neg (by decide), in_no _ cc, bd_some, if_pos rfl], Inv_Sm hν h2⟩
    rcases h with h | ⟨h | ⟨ξ, ξ', h1, h2, h3, h4, h5⟩, cc⟩
    · exact base h
    · exact base h
    · exact ⟨ξ, by unfold X11_walk; rw [h1, bd_some, if_neg (by decide), h3, bd_some, if_neg (by decide), in_no _ cc, bd_some, if_pos rfl], Inv_Sm hν h2⟩
  by_cases cc : 0 ≤ c ∧ c ≤ 1
  · have hh : X10_isHalf c μ = some (1, μ) := by
      unfold X10_isHalf
      by_cases c0 : c = 0
      · rw [if_pos c0]
      · rw [if_neg c0, if_pos (by omega)]
    rcases runs2 hI ha hb with ⟨ν, r1, g1, g2⟩ | ⟨ν, m, p, B, T, Wd, cr, S, hap, hp4, hP, hJ, hF, r1, g1, hCJ, h583, h59, hR, hcr, g2⟩
    · have hI1 := Inv_St hI g1
      obtain ⟨μ2, e2, h2⟩ := no ν hI1 (Or.inl (g2 ν hI1 (St_same g1)))
      refine ⟨-1, ν, μ2, ?_, e2, h2⟩
      unfold X10_walk
      rw [hh, bd_some, if_neg (by decide), r1, bd_some, if_pos rfl]
    · have hI1 := Inv_St hI g1
      obtain ⟨ξ, ξ', y1, y2, y3, y4, y5, y6, y7, y8⟩ := g2 ν hI1 (St_same g1)
      have w := fun K => walkL (c := c) (K := K) hJ hP hF y7 y8 m 0 FU (by omega) (by show m < 1000000; have := hJ.2.1; omega)
      have w' : ∀ K, X11_walk_L50 b c K FU (m : Int) 0 0 0 ξ' = K (sK (wyK m B (dgN m b)) m) (sK (idK m B T Wd S (dgN m b)) m) ξ' := w
      refine ⟨if c = 0 then sK (wyK m B (dgN m b)) m else sK (idK m B T Wd S (dgN m b)) m, ν, ξ', ?_, ?_, Inv_Sm hI1 y6⟩
      · unfold X10_walk
        rw [hh, bd_some, if_neg (by decide), r1, bd_some, if_neg (by decide), hR.2.2.2.2.1, hR.2.2.2.2.2.1]
        by_cases c0 : c = 0
        · rw [if_pos c0, if_pos c0]
        · rw [if_neg c0, if_neg c0]
      · unfold X11_walk
        rw [y1, bd_some, if_neg (by decide), y4, bd_some, if_neg (by decide), in_rg _ cc, bd_some, if_neg (by decide), y5, bd_some, if_neg (by decide), y7.1, w']
        by_cases c0 : c = 0
        · rw [if_pos c0, if_pos c0]
        · rw [if_neg c0, if_neg c0]
  · have hh : X10_isHalf c μ = some (0, μ) := by
      unfold X10_isHalf
      rw [if_neg (by omega), if_neg (by omega)]
    obtain ⟨μ2, e2, h2⟩ := no μ hI (Or.inr ⟨refAny hI ha hb, cc⟩)
    exact ⟨-1, μ, μ2, by unfold X10_walk; rw [hh, bd_some, if_pos rfl], e2, h2⟩
