/-! PILLAR -/
theorem layK2 {μ : Mm} (hI : Inv μ) (h23 : μ 70 23 ≠ 0) {p : Nat} (hp : (p : Int) < μ 70 28) : ∃ (L : List (Int × Int)) (T : Nat → Int) (ν ν0 : Mm) (V0 : Int), Pk μ p L T ∧ X10_lay (p : Int) μ = some (1, ν) ∧ X10_leastLates ν = some (V0, ν0) ∧ tryK μ T L.length ν0 ∧ ∀ ν', Inv ν' → (∀ k j, ¬ scr k j → ν' k j = μ k j) → ∃ (ξ ξ' : Mm) (M : Int), X11_isReady (p : Int) ν' = some (1, ξ) ∧ Sm ν' ξ ∧ X11_all ξ = some (M, ξ) ∧ X11_leastOf 0 M ξ = some (V0, ξ') ∧ Sm ν' ξ' := by
  obtain ⟨L, T, hPk⟩ := Pk_of hI hp
  obtain ⟨L', B, T', Wd, S, ν, hJ, ⟨⟨_, hTR, _⟩, _⟩, _, g1, g2, g3, _, g5⟩ := ready hI h23 hp
  obtain ⟨p4, _, l1, l8, hL, hP, hM, H, hH, hT⟩ := id hPk
  obtain ⟨s, s1, s2, s3, _⟩ := strt hI h23
  obtain ⟨ν1, k1, k2, k3, k4, k5, _⟩ := layC hI h23 hp l8 hP hL hH s1 s2 s3
  have e : ν = ν1 := congrArg Prod.snd (Option.some.inj (g1.symm.trans k1))
  obtain ⟨ν0, f0, x0, _⟩ := leastC hJ hTR g3
  have f1 : fw Wlt ν ν0 := fun k j hn => f0 k j (fun z => hn (Or.inr z))
  refine ⟨L, T, ν, ν0, _, hPk, g1, x0, tryK_l (ν := ν) ⟨g2.2, fun k hk => by rw [e, (k5 k hk).2.1, hT k]⟩ f1, fun ν' hI' e' => ?_⟩
  obtain ⟨ξ, y1, y2, y3⟩ := g5 ν' hI' e'
  obtain ⟨ξ', x1, x2, _, _, _⟩ := bestM (w := 0) hJ y3
  have hm8 := hJ.2.1
  have h2 := pow_256 hm8
  have hv := all_v L'.length (by omega)
  have t := t_X11_leastOf (μs := ν') (l1 := 0) (l2 := iS (bL 1 (L'.length : Int)) 1) hI'.2.1 (by decide) (by rw [hv]; omega) y2
  rw [x2, wp_some] at t
  exact ⟨ξ, ξ', _, y1, y2, x1, x2, t.1⟩
def plF (V : Nat → Int) : Nat → Int × Int
  | 0 => (-1, -1)
  | k + 1 => if (plF V k).2 = -1000000 then plF V k else if V k = -2 then plF V k else if V k = -1 then ((k : Int), -1000000) else if V k ≤ (plF V k).2 then plF V k else ((k : Int), V k)
theorem plF_stop {V : Nat → Int} {k : Nat} (h : (plF V k).2 = -1000000) : ∀ d, plF V (k + d) = plF V k := by
  intro d
  induction d with
  | zero => rfl
  | succ d ih =>
    have e : plF V (k + d + 1) = plF V (k + d) := if_pos (by rw [ih]; exact h)
    show plF V (k + d + 1) = plF V k
    rw [e, ih]
/-- class (w, l) and reference (w', l') -/
def plR (s : Int × Int) (w l : Int) : Prop := w = s.1 ∧ ((s.1 = -1 ∧ s.2 = -1) ∨ (s.1 ≠ -1 ∧ l = -1 ∧ s.2 = -1000000) ∨ (s.1 ≠ -1 ∧ 0 ≤ l ∧ s.2 = l))
theorem plR_n {V : Nat → Int} {k : Nat} {w l : Int} (h : plR (plF V k) w l) (hc : V k = -2) : plR (plF V (k + 1)) w l := by
  have e : plF V (k + 1) = if (plF V k).2 = -1000000 then plF V k else if V k = -2 then plF V k else if V k = -1 then ((k : Int), -1000000) else if V k ≤ (plF V k).2 then plF V k else ((k : Int), V k) := rfl
  rw [if_pos hc] at e
  have e2 : plF V (k + 1) = plF V k := by
    rw [e]
    by_cases c : (plF V k).2 = -1000000
    · rw [if_pos c]
    · rw [if_neg c]
  rw [e2]; exact h
theorem plR_s {V : Nat → Int} {k : Nat} {w l : Int} (h : plR (plF V k) w l) (hc : V k = -1 ∨ 0 ≤ V k) : (w = -1 → plR (plF V (k + 1)) (k : Int) (V k)) ∧ (w ≠ -1 → l = -1 → plR (plF V (k + 1)) w l) ∧ (w ≠ -1 → l ≠ -1 → V k = -1 → plR (plF V (k + 1)) (k : Int) (V k)) ∧ (w ≠ -1 → l ≠ -1 → V k ≠ -1 → V k ≤ l → plR (plF V (k + 1)) w l) ∧ (w ≠ -1 → l ≠ -1 → V k ≠ -1 → ¬ V k ≤ l → plR (plF V (k + 1)) (k : Int) (V k)) := by
  have e : plF V (k + 1) = if (plF V k).2 = -1000000 then plF V k else if V k = -2 then plF V k else if V k = -1 then ((k : Int), -1000000) else if V k ≤ (plF V k).2 then plF V k else ((k : Int), V k) := rfl
  rw [if_neg (show ¬ V k = -2 by omega)] at e
  obtain ⟨h1, h2⟩ := h
  have put1 : V k = -1 → plR ((k : Int), -1000000) (k : Int) (V k) := fun z => ⟨rfl, Or.inr (Or.inl ⟨by show (k : Int) ≠ -1; omega, z, rfl⟩)⟩
  have put2 : V k ≠ -1 → plR ((k : Int), V k) (k : Int) (V k) := fun z => ⟨rfl, Or.inr (Or.inr ⟨by show (k : Int) ≠ -1; omega, by omega, rfl⟩)⟩
  refine ⟨fun z => ?_, fun z y => ?_, fun z y x => ?_, fun z y x u => ?_, fun z y x u => ?_⟩
  · have h3 : (plF V k).2 = -1 := by omega
    rw [h3, if_neg (by decide)] at e
    by_cases c : V k = -1
    · rw [if_pos c] at e
      rw [e]; exact put1 c
    · rw [if_neg c, if_neg (by omega)] at e
      rw [e]; exact put2 c
  · have h3 : (plF V k).2 = -1000000 := by omega
    rw [if_pos h3] at e
    rw [e]; exact ⟨h1, h2⟩
  · have h3 : (plF V k).2 = l ∧ 0 ≤ l := by omega
    rw [if_neg (by omega), if_pos x] at e
    rw [e]; exact put1 x
  · have h3 : (plF V k).2 = l ∧ 0 ≤ l := by omega
    rw [if_neg (by omega), if_neg x, if_pos (by omega)] at e
    rw [e]; exact ⟨h1, h2⟩
  · have h3 : (plF V k).2 = l ∧ 0 ≤ l := by omega
    rw [if_neg (by omega), if_neg x, if_neg (by omega)] at e
    rw [e]; exact put2 x
theorem ofP2 (P : Nat → Prop) (f : Nat → Int) : ∃ V : Nat → Int, ∀ p, (P p → V p = f p) ∧ (¬ P p → V p = -2) :=
  ⟨fun p => @ite Int (P p) (Classical.propDecidable _) (f p) (-2), fun p => ⟨fun h => if_pos h, fun h => if_neg h⟩⟩
section PI_
variable {μ : Mm} {L : List (Int × Int)} {T : Nat → Int} {s p0 : Nat} {V : Nat → Int}
theorem piC_s (hI : Inv μ) (hPk : Pk μ p0 L T) (hG : Cg (opM μ) (μ 7) s) (hs : s < 60 ∧ isP μ s ∧ μ 82 s = 2) (h53 : μ 5 3 = (s : Int)) (h57 : μ 5 7 = μ 70 30) (hW : okWS (μ 8) (μ 70 30)) (hP : ∀ p, opM μ p ↔ (p < 60 ∧ μ 6 p ≠ -1 ∧ μ 6 p ≠ 1)) (hV : ∀ p, (PC μ 0 p → V p = asV L T (alO μ p 1) (μ 7) s (μ 8) (μ 70 30)) ∧ (¬ PC μ 0 p → V p = -2)) {p : Nat} (hp : p < 60) {ν : Mm} (h : tryK μ T L.length ν) : ∃ ν2, tryK μ T L.length ν2 ∧ ∀ (K0 : Mm → Rs) (K : Int → Mm → Rs), (bd (X0_copy 13 5 ν) fun v15 μ16 => bd (X0_putPost 13 (p : Int) μ16) fun v18 μ19 => if v18 = 0 then K0 μ19 else (bd (X10_leastInTrial (p0 : Int) μ19) fun v22 μ23 => K v22 μ23)) = if V p = -2 then K0 ν2 else K (V p) ν2 := by
  have hK := hI.2.2.2.2.2.1
  obtain ⟨k1, k2, k3, k4, k5, k6, k7, k8⟩ := cpk h.1
  have hc6 := PC_6 hK (u := 0) (by decide) hp
  have e14 := k1 p hp
  by_cases c : PC μ 0 p
  · have c6 : cpC 13 5 ν 14 p = 0 := by rw [e14]; exact hc6.mpr c
    obtain ⟨ν1, hν1⟩ : ∃ x, x = sM (sM (cpC 13 5 ν) 14 p 1) 13 6 (iA (cpC 13 5 ν 13 6) 1) := ⟨_, rfl⟩
    have eT : X0_putPost 13 (p : Int) (cpC 13 5 ν) = some (1, ν1) := by
      unfold X0_putPost
      rw [cel13 hp, bd_some, if_pos c6]
      unfold stA
      rw [if_pos (by show (0 : Int) ≤ (p : Int) ∧ (p : Int) < 60; omega), Int.toNat_natCast]
      try dsimp only
      rw [sF_r, sM_a (show (13 : Nat) ≠ 14 by decide), hν1]
    have hT : TrC 13 ν1 (alO μ p 1) (μ 7) s (μ 8) (μ 70 30) := by
      rw [hν1]
      exact altC hP h53 h57 h.1 hp c.1 (by decide)
    have hk1 : tryK μ T L.length ν1 := by
      rw [hν1]
      exact ⟨fun k j hn => by rw [sM_a (by unfold scr at hn; omega), sM_a (by unfold scr at hn; omega)]; exact k7 k j hn, fun k hk => by rw [sM_a (by decide), sM_a (by decide), k8]; exact h.2 k hk⟩
    obtain ⟨ν2, f2, e2⟩ := asC hPk (alO_G hG hs hK (by rw [c.2]; decide)) hW hk1.1 hT hk1.2
    have hn : ¬ V p = -2 := by
      have := asV_n (O := alO μ p 1) (Q := μ 7) (s := s) (W := μ 8) (S := μ 70 30) (L := L) (T := T)
      rw [(hV p).1 c]
      omega
    refine ⟨ν2, tryK_l hk1 f2, fun K0 K => ?_⟩
    rw [cp13, bd_some, eT, bd_some, if_neg (by decide), e2, bd_some, if_neg hn, (hV p).1 c]
  · have c6 : ¬ cpC 13 5 ν 14 p = 0 := by rw [e14]; exact fun z => c (hc6.mp z)
    have eT : X0_putPost 13 (p : Int) (cpC 13 5 ν) = some (0, cpC 13 5 ν) := by
      unfold X0_putPost
      rw [cel13 hp, bd_some, if_neg c6]
    refine ⟨cpC 13 5 ν, ⟨k7, fun k hk => by rw [k8]; exact h.2 k hk⟩, fun K0 K => ?_⟩
    rw [cp13, bd_some, eT, bd_some, if_pos rfl, if_pos ((hV p).2 c)]
theorem piC_L {Q : Mm → Prop} {l2 : Int} {K : Int → Int → Mm → Rs} (hst : ∀ p ν, p < 60 → Q ν → ∃ ν2, Q ν2 ∧ ∀ (K0 : Mm → Rs) (K : Int → Mm → Rs), (bd (X0_copy 13 5 ν) fun v15 μ16 => bd (X0_putPost 13 ((p : Nat) : Int) μ16) fun v18 μ19 => if v18 = 0 then K0 μ19 else (bd (X10_leastInTrial (p0 : Int) μ19) fun v22 μ23 => K v22 μ23)) = if V p = -2 then K0 ν2 else K (V p) ν2) : ∀ (r k fuel : Nat) (ν : Mm), k + r = 60 → r < fuel → Q ν → ∃ ν', Q ν' ∧ X10_pillar_L33 (p0 : Int) l2 K fuel (plF V k).1 (plF V k).2 (k : Int) ν = K (plF V 60).1 (plF V 60).2 ν' := by
  intro r
  induction r with
  | zero =>
    intro k fuel ν hr hf hQ
    obtain ⟨g, rfl, _⟩ := lt_fuel hf
    have e : k = 60 := by omega
    refine ⟨ν, hQ, ?_⟩
    show (if 60 ≤ (k : Int) then _ else _) = _
    rw [if_pos (by omega), e]
  | succ r ih =>
    intro k fuel ν hr hf hQ
    obtain ⟨g, rfl, _⟩ := lt_fuel hf
    have e : plF V (k + 1) = if (plF V k).2 = -1000000 then plF V k else if V k = -2 then plF V k else if V k = -1 then ((k : Int), -1000000) else if V k ≤ (plF V k).2 then plF V k else ((k : Int), V k) := rfl
    by_cases c0 : (plF V k).2 = -1000000
    · have h := plF_stop c0 (60 - k)
      have e60 : k + (60 - k) = 60 := by omega
      rw [e60] at h
      refine ⟨ν, hQ, ?_⟩
      show (if 60 ≤ (k : Int) then _ else _) = _
      rw [if_neg (by omega), if_pos c0, h]
    · rw [if_neg c0] at e
      obtain ⟨ν2, q2, e2⟩ := hst k ν (by omega) hQ
      obtain ⟨ν', q3, e3⟩ := ih (k + 1) g ν2 (by omega) (by omega) q2
      refine ⟨ν', q3, ?_⟩
      rw [← e3]
      show (if 60 ≤ (k : Int) then _ else _) = _
      rw [if_neg (by omega), if_neg c0]
      have h := e2 (fun μ19 => X10_pillar_L33 (p0 : Int) l2 K g (plF V k).1 (plF V k).2 (iA (k : Int) 1) μ19) (fun v22 μ23 => if v22 = (-1) then (X10_pillar_J93 (fun w3 w4 w5 μq => X10_pillar_L33 (p0 : Int) l2 K g w3 w4 w5 μq) (p0 : Int) l2 (k : Int) v22 μ23) else (if v22 ≤ (plF V k).2 then (X10_pillar_L33 (p0 : Int) l2 K g (plF V k).1 (plF V k).2 (iA (k : Int) 1) μ23) else (X10_pillar_J93 (fun w3 w4 w5 μq => X10_pillar_L33 (p0 : Int) l2 K g w3 w4 w5 μq) (p0 : Int) l2 (k : Int) v22 μ23)))
      refine h.trans ?_
      rw [iA_nat (by omega), e]
      by_cases c1 : V k = -2
      · rw [if_pos c1, if_pos c1]
      · rw [if_neg c1, if_neg c1]
        try dsimp only
        by_cases c2 : V k = -1
        · rw [if_pos c2, if_pos c2]
          unfold X10_pillar_J93
          rw [if_pos c2, iA_nat (by omega)]
        · rw [if_neg c2, if_neg c2]
          by_cases c3 : V k ≤ (plF V k).2
          · rw [if_pos c3, if_pos c3]
          · rw [if_neg c3, if_neg c3]
            unfold X10_pillar_J93
            rw [if_neg c2, iA_nat (by omega)]
theorem piM_L (hVn : ∀ k, V k = -2 ∨ V k = -1 ∨ 0 ≤ V k) {ν0 : Mm} {l2 : Int} {K : Int → Int → Mm → Rs} (hst : ∀ p ξ, p < 60 → Sm ν0 ξ → (¬ PC μ 0 p → V p = -2) ∧ (isP ξ p ↔ isP μ p) ∧ ξ 82 p = μ 82 p ∧ (PC μ 0 p → V p ≠ -2 ∧ ∃ ξ2, X11_leastNow (p0 : Int) (sM ξ 82 p 1) = some (V p, ξ2) ∧ Sm ν0 (sM ξ2 82 p 0))) : ∀ (r k fuel : Nat) (w l : Int) (ξ : Mm), k + r = 60 → r < fuel → Sm ν0 ξ → plR (plF V k) w l → ∃ (w' l' : Int) (ξ' : Mm), Sm ν0 ξ' ∧ plR (plF V 60) w' l' ∧ X11_pillar_L40 (p0 : Int) l2 K fuel w l (k : Int) ξ = K w' l' ξ' := by
  intro r
  induction r with
  | zero =>
    intro k fuel w l ξ hr hf hS hh
    obtain ⟨g, rfl, _⟩ := lt_fuel hf
    have e : k = 60 := by omega
    rw [e] at hh
    refine ⟨w, l, ξ, hS, hh, ?_⟩
    show (if 60 ≤ (k : Int) then _ else _) = _
    rw [if_pos (by omega)]
  | succ r ih =>
    intro k fuel w l ξ hr hf hS hh
    obtain ⟨g, rfl, _⟩ := lt_fuel hf
    obtain ⟨s1, s2, s3, s4⟩ := hst k ξ (by omega) hS
    have i60 : (0 : Int) ≤ (k : Int) ∧ (k : Int) < 60 := by omega
    have skip : ∀ x, V k = -2 → x = X11_pillar_L40 (p0 : Int) l2 K g w l ((k + 1 : Nat) : Int) ξ → ∃ (w' l' : Int) (ξ' : Mm), Sm ν0 ξ' ∧ plR (plF V 60) w' l' ∧ x = K w' l' ξ' := by
      intro x hv hx
      obtain ⟨w', l', ξ', q1, q2, q3⟩ := ih (k + 1) g w l ξ (by omega) (by omega) hS (plR_n hh hv)
      exact ⟨w', l', ξ', q1, q2, by rw [hx]; exact q3⟩
    by_cases ip : isP μ k
    · by_cases c1 : μ 82 k = 0
      · obtain ⟨hn2, ξ2, e2, q2⟩ := s4 ⟨ip, c1⟩
        have e0 : X11_pillar_L40 (p0 : Int) l2 K (g + 1) w l (k : Int) ξ = if w = -1 then X11_pillar_L40 (p0 : Int) l2 K g (k : Int) (V k) ((k + 1 : Nat) : Int) (sM ξ2 82 k 0) else if l = -1 then X11_pillar_L40 (p0 : Int) l2 K g w l ((k + 1 : Nat) : Int) (sM ξ2 82 k 0) else if V k = -1 then X11_pillar_L40 (p0 : Int) l2 K g (k : Int) (V k) ((k + 1 : Nat) : Int) (sM ξ2 82 k 0) else if V k ≤ l then X11_pillar_L40 (p0 : Int) l2 K g w l ((k + 1 : Nat) : Int) (sM ξ2 82 k 0) else X11_pillar_L40 (p0 : Int) l2 K g (k : Int) (V k) ((k + 1 : Nat) : Int) (sM ξ2 82 k 0) := by
          show (if 60 ≤ (k : Int) then _ else _) = _
          rw [if_neg (by omega), isPl_y (by omega) (s2.mpr ip), bd_some, if_neg (by decide)]
          unfold ldA stA
          rw [if_pos (by exact i60), Int.toNat_natCast, s3, c1]
          try dsimp only
          rw [if_pos rfl, if_pos (by exact i60)]
          try dsimp only
          rw [e2, bd_some, if_pos (by exact i60), iA_nat (by omega)]
        rw [e0]
        obtain ⟨t1, t2, t3, t4, t5⟩ := plR_s hh ((hVn k).resolve_left hn2)
        by_cases d2 : w = -1
        · rw [if_pos d2]
          exact ih (k + 1) g _ _ _ (by omega) (by omega) q2 (t1 d2)
        · rw [if_neg d2]
          by_cases d3 : l = -1
          · rw [if_pos d3]
            exact ih (k + 1) g _ _ _ (by omega) (by omega) q2 (t2 d2 d3)
          · rw [if_neg d3]
            by_cases d4 : V k = -1
            · rw [if_pos d4]
              exact ih (k + 1) g _ _ _ (by omega) (by omega) q2 (t3 d2 d3 d4)
            · rw [if_neg d4]
              by_cases d5 : V k ≤ l
              · rw [if_pos d5]
                exact ih (k + 1) g _ _ _ (by omega) (by omega) q2 (t4 d2 d3 d4 d5)
              · rw [if_neg d5]
                exact ih (k + 1) g _ _ _ (by omega) (by omega) q2 (t5 d2 d3 d4 d5)
      · refine skip _ (s1 (fun z => c1 z.2)) ?_
        show (if 60 ≤ (k : Int) then _ else _) = _
        rw [if_neg (by omega), isPl_y (by omega) (s2.mpr ip), bd_some, if_neg (by decide)]
        unfold ldA
        rw [if_pos (by exact i60), Int.toNat_natCast, s3]
        try dsimp only
        rw [if_neg c1, iA_nat (by omega)]
    · refine skip _ (s1 (fun z => ip z.1)) ?_
      show (if 60 ≤ (k : Int) then _ else _) = _
      rw [if_neg (by omega), isPl_n (by omega) (fun z => ip (s2.mp z)), bd_some, if_pos rfl, iA_nat (by omega)]
end PI_
theorem m_pillar : ∀ a0, rI a0 → ∀ a1, rI a1 → sI Inv Inv (X10_pillar a0 a1) (X11_pillar a0 a1) := by
  intro a ha c hc μ hI
  have t1 := t_X10_pillar (W := scr) (μs := μ) (hW := fun _ _ h => h) (hp_l1 := ha) (hp_l2 := hc) (St_rf hI.1)
  have no : ∀ ν, Inv ν → (X11_isReady a ν = some (0, ν) ∨ ¬ (0 ≤ c ∧ c ≤ 1)) → ∃ μ2, X11_pillar a c ν = some (-1, μ2) ∧ Inv μ2 := by
    intro ν hν h
    rcases rdyAny hν a with z | ⟨ξ, m, h1, h2, h3, h4⟩
    · exact ⟨ν, by unfold X11_pillar; rw [z, bd_some, if_pos rfl], hν⟩
    · by_cases cc : 0 ≤ c ∧ c ≤ 1
      · exact (some_ne h1 (h.resolve_right (fun z => z cc))).elim
      · exact ⟨ξ, by unfold X11_pillar; rw [h1, bd_some, if_neg (by decide), in_no _ cc, bd_some, if_pos rfl], Inv_Sm hν h2⟩
  by_cases cc : 0 ≤ c ∧ c ≤ 1
  · have R1 : X10_pillar a c μ = bd (X10_lay a μ) fun v5 μ6 => if v5 = 0 then (some ((-1), μ6)) else (bd (X10_leastLates μ6) fun v9 μ10 => if v9 = (-1) then (some ((-1), μ10)) else (X10_pillar_L33 a c (fun v28 v29 μ30 => if c = 0 then (some (v28, μ30)) else (some (v29, μ30))) FU (-1) (-1) 0 μ10)) := by
      unfold X10_pillar
      rw [half_y cc, bd_some, if_neg (by decide)]
    by_cases cr0 : μ 70 23 = 0 ∨ ¬ (0 ≤ a ∧ a < μ 70 28)
    · obtain ⟨μ2, e2, h2⟩ := no μ hI (Or.inl (rdy_no hI.2.1.1 cr0))
      refine ⟨-1, μ, μ2, ?_, e2, h2⟩
      rw [R1, lay_no hI cr0, bd_some, if_pos rfl]
    · have h23 : μ 70 23 ≠ 0 := fun z => cr0 (Or.inl z)
      have hap : 0 ≤ a ∧ a < μ 70 28 := Classical.byContradiction (fun z => cr0 (Or.inr z))
      obtain ⟨p, rfl⟩ : ∃ p : Nat, a = (p : Int) := ⟨a.toNat, by omega⟩
      obtain ⟨L, T, ν, νl, V0, hPk, g1, g1', g2, g4⟩ := layK2 hI h23 hap.2
      rw [g1, bd_some, if_neg (by decide), g1', bd_some] at R1
      by_cases cV : V0 = -1
      · rw [if_pos cV] at R1
        rw [R1, wp_some] at t1
        have hI1 := Inv_St hI t1.1
        obtain ⟨ξ, ξ1, M, y1, y2, y3, y4, y5⟩ := g4 νl hI1 t1.1.2
        refine ⟨-1, νl, ξ1, R1, ?_, Inv_Sm hI1 y5⟩
        unfold X11_pillar
        rw [y1, bd_some, if_neg (by decide), in_rg _ cc, bd_some, if_neg (by decide), y3, bd_some, y4, bd_some, if_pos cV]
      · rw [if_neg cV] at R1
        obtain ⟨s, hG, hs, h53, hW, h86, h57, hP⟩ := base13 hI h23
        have hK := hI.2.2.2.2.2.1
        obtain ⟨V, hV⟩ := ofP2 (PC μ 0) (fun q => asV L T (alO μ q 1) (μ 7) s (μ 8) (μ 70 30))
        have hVn : ∀ k, V k = -2 ∨ V k = -1 ∨ 0 ≤ V k := fun k => by
          by_cases z : PC μ 0 k
          · rw [(hV k).1 z]; exact Or.inr asV_n
          · exact Or.inl ((hV k).2 z)
        obtain ⟨ν1, q1, k1⟩ := piC_L (V := V) (p0 := p) (l2 := c) (K := fun v28 v29 μ30 => if c = 0 then (some (v28, μ30)) else (some (v29, μ30))) (Q := tryK μ T L.length) (fun q ν hq hQ => piC_s hI hPk hG hs h53 h57 hW hP hV hq hQ) 60 0 FU νl (by decide) (by decide) g2
        have k1 : X10_pillar_L33 (p : Int) c (fun v28 v29 μ30 => if c = 0 then (some (v28, μ30)) else (some (v29, μ30))) FU (-1) (-1) 0 νl = if c = 0 then (some ((plF V 60).1, ν1)) else (some ((plF V 60).2, ν1)) := k1
        have R2 : X10_pillar (p : Int) c μ = some (if c = 0 then (plF V 60).1 else (plF V 60).2, ν1) := by
          rw [R1, k1]
          by_cases c0 : c = 0
          · rw [if_pos c0, if_pos c0]
          · rw [if_neg c0, if_neg c0]
        rw [R2, wp_some] at t1
        have hI1 := Inv_St hI t1.1
        have e1 : sameK μ ν1 := t1.1.2
        obtain ⟨ξ, ξ1, M, y1, y2, y3, y4, y5⟩ := g4 ν1 hI1 e1
        have n0 : ∀ ξ, Sm ν1 ξ → ∀ k j, ¬ scr k j → ¬ scrM k j → ξ k j = μ k j := fun ξ hS k j h1 h2 => by rw [hS.2 k j h2, e1 k j h1]
        obtain ⟨w', l', ξ', s1, s2, s3⟩ := piM_L (μ := μ) (V := V) (p0 := p) (l2 := c) (K := fun v35 v36 μ37 => if v35 = (-1) then (some (v35, μ37)) else (if c = 0 then (some (v35, μ37)) else (if v36 = (-1) then (some ((-1000000), μ37)) else (some (v36, μ37))))) hVn (ν0 := ν1) (fun q ξ hq hS => ⟨(hV q).2, isP_congr (n0 ξ hS 70 23 (by unfold scr; omega) (by unfold scrM; omega)) (n0 ξ hS 70 24 (by unfold scr; omega) (by unfold scrM; omega)) q, n0 ξ hS 82 q (by unfold scr; omega) (by unfold scrM; omega), fun hPC => by
          have h82 : μ 82 q < 2 := by rw [hPC.2]; decide
          obtain ⟨u1, u2⟩ := altM (v := 1) hs hK h23 e1 hI1 hS (by decide) h82
          obtain ⟨ξ2, u3, u4⟩ := asM hPk (alO_G hG hs hK h82) hW u1 u2
          have hn2 : V q ≠ -2 := by
            have := asV_n (O := alO μ q 1) (Q := μ 7) (s := s) (W := μ 8) (S := μ 70 30) (L := L) (T := T)
            rw [(hV q).1 hPC]
            omega
          exact ⟨hn2, ξ2, by rw [u3, (hV q).1 hPC], altS hS u4 (by rw [e1 82 q (by unfold scr; omega), hPC.2]) (by decide)⟩⟩) 60 0 FU (-1) 0 ξ1 (by decide) (by decide) y5 ⟨rfl, Or.inl ⟨rfl, rfl⟩⟩
        have s3 : X11_pillar_L40 (p : Int) c (fun v35 v36 μ37 => if v35 = (-1) then (some (v35, μ37)) else (if c = 0 then (some (v35, μ37)) else (if v36 = (-1) then (some ((-1000000), μ37)) else (some (v36, μ37))))) FU (-1) 0 0 ξ1 = if w' = (-1) then (some (w', ξ')) else (if c = 0 then (some (w', ξ')) else (if l' = (-1) then (some ((-1000000), ξ')) else (some (l', ξ')))) := s3
        have R3 : X11_pillar (p : Int) c ν1 = some (if c = 0 then (plF V 60).1 else (plF V 60).2, ξ') := by
          unfold X11_pillar
          rw [y1, bd_some, if_neg (by decide), in_rg _ cc, bd_some, if_neg (by decide), y3, bd_some, y4, bd_some, if_neg cV, s3]
          obtain ⟨z1, z2⟩ := s2
          by_cases d1 : w' = -1
          · have h2 : (plF V 60).2 = -1 := by omega
            rw [if_pos d1, h2, ← z1, d1]
            by_cases c0 : c = 0
            · rw [if_pos c0]
            · rw [if_neg c0]
          · rw [if_neg d1, z1]
            by_cases c0 : c = 0
            · rw [if_pos c0, if_pos c0]
            · rw [if_neg c0, if_neg c0]
              by_cases d2 : l' = -1
              · have h2 : (plF V 60).2 = -1000000 := by omega
                rw [if_pos d2, h2]
              · have h2 : (plF V 60).2 = l' := by omega
                rw [if_neg d2, h2]
        exact ⟨_, ν1, ξ', R2, R3, Inv_Sm hI1 s1⟩
  · obtain ⟨μ2, e2, h2⟩ := no μ hI (Or.inr cc)
    refine ⟨-1, μ, μ2, ?_, e2, h2⟩
    unfold X10_pillar
    rw [half_n cc, bd_some, if_pos rfl]
