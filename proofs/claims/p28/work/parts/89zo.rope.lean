/-! ROPE -/
def hlW (μ : Mm) (c d : Nat) : Int := if d = c then (μ 8 c + 1) / 2 else μ 8 d
section RO_
variable {μ : Mm} {L : List (Int × Int)} {T : Nat → Int} {s p0 : Nat} {V : Nat → Int}
theorem hlW_ok (hW : okWS (μ 8) (μ 70 30)) {c : Nat} (hc : c < 8) : okWS (hlW μ c) (μ 70 30) ∧ 1 ≤ (μ 8 c + 1) / 2 ∧ (μ 8 c + 1) / 2 ≤ 30 := by
  have h1 := hW.2 c hc
  have h2 : 1 ≤ (μ 8 c + 1) / 2 ∧ (μ 8 c + 1) / 2 ≤ 30 := by omega
  refine ⟨⟨hW.1, fun d hd => ?_⟩, h2⟩
  unfold hlW
  by_cases z : d = c
  · rw [if_pos z]; exact h2
  · rw [if_neg z]; exact hW.2 d hd
theorem roC_s (hI : Inv μ) (hPk : Pk μ p0 L T) (hG : Cg (opM μ) (μ 7) s) (h53 : μ 5 3 = (s : Int)) (h57 : μ 5 7 = μ 70 30) (hW : okWS (μ 8) (μ 70 30)) (hP : ∀ p, opM μ p ↔ (p < 60 ∧ μ 6 p ≠ -1 ∧ μ 6 p ≠ 1)) (hV : ∀ c, (μ 7 c ≠ -1 → V c = asV L T (opM μ) (μ 7) s (hlW μ c) (μ 70 30)) ∧ (¬ μ 7 c ≠ -1 → V c = -1)) {c : Nat} (hc : c < 8) {ν : Mm} (h : tryK μ T L.length ν) : ∃ ν2, tryK μ T L.length ν2 ∧ ∀ (K : Int → Mm → Rs), (bd (X0_copy 13 5 ν) fun v10 μ11 => bd (X0_halveWind 13 (c : Int) μ11) fun v13 μ14 => if v13 = 0 then K (-1) μ14 else (bd (X10_leastInTrial (p0 : Int) μ14) fun v20 μ21 => K v20 μ21)) = K (V c) ν2 := by
  obtain ⟨k1, k2, k3, k4, k5, k6, k7, k8⟩ := cpk h.1
  obtain ⟨hW', hv1, hv2⟩ := hlW_ok hW hc
  have h8 := hW.2 c hc
  have e16 : cpC 13 5 ν (13 + 3) c = μ 8 c := k3 c hc
  have e15 : cpC 13 5 ν (13 + 2) c = μ 7 c := k2 c hc
  have eh : iD (iA (μ 8 c) 1) 2 = (μ 8 c + 1) / 2 := by
    rw [iA_id (by omega) (by omega), iD_id (by omega) (by omega) (by decide)]
  by_cases cp : μ 7 c ≠ -1
  · obtain ⟨ν1, hν1⟩ : ∃ x, x = sM (cpC 13 5 ν) 16 c ((μ 8 c + 1) / 2) := ⟨_, rfl⟩
    have eT : X0_halveWind 13 (c : Int) (cpC 13 5 ν) = some (1, ν1) := by
      unfold X0_halveWind
      rw [windC (l1 := 13) (by decide) hc, bd_some, e16, eh]
      clear eh
      unfold X0_tellWind
      rw [plC_eq (l1 := 13) (by decide) hc, bd_some, e15, if_neg cp, if_neg (by omega), if_pos (by omega)]
      unfold stA
      rw [if_pos (by show (0 : Int) ≤ (c : Int) ∧ (c : Int) < 8; omega), Int.toNat_natCast, bd_some, rZ_b (Or.inr rfl), hν1]
    clear eh
    have f : ∀ k j, k ≠ 16 → ν1 k j = cpC 13 5 ν k j := fun k j hk => by rw [hν1, sM_a hk]
    have hT : TrC 13 ν1 (opM μ) (μ 7) s (hlW μ c) (μ 70 30) := by
      refine ⟨fun q => ?_, fun d hd => ?_, ?_, fun d hd => ?_, ?_⟩
      · show (q < 60 ∧ ν1 14 q ≠ -1 ∧ ν1 14 q ≠ 1) ↔ opM μ q
        rw [f 14 q (by decide), hP q]
        constructor
        · rintro ⟨z1, z2, z3⟩
          rw [k1 q z1] at z2 z3
          exact ⟨z1, z2, z3⟩
        · rintro ⟨z1, z2, z3⟩
          rw [k1 q z1]
          exact ⟨z1, z2, z3⟩
      · show ν1 15 d = μ 7 d
        rw [f 15 d (by decide)]; exact k2 d hd
      · rw [f 13 3 (by decide), k4]; exact h53
      · show ν1 16 d = hlW μ c d
        unfold hlW
        rw [hν1, sM_if]
        by_cases z : d = c
        · rw [if_pos z, if_pos z]
        · rw [if_neg z, if_neg z]; exact k3 d hd
      · rw [f 13 7 (by decide), k6]; exact h57
    have hk1 : tryK μ T L.length ν1 := ⟨fun k j hn => by rw [f k j (by unfold scr at hn; omega)]; exact k7 k j hn, fun k hk => by rw [f 50 k (by decide), k8]; exact h.2 k hk⟩
    obtain ⟨ν2, f2, e2⟩ := asC hPk hG hW' hk1.1 hT hk1.2
    refine ⟨ν2, tryK_l hk1 f2, fun K => ?_⟩
    rw [cp13, bd_some, eT, bd_some, if_neg (by decide), e2, bd_some, (hV c).1 cp]
  · have cp' : μ 7 c = -1 := Classical.byContradiction cp
    have eT : X0_halveWind 13 (c : Int) (cpC 13 5 ν) = some (0, cpC 13 5 ν) := by
      unfold X0_halveWind
      rw [windC (l1 := 13) (by decide) hc, bd_some, e16, eh]
      unfold X0_tellWind
      rw [plC_eq (l1 := 13) (by decide) hc, bd_some, e15, if_pos cp', bd_some, rZ_b (Or.inl rfl)]
    refine ⟨cpC 13 5 ν, ⟨k7, fun k hk => by rw [k8]; exact h.2 k hk⟩, fun K => ?_⟩
    rw [cp13, bd_some, eT, bd_some, if_pos rfl, (hV c).2 cp]
theorem ro64 {K : Int → Int → Int → Mm → Rs} {l1 l2 : Int} {k : Nat} (hk : k < 1000) {ν : Mm} : X10_rope_J64 K l1 l2 (hf V k).1 (hf V k).2 (k : Int) (V k) ν = K (hf V (k + 1)).1 (hf V (k + 1)).2 ((k + 1 : Nat) : Int) ν := by
  have e : hf V (k + 1) = if V k = -1 then hf V k else if (hf V k).2 = -1 then ((k : Int), V k) else if (hf V k).2 ≤ V k then hf V k else ((k : Int), V k) := rfl
  unfold X10_rope_J64
  rw [iA_nat (by omega), e]
  by_cases c1 : V k = -1
  · rw [if_pos c1, if_pos c1]
  · rw [if_neg c1, if_neg c1]
    by_cases c2 : (hf V k).2 = -1
    · rw [if_pos c2, if_pos c2]
    · rw [if_neg c2, if_neg c2]
      by_cases c3 : (hf V k).2 ≤ V k
      · rw [if_pos c3, if_pos c3]
      · rw [if_neg c3, if_neg c3]
theorem roC_L {Q : Mm → Prop} {l2 : Int} {K : Int → Int → Mm → Rs} (hst : ∀ p ν, p < 8 → Q ν → ∃ ν2, Q ν2 ∧ ∀ (K : Int → Mm → Rs), (bd (X0_copy 13 5 ν) fun v10 μ11 => bd (X0_halveWind 13 ((p : Nat) : Int) μ11) fun v13 μ14 => if v13 = 0 then K (-1) μ14 else (bd (X10_leastInTrial (p0 : Int) μ14) fun v20 μ21 => K v20 μ21)) = K (V p) ν2) : ∀ (r k fuel : Nat) (ν : Mm), k + r = 8 → r < fuel → Q ν → ∃ ν', Q ν' ∧ X10_rope_L25 (p0 : Int) l2 K fuel (hf V k).1 (hf V k).2 (k : Int) ν = K (hf V 8).1 (hf V 8).2 ν' := by
  intro r
  induction r with
  | zero =>
    intro k fuel ν hr hfu hQ
    obtain ⟨g, rfl, _⟩ := lt_fuel hfu
    have e : k = 8 := by omega
    refine ⟨ν, hQ, ?_⟩
    show (if 8 ≤ (k : Int) then _ else _) = _
    rw [if_pos (by omega), e]
  | succ r ih =>
    intro k fuel ν hr hfu hQ
    obtain ⟨g, rfl, _⟩ := lt_fuel hfu
    obtain ⟨ν2, q2, e2⟩ := hst k ν (by omega) hQ
    obtain ⟨ν', q3, e3⟩ := ih (k + 1) g ν2 (by omega) (by omega) q2
    refine ⟨ν', q3, ?_⟩
    rw [← e3, ← ro64 (K := fun w3 w4 w5 μq => X10_rope_L25 (p0 : Int) l2 K g w3 w4 w5 μq) (l1 := (p0 : Int)) (l2 := l2) (k := k) (by omega)]
    show (if 8 ≤ (k : Int) then _ else _) = _
    rw [if_neg (by omega)]
    exact e2 (fun v μ' => X10_rope_J64 (fun w3 w4 w5 μq => X10_rope_L25 (p0 : Int) l2 K g w3 w4 w5 μq) (p0 : Int) l2 (hf V k).1 (hf V k).2 (k : Int) v μ')
theorem roM_L (hVn : ∀ k, V k = -1 ∨ 0 ≤ V k) {ν0 : Mm} {l2 : Int} {K : Int → Int → Mm → Rs} (hst : ∀ p ξ, p < 8 → Sm ν0 ξ → X11_isCrank ((p : Nat) : Int) ξ = some (if μ 7 p = -1 then 0 else 1, ξ) ∧ (¬ μ 7 p ≠ -1 → V p = -1) ∧ ξ 86 p = μ 8 p ∧ iD (iA (μ 8 p) 1) 2 = (μ 8 p + 1) / 2 ∧ (μ 7 p ≠ -1 → ∃ ξ2, X11_leastNow (p0 : Int) (sM ξ 86 p ((μ 8 p + 1) / 2)) = some (V p, ξ2) ∧ Sm ν0 (sM ξ2 86 p (μ 8 p)))) : ∀ (r k fuel : Nat) (w l : Int) (ξ : Mm), k + r = 8 → r < fuel → Sm ν0 ξ → hfM V k w l → ∃ (w' l' : Int) (ξ' : Mm), Sm ν0 ξ' ∧ hfM V 8 w' l' ∧ X11_rope_L27 (p0 : Int) l2 K fuel w l (k : Int) ξ = K w' l' ξ' := by
  intro r
  induction r with
  | zero =>
    intro k fuel w l ξ hr hfu hS hh
    obtain ⟨g, rfl, _⟩ := lt_fuel hfu
    have e : k = 8 := by omega
    rw [e] at hh
    refine ⟨w, l, ξ, hS, hh, ?_⟩
    show (if 8 ≤ (k : Int) then _ else _) = _
    rw [if_pos (by omega)]
  | succ r ih =>
    intro k fuel w l ξ hr hfu hS hh
    obtain ⟨g, rfl, _⟩ := lt_fuel hfu
    obtain ⟨s1, s2, s3, s5, s4⟩ := hst k ξ (by omega) hS
    have i8 : (0 : Int) ≤ (k : Int) ∧ (k : Int) < 8 := by clear s5; omega
    have ek : iA (k : Int) 1 = ((k + 1 : Nat) : Int) := iA_nat (by clear s5; omega)
    by_cases c1 : μ 7 k ≠ -1
    · obtain ⟨ξ2, e2, q2⟩ := s4 c1
      have e0 : X11_rope_L27 (p0 : Int) l2 K (g + 1) w l (k : Int) ξ = if V k = -1 then X11_rope_L27 (p0 : Int) l2 K g w l ((k + 1 : Nat) : Int) (sM ξ2 86 k (μ 8 k)) else if w = -1 then X11_rope_L27 (p0 : Int) l2 K g (k : Int) (V k) ((k + 1 : Nat) : Int) (sM ξ2 86 k (μ 8 k)) else if l ≤ V k then X11_rope_L27 (p0 : Int) l2 K g w l ((k + 1 : Nat) : Int) (sM ξ2 86 k (μ 8 k)) else X11_rope_L27 (p0 : Int) l2 K g (k : Int) (V k) ((k + 1 : Nat) : Int) (sM ξ2 86 k (μ 8 k)) := by
        show (if 8 ≤ (k : Int) then _ else _) = _
        rw [if_neg (by clear s5 ek; omega), s1, if_neg c1, bd_some, if_neg (by decide)]
        unfold ldA stA
        rw [if_pos (by exact i8), Int.toNat_natCast, s3]
        try dsimp only
        rw [if_pos (by exact i8), s5]
        try dsimp only
        rw [e2, bd_some, if_pos (by exact i8), ek]
      rw [e0]
      clear e0 ek s5
      by_cases d1 : V k = -1
      · rw [if_pos d1]
        exact ih (k + 1) g w l _ (by omega) (by omega) q2 (hfM_n hh d1)
      · obtain ⟨t1, t2, t3⟩ := hfM_s hVn hh d1
        rw [if_neg d1]
        by_cases d2 : w = -1
        · rw [if_pos d2]
          exact ih (k + 1) g _ _ _ (by omega) (by omega) q2 (t1 d2)
        · rw [if_neg d2]
          by_cases d3 : l ≤ V k
          · rw [if_pos d3]
            exact ih (k + 1) g _ _ _ (by omega) (by omega) q2 (t2 d2 d3)
          · rw [if_neg d3]
            exact ih (k + 1) g _ _ _ (by omega) (by omega) q2 (t3 d2 d3)
    · have c1' : μ 7 k = -1 := Classical.byContradiction c1
      obtain ⟨w', l', ξ', q1, q2, q3⟩ := ih (k + 1) g w l ξ (by clear ek s5; omega) (by clear ek s5; omega) hS (hfM_n hh (s2 c1))
      refine ⟨w', l', ξ', q1, q2, ?_⟩
      rw [← q3]
      show (if 8 ≤ (k : Int) then _ else _) = _
      rw [if_neg (by clear s5 ek; omega), s1, if_pos c1', bd_some, if_pos rfl, ek]
end RO_
theorem m_rope : ∀ a0, rI a0 → ∀ a1, rI a1 → sI Inv Inv (X10_rope a0 a1) (X11_rope a0 a1) := by
  intro a ha c hc μ hI
  have t1 := t_X10_rope (W := scr) (μs := μ) (hW := fun _ _ h => h) (hp_l1 := ha) (hp_l2 := hc) (St_rf hI.1)
  have no : ∀ ν, Inv ν → (X11_isReady a ν = some (0, ν) ∨ ¬ (0 ≤ c ∧ c ≤ 1)) → ∃ μ2, X11_rope a c ν = some (-1, μ2) ∧ Inv μ2 := by
    intro ν hν h
    rcases rdyAny hν a with z | ⟨ξ, m, h1, h2, h3, h4⟩
    · exact ⟨ν, by unfold X11_rope; rw [z, bd_some, if_pos rfl], hν⟩
    · by_cases cc : 0 ≤ c ∧ c ≤ 1
      · exact (some_ne h1 (h.resolve_right (fun z => z cc))).elim
      · exact ⟨ξ, by unfold X11_rope; rw [h1, bd_some, if_neg (by decide), in_no _ cc, bd_some, if_pos rfl], Inv_Sm hν h2⟩
  by_cases cc : 0 ≤ c ∧ c ≤ 1
  · have R1 : X10_rope a c μ = bd (X10_lay a μ) fun v5 μ6 => if v5 = 0 then (some ((-1), μ6)) else (X10_rope_L25 a c (fun v23 v24 μ25 => if c = 0 then (some (v23, μ25)) else (some (v24, μ25))) FU (-1) (-1) 0 μ6) := by
      unfold X10_rope
      rw [half_y cc, bd_some, if_neg (by decide)]
    by_cases cr0 : μ 70 23 = 0 ∨ ¬ (0 ≤ a ∧ a < μ 70 28)
    · obtain ⟨μ2, e2, h2⟩ := no μ hI (Or.inl (rdy_no hI.2.1.1 cr0))
      refine ⟨-1, μ, μ2, ?_, e2, h2⟩
      rw [R1, lay_no hI cr0, bd_some, if_pos rfl]
    · have h23 : μ 70 23 ≠ 0 := fun z => cr0 (Or.inl z)
      have hap : 0 ≤ a ∧ a < μ 70 28 := Classical.byContradiction (fun z => cr0 (Or.inr z))
      obtain ⟨p, rfl⟩ : ∃ p : Nat, a = (p : Int) := ⟨a.toNat, by omega⟩
      obtain ⟨L, T, ν, hPk, g1, g2, g3, g4⟩ := layK hI h23 hap.2
      obtain ⟨s, hG, hs, h53, hW, h86, h57, hP⟩ := base13 hI h23
      have hK := hI.2.2.2.2.2.1
      obtain ⟨V, hV⟩ := ofP (fun d => μ 7 d ≠ -1) (fun d => asV L T (opM μ) (μ 7) s (hlW μ d) (μ 70 30))
      have hVn : ∀ k, V k = -1 ∨ 0 ≤ V k := fun k => by
        by_cases z : μ 7 k ≠ -1
        · rw [(hV k).1 z]; exact asV_n
        · exact Or.inl ((hV k).2 z)
      obtain ⟨ν1, q1, k1⟩ := roC_L (V := V) (p0 := p) (l2 := c) (K := fun v23 v24 μ25 => if c = 0 then (some (v23, μ25)) else (some (v24, μ25))) (Q := tryK μ T L.length) (fun q ν hq hQ => roC_s hI hPk hG h53 h57 hW hP hV hq hQ) 8 0 FU ν (by decide) (by decide) g2
      have k1 : X10_rope_L25 (p : Int) c (fun v23 v24 μ25 => if c = 0 then (some (v23, μ25)) else (some (v24, μ25))) FU (-1) (-1) 0 ν = if c = 0 then (some ((hf V 8).1, ν1)) else (some ((hf V 8).2, ν1)) := k1
      have R2 : X10_rope (p : Int) c μ = some (if c = 0 then (hf V 8).1 else (hf V 8).2, ν1) := by
        rw [R1, g1, bd_some, if_neg (by decide), k1]
        by_cases c0 : c = 0
        · rw [if_pos c0, if_pos c0]
        · rw [if_neg c0, if_neg c0]
      rw [R2, wp_some] at t1
      have hI1 := Inv_St hI t1.1
      have e1 : sameK μ ν1 := t1.1.2
      obtain ⟨ξ, y1, y2⟩ := g4 ν1 hI1 e1
      have n0 : ∀ ξ, Sm ν1 ξ → ∀ k j, ¬ scr k j → ¬ scrM k j → ξ k j = μ k j := fun ξ hS k j h1 h2 => by rw [hS.2 k j h2, e1 k j h1]
      obtain ⟨w', l', ξ', s1, s2, s3⟩ := roM_L (μ := μ) (V := V) (p0 := p) (l2 := c) (K := fun v26 v27 μ28 => if v26 = (-1) then (some (v26, μ28)) else (if c = 0 then (some (v26, μ28)) else (some (v27, μ28)))) hVn (ν0 := ν1) (fun q ξ hq hS => by
        have h82 : ∀ j, ξ 82 j = μ 82 j := fun j => n0 ξ hS 82 j (by unfold scr; omega) (by unfold scrM; omega)
        have e23 := n0 ξ hS 70 23 (by unfold scr; omega) (by unfold scrM; omega)
        have e24 := n0 ξ hS 70 24 (by unfold scr; omega) (by unfold scrM; omega)
        have hQ : PlM ξ (μ 7) := PlM_c h82 e23 e24 (Kc_PlM hK)
        have e86 : ∀ d, d < 8 → ξ 86 d = μ 8 d := fun d hd => by rw [n0 ξ hS 86 d (by unfold scr; omega) (by unfold scrM; omega)]; exact (h86 d hd).symm
        have h8 := hW.2 q hq
        obtain ⟨hW', hv1, hv2⟩ := hlW_ok hW hq
        refine ⟨?_, (hV q).2, e86 q hq, ?_, fun hcp => ?_⟩
        · obtain ⟨r, er, hr⟩ := isCr (μ := ξ) (a := (q : Int)) (by omega)
          rw [er]
          rcases hr with ⟨r0, hno⟩ | ⟨r1, _, _, x, x1, x2, x3⟩
          · have : μ 7 q = -1 := by
              rcases hQ q hq with ⟨z, _⟩ | ⟨x, x1, x2, x3, x4⟩
              · exact z
              · exact absurd x4 (hno (by omega) (by omega) x x1 x3)
            rw [if_pos this, r0]
          · have : μ 7 q ≠ -1 := fun z => by
              rcases hQ q hq with ⟨_, y⟩ | ⟨y, y1, y2, _⟩
              · exact y x x1 x2 x3
              · omega
            rw [if_neg this, r1]
        · rw [iA_id (by omega) (by omega), iD_id (by omega) (by omega) (by decide)]
        · have hIr := Ir_of hI1.2.1 hS
          have i : ∀ x, isP (sM ξ 86 q ((μ 8 q + 1) / 2)) x ↔ isP μ x := isP_congr (by rw [sM_a (by decide)]; exact e23) (by rw [sM_a (by decide)]; exact e24)
          have u1 : nearM μ (sM ξ 86 q ((μ 8 q + 1) / 2)) := fun k j h1 h2 h3 h4 => by rw [sM_a h4]; exact n0 ξ hS k j h1 h2
          have u2 : TrM (sM ξ 86 q ((μ 8 q + 1) / 2)) (opM μ) (μ 7) s (hlW μ q) (μ 70 30) := by
            refine ⟨Ir_congr hIr (Bm_sM hIr.1 (show (0 : Int) ≤ (μ 8 q + 1) / 2 ∧ (μ 8 q + 1) / 2 ≤ 30 by omega)) (fun k j hp => sM_a (by unfold perI at hp; omega)), fun x => ?_, PlM_c (fun j => by rw [sM_a (by decide)]; exact h82 j) (by rw [sM_a (by decide)]; exact e23) (by rw [sM_a (by decide)]; exact e24) (Kc_PlM hK), ⟨hs.1, (i s).mpr hs.2.1, by rw [sM_a (by decide), h82]; exact hs.2.2⟩, fun d hd => ?_, by rw [sM_a (by decide)]; exact n0 ξ hS 70 30 (by unfold scr; omega) (by unfold scrM; omega), by rw [sM_a (by decide), e23]; exact h23⟩
            · unfold opM
              rw [i x, sM_a (by decide), h82]
            · unfold hlW
              rw [sM_if]
              by_cases z : d = q
              · rw [if_pos z, if_pos z]
              · rw [if_neg z, if_neg z]; exact e86 d hd
          obtain ⟨ξ2, u3, u4⟩ := asM hPk hG hW' u1 u2
          refine ⟨ξ2, by rw [u3, (hV q).1 hcp], Bm_sM u4.1 (show (0 : Int) ≤ μ 8 q ∧ μ 8 q ≤ 30 by omega), fun k j hn => ?_⟩
          by_cases z : k = 86
          · subst z
            rw [sM_if]
            by_cases y : j = q
            · rw [if_pos y, y, ← e86 q hq, hS.2 86 q (by unfold scrM; omega)]
            · rw [if_neg y, u4.2 86 j hn, sM_j y, hS.2 86 j hn]
          · rw [sM_a z, u4.2 k j hn, sM_a z, hS.2 k j hn]) 8 0 FU (-1) 0 ξ (by decide) (by decide) y2 ⟨rfl, Or.inl rfl⟩
      have s3 : X11_rope_L27 (p : Int) c (fun v26 v27 μ28 => if v26 = (-1) then (some (v26, μ28)) else (if c = 0 then (some (v26, μ28)) else (some (v27, μ28)))) FU (-1) 0 0 ξ = if w' = (-1) then (some (w', ξ')) else (if c = 0 then (some (w', ξ')) else (some (l', ξ'))) := s3
      have R3 : X11_rope (p : Int) c ν1 = some (if c = 0 then (hf V 8).1 else (hf V 8).2, ξ') := by
        unfold X11_rope
        rw [y1, bd_some, if_neg (by decide), in_rg _ cc, bd_some, if_neg (by decide), s3]
        obtain ⟨z1, z2⟩ := s2
        have hr := hf_rel hVn 8
        by_cases d1 : w' = -1
        · have h2 : (hf V 8).2 = -1 := by omega
          rw [if_pos d1, h2, ← z1, d1]
          by_cases c0 : c = 0
          · rw [if_pos c0]
          · rw [if_neg c0]
        · have h2 : l' = (hf V 8).2 := z2.resolve_left (by omega)
          rw [if_neg d1, z1, h2]
          by_cases c0 : c = 0
          · rw [if_pos c0, if_pos c0]
          · rw [if_neg c0, if_neg c0]
      exact ⟨_, ν1, ξ', R2, R3, Inv_Sm hI1 s1⟩
  · obtain ⟨μ2, e2, h2⟩ := no μ hI (Or.inr cc)
    refine ⟨-1, μ, μ2, ?_, e2, h2⟩
    unfold X10_rope
    rw [half_n cc, bd_some, if_pos rfl]
