/-! POST and PILLAR: one PLACE altered for a while -/
/-- open places with v at p -/
def alO (μ : Mm) (p : Nat) (v : Int) (q : Nat) : Prop := q < 60 ∧ isP μ q ∧ (if q = p then v else μ 82 q) ≠ 1
theorem base13 {μ : Mm} (hI : Inv μ) (h23 : μ 70 23 ≠ 0) : ∃ s : Nat, Cg (opM μ) (μ 7) s ∧ (s < 60 ∧ isP μ s ∧ μ 82 s = 2) ∧ μ 5 3 = (s : Int) ∧ okWS (μ 8) (μ 70 30) ∧ (∀ c, c < 8 → μ 8 c = μ 86 c) ∧ μ 5 7 = μ 70 30 ∧ (∀ p, opM μ p ↔ (p < 60 ∧ μ 6 p ≠ -1 ∧ μ 6 p ≠ 1)) := by
  obtain ⟨s, s1, s2, s3, s4⟩ := strt hI h23
  have hK := hI.2.2.2.2.2.1
  have hB := hI.2.1.1
  refine ⟨s, ⟨fun p h => h.1, ⟨s1, s2, by omega⟩, fun c hc => ?_⟩, ⟨s1, s2, s3⟩, s4, ⟨hB 70 30 (by decide), fun c hc => hI.1.1 8 c (by decide)⟩, fun c hc => hK.2.2.2.2.2.2.2.2.2 h23 c hc, hK.2.2.2.2.2.2.2.1, fun p => (Cp_op (l0 := 5) hB hK.1 p).symm⟩
  rcases Kc_pl hK hc with z | ⟨q, z1, z2, z3, z4⟩
  · exact Or.inl z
  · exact Or.inr ⟨q, z2, z1, z3, by omega⟩
theorem cpk {μ ν : Mm} (e : sameK μ ν) : (∀ j, j < 60 → cpC 13 5 ν 14 j = μ 6 j) ∧ (∀ j, j < 8 → cpC 13 5 ν 15 j = μ 7 j) ∧ (∀ j, j < 8 → cpC 13 5 ν 16 j = μ 8 j) ∧ cpC 13 5 ν 13 3 = μ 5 3 ∧ cpC 13 5 ν 13 6 = μ 5 6 ∧ cpC 13 5 ν 13 7 = μ 5 7 ∧ sameK μ (cpC 13 5 ν) ∧ ∀ j, cpC 13 5 ν 50 j = ν 50 j := by
  obtain ⟨h1, h2, h3, h4⟩ := cpC_h (l0 := 13) (l1 := 5) (μ := ν) (Or.inr (by decide))
  have n1 : ∀ k j, ¬ scr k j → ν k j = μ k j := e
  refine ⟨fun j hj => (h2 j hj).trans (n1 6 j (by unfold scr; omega)), fun j hj => (h3 j hj).trans (n1 7 j (by unfold scr; omega)), fun j hj => (h4 j hj).trans (n1 8 j (by unfold scr; omega)), (h1 3 (by decide) (by decide)).trans (n1 5 3 (by unfold scr; omega)), (h1 6 (by decide) (by decide)).trans (n1 5 6 (by unfold scr; omega)), (h1 7 (by decide) (by decide)).trans (n1 5 7 (by unfold scr; omega)), fun k j hn => ?_, fun j => cpC_o (by omega) j⟩
  rw [cpC_o (by unfold scr at hn; omega) j]
  exact n1 k j hn
section ALT
variable {μ : Mm} {s p : Nat} {v : Int}
theorem alO_G (hG : Cg (opM μ) (μ 7) s) (hs : s < 60 ∧ isP μ s ∧ μ 82 s = 2) (hK : Kc μ 5 82 86 30 31) (h82 : μ 82 p < 2) : Cg (alO μ p v) (μ 7) s := by
  refine ⟨fun q h => h.1, ⟨hs.1, hs.2.1, ?_⟩, fun c hc => ?_⟩
  · rw [if_neg (fun e => by rw [e] at hs; omega), hs.2.2]; decide
  · rcases Kc_pl hK hc with z | ⟨q, z1, z2, z3, z4⟩
    · exact Or.inl z
    · refine Or.inr ⟨q, z2, z1, z3, ?_⟩
      rw [if_neg (fun e => by rw [e] at z4; omega)]
      omega
theorem altC (hP : ∀ p, opM μ p ↔ (p < 60 ∧ μ 6 p ≠ -1 ∧ μ 6 p ≠ 1)) (h53 : μ 5 3 = (s : Int)) (h57 : μ 5 7 = μ 70 30) {ν : Mm} (e : sameK μ ν) (hp : p < 60) (ip : isP μ p) (hv : 0 ≤ v) {w : Int} : TrC 13 (sM (sM (cpC 13 5 ν) 14 p v) 13 6 w) (alO μ p v) (μ 7) s (μ 8) (μ 70 30) := by
  obtain ⟨k1, k2, k3, k4, k5, k6, _⟩ := cpk e
  refine ⟨fun q => ?_, fun c hc => ?_, ?_, fun c hc => ?_, ?_⟩
  · have e14 : sM (sM (cpC 13 5 ν) 14 p v) 13 6 w 14 q = if q = p then v else cpC 13 5 ν 14 q := by rw [sM_a (by decide), sM_if]
    show (q < 60 ∧ sM (sM (cpC 13 5 ν) 14 p v) 13 6 w 14 q ≠ -1 ∧ sM (sM (cpC 13 5 ν) 14 p v) 13 6 w 14 q ≠ 1) ↔ (q < 60 ∧ isP μ q ∧ (if q = p then v else μ 82 q) ≠ 1)
    rw [e14]
    by_cases c : q = p
    · rw [if_pos c, if_pos c, c]
      exact ⟨fun z => ⟨z.1, ip, z.2.2⟩, fun z => ⟨z.1, by omega, z.2.2⟩⟩
    · rw [if_neg c, if_neg c]
      constructor
      · rintro ⟨z1, z2, z3⟩
        rw [k1 q z1] at z2 z3
        exact (hP q).mpr ⟨z1, z2, z3⟩
      · rintro ⟨z1, z2, z3⟩
        rw [k1 q z1]
        exact (hP q).mp ⟨z1, z2, z3⟩
  · show sM (sM (cpC 13 5 ν) 14 p v) 13 6 w 15 c = μ 7 c
    rw [sM_a (by decide), sM_a (by decide)]; exact k2 c hc
  · rw [sM_j (by decide), sM_a (by decide), k4]; exact h53
  · show sM (sM (cpC 13 5 ν) 14 p v) 13 6 w 16 c = μ 8 c
    rw [sM_a (by decide), sM_a (by decide)]; exact k3 c hc
  · rw [sM_j (by decide), sM_a (by decide), k6]; exact h57
theorem altM (hs : s < 60 ∧ isP μ s ∧ μ 82 s = 2) (hK : Kc μ 5 82 86 30 31) (h23 : μ 70 23 ≠ 0) {ν0 ξ : Mm} (e0 : sameK μ ν0) (hI0 : Inv ν0) (hS : Sm ν0 ξ) (hv : 0 ≤ v ∧ v < 2) (h82 : μ 82 p < 2) : nearM μ (sM ξ 82 p v) ∧ TrM (sM ξ 82 p v) (alO μ p v) (μ 7) s (μ 8) (μ 70 30) := by
  have n0 : ∀ k j, ¬ scr k j → ¬ scrM k j → ξ k j = μ k j := fun k j h1 h2 => by rw [hS.2 k j h2, e0 k j h1]
  have nn : ∀ k j, ¬ scr k j → ¬ scrM k j → k ≠ 82 → sM ξ 82 p v k j = μ k j := fun k j h1 h2 h3 => by rw [sM_a h3]; exact n0 k j h1 h2
  have i : ∀ q, isP (sM ξ 82 p v) q ↔ isP μ q := isP_congr (nn 70 23 (by unfold scr; omega) (by unfold scrM; omega) (by decide)) (nn 70 24 (by unfold scr; omega) (by unfold scrM; omega) (by decide))
  have f82 : ∀ q, sM ξ 82 p v 82 q = if q = p then v else μ 82 q := fun q => by
    rw [sM_if, n0 82 q (by unfold scr; omega) (by unfold scrM; omega)]
  refine ⟨fun k j h1 h2 h3 _ => nn k j h1 h2 h3, Ir_82 (Ir_of hI0.2.1 hS) (by rw [n0 82 p (by unfold scr; omega) (by unfold scrM; omega)]; exact h82) hv, fun q => ?_, fun c hc => ?_, ⟨hs.1, (i s).mpr hs.2.1, ?_⟩, fun c hc => ?_, nn 70 30 (by unfold scr; omega) (by unfold scrM; omega) (by decide), ?_⟩
  · unfold opM alO
    rw [i q, f82]
  · rcases Kc_PlM hK c hc with ⟨h1, h2⟩ | ⟨q, h1, h2, h3, h4⟩
    · refine Or.inl ⟨h1, fun q hq iq => ?_⟩
      rw [f82]
      by_cases z : q = p
      · rw [if_pos z]; omega
      · rw [if_neg z]; exact h2 q hq ((i q).mp iq)
    · refine Or.inr ⟨q, h1, h2, (i q).mpr h3, ?_⟩
      rw [f82, if_neg (fun z => by rw [z] at h4; omega)]
      exact h4
  · rw [f82, if_neg (fun z => by rw [← z] at h82; omega)]
    exact hs.2.2
  · rw [nn 86 c (by unfold scr; omega) (by unfold scrM; omega) (by decide)]
    exact (hK.2.2.2.2.2.2.2.2.2 h23 c hc).symm
  · rw [nn 70 23 (by unfold scr; omega) (by unfold scrM; omega) (by decide)]; exact h23
theorem altS {ν0 ξ ξ2 : Mm} (hS : Sm ν0 ξ) (h2 : Sm (sM ξ 82 p v) ξ2) {u : Int} (hu : u = ν0 82 p) (hb : 0 ≤ u ∧ u ≤ 10) : Sm ν0 (sM ξ2 82 p u) := by
  refine ⟨Bm_sM h2.1 (show (0 : Int) ≤ u ∧ u ≤ 10 from hb), fun k j hn => ?_⟩
  by_cases c : k = 82
  · subst c
    rw [sM_if]
    by_cases d : j = p
    · rw [if_pos d, hu, d]
    · rw [if_neg d, h2.2 82 j hn, sM_j d, hS.2 82 j hn]
  · rw [sM_a c, h2.2 k j hn, sM_a c, hS.2 k j hn]
end ALT
/-- what the class keeps while it tries -/
def tryK (μ : Mm) (T : Nat → Int) (m : Nat) (ν : Mm) : Prop := sameK μ ν ∧ ∀ k, k < m → ν 50 k = T k
theorem Wlt_scr : ∀ k j, Wlt k j → scr k j := fun k j h => by unfold Wlt Wj fW Wsk at h; unfold scr; omega
theorem tryK_l {μ ν ν' : Mm} {T : Nat → Int} {m : Nat} (h : tryK μ T m ν) (f : fw Wlt ν ν') : tryK μ T m ν' :=
  ⟨sameK_fw Wlt_scr h.1 f, fun k hk => by rw [f 50 k (by unfold Wlt Wj fW Wsk; omega)]; exact h.2 k hk⟩
theorem ofP (P : Nat → Prop) (f : Nat → Int) : ∃ V : Nat → Int, ∀ p, (P p → V p = f p) ∧ (¬ P p → V p = -1) :=
  ⟨fun p => @ite Int (P p) (Classical.propDecidable _) (f p) (-1), fun p => ⟨fun h => if_pos h, fun h => if_neg h⟩⟩
def PC (μ : Mm) (u : Int) (p : Nat) : Prop := isP μ p ∧ μ 82 p = u
theorem PC_6 {μ : Mm} (hK : Kc μ 5 82 86 30 31) {u : Int} (hu : 0 ≤ u) {p : Nat} (hp : p < 60) : μ 6 p = u ↔ PC μ u p := by
  have h1 : (isP μ p → μ 6 p = μ 82 p) ∧ (¬ isP μ p → μ 6 p = -1) := hK.1 p hp
  unfold PC
  constructor
  · intro z
    have ip : isP μ p := Classical.byContradiction (fun n => by have := h1.2 n; omega)
    have := h1.1 ip
    exact ⟨ip, by omega⟩
  · rintro ⟨z1, z2⟩
    rw [h1.1 z1]; exact z2
/-! POST -/
theorem cel13 {c : Mm} {p : Nat} (hp : p < 60) : X0_cellAt 13 (p : Int) c = some (c 14 p, c) := by
  unfold X0_cellAt ldA
  rw [if_neg (by omega), if_neg (by omega), if_pos (by show (0 : Int) ≤ (p : Int) ∧ (p : Int) < 60; omega), Int.toNat_natCast]
section PO_
variable {μ : Mm} {L : List (Int × Int)} {T : Nat → Int} {s p0 : Nat} {V : Nat → Int}
theorem poC_s (hI : Inv μ) (hPk : Pk μ p0 L T) (hG : Cg (opM μ) (μ 7) s) (hs : s < 60 ∧ isP μ s ∧ μ 82 s = 2) (h53 : μ 5 3 = (s : Int)) (h57 : μ 5 7 = μ 70 30) (hW : okWS (μ 8) (μ 70 30)) (hP : ∀ p, opM μ p ↔ (p < 60 ∧ μ 6 p ≠ -1 ∧ μ 6 p ≠ 1)) (hV : ∀ p, (PC μ 1 p → V p = asV L T (alO μ p 0) (μ 7) s (μ 8) (μ 70 30)) ∧ (¬ PC μ 1 p → V p = -1)) {p : Nat} (hp : p < 60) {ν : Mm} (h : tryK μ T L.length ν) : ∃ ν2, tryK μ T L.length ν2 ∧ ∀ (K : Int → Mm → Rs), (bd (X0_copy 13 5 ν) fun v10 μ11 => bd (X0_takePost 13 (p : Int) μ11) fun v13 μ14 => if v13 = 0 then K (-1) μ14 else (bd (X10_leastInTrial (p0 : Int) μ14) fun v20 μ21 => K v20 μ21)) = K (V p) ν2 := by
  have hK := hI.2.2.2.2.2.1
  obtain ⟨k1, k2, k3, k4, k5, k6, k7, k8⟩ := cpk h.1
  have hc6 := PC_6 hK (u := 1) (by decide) hp
  have e14 := k1 p hp
  by_cases c : PC μ 1 p
  · have c6 : cpC 13 5 ν 14 p = 1 := by rw [e14]; exact hc6.mpr c
    obtain ⟨ν1, hν1⟩ : ∃ x, x = sM (sM (cpC 13 5 ν) 14 p 0) 13 6 (iS (cpC 13 5 ν 13 6) 1) := ⟨_, rfl⟩
    have eT : X0_takePost 13 (p : Int) (cpC 13 5 ν) = some (1, ν1) := by
      unfold X0_takePost
      rw [cel13 hp, bd_some, if_pos c6]
      unfold stA
      rw [if_pos (by show (0 : Int) ≤ (p : Int) ∧ (p : Int) < 60; omega), Int.toNat_natCast]
      try dsimp only
      rw [sF_r, sM_a (show (13 : Nat) ≠ 14 by decide), hν1]
    have hT : TrC 13 ν1 (alO μ p 0) (μ 7) s (μ 8) (μ 70 30) := by
      rw [hν1]
      exact altC hP h53 h57 h.1 hp c.1 (Int.le_refl 0)
    have hk1 : tryK μ T L.length ν1 := by
      rw [hν1]
      exact ⟨fun k j hn => by rw [sM_a (by unfold scr at hn; omega), sM_a (by unfold scr at hn; omega)]; exact k7 k j hn, fun k hk => by rw [sM_a (by decide), sM_a (by decide), k8]; exact h.2 k hk⟩
    obtain ⟨ν2, f2, e2⟩ := asC hPk (alO_G hG hs hK (by rw [c.2]; decide)) hW hk1.1 hT hk1.2
    refine ⟨ν2, tryK_l hk1 f2, fun K => ?_⟩
    rw [cp13, bd_some, eT, bd_some, if_neg (by decide), e2, bd_some, (hV p).1 c]
  · have c6 : ¬ cpC 13 5 ν 14 p = 1 := by rw [e14]; exact fun z => c (hc6.mp z)
    have eT : X0_takePost 13 (p : Int) (cpC 13 5 ν) = some (0, cpC 13 5 ν) := by
      unfold X0_takePost
      rw [cel13 hp, bd_some, if_neg c6]
    refine ⟨cpC 13 5 ν, ⟨k7, fun k hk => by rw [k8]; exact h.2 k hk⟩, fun K => ?_⟩
    rw [cp13, bd_some, eT, bd_some, if_pos rfl, (hV p).2 c]
theorem po64 {K : Int → Int → Int → Mm → Rs} {l1 l2 : Int} {k : Nat} (hk : k < 1000) {ν : Mm} : X10_post_J64 K l1 l2 (hf V k).1 (hf V k).2 (k : Int) (V k) ν = K (hf V (k + 1)).1 (hf V (k + 1)).2 ((k + 1 : Nat) : Int) ν := by
  have e : hf V (k + 1) = if V k = -1 then hf V k else if (hf V k).2 = -1 then ((k : Int), V k) else if (hf V k).2 ≤ V k then hf V k else ((k : Int), V k) := rfl
  unfold X10_post_J64
  rw [iA_nat (by omega), e]
  by_cases c1 : V k = -1
  · rw [if_pos c1, if_pos c1]
  · rw [if_neg c1, if_neg c1]
    by_cases c2 : (hf V k).2 = -1
    · rw [if_pos c2, if_pos c2]
    · rw [if_neg c2, if_neg c2]
      by_cases c3 : (hf V k).2 ≤ V k
      · rw [if_pos c3, if_pos c3]
      · rw [if_neg c3, if_neg c3]
theorem poC_L {Q : Mm → Prop} {l2 : Int} {K : Int → Int → Mm → Rs} (hst : ∀ p ν, p < 60 → Q ν → ∃ ν2, Q ν2 ∧ ∀ (K : Int → Mm → Rs), (bd (X0_copy 13 5 ν) fun v10 μ11 => bd (X0_takePost 13 ((p : Nat) : Int) μ11) fun v13 μ14 => if v13 = 0 then K (-1) μ14 else (bd (X10_leastInTrial (p0 : Int) μ14) fun v20 μ21 => K v20 μ21)) = K (V p) ν2) : ∀ (r k fuel : Nat) (ν : Mm), k + r = 60 → r < fuel → Q ν → ∃ ν', Q ν' ∧ X10_post_L25 (p0 : Int) l2 K fuel (hf V k).1 (hf V k).2 (k : Int) ν = K (hf V 60).1 (hf V 60).2 ν' := by
  intro r
  induction r with
  | zero =>
    intro k fuel ν hr hfu hQ
    obtain ⟨g, rfl, _⟩ := lt_fuel hfu
    have e : k = 60 := by omega
    refine ⟨ν, hQ, ?_⟩
    show (if 60 ≤ (k : Int) then _ else _) = _
    rw [if_pos (by omega), e]
  | succ r ih =>
    intro k fuel ν hr hfu hQ
    obtain ⟨g, rfl, _⟩ := lt_fuel hfu
    obtain ⟨ν2, q2, e2⟩ := hst k ν (by omega) hQ
    obtain ⟨ν', q3, e3⟩ := ih (k + 1) g ν2 (by omega) (by omega) q2
    refine ⟨ν', q3, ?_⟩
    rw [← e3, ← po64 (K := fun w3 w4 w5 μq => X10_post_L25 (p0 : Int) l2 K g w3 w4 w5 μq) (l1 := (p0 : Int)) (l2 := l2) (k := k) (by omega)]
    show (if 60 ≤ (k : Int) then _ else _) = _
    rw [if_neg (by omega)]
    exact e2 (fun v μ' => X10_post_J64 (fun w3 w4 w5 μq => X10_post_L25 (p0 : Int) l2 K g w3 w4 w5 μq) (p0 : Int) l2 (hf V k).1 (hf V k).2 (k : Int) v μ')
/-- the reference's -/
def hfM (V : Nat → Int) (k : Nat) (w l : Int) : Prop := w = (hf V k).1 ∧ ((hf V k).1 = -1 ∨ l = (hf V k).2)
theorem hfM_s {V : Nat → Int} (hV : ∀ k, V k = -1 ∨ 0 ≤ V k) {k : Nat} {w l : Int} (h : hfM V k w l) (hc : V k ≠ -1) : (w = -1 → hfM V (k + 1) (k : Int) (V k)) ∧ (w ≠ -1 → l ≤ V k → hfM V (k + 1) w l) ∧ (w ≠ -1 → ¬ l ≤ V k → hfM V (k + 1) (k : Int) (V k)) := by
  have e : hf V (k + 1) = if V k = -1 then hf V k else if (hf V k).2 = -1 then ((k : Int), V k) else if (hf V k).2 ≤ V k then hf V k else ((k : Int), V k) := rfl
  rw [if_neg hc] at e
  obtain ⟨h1, h2⟩ := h
  have hr := hf_rel hV k
  unfold hfM
  refine ⟨fun z => ?_, fun z y => ?_, fun z y => ?_⟩
  · have : (hf V k).2 = -1 := by omega
    rw [if_pos this] at e
    rw [e]
    exact ⟨rfl, Or.inr rfl⟩
  · have e2 : l = (hf V k).2 := h2.resolve_left (by omega)
    rw [if_neg (show ¬ (hf V k).2 = -1 by omega), if_pos (by omega)] at e
    rw [e]
    exact ⟨h1, Or.inr e2⟩
  · have e2 : l = (hf V k).2 := h2.resolve_left (by omega)
    rw [if_neg (show ¬ (hf V k).2 = -1 by omega), if_neg (by omega)] at e
    rw [e]
    exact ⟨rfl, Or.inr rfl⟩
theorem hfM_n {V : Nat → Int} {k : Nat} {w l : Int} (h : hfM V k w l) (hc : V k = -1) : hfM V (k + 1) w l := by
  have e : hf V (k + 1) = hf V k := if_pos hc
  unfold hfM
  rw [e]
  exact h
theorem poM_L (hVn : ∀ k, V k = -1 ∨ 0 ≤ V k) {ν0 : Mm} {l2 : Int} {K : Int → Int → Mm → Rs} (hst : ∀ p ξ, p < 60 → Sm ν0 ξ → (¬ PC μ 1 p → V p = -1) ∧ (isP ξ p ↔ isP μ p) ∧ ξ 82 p = μ 82 p ∧ (PC μ 1 p → ∃ ξ2, X11_leastNow (p0 : Int) (sM ξ 82 p 0) = some (V p, ξ2) ∧ Sm ν0 (sM ξ2 82 p 1))) : ∀ (r k fuel : Nat) (w l : Int) (ξ : Mm), k + r = 60 → r < fuel → Sm ν0 ξ → hfM V k w l → ∃ (w' l' : Int) (ξ' : Mm), Sm ν0 ξ' ∧ hfM V 60 w' l' ∧ X11_post_L27 (p0 : Int) l2 K fuel w l (k : Int) ξ = K w' l' ξ' := by
  intro r
  induction r with
  | zero =>
    intro k fuel w l ξ hr hf hS hh
    obtain ⟨g, rfl, _⟩ := lt_fuel hf
    have e : k = 60 := by omega
    rw [e] at hh
    refine ⟨w, l, ξ, hS, hh, ?_⟩
    show (if 60 ≤ (k : Int) then _ else _) = _
    rw [if_pos (by omega)]
  | succ r ih =>
    intro k fuel w l ξ hr hf hS hh
    obtain ⟨g, rfl, _⟩ := lt_fuel hf
    obtain ⟨s1, s2, s3, s4⟩ := hst k ξ (by omega) hS
    have i60 : (0 : Int) ≤ (k : Int) ∧ (k : Int) < 60 := by omega
    have skip : ∀ x, x = X11_post_L27 (p0 : Int) l2 K (g + 1) w l (k : Int) ξ → V k = -1 → x = X11_post_L27 (p0 : Int) l2 K g w l ((k + 1 : Nat) : Int) ξ → ∃ (w' l' : Int) (ξ' : Mm), Sm ν0 ξ' ∧ hfM V 60 w' l' ∧ x = K w' l' ξ' := by
      intro x _ hv hx
      obtain ⟨w', l', ξ', q1, q2, q3⟩ := ih (k + 1) g w l ξ (by omega) (by omega) hS (hfM_n hh hv)
      exact ⟨w', l', ξ', q1, q2, by rw [hx]; exact q3⟩
    by_cases ip : isP μ k
    · by_cases c1 : μ 82 k = 1
      · obtain ⟨ξ2, e2, q2⟩ := s4 ⟨ip, c1⟩
        have e0 : X11_post_L27 (p0 : Int) l2 K (g + 1) w l (k : Int) ξ = if V k = -1 then X11_post_L27 (p0 : Int) l2 K g w l ((k + 1 : Nat) : Int) (sM ξ2 82 k 1) else if w = -1 then X11_post_L27 (p0 : Int) l2 K g (k : Int) (V k) ((k + 1 : Nat) : Int) (sM ξ2 82 k 1) else if l ≤ V k then X11_post_L27 (p0 : Int) l2 K g w l ((k + 1 : Nat) : Int) (sM ξ2 82 k 1) else X11_post_L27 (p0 : Int) l2 K g (k : Int) (V k) ((k + 1 : Nat) : Int) (sM ξ2 82 k 1) := by
          show (if 60 ≤ (k : Int) then _ else _) = _
          rw [if_neg (by omega), isPl_y (by omega) (s2.mpr ip), bd_some, if_neg (by decide)]
          unfold ldA stA
          rw [if_pos (by exact i60), Int.toNat_natCast, s3, c1]
          try dsimp only
          rw [if_pos rfl, if_pos (by exact i60)]
          try dsimp only
          rw [e2, bd_some, if_pos (by exact i60), iA_nat (by omega)]
        rw [e0]
        by_cases d1 : V k = -1
        · rw [if_pos d1]
          exact ih (k + 1) g w l _ (by omega) (by omega) q2 (hfM_n hh d1)
        · obtain ⟨t1, t2, t3⟩ := hfM_s hVn hh d1
          rw [if_neg d1]
          by_cases d2 : w = -1
          · rw [if_pos d2]
            exact ih (k + 1) g _ _ _ (by omega) (by omega) q2 (t1 d2)
          · rw [if_neg d2]
            by_cases d3 : l ≤ V k
            · rw [if_pos d3]
              exact ih (k + 1) g _ _ _ (by omega) (by omega) q2 (t2 d2 d3)
            · rw [if_neg d3]
              exact ih (k + 1) g _ _ _ (by omega) (by omega) q2 (t3 d2 d3)
      · refine skip _ rfl (s1 (fun z => c1 z.2)) ?_
        show (if 60 ≤ (k : Int) then _ else _) = _
        rw [if_neg (by omega), isPl_y (by omega) (s2.mpr ip), bd_some, if_neg (by decide)]
        unfold ldA
        rw [if_pos (by exact i60), Int.toNat_natCast, s3]
        try dsimp only
        rw [if_neg c1, iA_nat (by omega)]
    · refine skip _ rfl (s1 (fun z => ip z.1)) ?_
      show (if 60 ≤ (k : Int) then _ else _) = _
      rw [if_neg (by omega), isPl_n (by omega) (fun z => ip (s2.mp z)), bd_some, if_pos rfl, iA_nat (by omega)]
end PO_
/-- a PLAY is ready in the class, told by how it is kept -/
theorem layK {μ : Mm} (hI : Inv μ) (h23 : μ 70 23 ≠ 0) {p : Nat} (hp : (p : Int) < μ 70 28) : ∃ (L : List (Int × Int)) (T : Nat → Int) (ν : Mm), Pk μ p L T ∧ X10_lay (p : Int) μ = some (1, ν) ∧ tryK μ T L.length ν ∧ St scr μ ν ∧ ∀ ν', Inv ν' → (∀ k j, ¬ scr k j → ν' k j = μ k j) → ∃ ξ, X11_isReady (p : Int) ν' = some (1, ξ) ∧ Sm ν' ξ := by
  obtain ⟨L, T, hPk⟩ := Pk_of hI hp
  obtain ⟨L', B, T', Wd, S, ν, hJ, _, _, g1, g2, g3, _, g5⟩ := ready hI h23 hp
  obtain ⟨p4, _, l1, l8, hL, hP, hM, H, hH, hT⟩ := id hPk
  obtain ⟨s, s1, s2, s3, _⟩ := strt hI h23
  obtain ⟨ν1, k1, k2, k3, k4, k5, _⟩ := layC hI h23 hp l8 hP hL hH s1 s2 s3
  have e : ν = ν1 := congrArg Prod.snd (Option.some.inj (g1.symm.trans k1))
  refine ⟨L, T, ν, hPk, g1, ⟨g2.2, fun k hk => ?_⟩, g2, fun ν' hI' e' => ?_⟩
  · rw [e, (k5 k hk).2.1, hT k]
  · obtain ⟨ξ, y1, y2, _⟩ := g5 ν' hI' e'
    exact ⟨ξ, y1, y2⟩
theorem m_post : ∀ a0, rI a0 → ∀ a1, rI a1 → sI Inv Inv (X10_post a0 a1) (X11_post a0 a1) := by
  intro a ha c hc μ hI
  have t1 := t_X10_post (W := scr) (μs := μ) (hW := fun _ _ h => h) (hp_l1 := ha) (hp_l2 := hc) (St_rf hI.1)
  have no : ∀ ν, Inv ν → (X11_isReady a ν = some (0, ν) ∨ ¬ (0 ≤ c ∧ c ≤ 1)) → ∃ μ2, X11_post a c ν = some (-1, μ2) ∧ Inv μ2 := by
    intro ν hν h
    rcases rdyAny hν a with z | ⟨ξ, m, h1, h2, h3, h4⟩
    · exact ⟨ν, by unfold X11_post; rw [z, bd_some, if_pos rfl], hν⟩
    · by_cases cc : 0 ≤ c ∧ c ≤ 1
      · exact (some_ne h1 (h.resolve_right (fun z => z cc))).elim
      · exact ⟨ξ, by unfold X11_post; rw [h1, bd_some, if_neg (by decide), in_no _ cc, bd_some, if_pos rfl], Inv_Sm hν h2⟩
  by_cases cc : 0 ≤ c ∧ c ≤ 1
  · have R1 : X10_post a c μ = bd (X10_lay a μ) fun v5 μ6 => if v5 = 0 then (some ((-1), μ6)) else (X10_post_L25 a c (fun v23 v24 μ25 => if c = 0 then (some (v23, μ25)) else (some (v24, μ25))) FU (-1) (-1) 0 μ6) := by
      unfold X10_post
      rw [half_y cc, bd_some, if_neg (by decide)]
    by_cases cr0 : μ 70 23 = 0 ∨ ¬ (0 ≤ a ∧ a < μ 70 28)
    · obtain ⟨μ2, e2, h2⟩ := no μ hI (Or.inl (rdy_no hI.2.1.1 cr0))
      refine ⟨-1, μ, μ2, ?_, e2, h2⟩
      rw [R1, lay_no hI cr0, bd_some, if_pos rfl]
    · have h23 : μ 70 23 ≠ 0 := fun z => cr0 (Or.inl z)
      have hap : 0 ≤ a ∧ a < μ 70 28 := Classical.byContradiction (fun z => cr0 (Or.inr z))
      obtain ⟨p, rfl⟩ : ∃ p : Nat, a = (p : Int) := ⟨a.toNat, by omega⟩
      obtain ⟨L, T, ν, hPk, g1, g2, g3, g4⟩ := layK hI h23 hap.2
      obtain ⟨s, hG, hs, h53, hW, h86, h57, hP⟩ := base13 hI h23
      have hK := hI.2.2.2.2.2.1
      obtain ⟨V, hV⟩ := ofP (PC μ 1) (fun q => asV L T (alO μ q 0) (μ 7) s (μ 8) (μ 70 30))
      have hVn : ∀ k, V k = -1 ∨ 0 ≤ V k := fun k => by
        by_cases z : PC μ 1 k
        · rw [(hV k).1 z]; exact asV_n
        · exact Or.inl ((hV k).2 z)
      obtain ⟨ν1, q1, k1⟩ := poC_L (V := V) (p0 := p) (l2 := c) (K := fun v23 v24 μ25 => if c = 0 then (some (v23, μ25)) else (some (v24, μ25))) (Q := tryK μ T L.length) (fun q ν hq hQ => poC_s hI hPk hG hs h53 h57 hW hP hV hq hQ) 60 0 FU ν (by decide) (by decide) g2
      have k1 : X10_post_L25 (p : Int) c (fun v23 v24 μ25 => if c = 0 then (some (v23, μ25)) else (some (v24, μ25))) FU (-1) (-1) 0 ν = if c = 0 then (some ((hf V 60).1, ν1)) else (some ((hf V 60).2, ν1)) := k1
      have R2 : X10_post (p : Int) c μ = some (if c = 0 then (hf V 60).1 else (hf V 60).2, ν1) := by
        rw [R1, g1, bd_some, if_neg (by decide), k1]
        by_cases c0 : c = 0
        · rw [if_pos c0, if_pos c0]
        · rw [if_neg c0, if_neg c0]
      rw [R2, wp_some] at t1
      have hI1 := Inv_St hI t1.1
      have e1 : sameK μ ν1 := t1.1.2
      obtain ⟨ξ, y1, y2⟩ := g4 ν1 hI1 e1
      have n0 : ∀ ξ, Sm ν1 ξ → ∀ k j, ¬ scr k j → ¬ scrM k j → ξ k j = μ k j := fun ξ hS k j h1 h2 => by rw [hS.2 k j h2, e1 k j h1]
      obtain ⟨w', l', ξ', s1, s2, s3⟩ := poM_L (μ := μ) (V := V) (p0 := p) (l2 := c) (K := fun v27 v28 μ29 => if v27 = (-1) then (some (v27, μ29)) else (if c = 0 then (some (v27, μ29)) else (some (v28, μ29)))) hVn (ν0 := ν1) (fun q ξ hq hS => ⟨(hV q).2, isP_congr (n0 ξ hS 70 23 (by unfold scr; omega) (by unfold scrM; omega)) (n0 ξ hS 70 24 (by unfold scr; omega) (by unfold scrM; omega)) q, n0 ξ hS 82 q (by unfold scr; omega) (by unfold scrM; omega), fun hPC => by
        have h82 : μ 82 q < 2 := by rw [hPC.2]; decide
        obtain ⟨u1, u2⟩ := altM (v := 0) hs hK h23 e1 hI1 hS (by decide) h82
        obtain ⟨ξ2, u3, u4⟩ := asM hPk (alO_G hG hs hK h82) hW u1 u2
        exact ⟨ξ2, by rw [u3, (hV q).1 hPC], altS hS u4 (by rw [e1 82 q (by unfold scr; omega), hPC.2]) (by decide)⟩⟩) 60 0 FU (-1) 0 ξ (by decide) (by decide) y2 ⟨rfl, Or.inl rfl⟩
      have s3 : X11_post_L27 (p : Int) c (fun v27 v28 μ29 => if v27 = (-1) then (some (v27, μ29)) else (if c = 0 then (some (v27, μ29)) else (some (v28, μ29)))) FU (-1) 0 0 ξ = if w' = (-1) then (some (w', ξ')) else (if c = 0 then (some (w', ξ')) else (some (l', ξ'))) := s3
      have R3 : X11_post (p : Int) c ν1 = some (if c = 0 then (hf V 60).1 else (hf V 60).2, ξ') := by
        unfold X11_post
        rw [y1, bd_some, if_neg (by decide), in_rg _ cc, bd_some, if_neg (by decide), s3]
        obtain ⟨z1, z2⟩ := s2
        have hr := hf_rel hVn 60
        by_cases d1 : w' = -1
        · have h2 : (hf V 60).2 = -1 := by omega
          rw [if_pos d1, h2, ← z1, d1]
          by_cases c0 : c = 0
          · rw [if_pos c0]
          · rw [if_neg c0]
        · have h2 : l' = (hf V 60).2 := z2.resolve_left (by omega)
          rw [if_neg d1, z1, h2]
          by_cases c0 : c = 0
          · rw [if_pos c0, if_pos c0]
          · rw [if_neg c0, if_neg c0]
      exact ⟨_, ν1, ξ', R2, R3, Inv_Sm hI1 s1⟩
  · obtain ⟨μ2, e2, h2⟩ := no μ hI (Or.inr cc)
    refine ⟨-1, μ, μ2, ?_, e2, h2⟩
    unfold X10_post
    rw [half_n cc, bd_some, if_pos rfl]
