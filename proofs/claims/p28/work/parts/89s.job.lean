/-! THE JOB: what the hand has to do, to both -/
/-- v is how far pb is from sa (-1: one of them is nowhere, or there is no WAY) -/
def RWy (O : Nat → Prop) (sa pb v : Int) : Prop := (sa = -1 → v = -1) ∧ (pb = -1 → v = -1) ∧ ∀ s p : Nat, sa = (s : Int) → pb = (p : Int) → ∃ f, ds O s f ∧ v = f p
theorem RD_u {O : Nat → Prop} {sa pb v w : Int} (h1 : sa = -1 ∨ (0 ≤ sa ∧ sa < 60)) (h2 : pb = -1 ∨ (0 ≤ pb ∧ pb < 60)) (h : RWy O sa pb v) (h' : RWy O sa pb w) : v = w := by
  rcases h1 with h1 | h1
  · rw [h.1 h1, h'.1 h1]
  · rcases h2 with h2 | h2
    · rw [h.2.1 h2, h'.2.1 h2]
    · obtain ⟨s, rfl⟩ : ∃ s : Nat, sa = (s : Int) := ⟨sa.toNat, by omega⟩
      obtain ⟨p, rfl⟩ : ∃ p : Nat, pb = (p : Int) := ⟨pb.toNat, by omega⟩
      obtain ⟨f, f1, f2⟩ := h.2.2 s p rfl rfl
      obtain ⟨g, g1, g2⟩ := h'.2.2 s p rfl rfl
      rw [f2, g2]
      exact ds_u f1 g1 (by omega)
theorem RD_c {O O' : Nat → Prop} (e : ∀ p, O p ↔ O' p) {sa pb v : Int} (h : RWy O sa pb v) : RWy O' sa pb v :=
  ⟨h.1, h.2.1, fun s p h1 h2 => by
    obtain ⟨f, f1, f2⟩ := h.2.2 s p h1 h2
    exact ⟨f, ds_c e f1, f2⟩⟩
theorem RD_b {O : Nat → Prop} {sa pb v : Int} (h1 : sa = -1 ∨ (0 ≤ sa ∧ sa < 60)) (h2 : pb = -1 ∨ (0 ≤ pb ∧ pb < 60)) (h : RWy O sa pb v) : -1 ≤ v := by
  rcases h1 with h1 | h1
  · rw [h.1 h1]; decide
  · rcases h2 with h2 | h2
    · rw [h.2.1 h2]; decide
    · obtain ⟨f, f1, f2⟩ := h.2.2 sa.toNat pb.toNat (by omega) (by omega)
      rw [f2]
      exact ds_b f1 (by omega)
/-- the class's measure from a place, to the CRANKS of all CUES -/
def Wr (l0 row k j : Nat) : Prop := fW k j ∨ (k = l0 + 4 ∧ 8 * row ≤ j ∧ j < 8 * row + 8)
theorem jb_60 {l0 : Nat} (hk : kD l0 = (11, 7)) : aN (l0 + 1) = 8 ∧ aN (l0 + 2) = 8 ∧ aN (l0 + 3) = 8 ∧ aN (l0 + 4) = 72 ∧ 48 ≤ l0 ∧ l0 + 4 < 58 := by
  have h : ∀ l, l < 98 → kD l = (11, 7) → aN (l + 1) = 8 ∧ aN (l + 2) = 8 ∧ aN (l + 3) = 8 ∧ aN (l + 4) = 72 ∧ 48 ≤ l ∧ l + 4 < 58 := by decide +kernel
  by_cases c : l0 < 98
  · exact h l0 c hk
  · have e : kD l0 = (99, 0) := by
      unfold kD
      rw [List.getD_eq_getElem?_getD, List.getElem?_eq_none (by have : kL.length = 98 := rfl; omega)]
      rfl
    rw [e] at hk
    cases hk
theorem plC_eq {l1 : Nat} (hk : kD l1 = (10, 9)) {μ : Mm} {c : Nat} (hc : c < 8) : X0_placeOf l1 (c : Int) μ = some (μ (l1 + 2) c, μ) := by
  unfold X0_placeOf ldA
  rw [if_neg (by omega), if_neg (by omega), if_pos (by rw [(cel60 hk).2.1]; omega), Int.toNat_natCast]
/-- what stepsTo tells of a place or of none -/
def stv (ν : Mm) (a : Int) : Int := if a < 0 then -1 else ν 46 a.toNat
theorem stp_v {ν : Mm} {a : Int} (h : a = -1 ∨ (0 ≤ a ∧ a < 60)) : X9_stepsTo a ν = some (stv ν a, ν) := by
  unfold stv
  rcases h with h | h
  · rw [stp_no (by omega), if_pos (by omega)]
  · obtain ⟨p, rfl⟩ : ∃ p : Nat, a = (p : Int) := ⟨a.toNat, by omega⟩
    rw [stp_eq (by omega), if_neg (by omega), Int.toNat_natCast]
theorem off8r {a b : Nat} (ha : a ≤ 8) (hb : b ≤ 8) : iA (iM (a : Int) 8) (b : Int) = ((8 * a + b : Nat) : Int) := by
  rw [iM_id (by omega) (by omega), iA_id (by omega) (by omega)]
  omega
theorem jmea_L {l0 : Nat} (h0 : kD l0 = (11, 7)) {l1 : Nat} (h1 : kD l1 = (10, 9)) {row m : Nat} (hr : row ≤ 8) (hm : m ≤ 8) {cr : Nat → Nat} (hcr : ∀ k, k < m → cr k < 8) {ν0 : Mm} (hp : ∀ c, c < 8 → ν0 (l1 + 2) c = -1 ∨ (0 ≤ ν0 (l1 + 2) c ∧ ν0 (l1 + 2) c < 60)) (h5 : ν0 l0 5 = (m : Int)) (hc : ∀ k, k < m → ν0 (l0 + 1) k = ((cr k : Nat) : Int)) : ∀ (r i fuel : Nat) (ν : Mm), i + r = m → r < fuel → fw (fun k j => k = l0 + 4 ∧ 8 * row ≤ j ∧ j < 8 * row + 8) ν0 ν → ∃ ν', X1_measure_L12 l0 l1 (row : Int) fuel (i : Int) ν = some (0, ν') ∧ fw (fun k j => k = l0 + 4 ∧ 8 * row ≤ j ∧ j < 8 * row + 8) ν0 ν' ∧ (∀ j, j < i → ν' (l0 + 4) (8 * row + j) = ν (l0 + 4) (8 * row + j)) ∧ ∀ j, i ≤ j → j < m → ν' (l0 + 4) (8 * row + j) = stv ν0 (ν0 (l1 + 2) (cr j)) := by
  obtain ⟨j1, j2, j3, j4, j5, j6⟩ := jb_60 h0
  have hl1 := (cel60 h1).2.2.2
  intro r
  induction r with
  | zero =>
    intro i fuel ν hi hf hw
    obtain ⟨g, rfl, _⟩ := lt_fuel hf
    refine ⟨ν, ?_, hw, fun _ _ => rfl, fun j k1 k2 => absurd k1 (by omega)⟩
    show (if (ν l0 5) ≤ (i : Int) then _ else _) = _
    rw [hw l0 5 (by omega), h5, if_pos (by omega)]
  | succ r ih =>
    intro i fuel ν hi hf hw
    obtain ⟨g, rfl, _⟩ := lt_fuel hf
    obtain ⟨ν', r1, r2, r3, r4⟩ := ih (i + 1) g (sM ν (l0 + 4) (8 * row + i) (stv ν0 (ν0 (l1 + 2) (cr i)))) (by omega) (by omega) (fw_sM hw ⟨rfl, by omega, by omega⟩)
    have hci := hcr i (by omega)
    have w2 : ν (l1 + 2) (cr i) = ν0 (l1 + 2) (cr i) := hw _ _ (by omega)
    have s46 : stv ν (ν0 (l1 + 2) (cr i)) = stv ν0 (ν0 (l1 + 2) (cr i)) := by
      unfold stv
      rw [hw 46 _ (by omega)]
    refine ⟨ν', ?_, r2, fun j hj => by rw [r3 j (by omega), sM_j (by omega)], fun j k1 k2 => ?_⟩
    · rw [← r1]
      show (if (ν l0 5) ≤ (i : Int) then _ else _) = _
      rw [hw l0 5 (by omega), h5, if_neg (by omega), if_neg (by omega)]
      unfold ldA
      rw [if_pos (by rw [j1]; omega), Int.toNat_natCast, hw (l0 + 1) i (by omega), hc i (by omega)]
      dsimp only
      rw [plC_eq h1 hci, bd_some, w2, stp_v (hp _ hci), bd_some, s46, off8r hr (by omega)]
      unfold stA
      rw [if_pos (by rw [j4]; omega), Int.toNat_natCast, iA_nat (by omega)]
    · by_cases c : j = i
      · rw [c, r3 i (by omega), sM_s]
      · exact r4 j (by omega) k2
theorem jmea {l0 : Nat} (h0 : kD l0 = (11, 7)) {l1 : Nat} (h1 : kD l1 = (10, 9)) {row m : Nat} (hr : row ≤ 8) (hm : m ≤ 8) {cr : Nat → Nat} (hcr : ∀ k, k < m → cr k < 8) {ν : Mm} (hp : ∀ c, c < 8 → ν (l1 + 2) c = -1 ∨ (0 ≤ ν (l1 + 2) c ∧ ν (l1 + 2) c < 60)) (h5 : ν l0 5 = (m : Int)) (hc : ∀ k, k < m → ν (l0 + 1) k = ((cr k : Nat) : Int)) {a : Int} (ha : a = -1 ∨ ∃ s : Nat, a = (s : Int) ∧ opC l1 ν s) : ∃ ν', X1_measure l0 l1 (row : Int) a ν = some (0, ν') ∧ fw (Wr l0 row) ν ν' ∧ ∀ j, j < m → RWy (opC l1 ν) a (ν (l1 + 2) (cr j)) (ν' (l0 + 4) (8 * row + j)) := by
  obtain ⟨j1, j2, j3, j4, j5, j6⟩ := jb_60 h0
  have hl1 := (cel60 h1).2.2.2
  have fin : ∀ ν1, X9_measure l1 a ν = some (0, ν1) → fw fW ν ν1 → (∀ j, j < m → RWy (opC l1 ν) a (ν (l1 + 2) (cr j)) (stv ν1 (ν (l1 + 2) (cr j)))) → ∃ ν', X1_measure l0 l1 (row : Int) a ν = some (0, ν') ∧ fw (Wr l0 row) ν ν' ∧ ∀ j, j < m → RWy (opC l1 ν) a (ν (l1 + 2) (cr j)) (ν' (l0 + 4) (8 * row + j)) := by
    intro ν1 e1 f1 hj
    have o2 : ∀ c, ν1 (l1 + 2) c = ν (l1 + 2) c := fun c => f1 _ _ (by unfold fW; omega)
    obtain ⟨ν', r1, r2, _, r4⟩ := jmea_L h0 h1 hr hm hcr (ν0 := ν1) (fun c hc => by rw [o2]; exact hp c hc) (by rw [f1 _ _ (by unfold fW; omega)]; exact h5) (fun k hk => by rw [f1 _ _ (by unfold fW; omega)]; exact hc k hk) m 0 FU ν1 (by omega) (by show m < 1000000; omega) fw_rf
    refine ⟨ν', ?_, fun k j hn => by rw [r2 k j (fun z => hn (Or.inr z)), f1 k j (fun z => hn (Or.inl z))], fun j hj2 => ?_⟩
    · unfold X1_measure
      rw [e1, bd_some]
      exact r1
    · rw [r4 j (Nat.zero_le _) hj2, o2]
      exact hj j hj2
  rcases ha with ha | ⟨s, ha, hs⟩
  · obtain ⟨ν1, e1, f1, n1⟩ := meaC_no h1 (μ := ν) (a := a) (fun p e => by omega)
    refine fin ν1 e1 f1 (fun j hj => ⟨fun _ => ?_, fun h => ?_, fun s p e _ => by omega⟩)
    · unfold stv
      have := hp _ (hcr j hj)
      split
      · rfl
      · exact n1 _ (by omega)
    · unfold stv
      rw [if_pos (by omega)]
  · subst ha
    obtain ⟨ν1, e1, f1, d1⟩ := meaC h1 hs
    refine fin ν1 e1 f1 (fun j hj => ⟨fun h => by omega, fun h => ?_, fun s' p e e2 => ?_⟩)
    · unfold stv
      rw [if_pos (by omega)]
    · have es : s' = s := by omega
      rw [es]
      refine ⟨ν1 46, d1, ?_⟩
      unfold stv
      rw [e2, if_neg (by omega), Int.toNat_natCast]
def Wj (l0 k j : Nat) : Prop := fW k j ∨ k = l0 + 1 ∨ k = l0 + 3 ∨ k = l0 + 4 ∨ (k = l0 ∧ (j = 5 ∨ j = 6))
theorem windC {l1 : Nat} (h1 : kD l1 = (10, 9)) {μ : Mm} {c : Nat} (hc : c < 8) : X0_windOf l1 (c : Int) μ = some (μ (l1 + 3) c, μ) := by
  unfold X0_windOf ldA
  rw [if_neg (by omega), if_neg (by omega), if_pos (by rw [(cel60 h1).2.2.1]; omega), Int.toNat_natCast]
theorem prep_1 {l0 : Nat} (h0 : kD l0 = (11, 7)) {l1 : Nat} (h1 : kD l1 = (10, 9)) {l2 : Nat} (h2 : kD l2 = (13, 3)) {m : Nat} (hm : m ≤ 8) {cr : Nat → Nat} (hcr : ∀ k, k < m → cr k < 8) {K : Mm → Rs} {ν0 : Mm} (hc : ∀ k, k < m → ν0 (l2 + 1) k = ((cr k : Nat) : Int)) (h5 : ν0 l0 5 = (m : Int)) : ∀ (r i fuel : Nat) (ν : Mm), i + r = m → r < fuel → fw (fun k _ => k = l0 + 1 ∨ k = l0 + 3) ν0 ν → (∀ j, j < i → ν (l0 + 1) j = ((cr j : Nat) : Int) ∧ ν (l0 + 3) j = ν0 (l1 + 3) (cr j)) → ∃ ν', X1_prepare_L10 l0 l1 l2 K fuel (i : Int) ν = K ν' ∧ fw (fun k _ => k = l0 + 1 ∨ k = l0 + 3) ν0 ν' ∧ ∀ j, j < m → ν' (l0 + 1) j = ((cr j : Nat) : Int) ∧ ν' (l0 + 3) j = ν0 (l1 + 3) (cr j) := by
  obtain ⟨j1, j2, j3, j4, j5, j6⟩ := jb_60 h0
  have hl1 := (cel60 h1).2.2.2
  obtain ⟨p1, p2, p3, p4⟩ := pl_60 h2
  intro r
  induction r with
  | zero =>
    intro i fuel ν hi hf hw hd
    obtain ⟨g, rfl, _⟩ := lt_fuel hf
    refine ⟨ν, ?_, hw, fun j hj => hd j (by omega)⟩
    show (if (ν l0 5) ≤ (i : Int) then _ else _) = _
    rw [hw l0 5 (by omega), h5, if_pos (by omega)]
  | succ r ih =>
    intro i fuel ν hi hf hw hd
    obtain ⟨g, rfl, _⟩ := lt_fuel hf
    have hci := hcr i (by omega)
    obtain ⟨ν', r1, r2, r3⟩ := ih (i + 1) g (sM (sM ν (l0 + 1) i ((cr i : Nat) : Int)) (l0 + 3) i (ν0 (l1 + 3) (cr i))) (by omega) (by omega) (fw_sM (fw_sM hw (Or.inl rfl)) (Or.inr rfl)) (fun j hj => by
      rw [sM_a (by omega), sM_if, sM_if]
      by_cases c : j = i
      · rw [if_pos c, if_pos c, c]; exact ⟨rfl, rfl⟩
      · rw [if_neg c, if_neg c, sM_a (by omega)]; exact hd j (by omega))
    refine ⟨ν', ?_, r2, r3⟩
    rw [← r1]
    show (if (ν l0 5) ≤ (i : Int) then _ else _) = _
    rw [hw l0 5 (by omega), h5, if_neg (by omega), if_neg (by omega)]
    have w1 : ν (l2 + 1) i = ((cr i : Nat) : Int) := by rw [hw _ _ (by omega)]; exact hc i (by omega)
    unfold ldA stA
    rw [if_pos (by rw [p1]; omega), Int.toNat_natCast, w1]
    dsimp only
    rw [if_pos (by rw [j1]; omega), if_pos (by rw [j1]; omega), sM_s, windC h1 hci, bd_some, sM_a (by omega), hw (l1 + 3) _ (by omega), if_pos (by rw [j3]; omega), iA_nat (by omega)]
theorem prep_2 {l0 : Nat} (h0 : kD l0 = (11, 7)) {l1 : Nat} (h1 : kD l1 = (10, 9)) {m : Nat} (hm : m ≤ 8) {cr : Nat → Nat} (hcr : ∀ k, k < m → cr k < 8) {ν0 : Mm} (hp : ∀ c, c < 8 → ν0 (l1 + 2) c = -1 ∨ ∃ s : Nat, ν0 (l1 + 2) c = (s : Int) ∧ opC l1 ν0 s) (h5 : ν0 l0 5 = (m : Int)) (hc : ∀ k, k < m → ν0 (l0 + 1) k = ((cr k : Nat) : Int)) : ∀ (r i fuel : Nat) (ν : Mm), i + r = m → r < fuel → fw (fun k j => fW k j ∨ (k = l0 + 4 ∧ j < 64)) ν0 ν → (∀ a b, a < i → b < m → RWy (opC l1 ν0) (ν0 (l1 + 2) (cr a)) (ν0 (l1 + 2) (cr b)) (ν (l0 + 4) (8 * a + b))) → ∃ ν', X1_prepare_L79 l0 l1 fuel (i : Int) ν = some (0, ν') ∧ fw (fun k j => fW k j ∨ (k = l0 + 4 ∧ j < 64)) ν0 ν' ∧ ∀ a b, a < m → b < m → RWy (opC l1 ν0) (ν0 (l1 + 2) (cr a)) (ν0 (l1 + 2) (cr b)) (ν' (l0 + 4) (8 * a + b)) := by
  obtain ⟨j1, j2, j3, j4, j5, j6⟩ := jb_60 h0
  have hl1 := (cel60 h1).2.2.2
  intro r
  induction r with
  | zero =>
    intro i fuel ν hi hf hw hd
    obtain ⟨g, rfl, _⟩ := lt_fuel hf
    refine ⟨ν, ?_, hw, fun a b ha hb => hd a b (by omega) hb⟩
    show (if (ν l0 5) ≤ (i : Int) then _ else _) = _
    rw [hw l0 5 (by unfold fW; omega), h5, if_pos (by omega)]
  | succ r ih =>
    intro i fuel ν hi hf hw hd
    obtain ⟨g, rfl, _⟩ := lt_fuel hf
    have hci := hcr i (by omega)
    have o : ∀ p, opC l1 ν p ↔ opC l1 ν0 p := fun p => by
      unfold opC
      rw [hw (l1 + 1) p (by unfold fW; omega)]
    have o2 : ∀ c, ν (l1 + 2) c = ν0 (l1 + 2) c := fun c => hw _ _ (by unfold fW; omega)
    have h5' : ν l0 5 = (m : Int) := by rw [hw l0 5 (by unfold fW; omega)]; exact h5
    have hc' : ∀ k, k < m → ν (l0 + 1) k = ((cr k : Nat) : Int) := fun k hk => by rw [hw _ _ (by unfold fW; omega)]; exact hc k hk
    have hpi := hp _ hci
    obtain ⟨ν1, e1, f1, d1⟩ := jmea h0 h1 (row := i) (by omega) hm hcr (ν := ν) (fun c hc2 => by
      rw [o2]
      rcases hp c hc2 with z | ⟨s, z1, z2⟩
      · exact Or.inl z
      · have := z2.1
        exact Or.inr (by omega)) h5' hc' (a := ν0 (l1 + 2) (cr i)) (by
      rcases hpi with z | ⟨s, z1, z2⟩
      · exact Or.inl z
      · exact Or.inr ⟨s, z1, (o s).mpr z2⟩)
    have w1 : fw (fun k j => fW k j ∨ (k = l0 + 4 ∧ j < 64)) ν0 ν1 := fun k j hn => by
      rw [f1 k j (fun z => hn (by
        unfold Wr at z
        rcases z with z | z
        · exact Or.inl z
        · exact Or.inr ⟨z.1, by omega⟩)), hw k j hn]
    obtain ⟨ν', r1, r2, r3⟩ := ih (i + 1) g ν1 (by omega) (by omega) w1 (fun a b ha hb => by
      by_cases c : a = i
      · rw [c]
        have := d1 b hb
        rw [o2] at this
        exact RD_c o this
      · rw [f1 (l0 + 4) (8 * a + b) (by unfold Wr fW; omega)]
        exact hd a b (by omega) hb)
    refine ⟨ν', ?_, r2, r3⟩
    rw [← r1]
    show (if (ν l0 5) ≤ (i : Int) then _ else _) = _
    rw [h5', if_neg (by omega), if_neg (by omega)]
    unfold ldA
    rw [if_pos (by rw [j1]; omega), Int.toNat_natCast, hc' i (by omega)]
    dsimp only
    rw [plC_eq h1 hci, bd_some, o2, e1, bd_some, iA_nat (by omega)]
/-- the class's job, ready: all but the TIMES -/
theorem prepC {l0 : Nat} (h0 : kD l0 = (11, 7)) {l1 : Nat} (h1 : kD l1 = (10, 9)) {l2 : Nat} (h2 : kD l2 = (13, 3)) {m : Nat} (hm : m ≤ 8) {cr : Nat → Nat} (hcr : ∀ k, k < m → cr k < 8) {ν : Mm} (hz : ν l2 2 = (m : Int)) (hc : ∀ k, k < m → ν (l2 + 1) k = ((cr k : Nat) : Int)) (hp : ∀ c, c < 8 → ν (l1 + 2) c = -1 ∨ ∃ s : Nat, ν (l1 + 2) c = (s : Int) ∧ opC l1 ν s) (h3 : ν l1 3 = -1 ∨ ∃ s : Nat, ν l1 3 = (s : Int) ∧ opC l1 ν s) : ∃ ν', X1_prepare l0 l1 l2 ν = some (0, ν') ∧ fw (Wj l0) ν ν' ∧ ν' l0 5 = (m : Int) ∧ ν' l0 6 = ν l1 7 ∧ (∀ k, k < m → ν' (l0 + 1) k = ((cr k : Nat) : Int) ∧ ν' (l0 + 3) k = ν (l1 + 3) (cr k)) ∧ (∀ a b, a < m → b < m → RWy (opC l1 ν) (ν (l1 + 2) (cr a)) (ν (l1 + 2) (cr b)) (ν' (l0 + 4) (8 * a + b))) ∧ ∀ b, b < m → RWy (opC l1 ν) (ν l1 3) (ν (l1 + 2) (cr b)) (ν' (l0 + 4) (64 + b)) := by
  obtain ⟨j1, j2, j3, j4, j5, j6⟩ := jb_60 h0
  have hl1 := (cel60 h1).2.2.2
  obtain ⟨p1, p2, p3, p4⟩ := pl_60 h2
  have lo : ∀ {x : Nat}, x ≤ l1 + 3 ∨ x < 45 → x ≠ l0 ∧ x ≠ l0 + 1 ∧ x ≠ l0 + 3 ∧ x ≠ l0 + 4 := fun h => by omega
  obtain ⟨ν1, e1, w1, d1⟩ := prep_1 h0 h1 h2 hm hcr (K := fun μ15 => X1_prepare_J58 l0 l1 μ15) (ν0 := sM ν l0 5 (m : Int)) (fun k hk => by rw [sM_a (by omega)]; exact hc k hk) (sM_s _ _ _ _) m 0 FU (sM ν l0 5 (m : Int)) (by omega) (by show m < 1000000; omega) fw_rf (fun j hj => absurd hj (by omega))
  obtain ⟨ν2, hν2⟩ : ∃ ν2, ν2 = sM ν1 l0 6 (ν l1 7) := ⟨_, rfl⟩
  have o1 : ∀ k j, k ≠ l0 → k ≠ l0 + 1 → k ≠ l0 + 3 → ν2 k j = ν k j := fun k j g1 g2 g3 => by
    rw [hν2, sM_a g1, w1 k j (by omega), sM_a g1]
  have f5 : ν2 l0 5 = (m : Int) := by rw [hν2, sM_j (by decide), w1 l0 5 (by omega), sM_s]
  have f6 : ν2 l0 6 = ν l1 7 := by rw [hν2, sM_s]
  have d2 : ∀ k, k < m → ν2 (l0 + 1) k = ((cr k : Nat) : Int) ∧ ν2 (l0 + 3) k = ν (l1 + 3) (cr k) := fun k hk => by
    have := d1 k hk
    rw [hν2, sM_a (by omega), sM_a (by omega)]
    rw [sM_a (show l1 + 3 ≠ l0 by omega)] at this
    exact this
  have op2 : ∀ p, opC l1 ν2 p ↔ opC l1 ν p := fun p => by
    unfold opC
    rw [o1 (l1 + 1) p (by omega) (by omega) (by omega)]
  have pl2 : ∀ c, ν2 (l1 + 2) c = ν (l1 + 2) c := fun c => o1 _ c (by omega) (by omega) (by omega)
  have hp2 : ∀ c, c < 8 → ν2 (l1 + 2) c = -1 ∨ ∃ s : Nat, ν2 (l1 + 2) c = (s : Int) ∧ opC l1 ν2 s := fun c hc2 => by
    rw [pl2]
    rcases hp c hc2 with z | ⟨s, z1, z2⟩
    · exact Or.inl z
    · exact Or.inr ⟨s, z1, (op2 s).mpr z2⟩
  obtain ⟨ν3, e3, w3, d3⟩ := jmea h0 h1 (row := 8) (by decide) hm hcr (ν := ν2) (fun c hc2 => by
    rcases hp2 c hc2 with z | ⟨s, z1, z2⟩
    · exact Or.inl z
    · have := z2.1
      exact Or.inr (by omega)) f5 (fun k hk => (d2 k hk).1) (a := ν l1 3) (by
    rcases h3 with z | ⟨s, z1, z2⟩
    · exact Or.inl z
    · exact Or.inr ⟨s, z1, (op2 s).mpr z2⟩)
  have o3 : ∀ k j, ¬ fW k j → k ≠ l0 + 4 → ν3 k j = ν2 k j := fun k j g1 g2 => w3 k j (fun z => z.elim g1 (fun y => g2 y.1))
  have op3 : ∀ p, opC l1 ν3 p ↔ opC l1 ν2 p := fun p => by
    unfold opC
    rw [o3 (l1 + 1) p (by unfold fW; omega) (by omega)]
  have pl3 : ∀ c, ν3 (l1 + 2) c = ν2 (l1 + 2) c := fun c => o3 _ c (by unfold fW; omega) (by omega)
  obtain ⟨ν4, e4, w4, d4⟩ := prep_2 h0 h1 hm hcr (ν0 := ν3) (fun c hc2 => by
    rw [pl3]
    rcases hp2 c hc2 with z | ⟨s, z1, z2⟩
    · exact Or.inl z
    · exact Or.inr ⟨s, z1, (op3 s).mpr z2⟩) (by rw [o3 l0 5 (by unfold fW; omega) (by omega)]; exact f5) (fun k hk => by rw [o3 _ _ (by unfold fW; omega) (by omega)]; exact (d2 k hk).1) m 0 FU ν3 (by omega) (by show m < 1000000; omega) fw_rf (fun a b ha _ => absurd ha (by omega))
  have o4 : ∀ k j, ¬ fW k j → k ≠ l0 + 4 → ν4 k j = ν2 k j := fun k j g1 g2 => by rw [w4 k j (fun z => z.elim g1 (fun y => g2 y.1)), o3 k j g1 g2]
  refine ⟨ν4, ?_, fun k j hn => ?_, by rw [o4 l0 5 (by unfold fW; omega) (by omega)]; exact f5, by rw [o4 l0 6 (by unfold fW; omega) (by omega)]; exact f6, fun k hk => ?_, fun a b ha hb => ?_, fun b hb => ?_⟩
  · have e7 : ν1 l1 7 = ν l1 7 := by rw [w1 l1 7 (by omega), sM_a (by omega)]
    have e23 : ν2 l1 3 = ν l1 3 := o1 l1 3 (by omega) (by omega) (by omega)
    unfold X1_prepare
    rw [sF_r, hz]
    have e1' : X1_prepare_L10 l0 l1 l2 (fun μ15 => X1_prepare_J58 l0 l1 μ15) FU 0 (sM ν l0 5 (m : Int)) = X1_prepare_J58 l0 l1 ν1 := e1
    rw [e1']
    unfold X1_prepare_J58
    rw [sF_r, e7, ← hν2, e23]
    have e3' : X1_measure l0 l1 8 (ν l1 3) ν2 = some (0, ν3) := e3
    rw [e3', bd_some]
    exact e4
  · unfold Wj at hn
    rw [w4 k j (fun z => z.elim (fun y => hn (Or.inl y)) (fun y => hn (Or.inr (Or.inr (Or.inr (Or.inl y.1)))))), w3 k j (fun z => z.elim (fun y => hn (Or.inl y)) (fun y => hn (Or.inr (Or.inr (Or.inr (Or.inl y.1)))))), hν2]
    have g : ¬ (k = l0 ∧ j = 6) := by omega
    have e : sM ν1 l0 6 (ν l1 7) k j = ν1 k j := by unfold sM; rw [if_neg g]
    rw [e, w1 k j (fun z => hn (by omega))]
    unfold sM
    rw [if_neg (fun z => hn (by omega))]
  · rw [o4 _ k (by unfold fW; omega) (by omega), o4 _ k (by unfold fW; omega) (by omega)]
    exact d2 k hk
  · have := d4 a b ha hb
    rw [pl3, pl3, pl2, pl2] at this
    exact RD_c (fun p => (op3 p).trans (op2 p)) this
  · rw [w4 (l0 + 4) (64 + b) (by unfold fW; omega)]
    have := d3 b hb
    rw [pl2] at this
    exact RD_c op2 this
