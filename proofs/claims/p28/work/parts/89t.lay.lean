/-! THE JOB in the reference -/
/-- Q c: where the CRANK c is in the reference -/
def PlM (μ : Mm) (Q : Nat → Int) : Prop := ∀ c, c < 8 → (Q c = -1 ∧ ∀ p : Nat, p < 60 → isP μ p → μ 82 p ≠ 3 + (c : Int)) ∨ ∃ p : Nat, p < 60 ∧ Q c = (p : Int) ∧ isP μ p ∧ μ 82 p = 3 + (c : Int)
theorem PlM_at {μ : Mm} (hU : UQ μ 82) {Q : Nat → Int} (h : PlM μ Q) {c : Nat} (hc : c < 8) : X11_placeOf (3 + (c : Int)) μ = some (Q c, μ) := by
  rcases h c hc with ⟨h1, h2⟩ | ⟨p, h1, h2, h3, h4⟩
  · obtain ⟨r, e, hr⟩ := plc (3 + (c : Int)) μ
    rcases hr with ⟨r1, _⟩ | ⟨r1, r2, r3, r4⟩
    · rw [e, r1, h1]
    · exact absurd r4 (h2 r.toNat (by omega) r3)
  · rw [h2]
    exact plc_at hU h1 h3 h4 (by omega)
theorem PlM_c {μ ν : Mm} (e : ∀ j, ν 82 j = μ 82 j) (e1 : ν 70 23 = μ 70 23) (e2 : ν 70 24 = μ 70 24) {Q : Nat → Int} (h : PlM μ Q) : PlM ν Q := fun c hc => by
  rcases h c hc with ⟨h1, h2⟩ | ⟨p, h1, h2, h3, h4⟩
  · exact Or.inl ⟨h1, fun p hp ip => by rw [e]; exact h2 p hp ((isP_congr e1 e2 p).mp ip)⟩
  · exact Or.inr ⟨p, h1, h2, (isP_congr e1 e2 p).mpr h3, by rw [e]; exact h4⟩
theorem PlM_r {μ : Mm} {Q : Nat → Int} (h : PlM μ Q) {c : Nat} (hc : c < 8) : Q c = -1 ∨ (0 ≤ Q c ∧ Q c < 60) := by
  rcases h c hc with ⟨h1, _⟩ | ⟨p, h1, h2, _⟩
  · exact Or.inl h1
  · exact Or.inr (by omega)
theorem PlM_o {μ : Mm} {Q : Nat → Int} (h : PlM μ Q) {c : Nat} (hc : c < 8) : Q c = -1 ∨ ∃ s : Nat, Q c = (s : Int) ∧ opM μ s := by
  rcases h c hc with ⟨h1, _⟩ | ⟨p, h1, h2, h3, h4⟩
  · exact Or.inl h1
  · exact Or.inr ⟨p, h2, h1, h3, by omega⟩
theorem off8 {a b : Nat} (ha : a ≤ 8) (hb : b ≤ 8) : iA (iM 8 (a : Int)) (b : Int) = ((8 * a + b : Nat) : Int) := by
  rw [iM_id (by omega) (by omega), iA_id (by omega) (by omega)]
  omega
def Wa (a k j : Nat) : Prop := k = 87 ∨ (k = 89 ∧ 8 * a ≤ j ∧ j < 8 * a + 8)
theorem fil_L {l1 l2 s0 : Int} {a m : Nat} (ha : a ≤ 8) (hm : m ≤ 8) {K : Mm → Rs} {ν0 : Mm} (h37 : ν0 70 37 = (m : Int)) : ∀ (r i fuel : Nat) (ν : Mm), i + r = m → r < fuel → Bm ν → fw (fun k j => k = 89 ∧ 8 * a ≤ j ∧ j < 8 * a + 8) ν0 ν → (∀ j, j < i → ν 89 (8 * a + j) = -1) → ∃ ν', X11_lay_L63 l1 l2 (a : Int) s0 K fuel (i : Int) ν = K ν' ∧ Bm ν' ∧ fw (fun k j => k = 89 ∧ 8 * a ≤ j ∧ j < 8 * a + 8) ν0 ν' ∧ ∀ j, j < m → ν' 89 (8 * a + j) = -1 := by
  intro r
  induction r with
  | zero =>
    intro i fuel ν hi hf hB hw hd
    obtain ⟨g, rfl, _⟩ := lt_fuel hf
    refine ⟨ν, ?_, hB, hw, fun j hj => hd j (by omega)⟩
    show (if (ν 70 37) ≤ (i : Int) then _ else _) = _
    rw [hw 70 37 (by omega), h37, if_pos (by omega)]
  | succ r ih =>
    intro i fuel ν hi hf hB hw hd
    obtain ⟨g, rfl, _⟩ := lt_fuel hf
    obtain ⟨ν', r1, r2, r3, r4⟩ := ih (i + 1) g (sM ν 89 (8 * a + i) (-1)) (by omega) (by omega) (Bm_sM hB (show (-2147483648 : Int) ≤ -1 ∧ (-1 : Int) ≤ 2147483647 by decide)) (fw_sM hw ⟨rfl, by omega, by omega⟩) (fun j hj => by
      rw [sM_if]
      by_cases c : 8 * a + j = 8 * a + i
      · rw [if_pos c]
      · rw [if_neg c]; exact hd j (by omega))
    refine ⟨ν', ?_, r2, r3, r4⟩
    rw [← r1]
    show (if (ν 70 37) ≤ (i : Int) then _ else _) = _
    rw [hw 70 37 (by omega), h37, if_neg (by omega), off8 ha (by omega)]
    unfold stA
    rw [if_pos (by show (0 : Int) ≤ ((8 * a + i : Nat) : Int) ∧ ((8 * a + i : Nat) : Int) < 72; omega), Int.toNat_natCast, iA_nat (by omega)]
theorem rowM_L {l2 : Int} {p a m : Nat} (hp : p ≤ 4) (ha : a ≤ 8) (hm : m ≤ 8) {cr : Nat → Nat} (hcr : ∀ k, k < m → cr k < 8) {Q : Nat → Int} {K : Mm → Rs} {ν0 : Mm} (hU : UQ ν0 82) (hQ : PlM ν0 Q) (h37 : ν0 70 37 = (m : Int)) (h83 : ∀ k, k < m → ν0 83 (8 * p + k) = ((cr k : Nat) : Int)) (h87 : ∀ j, rI (ν0 87 j)) : ∀ (r i fuel : Nat) (ν : Mm), i + r = m → r < fuel → Bm ν → fw (fun k j => k = 89 ∧ 8 * a ≤ j ∧ j < 8 * a + 8) ν0 ν → (∀ j, j < i → ν 89 (8 * a + j) = if Q (cr j) = -1 then -1 else ν0 87 (Q (cr j)).toNat) → ∃ ν', X11_lay_L107 (p : Int) l2 (a : Int) K fuel (i : Int) ν = K ν' ∧ Bm ν' ∧ fw (fun k j => k = 89 ∧ 8 * a ≤ j ∧ j < 8 * a + 8) ν0 ν' ∧ ∀ j, j < m → ν' 89 (8 * a + j) = if Q (cr j) = -1 then -1 else ν0 87 (Q (cr j)).toNat := by
  intro r
  induction r with
  | zero =>
    intro i fuel ν hi hf hB hw hd
    obtain ⟨g, rfl, _⟩ := lt_fuel hf
    refine ⟨ν, ?_, hB, hw, fun j hj => hd j (by omega)⟩
    show (if (ν 70 37) ≤ (i : Int) then _ else _) = _
    rw [hw 70 37 (by omega), h37, if_pos (by omega)]
  | succ r ih =>
    intro i fuel ν hi hf hB hw hd
    obtain ⟨g, rfl, _⟩ := lt_fuel hf
    have hci := hcr i (by omega)
    have e82 : ∀ j, ν 82 j = ν0 82 j := fun j => hw 82 j (by omega)
    have e23 : ν 70 23 = ν0 70 23 := hw 70 23 (by omega)
    have e24 : ν 70 24 = ν0 70 24 := hw 70 24 (by omega)
    have hU' : UQ ν 82 := UQ_congr hU e23 e24 e82
    have hpl := PlM_at hU' (PlM_c e82 e23 e24 hQ) hci
    have hr := PlM_r hQ hci
    have step : ∀ v : Int, v = (if Q (cr i) = -1 then -1 else ν0 87 (Q (cr i)).toNat) → X11_lay_L107 (p : Int) l2 (a : Int) K (g + 1) (i : Int) ν = X11_lay_L107 (p : Int) l2 (a : Int) K g ((i + 1 : Nat) : Int) (sM ν 89 (8 * a + i) v) → ∃ ν', X11_lay_L107 (p : Int) l2 (a : Int) K (g + 1) (i : Int) ν = K ν' ∧ Bm ν' ∧ fw (fun k j => k = 89 ∧ 8 * a ≤ j ∧ j < 8 * a + 8) ν0 ν' ∧ ∀ j, j < m → ν' 89 (8 * a + j) = if Q (cr j) = -1 then -1 else ν0 87 (Q (cr j)).toNat := by
      intro v hv e
      have hvr : rI v := by
        rw [hv]
        split
        · exact ⟨by decide, by decide⟩
        · exact h87 _
      obtain ⟨ν', r1, r2, r3, r4⟩ := ih (i + 1) g (sM ν 89 (8 * a + i) v) (by omega) (by omega) (Bm_sM hB hvr) (fw_sM hw ⟨rfl, by omega, by omega⟩) (fun j hj => by
        rw [sM_if]
        by_cases c : j = i
        · rw [if_pos (by rw [c]), c]; exact hv
        · rw [if_neg (by omega)]; exact hd j (by omega))
      exact ⟨ν', e.trans r1, r2, r3, r4⟩
    have e0 : X11_lay_L107 (p : Int) l2 (a : Int) K (g + 1) (i : Int) ν = if Q (cr i) = (-1) then (stA ν 89 (iA (iM 8 (a : Int)) (i : Int)) (-1) fun μ31 => X11_lay_L107 (p : Int) l2 (a : Int) K g (iA (i : Int) 1) μ31) else (ldA ν 87 (Q (cr i)) fun v27 => stA ν 89 (iA (iM 8 (a : Int)) (i : Int)) v27 fun μ29 => X11_lay_L107 (p : Int) l2 (a : Int) K g (iA (i : Int) 1) μ29) := by
      show (if (ν 70 37) ≤ (i : Int) then _ else _) = _
      rw [hw 70 37 (by omega), h37, if_neg (by omega), off8 (by omega) (by omega)]
      unfold ldA
      rw [if_pos (by show (0 : Int) ≤ ((8 * p + i : Nat) : Int) ∧ ((8 * p + i : Nat) : Int) < 48; omega), Int.toNat_natCast, hw 83 _ (by omega), h83 i (by omega)]
      dsimp only
      rw [iA_id (by omega) (by omega), hpl, bd_some]
    by_cases c : Q (cr i) = -1
    · refine step (-1) (by rw [if_pos c]) ?_
      rw [e0, if_pos c, off8 ha (by omega)]
      unfold stA
      rw [if_pos (by show (0 : Int) ≤ ((8 * a + i : Nat) : Int) ∧ ((8 * a + i : Nat) : Int) < 72; omega), Int.toNat_natCast, iA_nat (by omega)]
    · refine step (ν0 87 (Q (cr i)).toNat) (by rw [if_neg c]) ?_
      rw [e0, if_neg c, off8 ha (by omega)]
      unfold ldA stA
      rw [if_pos (by show (0 : Int) ≤ Q (cr i) ∧ Q (cr i) < 60; omega)]
      dsimp only
      rw [if_pos (by show (0 : Int) ≤ ((8 * a + i : Nat) : Int) ∧ ((8 * a + i : Nat) : Int) < 72; omega), Int.toNat_natCast, iA_nat (by omega), hw 87 _ (by omega)]
theorem J58_eq {l2 : Int} {p a m : Nat} (hp : p ≤ 4) (ha : a ≤ 8) (hm : m ≤ 8) {cr : Nat → Nat} (hcr : ∀ k, k < m → cr k < 8) {Q : Nat → Int} {K : Int → Mm → Rs} {ν : Mm} (hB : Bm ν) (hU : UQ ν 82) (hQ : PlM ν Q) (h37 : ν 70 37 = (m : Int)) (h83 : ∀ k, k < m → ν 83 (8 * p + k) = ((cr k : Nat) : Int)) {s0 : Int} (hs : s0 = -1 ∨ ∃ s : Nat, s0 = (s : Int) ∧ opM ν s) : ∃ ν', X11_lay_J58 K (p : Int) l2 (a : Int) s0 ν = K ((a + 1 : Nat) : Int) ν' ∧ Bm ν' ∧ fw (Wa a) ν ν' ∧ ∀ j, j < m → RWy (opM ν) s0 (Q (cr j)) (ν' 89 (8 * a + j)) := by
  unfold X11_lay_J58
  obtain ⟨ν1, e1, b1, w1, d1⟩ := fil_L (l1 := (p : Int)) (l2 := l2) (s0 := s0) ha hm (K := fun μ15 => if s0 = (-1) then (K (iA (a : Int) 1) μ15) else (bd (X11_spread s0 μ15) fun v17 μ18 => X11_lay_L107 (p : Int) l2 (a : Int) (fun μ33 => K (iA (a : Int) 1) μ33) FU 0 μ18)) (ν0 := ν) h37 m 0 FU ν (by omega) (by show m < 1000000; omega) hB fw_rf (fun j hj => absurd hj (by omega))
  have e1' : X11_lay_L63 (p : Int) l2 (a : Int) s0 (fun μ15 => if s0 = (-1) then (K (iA (a : Int) 1) μ15) else (bd (X11_spread s0 μ15) fun v17 μ18 => X11_lay_L107 (p : Int) l2 (a : Int) (fun μ33 => K (iA (a : Int) 1) μ33) FU 0 μ18)) FU 0 ν = (if s0 = (-1) then (K (iA (a : Int) 1) ν1) else (bd (X11_spread s0 ν1) fun v17 μ18 => X11_lay_L107 (p : Int) l2 (a : Int) (fun μ33 => K (iA (a : Int) 1) μ33) FU 0 μ18)) := e1
  rw [e1', iA_nat (by omega)]
  rcases hs with hs | ⟨s, rfl, ho⟩
  · rw [if_pos hs]
    exact ⟨ν1, rfl, b1, fun k j hn => w1 k j (fun z => hn (Or.inr z)), fun j hj => ⟨fun _ => d1 j hj, fun _ => d1 j hj, fun s p e _ => by omega⟩⟩
  · rw [if_neg (by omega)]
    have o0 : opM ν1 s := by
      unfold opM isP at ho ⊢
      rw [w1 70 23 (by omega), w1 70 24 (by omega), w1 82 s (by omega)]
      exact ho
    obtain ⟨r, ξ, e2, f2, g2, d2⟩ := sprM b1 o0
    have x : ∀ k j, k ≠ 87 → k ≠ 89 → ξ k j = ν k j := fun k j h1 h2 => by rw [f2 k h1, w1 k j (by omega)]
    have hBξ : Bm ξ := fun k j hk => by
      by_cases c : k = 87
      · rw [c]; exact g2 j
      · rw [f2 k c]; exact b1 k j hk
    have hQξ : PlM ξ Q := PlM_c (fun j => x 82 j (by decide) (by decide)) (x 70 23 (by decide) (by decide)) (x 70 24 (by decide) (by decide)) hQ
    have hUξ : UQ ξ 82 := UQ_congr hU (x 70 23 (by decide) (by decide)) (x 70 24 (by decide) (by decide)) (fun j => x 82 j (by decide) (by decide))
    obtain ⟨ν', e3, b3, w3, d3⟩ := rowM_L (l2 := l2) hp ha hm hcr (K := fun μ33 => K ((a + 1 : Nat) : Int) μ33) hUξ hQξ (by rw [x 70 37 (by decide) (by decide)]; exact h37) (fun k hk => by rw [x 83 _ (by decide) (by decide)]; exact h83 k hk) g2 m 0 FU ξ (by omega) (by show m < 1000000; omega) hBξ fw_rf (fun j hj => absurd hj (by omega))
    have e3' : X11_lay_L107 (p : Int) l2 (a : Int) (fun μ33 => K ((a + 1 : Nat) : Int) μ33) FU 0 ξ = K ((a + 1 : Nat) : Int) ν' := e3
    rw [e2, bd_some, e3']
    have o1 : ∀ q, opM ν1 q ↔ opM ν q := fun q => by
      unfold opM isP
      rw [w1 70 23 (by omega), w1 70 24 (by omega), w1 82 q (by omega)]
    refine ⟨ν', rfl, b3, fun k j hn => ?_, fun j hj => ⟨fun h => by omega, fun h => by rw [d3 j hj, if_pos h], fun s' q' h1 h2 => ⟨ξ 87, ?_, ?_⟩⟩⟩
    · rw [w3 k j (fun z => hn (Or.inr z)), f2 k (fun z => hn (Or.inl z)), w1 k j (fun z => hn (Or.inr z))]
    · have : s' = s := by omega
      rw [this]
      exact ds_c o1 d2
    · rw [d3 j hj, h2, if_neg (by omega), Int.toNat_natCast]
def Wl (k j : Nat) : Prop := k = 87 ∨ k = 89 ∨ k = 90 ∨ (k = 70 ∧ (j = 37 ∨ j = 38))
theorem wnd_L {p m : Nat} (hp : p ≤ 4) (hm : m ≤ 8) {cr : Nat → Nat} (hcr : ∀ k, k < m → cr k < 8) {ν0 : Mm} (h37 : ν0 70 37 = (m : Int)) (h83 : ∀ k, k < m → ν0 83 (8 * p + k) = ((cr k : Nat) : Int)) : ∀ (r i fuel : Nat) (ν : Mm), i + r = m → r < fuel → Bm ν → fw (fun k _ => k = 90) ν0 ν → (∀ j, j < i → ν 90 j = ν0 86 (cr j)) → ∃ ν', X11_lay_L181 (p : Int) fuel (i : Int) ν = some (0, ν') ∧ Bm ν' ∧ fw (fun k _ => k = 90) ν0 ν' ∧ ∀ j, j < m → ν' 90 j = ν0 86 (cr j) := by
  intro r
  induction r with
  | zero =>
    intro i fuel ν hi hf hB hw hd
    obtain ⟨g, rfl, _⟩ := lt_fuel hf
    refine ⟨ν, ?_, hB, hw, fun j hj => hd j (by omega)⟩
    show (if (ν 70 37) ≤ (i : Int) then _ else _) = _
    rw [hw 70 37 (by omega), h37, if_pos (by omega)]
  | succ r ih =>
    intro i fuel ν hi hf hB hw hd
    obtain ⟨g, rfl, _⟩ := lt_fuel hf
    have hci := hcr i (by omega)
    have h86 : ν 86 (cr i) = ν0 86 (cr i) := hw 86 _ (by omega)
    have hb : 0 ≤ ν 86 (cr i) ∧ ν 86 (cr i) ≤ 30 := hB 86 (cr i) (by decide)
    obtain ⟨ν', r1, r2, r3, r4⟩ := ih (i + 1) g (sM ν 90 i (ν0 86 (cr i))) (by omega) (by omega) (Bm_sM hB (show (-2147483648 : Int) ≤ ν0 86 (cr i) ∧ ν0 86 (cr i) ≤ 2147483647 by omega)) (fw_sM hw rfl) (fun j hj => by
      rw [sM_if]
      by_cases c : j = i
      · rw [if_pos c, c]
      · rw [if_neg c]; exact hd j (by omega))
    refine ⟨ν', ?_, r2, r3, r4⟩
    rw [← r1]
    show (if (ν 70 37) ≤ (i : Int) then _ else _) = _
    rw [hw 70 37 (by omega), h37, if_neg (by omega), off8 (by omega) (by omega)]
    unfold ldA stA
    rw [if_pos (by show (0 : Int) ≤ ((8 * p + i : Nat) : Int) ∧ ((8 * p + i : Nat) : Int) < 48; omega), Int.toNat_natCast (8 * p + i), hw 83 _ (by omega), h83 i (by omega)]
    dsimp only
    rw [if_pos (by show (0 : Int) ≤ (cr i : Int) ∧ (cr i : Int) < 8; omega), Int.toNat_natCast (cr i), h86, if_pos (by show (0 : Int) ≤ (i : Int) ∧ (i : Int) < 8; omega), Int.toNat_natCast, iA_nat (by omega)]
theorem layM_L {p m : Nat} (hp : p ≤ 4) (hm : m ≤ 8) {cr : Nat → Nat} (hcr : ∀ k, k < m → cr k < 8) {Q : Nat → Int} {K : Mm → Rs} {ν0 : Mm} (hU : UQ ν0 82) (hQ : PlM ν0 Q) (h37 : ν0 70 37 = (m : Int)) (h83 : ∀ k, k < m → ν0 83 (8 * p + k) = ((cr k : Nat) : Int)) {s0 : Int} (hs : s0 = -1 ∨ ∃ s : Nat, s0 = (s : Int) ∧ opM ν0 s) : ∀ (r i fuel : Nat) (ν : Mm), i + r = m + 1 → r < fuel → Bm ν → fw (fun k _ => k = 87 ∨ k = 89) ν0 ν → (∀ a b, a < i → b < m → RWy (opM ν0) (if a = m then s0 else Q (cr a)) (Q (cr b)) (ν 89 (8 * a + b))) → ∃ ν', X11_lay_L18 (p : Int) s0 K fuel (i : Int) ν = K ν' ∧ Bm ν' ∧ fw (fun k _ => k = 87 ∨ k = 89) ν0 ν' ∧ ∀ a b, a ≤ m → b < m → RWy (opM ν0) (if a = m then s0 else Q (cr a)) (Q (cr b)) (ν' 89 (8 * a + b)) := by
  intro r
  induction r with
  | zero =>
    intro i fuel ν hi hf hB hw hd
    obtain ⟨g, rfl, _⟩ := lt_fuel hf
    refine ⟨ν, ?_, hB, hw, fun a b ha hb => hd a b (by omega) hb⟩
    show (if (ν 70 37) < (i : Int) then _ else _) = _
    rw [hw 70 37 (by omega), h37, if_pos (by omega)]
  | succ r ih =>
    intro i fuel ν hi hf hB hw hd
    obtain ⟨g, rfl, _⟩ := lt_fuel hf
    have e82 : ∀ j, ν 82 j = ν0 82 j := fun j => hw 82 j (by omega)
    have e23 : ν 70 23 = ν0 70 23 := hw 70 23 (by omega)
    have e24 : ν 70 24 = ν0 70 24 := hw 70 24 (by omega)
    have e37 : ν 70 37 = (m : Int) := by rw [hw 70 37 (by omega)]; exact h37
    have e83 : ∀ k, k < m → ν 83 (8 * p + k) = ((cr k : Nat) : Int) := fun k hk => by rw [hw 83 _ (by omega)]; exact h83 k hk
    have hU' : UQ ν 82 := UQ_congr hU e23 e24 e82
    have hQ' := PlM_c e82 e23 e24 hQ
    have o : ∀ q, opM ν q ↔ opM ν0 q := fun q => by
      unfold opM isP
      rw [e23, e24, e82]
    have hsi : (if i = m then s0 else Q (cr i)) = -1 ∨ ∃ s : Nat, (if i = m then s0 else Q (cr i)) = (s : Int) ∧ opM ν s := by
      by_cases c : i = m
      · rw [if_pos c]
        rcases hs with z | ⟨s, z1, z2⟩
        · exact Or.inl z
        · exact Or.inr ⟨s, z1, (o s).mpr z2⟩
      · rw [if_neg c]
        exact PlM_o hQ' (hcr i (by omega))
    obtain ⟨ν1, e1, b1, w1, d1⟩ := J58_eq (l2 := s0) (a := i) hp (by omega) hm hcr (K := fun w4 μq => X11_lay_L18 (p : Int) s0 K g w4 μq) hB hU' hQ' e37 e83 hsi
    have w1' : fw (fun k _ => k = 87 ∨ k = 89) ν0 ν1 := fun k j hn => by
      rw [w1 k j (fun z => hn (by unfold Wa at z; omega)), hw k j hn]
    obtain ⟨ν', r1, r2, r3, r4⟩ := ih (i + 1) g ν1 (by omega) (by omega) b1 w1' (fun a b ha hb => by
      by_cases c : a = i
      · rw [c]
        exact RD_c o (d1 b hb)
      · rw [w1 89 (8 * a + b) (by unfold Wa; omega)]
        exact hd a b (by omega) hb)
    refine ⟨ν', ?_, r2, r3, r4⟩
    rw [← r1, ← e1]
    show (if (ν 70 37) < (i : Int) then _ else _) = _
    rw [e37, if_neg (by omega)]
    by_cases c : i = m
    · rw [if_pos (by omega), if_pos c]
    · rw [if_neg (by omega), off8 (by omega) (by omega), if_neg c]
      unfold ldA
      rw [if_pos (by show (0 : Int) ≤ ((8 * p + i : Nat) : Int) ∧ ((8 * p + i : Nat) : Int) < 48; omega), Int.toNat_natCast, e83 i (by omega)]
      dsimp only
      have hci := hcr i (by omega)
      rw [iA_id (by omega) (by omega), PlM_at hU' hQ' hci, bd_some]
/-- the reference's job, ready: all but the TIMES -/
theorem layM {p m : Nat} (hp : p ≤ 4) (hm : m ≤ 8) {cr : Nat → Nat} (hcr : ∀ k, k < m → cr k < 8) {Q : Nat → Int} {ν : Mm} (hB : Bm ν) (hU : UQ ν 82) (hQ : PlM ν Q) (h85 : ν 85 p = (m : Int)) (h83 : ∀ k, k < m → ν 83 (8 * p + k) = ((cr k : Nat) : Int)) {s0 by_ : Int} (hby : rI by_) (hs : s0 = -1 ∨ ∃ s : Nat, s0 = (s : Int) ∧ opM ν s) : ∃ ξ, X11_lay (p : Int) s0 by_ ν = some (0, ξ) ∧ Bm ξ ∧ fw Wl ν ξ ∧ ξ 70 37 = (m : Int) ∧ ξ 70 38 = by_ ∧ (∀ k, k < m → ξ 90 k = ν 86 (cr k)) ∧ (∀ a b, a ≤ m → b < m → RWy (opM ν) (if a = m then s0 else Q (cr a)) (Q (cr b)) (ξ 89 (8 * a + b))) := by
  obtain ⟨ν1, hν1⟩ : ∃ ν1, ν1 = sM (sM ν 70 37 (m : Int)) 70 38 by_ := ⟨_, rfl⟩
  have w1 : ∀ k j, ¬ (k = 70 ∧ (j = 37 ∨ j = 38)) → ν1 k j = ν k j := fun k j hn => by
    rw [hν1]
    unfold sM
    rw [if_neg (by omega), if_neg (by omega)]
  have e37 : ν1 70 37 = (m : Int) := by rw [hν1, sM_j (by decide), sM_s]
  have e38 : ν1 70 38 = by_ := by rw [hν1, sM_s]
  have b1 : Bm ν1 := by
    rw [hν1]
    exact Bm_sM (Bm_sM hB (show (0 : Int) ≤ (m : Int) ∧ (m : Int) ≤ 8 by omega)) hby
  have o : ∀ q, opM ν1 q ↔ opM ν q := fun q => by
    unfold opM isP
    rw [w1 70 23 (by omega), w1 70 24 (by omega), w1 82 q (by omega)]
  have h83' : ∀ k, k < m → ν1 83 (8 * p + k) = ((cr k : Nat) : Int) := fun k hk => by rw [w1 83 _ (by omega)]; exact h83 k hk
  obtain ⟨ν2, e2, b2, w2, d2⟩ := layM_L hp hm hcr (K := fun μ34 => X11_lay_L181 (p : Int) FU 0 μ34) (ν0 := ν1) (UQ_congr hU (w1 70 23 (by omega)) (w1 70 24 (by omega)) (fun j => w1 82 j (by omega))) (PlM_c (fun j => w1 82 j (by omega)) (w1 70 23 (by omega)) (w1 70 24 (by omega)) hQ) e37 h83' (s0 := s0) (by
    rcases hs with z | ⟨s, z1, z2⟩
    · exact Or.inl z
    · exact Or.inr ⟨s, z1, (o s).mpr z2⟩) (m + 1) 0 FU ν1 (by omega) (by show m + 1 < 1000000; omega) b1 fw_rf (fun a b ha _ => absurd ha (by omega))
  obtain ⟨ν3, e3, b3, w3, d3⟩ := wnd_L hp hm hcr (ν0 := ν2) (by rw [w2 70 37 (by omega)]; exact e37) (fun k hk => by rw [w2 83 _ (by omega)]; exact h83' k hk) m 0 FU ν2 (by omega) (by show m < 1000000; omega) b2 fw_rf (fun j hj => absurd hj (by omega))
  refine ⟨ν3, ?_, b3, fun k j hn => ?_, by rw [w3 70 37 (by omega), w2 70 37 (by omega)]; exact e37, by rw [w3 70 38 (by omega), w2 70 38 (by omega)]; exact e38, fun k hk => ?_, fun a b ha hb => ?_⟩
  · unfold X11_lay ldA
    rw [if_pos (by show (0 : Int) ≤ (p : Int) ∧ (p : Int) < 6; omega), Int.toNat_natCast, h85]
    dsimp only
    rw [sF_r, sF_r, ← hν1]
    have e2' : X11_lay_L18 (p : Int) s0 (fun μ34 => X11_lay_L181 (p : Int) FU 0 μ34) FU 0 ν1 = X11_lay_L181 (p : Int) FU 0 ν2 := e2
    rw [e2']
    exact e3
  · unfold Wl at hn
    rw [w3 k j (fun z => hn (by omega)), w2 k j (fun z => hn (by omega)), w1 k j (fun z => hn (by omega))]
  · rw [d3 k hk, w2 86 _ (by omega), w1 86 _ (by omega)]
  · rw [w3 89 _ (by omega)]
    exact RD_c o (d2 a b ha hb)
