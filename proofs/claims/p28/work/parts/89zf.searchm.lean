/-! the reference's search -/
def Rng (q : Nat) (t c d : Int) : Prop := (0 ≤ t ∧ t ≤ 1099 + 591 * (q : Int)) ∧ (0 ≤ c ∧ c ≤ 6000 * (q : Int)) ∧ (0 ≤ d ∧ d < 10 ^ q)
theorem lateW_b {w c l : Int} {q : Nat} (hc : 0 ≤ c ∧ c ≤ 6000 * (q : Int)) (hl : 0 ≤ l ∧ l ≤ 6000) : 0 ≤ lateW w c l ∧ lateW w c l ≤ 6000 * ((q + 1 : Nat) : Int) := by
  unfold lateW
  rw [mX_eq]
  by_cases c0 : w = 0
  · rw [if_pos c0]; omega
  · rw [if_neg c0]
    by_cases c1 : w = 1
    · rw [if_pos c1]; omega
    · rw [if_neg c1]
      by_cases c2 : l ≤ 0
      · rw [if_pos c2]; omega
      · rw [if_neg c2]; omega
section SM
variable {m : Nat} {B : Nat → Nat → Int} {T Wd : Nat → Int} {S w : Int}
theorem rng_s (hJ : JOK m B T Wd S) {a i q : Nat} (ha : a ≤ m) (hi : i < m) (hB : B a i ≠ -1) {t c d : Int} (hR : Rng q t c d) (hq : q + 1 ≤ 8) : Rng (q + 1) (stO B T Wd S t a i) (lateW w c (stO B T Wd S t a i - T i)) (10 * d + (i : Int)) ∧ (0 ≤ B a i * S ∧ B a i * S ≤ 531) ∧ (0 ≤ stO B T Wd S t a i - T i ∧ stO B T Wd S t a i - T i ≤ 6000) := by
  obtain ⟨r1, r2, r3⟩ := hR
  have h1 := hJ.2.2.2.1 a i ha hi
  have h2 := mul_b (a := B a i) (s := S) (by omega) hJ.2.2.1
  have h3 := hJ.2.2.2.2.1 i hi
  have h4 := hJ.2.2.2.2.2 i hi
  have h5 : stO B T Wd S t a i = mX (t + B a i * S + Wd i) (T i) := rfl
  rw [mX_eq] at h5
  have hm8 := hJ.2.1
  have hl : 0 ≤ stO B T Wd S t a i - T i ∧ stO B T Wd S t a i - T i ≤ 6000 := by omega
  have hp : (10 : Int) ^ (q + 1) = 10 ^ q * 10 := p10_succ q
  refine ⟨⟨by omega, lateW_b r2 hl, by omega⟩, h2, hl⟩
def msk (M : Int) (m : Nat) (lf : Nat → Bool) : Prop := rI M ∧ ∀ d, d < 32 → (gb M d = true ↔ d < m ∧ lf d = true)
theorem msk_off {M : Int} {lf : Nat → Bool} (h : msk M m lf) {i : Nat} (hi : i < 10) : msk (bA M (bX (bL 1 (i : Int)) (-1))) m (ofB lf i) := by
  refine ⟨bA_r _ _, fun d hd => ?_⟩
  rw [gb_off hi M hd, h.2 d hd]
  unfold ofB
  by_cases c : d = i
  · rw [if_pos c]
    exact ⟨fun z => absurd c z.2, fun z => absurd z.2 (by decide)⟩
  · rw [if_neg c]
    exact ⟨fun z => z.1, fun z => ⟨z, c⟩⟩
theorem msk_0 {M : Int} {lf : Nat → Bool} (hm : m ≤ 8) (h : msk M m lf) : M = 0 ↔ cN lf m = 0 := by
  constructor
  · intro e
    refine cN_z m (fun i hi z => ?_)
    have := (h.2 i (by omega)).mpr ⟨hi, z⟩
    rw [e, gb_zero i (by omega)] at this
    exact absurd this (by decide)
  · intro e
    refine gb_ext h.1 (show (-2147483648 : Int) ≤ 0 ∧ (0 : Int) ≤ 2147483647 by decide) (fun d hd => ?_)
    rw [h.2 d hd, gb_zero d hd]
    exact ⟨fun z => absurd z.2 (cN_0 m e d z.1), fun z => absurd z (by decide)⟩
def Wse (k j : Nat) : Prop := k = 70 ∧ (j = 41 ∨ j = 42)
def st2 (ξ : Mm) : Int × Int := (ξ 70 41, ξ 70 42)
def alT (_ _ : Nat) : Bool := true
theorem JobM_se {ξ ξ' : Mm} (h : JobM ξ m B T Wd S) (f : fw Wse ξ ξ') : JobM ξ' m B T Wd S := by
  have o : ∀ k j, ¬ Wse k j → ξ' k j = ξ k j := f
  exact ⟨by rw [o 70 37 (by unfold Wse; omega)]; exact h.1, by rw [o 70 38 (by unfold Wse; omega)]; exact h.2.1, fun k hk => by
    rw [o 88 k (by unfold Wse; omega), o 90 k (by unfold Wse; omega)]; exact h.2.2.1 k hk, fun a b ha hb => by rw [o 89 _ (by unfold Wse; omega)]; exact h.2.2.2 a b ha hb⟩
theorem hasM_eq {M : Int} {lf : Nat → Bool} (hm : m ≤ 8) (h : msk M m lf) {i : Nat} (hi : i < m) (ξ : Mm) : X11_has M (i : Int) ξ = some (if lf i = true then 1 else 0, ξ) := by
  unfold X11_has
  by_cases c : lf i = true
  · rw [if_pos c, if_pos ((bt1 (by omega) M).mpr ((h.2 i (by omega)).mpr ⟨hi, c⟩))]
  · rw [if_neg c, if_neg (fun z => c ((h.2 i (by omega)).mp ((bt1 (by omega) M).mp z)).2)]
theorem srM_L (hJ : JOK m B T Wd S) {M : Int} {lf : Nat → Bool} (hk : msk M m lf) {a n q : Nat} (ha : a ≤ m) (hq : q + 1 ≤ 8) {t c d : Int} (hR : Rng q t c d) {rec : Int → Int → Int → Int → Int → Int → Mm → Rs} {ξ0 : Mm} (hM : JobM ξ0 m B T Wd S) (hrec : ∀ i, i < m → lf i = true → B a i ≠ -1 → ∀ ξ, fw Wse ξ0 ξ → ∃ ξ', rec w (bA M (bX (bL 1 (i : Int)) (-1))) (i : Int) (stO B T Wd S t a i) (lateW w c (stO B T Wd S t a i - T i)) (10 * d + (i : Int)) ξ = some (0, ξ') ∧ fw Wse ξ0 ξ' ∧ st2 ξ' = fst1 m B T Wd S w alT n lf a t c d i (st2 ξ)) {s0 : Int × Int} : ∀ (r i fuel : Nat) (ξ : Mm), i + r = m → r < fuel → fw Wse ξ0 ξ → st2 ξ = flO (fst2 m B T Wd S w alT n lf a t c d) i s0 → ∃ ξ', X11_search_L38 rec w M (a : Int) t c d fuel (i : Int) ξ = some (0, ξ') ∧ fw Wse ξ0 ξ' ∧ st2 ξ' = flO (fst2 m B T Wd S w alT n lf a t c d) m s0 := by
  have hm8 := hJ.2.1
  intro r
  induction r with
  | zero =>
    intro i fuel ξ hr hf hw hs
    obtain ⟨g, rfl, _⟩ := lt_fuel hf
    have e : i = m := by omega
    refine ⟨ξ, ?_, hw, by rw [hs, e]⟩
    show (if (ξ 70 37) ≤ (i : Int) then _ else _) = _
    rw [(JobM_se hM hw).1, if_pos (by omega)]
  | succ r ih =>
    intro i fuel ξ hr hf hw hs
    obtain ⟨g, rfl, _⟩ := lt_fuel hf
    have him : i < m := by omega
    have hMx := JobM_se hM hw
    have e89 : ξ 89 (8 * a + i) = B a i := hMx.2.2.2 a i ha him
    have e88 := (hMx.2.2.1 i him).1
    have e90 := (hMx.2.2.1 i him).2
    have i89 : (0 : Int) ≤ ((8 * a + i : Nat) : Int) ∧ ((8 * a + i : Nat) : Int) < 72 := by omega
    have i8 : (0 : Int) ≤ (i : Int) ∧ (i : Int) < 8 := by omega
    -- the CUE isn't to come
    have skip : ¬ (lf i = true ∧ alT n i = true ∧ B a i ≠ -1) → X11_search_L38 rec w M (a : Int) t c d (g + 1) (i : Int) ξ = X11_search_L38 rec w M (a : Int) t c d g ((i + 1 : Nat) : Int) ξ := by
      intro hno
      show (if (ξ 70 37) ≤ (i : Int) then _ else _) = _
      rw [hMx.1, if_neg (by omega), hasM_eq hm8 hk him, bd_some]
      by_cases c1 : lf i = true
      · have c2 : B a i = -1 := Classical.byContradiction (fun z => hno ⟨c1, rfl, z⟩)
        rw [if_pos c1, if_neg (by decide)]
        unfold ldA
        rw [off8 (by omega) (by omega), if_pos (by exact i89), Int.toNat_natCast (8 * a + i), e89, c2]
        try dsimp only
        unfold X11_search_J72
        rw [if_pos rfl, iA_nat (by omega)]
      · rw [if_neg c1, if_pos rfl]
        unfold X11_search_J72
        rw [if_pos rfl, iA_nat (by omega)]
    by_cases z : lf i = true ∧ alT n i = true ∧ B a i ≠ -1
    · obtain ⟨z1, _, z3⟩ := z
      obtain ⟨ξ1, g1, g2, g3⟩ := hrec i him z1 z3 ξ hw
      obtain ⟨⟨r1, r2, r3⟩, r4, r5⟩ := rng_s (w := w) hJ ha him z3 hR hq
      have h3 := hJ.2.2.2.2.1 i him
      have h4 := hJ.2.2.2.2.2 i him
      obtain ⟨q1, q2, q3⟩ := hR
      have p8 : (10 : Int) ^ (q + 1) ≤ 100000000 := p10_mono (b := 8) (by omega)
      have t1 : mX (iA (iA t (iM (B a i) S)) (Wd i)) (T i) = stO B T Wd S t a i := by
        rw [iM_id (by omega) (by omega), iA_id (a := t) (by omega) (by omega), iA_id (by omega) (by omega)]
        rfl
      have t2 : iS (stO B T Wd S t a i) (T i) = stO B T Wd S t a i - T i := iS_id (by omega) (by omega)
      have t3 : iA (iM 10 d) (i : Int) = 10 * d + (i : Int) := by
        rw [iM_id (by omega) (by omega), iA_id (by omega) (by omega)]
      have e162 : ∀ v, v = lateW w c (stO B T Wd S t a i - T i) → X11_search_J162 rec (fun w7 μq => X11_search_L38 rec w M (a : Int) t c d g w7 μq) w M (a : Int) t c d (i : Int) (stO B T Wd S t a i) v ξ = X11_search_L38 rec w M (a : Int) t c d g ((i + 1 : Nat) : Int) ξ1 := by
        intro v hv
        unfold X11_search_J162
        rw [t3, hv, g1, bd_some, iA_nat (by omega)]
      have e72 : X11_search_J72 rec (fun w7 μq => X11_search_L38 rec w M (a : Int) t c d g w7 μq) w M (a : Int) t c d (i : Int) (B a i) ξ = X11_search_L38 rec w M (a : Int) t c d g ((i + 1 : Nat) : Int) ξ1 := by
        unfold X11_search_J72 ldA lt_
        try dsimp only
        rw [if_neg z3, if_pos (by exact i8), Int.toNat_natCast, e90]
        try dsimp only
        rw [if_pos (by exact i8), e88, hMx.2.1, t1]
        try dsimp only
        rw [if_pos (by exact i8)]
        try dsimp only
        rw [t2]
        by_cases c0 : w = 0
        · rw [if_pos c0]
          have e : iA c (stO B T Wd S t a i - T i) = lateW w c (stO B T Wd S t a i - T i) := by
            unfold lateW
            rw [if_pos c0]; exact iA_id (by omega) (by omega)
          exact e162 _ e
        · rw [if_neg c0]
          by_cases c1 : w = 1
          · rw [if_pos c1]
            have e : mX c (stO B T Wd S t a i - T i) = lateW w c (stO B T Wd S t a i - T i) := by
              unfold lateW
              rw [if_neg c0, if_pos c1]
            exact e162 _ e
          · rw [if_neg c1]
            by_cases c2 : stO B T Wd S t a i - T i ≤ 0
            · rw [if_pos c2]
              unfold X11_search_J161
              have e : iA c 0 = lateW w c (stO B T Wd S t a i - T i) := by
                unfold lateW
                rw [if_neg c0, if_neg c1, if_pos c2, iA_id (by omega) (by omega)]; omega
              exact e162 _ e
            · rw [if_neg c2]
              unfold X11_search_J161
              have e : iA c 1 = lateW w c (stO B T Wd S t a i - T i) := by
                unfold lateW
                rw [if_neg c0, if_neg c1, if_neg c2, iA_id (by omega) (by omega)]
              exact e162 _ e
      have e0 : X11_search_L38 rec w M (a : Int) t c d (g + 1) (i : Int) ξ = X11_search_L38 rec w M (a : Int) t c d g ((i + 1 : Nat) : Int) ξ1 := by
        show (if (ξ 70 37) ≤ (i : Int) then _ else _) = _
        rw [hMx.1, if_neg (by omega), hasM_eq hm8 hk him, bd_some, if_pos z1, if_neg (by decide)]
        unfold ldA
        rw [off8 (by omega) (by omega), if_pos (by exact i89), Int.toNat_natCast (8 * a + i), e89]
        try dsimp only
        exact e72
      rw [e0]
      refine ih (i + 1) g ξ1 (by omega) (by omega) g2 ?_
      rw [g3, hs]
      show _ = fst2 m B T Wd S w alT n lf a t c d i (flO (fst2 m B T Wd S w alT n lf a t c d) i s0)
      rw [fst2_y ⟨z1, rfl, z3⟩]
    · rw [skip z]
      refine ih (i + 1) g ξ (by omega) (by omega) hw ?_
      rw [hs]
      show _ = fst2 m B T Wd S w alT n lf a t c d i (flO (fst2 m B T Wd S w alT n lf a t c d) i s0)
      rw [fst2_n z]
theorem srM (hJ : JOK m B T Wd S) : ∀ (n fuel q : Nat) (M : Int) (lf : Nat → Bool) (a : Nat) (t c d : Int) (ξ : Mm), n + q ≤ 8 → n < fuel → msk M m lf → cN lf m = n → a ≤ m → Rng q t c d → JobM ξ m B T Wd S → ∃ ξ', X11_search fuel w M (a : Int) t c d ξ = some (0, ξ') ∧ fw Wse ξ ξ' ∧ st2 ξ' = fulO m B T Wd S w alT n lf a t c d (st2 ξ) := by
  have hm8 := hJ.2.1
  intro n
  induction n with
  | zero =>
    intro fuel q M lf a t c d ξ hq hf hk hn ha hR hM
    obtain ⟨g, rfl, _⟩ := lt_fuel hf
    have hM0 : M = 0 := (msk_0 hm8 hk).mpr hn
    have e18 : X11_search_J18 (fun w0 w1 w2 w3 w4 w5 μq => X11_search g w0 w1 w2 w3 w4 w5 μq) w M (a : Int) t c d ξ = some (0, sM (sM ξ 70 41 d) 70 42 c) := by
      unfold X11_search_J18
      rw [if_pos hM0, sF_r, sF_r]
    by_cases z : betr c (st2 ξ)
    · refine ⟨sM (sM ξ 70 41 d) 70 42 c, ?_, fw_sM (fw_sM fw_rf ⟨rfl, Or.inl rfl⟩) ⟨rfl, Or.inr rfl⟩, ?_⟩
      · show (if ξ 70 41 = -1 then _ else _) = _
        by_cases z1 : ξ 70 41 = -1
        · rw [if_pos z1]; exact e18
        · have z2 : c < ξ 70 42 := z.resolve_left z1
          rw [if_neg z1, if_pos z2]; exact e18
      · rw [fulO_0.1 z]
        unfold st2
        rw [sM_j (show (41 : Nat) ≠ 42 by decide), sM_s, sM_s]
    · refine ⟨ξ, ?_, fw_rf, by rw [fulO_0.2 z]⟩
      show (if ξ 70 41 = -1 then _ else _) = _
      rw [if_neg (show ¬ ξ 70 41 = -1 from fun y => z (Or.inl y)), if_neg (show ¬ c < ξ 70 42 from fun y => z (Or.inr y))]
  | succ n ih =>
    intro fuel q M lf a t c d ξ hq hf hk hn ha hR hM
    obtain ⟨g, rfl, _⟩ := lt_fuel hf
    by_cases z : betr c (st2 ξ)
    · have hM0 : M ≠ 0 := fun e => by
        have := (msk_0 hm8 hk).mp e
        omega
      obtain ⟨ξ', g1, g2, g3⟩ := srM_L (w := w) hJ hk (n := n) ha (q := q) (by omega) hR (rec := fun w0 w1 w2 w3 w4 w5 μq => X11_search g w0 w1 w2 w3 w4 w5 μq) hM (fun i hi h1 h2 ξ1 f1 => by
        obtain ⟨r1, _⟩ := rng_s (w := w) hJ ha hi h2 hR (by omega)
        obtain ⟨ξ2, k1, k2, k3⟩ := ih g (q + 1) _ _ i _ _ _ ξ1 (by omega) (by omega) (msk_off hk (i := i) (by omega)) (by rw [cN_off h1, if_pos hi, hn]; rfl) (by omega) r1 (JobM_se hM f1)
        exact ⟨ξ2, k1, fw_tr f1 k2, k3⟩) (s0 := st2 ξ) m 0 FU ξ (by omega) (by show m < 1000000; omega) fw_rf rfl
      have e18 : X11_search_J18 (fun w0 w1 w2 w3 w4 w5 μq => X11_search g w0 w1 w2 w3 w4 w5 μq) w M (a : Int) t c d ξ = some (0, ξ') := by
        unfold X11_search_J18
        rw [if_neg hM0]
        exact g1
      refine ⟨ξ', ?_, g2, by rw [g3, fulO_s]⟩
      show (if ξ 70 41 = -1 then _ else _) = _
      by_cases z1 : ξ 70 41 = -1
      · rw [if_pos z1]; exact e18
      · have z2 : c < ξ 70 42 := z.resolve_left z1
        rw [if_neg z1, if_pos z2]; exact e18
    · refine ⟨ξ, ?_, fw_rf, ?_⟩
      · show (if ξ 70 41 = -1 then _ else _) = _
        rw [if_neg (show ¬ ξ 70 41 = -1 from fun y => z (Or.inl y)), if_neg (show ¬ c < ξ 70 42 from fun y => z (Or.inr y))]
      · rw [ddO_full _ _ _ _ _ _ _ (ddO_cut _ _ _ _ _ z)]
/-- the best of all ORDERS of a set, by wish w: ORDER and cost (-1, -1: none) -/
def bst (m : Nat) (B : Nat → Nat → Int) (T Wd : Nat → Int) (S w : Int) (lf : Nat → Bool) : Int × Int := fulO m B T Wd S w alT (cN lf m) lf m 0 0 0 (-1, -1)
theorem leastM (hJ : JOK m B T Wd S) {M : Int} {lf : Nat → Bool} (hk : msk M m lf) {ξ : Mm} (hM : JobM ξ m B T Wd S) : ∃ ξ', X11_leastOf w M ξ = some ((bst m B T Wd S w lf).2, ξ') ∧ fw Wse ξ ξ' ∧ st2 ξ' = bst m B T Wd S w lf := by
  have hm8 := hJ.2.1
  have hc := cN_le (b := lf) m
  have f0 : fw Wse ξ (sM (sM ξ 70 41 (-1)) 70 42 (-1)) := fw_sM (fw_sM fw_rf ⟨rfl, Or.inl rfl⟩) ⟨rfl, Or.inr rfl⟩
  have hM0 := JobM_se hM f0
  obtain ⟨ξ', g1, g2, g3⟩ := srM (w := w) hJ (cN lf m) RD 0 M lf m 0 0 0 _ (by omega) (by show cN lf m < 12; omega) hk rfl (Nat.le_refl _) ⟨by omega, by omega, by decide⟩ hM0
  have e : st2 (sM (sM ξ 70 41 (-1)) 70 42 (-1)) = (-1, -1) := by
    unfold st2
    rw [sM_j (show (41 : Nat) ≠ 42 by decide), sM_s, sM_s]
  rw [e] at g3
  refine ⟨ξ', ?_, fw_tr f0 g2, g3⟩
  have g4 : ξ' 70 42 = (bst m B T Wd S w lf).2 := congrArg (fun p : Int × Int => p.2) g3
  unfold X11_leastOf
  rw [sF_r, sF_r, hM0.1, g1, bd_some, g4]
end SM
