/-! BOY -/
theorem layB {μ : Mm} (hI : Inv μ) (h23 : μ 70 23 ≠ 0) {p : Nat} (hp : (p : Int) < μ 70 28) : ∃ (L : List (Int × Int)) (T : Nat → Int) (ν : Mm) (s : Nat), Pk μ p L T ∧ (Cg (opM μ) (μ 7) s ∧ (s < 60 ∧ isP μ s ∧ μ 82 s = 2) ∧ μ 5 3 = (s : Int) ∧ okWS (μ 8) (μ 70 30) ∧ (∀ c, c < 8 → μ 8 c = μ 86 c) ∧ μ 5 7 = μ 70 30 ∧ (∀ p, opM μ p ↔ (p < 60 ∧ μ 6 p ≠ -1 ∧ μ 6 p ≠ 1))) ∧ X10_lay (p : Int) μ = some (1, ν) ∧ St scr μ ν ∧ JobC 48 ν L.length (bW (opM μ) (μ 7) s (lets L) L.length) T (fun k => μ 8 (lets L k)) (lets L) (μ 70 30) := by
  obtain ⟨L, T, hPk⟩ := Pk_of hI hp
  obtain ⟨p4, _, l1, l8, hL, hP, hM, H, hH, hT⟩ := id hPk
  obtain ⟨s, hG, hs, hb⟩ := base13 hI h23
  obtain ⟨ν, g1, g2, g3, g4, g5, g6, g7⟩ := layC hI h23 hp l8 hP hL hH hs.1 hs.2.1 hs.2.2
  have hcr : ∀ k, k < L.length → lets L k < 8 := fun k hk => (lets_e hL hk).2
  have t := t_X10_lay (W := scr) (μs := μ) (hW := fun _ _ h => h) (hp_l1 := (show -2147483648 ≤ (p : Int) ∧ (p : Int) ≤ 2147483647 by omega)) (St_rf hI.1)
  rw [g1, wp_some] at t
  refine ⟨L, T, ν, s, hPk, ⟨hG, hs, hb⟩, g1, t.1, g3, g4, fun k hk => ⟨(g5 k hk).1, by rw [hT k]; exact (g5 k hk).2.1, (g5 k hk).2.2⟩, fun a b ha hb => ?_, fun b hb => ?_⟩
  · exact bW_u hG hcr (Nat.le_of_lt ha) hb (by rw [if_neg (by omega)]; exact g6 a b ha hb)
  · exact bW_u hG hcr (Nat.le_refl _) hb (by rw [if_pos rfl]; exact g7 b hb)
theorem rdyB {O : Nat → Prop} {Q : Nat → Int} {s : Nat} {W : Nat → Int} {S : Int} {L : List (Int × Int)} {T : Nat → Int} (hl8 : L.length ≤ 8) (hL : plOK L) {p : Nat} {ξ : Mm} (hp : (p : Int) < ξ 70 28) (hM : hasM ξ p 0 L) {H : Option (List (Cd × Cd))} (hH : HL ξ H) (hG : Cg O Q s) (hT : TrM ξ O Q s W S) (hTi : ∀ k, k < L.length → T k = tmF H (ξ 70 31) L k) : ∃ ξ1, X11_isReady (p : Int) ξ = some (1, ξ1) ∧ Sm ξ ξ1 ∧ JobM ξ1 L.length (bW O Q s (lets L) L.length) T (fun k => W (lets L k)) S := by
  obtain ⟨hI, t1, t2, ⟨t3, t4, t5⟩, t6, t7, t8⟩ := hT
  have hcr : ∀ k, k < L.length → lets L k < 8 := fun k hk => (lets_e hL hk).2
  obtain ⟨ξ1, y1, y2, y3, y4, y5, y6⟩ := readyM hI.1 hI.2.2.2.2.2.2.1 t2 t8 hp hl8 hM hL hH t3 t4 t5
  exact ⟨ξ1, y1, y2, y3, by rw [y4, t7], fun k hk => ⟨by rw [(y5 k hk).1, hTi k hk], by rw [(y5 k hk).2, t6 _ (hcr k hk)]⟩, fun a b ha hb => bW_u hG hcr ha hb (RD_c t1 (y6 a b ha hb))⟩
theorem bW_a {O : Nat → Prop} {Q : Nat → Int} {s s' : Nat} {cr : Nat → Nat} {m a b : Nat} (h : a ≠ m) : bW O Q s cr m a b = bW O Q s' cr m a b := by
  unfold bW
  rw [if_neg h, if_neg h]
theorem set_bt {m Y : Nat} (hm : m ≤ 8) (hY : Y < 2 ^ m) : setY Y m (bt (Y : Int)) := by
  have hv := all_v m (by omega)
  have h := msk_of (M := (Y : Int)) hm ⟨by omega, by rw [hv]; omega⟩
  exact ⟨hY, h.2⟩
theorem msk_n {m Y : Nat} (hm : m ≤ 8) (hY : Y < 2 ^ m) : msk (Y : Int) m (bt (Y : Int)) := by
  have hv := all_v m (by omega)
  exact msk_of hm ⟨by omega, by rw [hv]; omega⟩
/-- the other CUES of m -/
def cz (m Y : Nat) : Nat := (bA (iS (bL 1 (m : Int)) 1) (bX (Y : Int) (-1))).toNat
theorem cz_e {m : Nat} (hm : m ≤ 8) (Y : Nat) : bA (iS (bL 1 (m : Int)) 1) (bX (Y : Int) (-1)) = ((cz m Y : Nat) : Int) ∧ cz m Y < 2 ^ m := by
  obtain ⟨X, e1, e2⟩ := low_set hm (bA_r (iS (bL 1 (m : Int)) 1) (bX (Y : Int) (-1))) (fun d hd z => by
    rw [gb_not _ _ hd, gb_all m (by omega) d hd, decide_eq_true_iff] at z
    exact z.1)
  unfold cz
  rw [e1, Int.toNat_natCast]
  exact ⟨rfl, e2⟩
def boF (VB VH : Nat → Int) : Nat → Int × Int
  | 0 => (-1, 0)
  | k + 1 => if VB k = -1 then boF VB VH k else if VH k = -1 then boF VB VH k else if (boF VB VH k).1 = -1 then ((k : Int), VB k + VH k) else if (boF VB VH k).2 ≤ VB k + VH k then boF VB VH k else ((k : Int), VB k + VH k)
theorem boF_b {VB VH : Nat → Int} (h1 : ∀ k, VB k = -1 ∨ (0 ≤ VB k ∧ VB k ≤ 48000)) (h2 : ∀ k, VH k = -1 ∨ (0 ≤ VH k ∧ VH k ≤ 48000)) : ∀ k, (boF VB VH k).1 = -1 ∨ (0 ≤ (boF VB VH k).1 ∧ 0 ≤ (boF VB VH k).2 ∧ (boF VB VH k).2 ≤ 96000) := by
  intro k
  induction k with
  | zero => exact Or.inl rfl
  | succ k ih =>
    have e : boF VB VH (k + 1) = if VB k = -1 then boF VB VH k else if VH k = -1 then boF VB VH k else if (boF VB VH k).1 = -1 then ((k : Int), VB k + VH k) else if (boF VB VH k).2 ≤ VB k + VH k then boF VB VH k else ((k : Int), VB k + VH k) := rfl
    rw [e]
    have k1 := h1 k
    have k2 := h2 k
    by_cases c1 : VB k = -1
    · rw [if_pos c1]; exact ih
    · rw [if_neg c1]
      by_cases c2 : VH k = -1
      · rw [if_pos c2]; exact ih
      · rw [if_neg c2]
        have hp : 0 ≤ ((k : Int), VB k + VH k).1 ∧ 0 ≤ ((k : Int), VB k + VH k).2 ∧ ((k : Int), VB k + VH k).2 ≤ 96000 := ⟨by show (0 : Int) ≤ (k : Int); omega, by show 0 ≤ VB k + VH k; omega, by show VB k + VH k ≤ 96000; omega⟩
        by_cases c3 : (boF VB VH k).1 = -1
        · rw [if_pos c3]; exact Or.inr hp
        · rw [if_neg c3]
          by_cases c4 : (boF VB VH k).2 ≤ VB k + VH k
          · rw [if_pos c4]; exact ih
          · rw [if_neg c4]; exact Or.inr hp
theorem a65 : aN 65 = 256 := by decide +kernel
theorem a66 : aN 66 = 256 := by decide +kernel
theorem a95 : aN 95 = 256 := by decide +kernel
section BO_
variable {m : Nat} {B B' : Nat → Nat → Int} {T Wd : Nat → Int} {cr : Nat → Nat} {S S' : Int} {VB VH : Nat → Int}
theorem bst_v (hJ : JOK m B T Wd S) {y : Nat → Bool} : (bst m B T Wd S 0 y).2 = -1 ∨ (0 ≤ (bst m B T Wd S 0 y).2 ∧ (bst m B T Wd S 0 y).2 ≤ 48000) := by
  have hm8 := hJ.2.1
  have hcn := cN_le (b := y) m
  rcases bst_att (m := m) (B := B) (T := T) (Wd := Wd) (S := S) (y := y) with ⟨z1, _⟩ | ⟨_, z2, _⟩
  · rw [z1]; exact Or.inl rfl
  · exact Or.inr (att_b hJ (cN y m) 0 y m 0 0 _ (by omega) (Nat.le_refl _) ⟨by omega, by omega, by decide⟩ z2)
/-- the class's share -/
theorem shC_L (hm : m ≤ 8) (hB : ∀ k, VB k = -1 ∨ (0 ≤ VB k ∧ VB k ≤ 48000)) (hH : ∀ k, VH k = -1 ∨ (0 ≤ VH k ∧ VH k ≤ 48000)) {ν0 : Mm} (h66 : ∀ k, k < 2 ^ m → ν0 66 k = if VB k = -1 then 1000000000 else VB k) (h65 : ∀ k, k < 2 ^ m → ν0 65 (cz m k) = if VH k = -1 then 1000000000 else VH k) : ∀ (r k fuel : Nat) (ν : Mm), k + r = 2 ^ m → r < fuel → fw (fun k j => k = 62 ∧ j = 7) ν0 ν → ν 62 7 = (if (boF VB VH k).1 = -1 then 1000000000 else (boF VB VH k).2) → ∃ ν', X6_share_L35 (iS (bL 1 (m : Int)) 1) fuel (boF VB VH k).1 (k : Int) ν = some ((boF VB VH (2 ^ m)).1, ν') ∧ fw (fun k j => k = 62 ∧ j = 7) ν0 ν' ∧ ν' 62 7 = (if (boF VB VH (2 ^ m)).1 = -1 then 1000000000 else (boF VB VH (2 ^ m)).2) := by
  have h256 := pow_256 hm
  have hv := all_v m (by omega)
  intro r
  induction r with
  | zero =>
    intro k fuel ν hr hf hw h7
    obtain ⟨g, rfl, _⟩ := lt_fuel hf
    have e : k = 2 ^ m := by omega
    rw [e] at h7
    refine ⟨ν, ?_, hw, h7⟩
    show (if iS (bL 1 (m : Int)) 1 < (k : Int) then _ else _) = _
    rw [hv, if_pos (by omega), e]
  | succ r ih =>
    intro k fuel ν hr hf hw h7
    obtain ⟨g, rfl, _⟩ := lt_fuel hf
    have hk : k < 2 ^ m := by omega
    obtain ⟨ec, hc⟩ := cz_e hm k
    have i66 : (0 : Int) ≤ (k : Int) ∧ (k : Int) < ((256 : Nat) : Int) := ⟨by omega, by omega⟩
    have i65 : (0 : Int) ≤ ((cz m k : Nat) : Int) ∧ ((cz m k : Nat) : Int) < ((256 : Nat) : Int) := ⟨by omega, by omega⟩
    have b1 := hB k
    have b2 := hH k
    have b3 := boF_b hB hH k
    have e66 : ν 66 k = if VB k = -1 then 1000000000 else VB k := by rw [hw 66 k (by omega)]; exact h66 k hk
    have e65 : ν 65 (cz m k) = if VH k = -1 then 1000000000 else VH k := by rw [hw 65 _ (by omega)]; exact h65 k hk
    have e : boF VB VH (k + 1) = if VB k = -1 then boF VB VH k else if VH k = -1 then boF VB VH k else if (boF VB VH k).1 = -1 then ((k : Int), VB k + VH k) else if (boF VB VH k).2 ≤ VB k + VH k then boF VB VH k else ((k : Int), VB k + VH k) := rfl
    have e0 : X6_share_L35 (iS (bL 1 (m : Int)) 1) (g + 1) (boF VB VH k).1 (k : Int) ν = if ν 66 k = 1000000000 then X6_share_L35 (iS (bL 1 (m : Int)) 1) g (boF VB VH k).1 ((k + 1 : Nat) : Int) ν else if ν 65 (cz m k) = 1000000000 then X6_share_L35 (iS (bL 1 (m : Int)) 1) g (boF VB VH k).1 ((k + 1 : Nat) : Int) ν else if ν 62 7 ≤ iA (ν 66 k) (ν 65 (cz m k)) then X6_share_L35 (iS (bL 1 (m : Int)) 1) g (boF VB VH k).1 ((k + 1 : Nat) : Int) ν else X6_share_L35 (iS (bL 1 (m : Int)) 1) g (k : Int) ((k + 1 : Nat) : Int) (sM ν 62 7 (iA (ν 66 k) (ν 65 (cz m k)))) := by
      show (if iS (bL 1 (m : Int)) 1 < (k : Int) then _ else _) = _
      rw [if_neg (by rw [hv]; omega), if_neg (by omega), ec]
      unfold ldA
      rw [if_pos (by rw [a66]; exact i66)]
      try dsimp only
      rw [if_pos (by rw [a65]; exact i65)]
      simp only [Int.toNat_natCast]
      rw [iA_nat (by omega), sF_r]
    have keepS : boF VB VH (k + 1) = boF VB VH k → ∃ ν', X6_share_L35 (iS (bL 1 (m : Int)) 1) g (boF VB VH k).1 ((k + 1 : Nat) : Int) ν = some ((boF VB VH (2 ^ m)).1, ν') ∧ fw (fun k j => k = 62 ∧ j = 7) ν0 ν' ∧ ν' 62 7 = (if (boF VB VH (2 ^ m)).1 = -1 then 1000000000 else (boF VB VH (2 ^ m)).2) := fun hS => by
      have h := ih (k + 1) g ν (by omega) (by omega) hw (by rw [hS]; exact h7)
      rw [hS] at h
      exact h
    rw [e0, e66, e65]
    by_cases c1 : VB k = -1
    · rw [if_pos c1, if_pos rfl]
      exact keepS (by rw [e, if_pos c1])
    · rw [if_neg c1, if_neg (by omega)]
      by_cases c2 : VH k = -1
      · rw [if_pos c2, if_pos rfl]
        exact keepS (by rw [e, if_neg c1, if_pos c2])
      · rw [if_neg c2, if_neg (by omega)]
        have ea : iA (VB k) (VH k) = VB k + VH k := iA_id (by omega) (by omega)
        rw [ea]
        clear ea e0
        by_cases c3 : (boF VB VH k).1 = -1
        · rw [if_pos c3] at h7
          rw [h7, if_neg (by omega)]
          have hS : boF VB VH (k + 1) = ((k : Int), VB k + VH k) := by rw [e, if_neg c1, if_neg c2, if_pos c3]
          have h := ih (k + 1) g (sM ν 62 7 (VB k + VH k)) (by omega) (by omega) (fw_sM hw ⟨rfl, rfl⟩) (by
            rw [sM_s, hS]
            show _ = if (k : Int) = -1 then _ else VB k + VH k
            rw [if_neg (by omega)])
          rw [hS] at h
          exact h
        · rw [if_neg c3] at h7
          rw [h7]
          by_cases c4 : (boF VB VH k).2 ≤ VB k + VH k
          · rw [if_pos c4]
            exact keepS (by rw [e, if_neg c1, if_neg c2, if_neg c3, if_pos c4])
          · rw [if_neg c4]
            have hS : boF VB VH (k + 1) = ((k : Int), VB k + VH k) := by rw [e, if_neg c1, if_neg c2, if_neg c3, if_neg c4]
            have h := ih (k + 1) g (sM ν 62 7 (VB k + VH k)) (by omega) (by omega) (fw_sM hw ⟨rfl, rfl⟩) (by
              rw [sM_s, hS]
              show _ = if (k : Int) = -1 then _ else VB k + VH k
              rw [if_neg (by omega)])
            rw [hS] at h
            exact h
theorem shareC (hJ : JOK m B T Wd S) (hJ' : JOK m B' T Wd S') {ν : Mm} (hC : JobC 48 ν m B T Wd cr S) (hC' : JobC 53 ν m B' T Wd cr S') (h1 : ∀ k, VB k = (bst m B' T Wd S' 0 (bt (k : Int))).2) (h2 : ∀ k, VH k = (bst m B T Wd S 0 (bt ((cz m k : Nat) : Int))).2) : ∃ ν', X6_share 48 53 ν = some ((boF VB VH (2 ^ m)).1, ν') ∧ ν' 62 7 = (if (boF VB VH (2 ^ m)).1 = -1 then 1000000000 else (boF VB VH (2 ^ m)).2) := by
  have hm8 := hJ.2.1
  obtain ⟨ν1, e1, f1, g1⟩ := weighC (l0 := 48) (lt := 65) (by decide) (Or.inl rfl) hJ hC
  have hC1' : JobC 53 ν1 m B' T Wd cr S' := JobC_c (by decide) hC' (fun k j k1 k2 => f1 k j (by unfold Wwe Wga; omega))
  have hC1 : JobC 48 ν1 m B T Wd cr S := JobC_c (by decide) hC (fun k j k1 k2 => f1 k j (by unfold Wwe Wga; omega))
  obtain ⟨ν2, e2, f2, g2⟩ := weighC (l0 := 53) (lt := 66) (by decide) (Or.inr rfl) hJ' hC1'
  have hC2 : JobC 48 ν2 m B T Wd cr S := JobC_c (by decide) hC1 (fun k j k1 k2 => f2 k j (by unfold Wwe Wga; omega))
  have hB : ∀ k, VB k = -1 ∨ (0 ≤ VB k ∧ VB k ≤ 48000) := fun k => by rw [h1 k]; exact bst_v hJ'
  have hH : ∀ k, VH k = -1 ∨ (0 ≤ VH k ∧ VH k ≤ 48000) := fun k => by rw [h2 k]; exact bst_v hJ
  have h256 := pow_256 hm8
  obtain ⟨ν3, e3, _, g3⟩ := shC_L (VB := VB) (VH := VH) hm8 hB hH (ν0 := sM ν2 62 7 1000000000) (fun k hk => by
    rw [sM_a (by decide), g2 k _ (set_bt hm8 hk), ← h1 k]) (fun k hk => by
    rw [sM_a (by decide), f2 65 _ (by unfold Wwe Wga; omega), g1 _ _ (set_bt hm8 (cz_e hm8 k).2), ← h2 k]) (2 ^ m) 0 FU (sM ν2 62 7 1000000000) (by omega) (by show 2 ^ m < 1000000; omega) fw_rf (by rw [sM_s]; rfl)
  have e3 : X6_share_L35 (iS (bL 1 (m : Int)) 1) FU (-1) 0 (sM ν2 62 7 1000000000) = some ((boF VB VH (2 ^ m)).1, ν3) := e3
  refine ⟨ν3, ?_, g3⟩
  unfold X6_share
  rw [e1, bd_some, e2, bd_some]
  unfold X1_allCues
  rw [hC2.1, bd_some, sF_r, e3]
/-- the boy's job: all but where he stands as the hand's -/
theorem boyC (hJ : JOK m B T Wd S) (hcr : ∀ k, k < m → cr k < 8) (hB' : ∀ a b, a < m → B' a b = B a b) {ν : Mm} (hC : JobC 48 ν m B T Wd cr S) {x : Nat} (hx : opC 5 ν x) (hp : ∀ c, c < 8 → ν 7 c = -1 ∨ (0 ≤ ν 7 c ∧ ν 7 c < 60)) (hR : ∀ b v, b < m → RWy (opC 5 ν) (x : Int) (ν 7 (cr b)) v → v = B' m b) {by_ : Int} : ∃ ν1 ν', X1_copy 53 48 ν = some (0, ν1) ∧ X1_standAt 53 5 (x : Int) by_ ν1 = some (0, ν') ∧ JobC 53 ν' m B' T Wd cr by_ ∧ JobC 48 ν' m B T Wd cr S := by
  have hm8 := hJ.2.1
  obtain ⟨c1, c2, c3, c4, c5⟩ := hC
  obtain ⟨ν1, hν1⟩ : ∃ z, z = sM (sM (cA_ (cA_ (cA_ (cA_ ν 49 54 8) 50 55 8) 51 56 8) 52 57 72) 53 5 (ν 48 5)) 53 6 (ν 48 6) := ⟨_, rfl⟩
  have ecp : X1_copy 53 48 ν = some (0, ν1) := by
    unfold X1_copy cpA sF
    rw [if_pos (by decide)]
    try dsimp only
    rw [if_pos (by decide)]
    try dsimp only
    rw [if_pos (by decide)]
    try dsimp only
    rw [if_pos (by decide)]
    rw [hν1]
    simp only [sM_a (show (48 : Nat) ≠ 53 by decide), cA_o (show (48 : Nat) ≠ 57 by decide), cA_o (show (48 : Nat) ≠ 56 by decide), cA_o (show (48 : Nat) ≠ 55 by decide), cA_o (show (48 : Nat) ≠ 54 by decide)]
  have o1 : ∀ k j, (k < 53 ∨ 57 < k) → ν1 k j = ν k j := fun k j hk => by
    rw [hν1, sM_a (by omega), sM_a (by omega), cA_o (by omega), cA_o (by omega), cA_o (by omega), cA_o (by omega)]
  have e54 : ∀ j, j < 8 → ν1 54 j = ν 49 j := fun j hj => by
    rw [hν1, sM_a (by decide), sM_a (by decide), cA_o (by decide), cA_o (by decide), cA_o (by decide), cA_i (by omega)]
  have e55 : ∀ j, j < 8 → ν1 55 j = ν 50 j := fun j hj => by
    rw [hν1, sM_a (by decide), sM_a (by decide), cA_o (by decide), cA_o (by decide), cA_i (by omega), cA_o (by decide)]
  have e56 : ∀ j, j < 8 → ν1 56 j = ν 51 j := fun j hj => by
    rw [hν1, sM_a (by decide), sM_a (by decide), cA_o (by decide), cA_i (by omega), cA_o (by decide), cA_o (by decide)]
  have e57 : ∀ j, j < 72 → ν1 57 j = ν 52 j := fun j hj => by
    rw [hν1, sM_a (by decide), sM_a (by decide), cA_i (by omega), cA_o (by decide), cA_o (by decide), cA_o (by decide)]
  have e535 : ν1 53 5 = ν 48 5 := by rw [hν1, sM_j (by decide), sM_s]
  obtain ⟨ν2, hν2⟩ : ∃ z, z = sM ν1 53 6 by_ := ⟨_, rfl⟩
  have o2 : ∀ k j, k ≠ 53 → ν2 k j = ν1 k j := fun k j hk => by rw [hν2, sM_a hk]
  have e2535 : ν2 53 5 = (m : Int) := by rw [hν2, sM_j (by decide), e535]; exact c1
  have op2 : ∀ q, opC 5 ν2 q ↔ opC 5 ν q := fun q => by
    unfold opC
    rw [o2 _ q (by decide), o1 _ q (by omega)]
  have p2 : ∀ c, ν2 7 c = ν 7 c := fun c => by rw [o2 7 c (by decide), o1 7 c (by omega)]
  obtain ⟨ν', j1, j2, j3⟩ := jmea (l0 := 53) (by decide) (l1 := 5) (by decide) (row := 8) (by decide) hm8 hcr (ν := ν2) (fun c hc => by
    show ν2 7 c = -1 ∨ (0 ≤ ν2 7 c ∧ ν2 7 c < 60)
    rw [p2]; exact hp c hc) e2535 (fun k hk => by
    show ν2 54 k = ((cr k : Nat) : Int)
    rw [o2 54 k (by decide), e54 k (by omega)]; exact (c3 k hk).1) (a := (x : Int)) (Or.inr ⟨x, rfl, (op2 x).mpr hx⟩)
  have o3 : ∀ k j, ¬ Wr 53 8 k j → ν' k j = ν2 k j := j2
  refine ⟨ν1, ν', ecp, ?_, ⟨by rw [o3 53 5 (by unfold Wr fW; omega)]; exact e2535, by rw [o3 53 6 (by unfold Wr fW; omega), hν2, sM_s], fun k hk => ⟨?_, ?_, ?_⟩, fun a b ha hb => ?_, fun b hb => ?_⟩, ⟨?_, ?_, fun k hk => ⟨?_, ?_, ?_⟩, fun a b ha hb => ?_, fun b hb => ?_⟩⟩
  · unfold X1_standAt
    have j1 : X1_measure 53 5 8 (x : Int) ν2 = some (0, ν') := j1
    rw [sF_r, ← hν2, j1, bd_some]
  · show ν' 54 k = ((cr k : Nat) : Int)
    rw [o3 54 k (by unfold Wr fW; omega), o2 54 k (by decide), e54 k (by omega)]; exact (c3 k hk).1
  · show ν' 55 k = T k
    rw [o3 55 k (by unfold Wr fW; omega), o2 55 k (by decide), e55 k (by omega)]; exact (c3 k hk).2.1
  · show ν' 56 k = Wd k
    rw [o3 56 k (by unfold Wr fW; omega), o2 56 k (by decide), e56 k (by omega)]; exact (c3 k hk).2.2
  · show ν' 57 (8 * a + b) = B' a b
    rw [o3 57 _ (by unfold Wr fW; omega), o2 57 _ (by decide), e57 _ (by omega), hB' a b ha]
    exact c4 a b ha hb
  · have h := RD_c op2 (j3 b hb)
    have h : RWy (opC 5 ν) (x : Int) (ν2 7 (cr b)) (ν' 57 (8 * 8 + b)) := h
    rw [p2] at h
    have e64 : 8 * 8 + b = 64 + b := by omega
    rw [e64] at h
    exact hR b _ hb h
  · rw [o3 48 5 (by unfold Wr fW; omega), o2 48 5 (by decide), o1 48 5 (by omega)]; exact c1
  · rw [o3 48 6 (by unfold Wr fW; omega), o2 48 6 (by decide), o1 48 6 (by omega)]; exact c2
  · show ν' 49 k = ((cr k : Nat) : Int)
    rw [o3 49 k (by unfold Wr fW; omega), o2 49 k (by decide), o1 49 k (by omega)]; exact (c3 k hk).1
  · show ν' 50 k = T k
    rw [o3 50 k (by unfold Wr fW; omega), o2 50 k (by decide), o1 50 k (by omega)]; exact (c3 k hk).2.1
  · show ν' 51 k = Wd k
    rw [o3 51 k (by unfold Wr fW; omega), o2 51 k (by decide), o1 51 k (by omega)]; exact (c3 k hk).2.2
  · show ν' 52 (8 * a + b) = B a b
    rw [o3 52 _ (by unfold Wr fW; omega), o2 52 _ (by decide), o1 52 _ (by omega)]
    exact c4 a b ha hb
  · show ν' 52 (64 + b) = B m b
    rw [o3 52 _ (by unfold Wr fW; omega), o2 52 _ (by decide), o1 52 _ (by omega)]
    exact c5 b hb
/-! the reference -/
theorem leastB (hJ : JOK m B T Wd S) {ν0 ξ : Mm} (hI : Inv ν0) (hS : Sm ν0 ξ) (hM : JobM ξ m B T Wd S) {k : Nat} (hk : k < 2 ^ m) : ∃ ξ', X11_leastOf 0 (k : Int) ξ = some ((bst m B T Wd S 0 (bt (k : Int))).2, ξ') ∧ Sm ν0 ξ' ∧ JobM ξ' m B T Wd S ∧ fw Wse ξ ξ' := by
  have hm8 := hJ.2.1
  have h256 := pow_256 hm8
  obtain ⟨ξ', g1, g2, g3⟩ := leastM (w := 0) hJ (msk_n hm8 hk) hM
  have t := t_X11_leastOf (μs := ν0) (l1 := 0) (l2 := (k : Int)) hI.2.1 (by decide) (by omega) hS
  rw [g1, wp_some] at t
  exact ⟨ξ', g1, t.1, JobM_se hM g2, g2⟩
theorem bo41_L (hJ : JOK m B T Wd S) {ν0 : Mm} (hI : Inv ν0) {l1 l2 l3 l4 : Int} {K : Mm → Rs} : ∀ (r k fuel : Nat) (ξ : Mm), k + r = 2 ^ m → r < fuel → Sm ν0 ξ → JobM ξ m B T Wd S → (∀ j, j < k → ξ 95 j = (bst m B T Wd S 0 (bt (j : Int))).2) → ∃ ξ', X11_boy_L41 l1 l2 l3 l4 K fuel (k : Int) ξ = K ξ' ∧ Sm ν0 ξ' ∧ JobM ξ' m B T Wd S ∧ ∀ j, j < 2 ^ m → ξ' 95 j = (bst m B T Wd S 0 (bt (j : Int))).2 := by
  have hm8 := hJ.2.1
  have h256 := pow_256 hm8
  have hv := all_v m (by omega)
  intro r
  induction r with
  | zero =>
    intro k fuel ξ hr hf hS hM h
    obtain ⟨g, rfl, _⟩ := lt_fuel hf
    have e : k = 2 ^ m := by omega
    refine ⟨ξ, ?_, hS, hM, fun j hj => h j (by omega)⟩
    show bd (X11_all ξ) _ = _
    unfold X11_all
    rw [hM.1, bd_some, hv, if_pos (by omega)]
  | succ r ih =>
    intro k fuel ξ hr hf hS hM h
    obtain ⟨g, rfl, _⟩ := lt_fuel hf
    have hk : k < 2 ^ m := by omega
    have i95 : (0 : Int) ≤ (k : Int) ∧ (k : Int) < ((256 : Nat) : Int) := ⟨by omega, by omega⟩
    obtain ⟨ξ1, g1, g2, g3, g4⟩ := leastB hJ hI hS hM hk
    have hb := bst_v hJ (y := bt (k : Int))
    have g5 : Sm ν0 (sM ξ1 95 k (bst m B T Wd S 0 (bt (k : Int))).2) := Sm_sM g2 (by unfold scrM; omega) (show (-2147483648 : Int) ≤ (bst m B T Wd S 0 (bt (k : Int))).2 ∧ (bst m B T Wd S 0 (bt (k : Int))).2 ≤ 2147483647 by omega)
    have g6 : JobM (sM ξ1 95 k (bst m B T Wd S 0 (bt (k : Int))).2) m B T Wd S := ⟨by rw [sM_a (by decide)]; exact g3.1, by rw [sM_a (by decide)]; exact g3.2.1, fun j hj => by rw [sM_a (by decide), sM_a (by decide)]; exact g3.2.2.1 j hj, fun a b ha hb => by rw [sM_a (by decide)]; exact g3.2.2.2 a b ha hb⟩
    have e0 : X11_boy_L41 l1 l2 l3 l4 K (g + 1) (k : Int) ξ = X11_boy_L41 l1 l2 l3 l4 K g ((k + 1 : Nat) : Int) (sM ξ1 95 k (bst m B T Wd S 0 (bt (k : Int))).2) := by
      show bd (X11_all ξ) _ = _
      unfold X11_all
      rw [hM.1, bd_some, hv, if_neg (by omega), g1, bd_some]
      unfold stA
      rw [if_pos (by rw [a95]; exact i95), Int.toNat_natCast, iA_nat (by omega)]
    rw [e0]
    exact ih (k + 1) g _ (by omega) (by omega) g5 g6 (fun j hj => by
      rw [sM_if]
      by_cases e : j = k
      · rw [if_pos e, e]
      · rw [if_neg e, g4 95 j (by unfold Wse; omega)]; exact h j (by omega))
theorem bo86_L (hJ : JOK m B T Wd S) (hJ' : JOK m B' T Wd S') {ν0 : Mm} (hI : Inv ν0) (h1 : ∀ k, VB k = (bst m B' T Wd S' 0 (bt (k : Int))).2) (h2 : ∀ k, VH k = (bst m B T Wd S 0 (bt ((cz m k : Nat) : Int))).2) {l4 : Int} {K : Int → Int → Mm → Rs} : ∀ (r k fuel : Nat) (ξ : Mm), k + r = 2 ^ m → r < fuel → Sm ν0 ξ → JobM ξ m B' T Wd S' → (∀ j, j < 2 ^ m → ξ 95 j = (bst m B T Wd S 0 (bt (j : Int))).2) → ∃ ξ', X11_boy_L86 l4 K fuel (boF VB VH k).1 (boF VB VH k).2 (k : Int) ξ = K (boF VB VH (2 ^ m)).1 (boF VB VH (2 ^ m)).2 ξ' ∧ Sm ν0 ξ' := by
  have hm8 := hJ.2.1
  have h256 := pow_256 hm8
  have hv := all_v m (by omega)
  have hB : ∀ k, VB k = -1 ∨ (0 ≤ VB k ∧ VB k ≤ 48000) := fun k => by rw [h1 k]; exact bst_v hJ'
  have hH : ∀ k, VH k = -1 ∨ (0 ≤ VH k ∧ VH k ≤ 48000) := fun k => by rw [h2 k]; exact bst_v hJ
  intro r
  induction r with
  | zero =>
    intro k fuel ξ hr hf hS hM h
    obtain ⟨g, rfl, _⟩ := lt_fuel hf
    have e : k = 2 ^ m := by omega
    refine ⟨ξ, ?_, hS⟩
    show bd (X11_all ξ) _ = _
    unfold X11_all
    rw [hM.1, bd_some, hv, if_pos (by omega), e]
  | succ r ih =>
    intro k fuel ξ hr hf hS hM h
    obtain ⟨g, rfl, _⟩ := lt_fuel hf
    have hk : k < 2 ^ m := by omega
    obtain ⟨ec, hc⟩ := cz_e hm8 k
    have i95 : (0 : Int) ≤ ((cz m k : Nat) : Int) ∧ ((cz m k : Nat) : Int) < ((256 : Nat) : Int) := ⟨by omega, by omega⟩
    obtain ⟨ξ1, g1, g2, g3, g4⟩ := leastB hJ' hI hS hM hk
    rw [← h1 k] at g1
    have b1 := hB k
    have b2 := hH k
    have e95 : ξ1 95 (cz m k) = VH k := by rw [g4 95 _ (by unfold Wse; omega), h _ hc, ← h2 k]
    have e : boF VB VH (k + 1) = if VB k = -1 then boF VB VH k else if VH k = -1 then boF VB VH k else if (boF VB VH k).1 = -1 then ((k : Int), VB k + VH k) else if (boF VB VH k).2 ≤ VB k + VH k then boF VB VH k else ((k : Int), VB k + VH k) := rfl
    have e0 : X11_boy_L86 l4 K (g + 1) (boF VB VH k).1 (boF VB VH k).2 (k : Int) ξ = if VB k = -1 then X11_boy_L86 l4 K g (boF VB VH k).1 (boF VB VH k).2 ((k + 1 : Nat) : Int) ξ1 else if VH k = -1 then X11_boy_L86 l4 K g (boF VB VH k).1 (boF VB VH k).2 ((k + 1 : Nat) : Int) ξ1 else if (boF VB VH k).1 = -1 then X11_boy_L86 l4 K g (k : Int) (iA (VB k) (VH k)) ((k + 1 : Nat) : Int) ξ1 else if (boF VB VH k).2 ≤ iA (VB k) (VH k) then X11_boy_L86 l4 K g (boF VB VH k).1 (boF VB VH k).2 ((k + 1 : Nat) : Int) ξ1 else X11_boy_L86 l4 K g (k : Int) (iA (VB k) (VH k)) ((k + 1 : Nat) : Int) ξ1 := by
      show bd (X11_all ξ) _ = _
      unfold X11_all
      rw [hM.1, bd_some, if_neg (by rw [hv]; omega), g1, bd_some, g3.1, bd_some, ec]
      unfold ldA
      rw [if_pos (by rw [a95]; exact i95), Int.toNat_natCast, e95]
      try dsimp only
      rw [iA_nat (by omega)]
    obtain ⟨ξ', x1, x2⟩ := ih (k + 1) g ξ1 (by omega) (by omega) g2 g3 (fun j hj => by rw [g4 95 j (by unfold Wse; omega)]; exact h j hj)
    refine ⟨ξ', ?_, x2⟩
    rw [← x1, e0, e]
    by_cases c1 : VB k = -1
    · rw [if_pos c1, if_pos c1]
    · rw [if_neg c1, if_neg c1]
      by_cases c2 : VH k = -1
      · rw [if_pos c2, if_pos c2]
      · have ea : iA (VB k) (VH k) = VB k + VH k := by clear e0; exact iA_id (by omega) (by omega)
        rw [if_neg c2, if_neg c2, ea]
        by_cases c3 : (boF VB VH k).1 = -1
        · rw [if_pos c3, if_pos c3]
        · rw [if_neg c3, if_neg c3]
          by_cases c4 : (boF VB VH k).2 ≤ VB k + VH k
          · rw [if_pos c4, if_pos c4]
          · rw [if_neg c4, if_neg c4]
end BO_
theorem m_boy : ∀ a0, rI a0 → ∀ a1, rI a1 → ∀ a2, rI a2 → ∀ a3, rI a3 → sI Inv Inv (X10_boy a0 a1 a2 a3) (X11_boy a0 a1 a2 a3) := by
  intro a ha x hx b hb c hc μ hI
  have t1 := t_X10_boy (W := scr) (μs := μ) (hW := fun _ _ h => h) (hp_l1 := ha) (hp_l2 := hx) (hp_l3 := hb) (hp_l4 := hc) (St_rf hI.1)
  have hK := hI.2.2.2.2.2.1
  have hBm := hI.2.1.1
  have hCo : ∀ q, opC 5 μ q ↔ opM μ q := fun q => Cp_op hBm hK.1 q
  have no : ∀ ν, Inv ν → (∀ k j, ¬ scr k j → ν k j = μ k j) → (X11_isReady a ν = some (0, ν) ∨ ¬ (0 ≤ c ∧ c ≤ 1) ∨ ¬ (1 ≤ b ∧ b ≤ 9) ∨ (∀ q : Nat, x = (q : Int) → ¬ opM μ q)) → ∃ μ2, X11_boy a x b c ν = some (-1, μ2) ∧ Inv μ2 := by
    intro ν hν hs h
    rcases rdyAny hν a with z | ⟨ξ, m, h1, h2, h3, h4⟩
    · exact ⟨ν, by unfold X11_boy; rw [z, bd_some, if_pos rfl], hν⟩
    · have hIξ := Inv_Sm hν h2
      have n0 : ∀ k j, ¬ scr k j → ¬ scrM k j → ξ k j = μ k j := fun k j g1 g2 => by rw [h2.2 k j g2, hs k j g1]
      have o : ∀ q, opM ξ q ↔ opM μ q := fun q => by
        unfold opM
        rw [isP_congr (n0 70 23 (by unfold scr; omega) (by unfold scrM; omega)) (n0 70 24 (by unfold scr; omega) (by unfold scrM; omega)) q, n0 82 q (by unfold scr; omega) (by unfold scrM; omega)]
      by_cases ho : ∃ q : Nat, x = (q : Int) ∧ opM μ q
      · obtain ⟨q, rfl, hq⟩ := ho
        by_cases cb : 1 ≤ b ∧ b ≤ 9
        · by_cases cc : 0 ≤ c ∧ c ≤ 1
          · rcases h with h | h | h | h
            · exact (some_ne h1 h).elim
            · exact absurd cc h
            · exact absurd cb h
            · exact absurd hq (h q rfl)
          · exact ⟨ξ, by unfold X11_boy; rw [h1, bd_some, if_neg (by decide), isO_y ((o q).mpr hq), bd_some, if_neg (by decide), in_rg _ cb, bd_some, if_neg (by decide), in_no _ cc, bd_some, if_pos rfl], hIξ⟩
        · exact ⟨ξ, by unfold X11_boy; rw [h1, bd_some, if_neg (by decide), isO_y ((o q).mpr hq), bd_some, if_neg (by decide), in_no _ cb, bd_some, if_pos rfl], hIξ⟩
      · have hno : X11_isOpen x ξ = some (0, ξ) := isO_n hIξ.2.1.1 hx (fun q e z => ho ⟨q, e, (o q).mp z⟩)
        exact ⟨ξ, by unfold X11_boy; rw [h1, bd_some, if_neg (by decide), hno, bd_some, if_pos rfl], hIξ⟩
  have same0 : ∀ k j, ¬ scr k j → μ k j = μ k j := fun _ _ _ => rfl
  by_cases cc : 0 ≤ c ∧ c ≤ 1
  · by_cases cb : 1 ≤ b ∧ b ≤ 9
    · have R1 : X10_boy a x b c μ = bd (X0_isOpen 5 x μ) fun v7 μ8 => if v7 = 0 then (some ((-1), μ8)) else (bd (X10_lay a μ8) fun v11 μ12 => if v11 = 0 then (some ((-1), μ12)) else (bd (X1_copy 53 48 μ12) fun v15 μ16 => bd (X1_standAt 53 5 x b μ16) fun v18 μ19 => bd (X6_share 48 53 μ19) fun v21 μ22 => if v21 = (-1) then (some ((-1), μ22)) else (if c = 0 then (some (v21, μ22)) else (some (μ22 62 7, μ22))))) := by
        unfold X10_boy
        rw [half_y cc, bd_some, if_neg (by decide), if_neg (by omega), if_neg (by omega)]
      by_cases ho : ∃ q : Nat, x = (q : Int) ∧ opM μ q
      · obtain ⟨q, rfl, hq⟩ := ho
        rw [opC_y (l0 := 5) (by decide) ((hCo q).mpr hq), bd_some, if_neg (by decide)] at R1
        by_cases cr0 : μ 70 23 = 0 ∨ ¬ (0 ≤ a ∧ a < μ 70 28)
        · obtain ⟨μ2, e2, h2⟩ := no μ hI same0 (Or.inl (rdy_no hI.2.1.1 cr0))
          refine ⟨-1, μ, μ2, ?_, e2, h2⟩
          rw [R1, lay_no hI cr0, bd_some, if_pos rfl]
        · have h23 : μ 70 23 ≠ 0 := fun z => cr0 (Or.inl z)
          have hap : 0 ≤ a ∧ a < μ 70 28 := Classical.byContradiction (fun z => cr0 (Or.inr z))
          obtain ⟨p, rfl⟩ : ∃ p : Nat, a = (p : Int) := ⟨a.toNat, by omega⟩
          obtain ⟨L, T, ν, s, hPk, ⟨hG, hs, h53, hW, h86, h57, hP⟩, g1, g2, hC⟩ := layB hI h23 hap.2
          obtain ⟨p4, _, l1, l8, hL, hPp, hMm, H, hH, hTT⟩ := id hPk
          have hcr : ∀ k, k < L.length → lets L k < 8 := fun k hk => (lets_e hL hk).2
          have n2 : ∀ k j, ¬ scr k j → ν k j = μ k j := g2.2
          have hGq : Cg (opM μ) (μ 7) q := ⟨hG.1, hq, hG.2.2⟩
          have hT := Pk_T hPk
          have hJ : JOK L.length (bW (opM μ) (μ 7) s (lets L) L.length) T (fun k => μ 8 (lets L k)) (μ 70 30) := bW_J hG hcr l1 l8 hW.1 hT hW.2
          have hJ' : JOK L.length (bW (opM μ) (μ 7) q (lets L) L.length) T (fun k => μ 8 (lets L k)) b := bW_J hGq hcr l1 l8 cb hT hW.2
          have oν : ∀ y, opC 5 ν y ↔ opM μ y := fun y => by
            rw [← hCo y]
            unfold opC
            rw [n2 _ y (by unfold scr; omega)]
          have p7 : ∀ d, ν 7 d = μ 7 d := fun d => n2 7 d (by unfold scr; omega)
          obtain ⟨ν1, ν2, k1, k2, k3, k4⟩ := boyC hJ hcr (B' := bW (opM μ) (μ 7) q (lets L) L.length) (fun a b ha => bW_a (by omega)) hC ((oν q).mpr hq) (fun d hd => by
            rw [p7]; exact Cg_r hG (hG.2.2 d hd)) (fun b v hb hv => by
            have h := RD_c oν hv
            rw [p7] at h
            exact bW_u hGq hcr (Nat.le_refl _) hb (by rw [if_pos rfl]; exact h)) (by_ := b)
          obtain ⟨VB, hVB⟩ : ∃ V : Nat → Int, ∀ k, V k = (bst L.length (bW (opM μ) (μ 7) q (lets L) L.length) T (fun k => μ 8 (lets L k)) b 0 (bt ((k : Nat) : Int))).2 := ⟨fun k => _, fun k => rfl⟩
          obtain ⟨VH, hVH⟩ : ∃ V : Nat → Int, ∀ k, V k = (bst L.length (bW (opM μ) (μ 7) s (lets L) L.length) T (fun k => μ 8 (lets L k)) (μ 70 30) 0 (bt ((cz L.length k : Nat) : Int))).2 := ⟨fun k => _, fun k => rfl⟩
          obtain ⟨ν3, x1, x2⟩ := shareC hJ hJ' k4 k3 hVB hVH
          have hfb := boF_b (VB := VB) (VH := VH) (fun k => by rw [hVB k]; exact bst_v hJ') (fun k => by rw [hVH k]; exact bst_v hJ) (2 ^ L.length)
          rw [g1, bd_some, if_neg (by decide), k1, bd_some, k2, bd_some, x1, bd_some, x2] at R1
          obtain ⟨w, hw⟩ : ∃ w, w = (if (boF VB VH (2 ^ L.length)).1 = -1 then -1 else if c = 0 then (boF VB VH (2 ^ L.length)).1 else (boF VB VH (2 ^ L.length)).2) := ⟨_, rfl⟩
          have R2 : X10_boy (p : Int) (q : Int) b c μ = some (w, ν3) := by
            rw [R1, hw]
            by_cases c1 : (boF VB VH (2 ^ L.length)).1 = -1
            · rw [if_pos c1, if_pos c1]
            · rw [if_neg c1, if_neg c1, if_neg c1]
              by_cases c0 : c = 0
              · rw [if_pos c0, if_pos c0]
              · rw [if_neg c0, if_neg c0]
          rw [R2, wp_some] at t1
          have hI1 := Inv_St hI t1.1
          have e1 : sameK μ ν3 := t1.1.2
          have nn : nearM μ ν3 := fun k j h1 _ _ _ => e1 k j h1
          obtain ⟨m1, m2, m3, m4⟩ := nearM_p nn hMm hH
          have e82 : ∀ j, ν3 82 j = μ 82 j := fun j => e1 82 j (by unfold scr; omega)
          have e23 := e1 70 23 (by unfold scr; omega)
          have e24 := e1 70 24 (by unfold scr; omega)
          have i3 : ∀ y, isP ν3 y ↔ isP μ y := isP_congr e23 e24
          have o3 : ∀ y, opM ν3 y ↔ opM μ y := fun y => by unfold opM; rw [i3, e82]
          have hTM : TrM ν3 (opM μ) (μ 7) s (μ 8) (μ 70 30) := ⟨hI1.2.1, o3, PlM_c e82 e23 e24 (Kc_PlM hK), ⟨hs.1, (i3 s).mpr hs.2.1, by rw [e82]; exact hs.2.2⟩, fun d hd => by rw [e1 86 d (by unfold scr; omega)]; exact (h86 d hd).symm, e1 70 30 (by unfold scr; omega), by rw [e23]; exact h23⟩
          obtain ⟨ξ, y1, y2, y3⟩ := rdyB (T := T) l8 hL (by rw [m3]; exact hap.2) m1 m2 hG hTM (fun k _ => by rw [m4]; exact hTT k)
          have n3 : ∀ ξ, Sm ν3 ξ → ∀ k j, ¬ scr k j → ¬ scrM k j → ξ k j = μ k j := fun ξ hS k j h1 h2 => by rw [hS.2 k j h2, e1 k j h1]
          have oS : ∀ ξ, Sm ν3 ξ → ∀ y, opM ξ y ↔ opM μ y := fun ξ hS y => by
            unfold opM
            rw [isP_congr (n3 ξ hS 70 23 (by unfold scr; omega) (by unfold scrM; omega)) (n3 ξ hS 70 24 (by unfold scr; omega) (by unfold scrM; omega)) y, n3 ξ hS 82 y (by unfold scr; omega) (by unfold scrM; omega)]
          have h256 := pow_256 l8
          obtain ⟨ξ1, z1, z2, z3, z4⟩ := bo41_L hJ hI1 (l1 := (p : Int)) (l2 := (q : Int)) (l3 := b) (l4 := c) (K := fun μ26 => bd (X11_lay (p : Int) (q : Int) b μ26) fun v27 μ28 => X11_boy_L86 c (fun v46 v47 μ48 => if v46 = (-1) then (some (v46, μ48)) else (if c = 0 then (some (v46, μ48)) else (some (v47, μ48)))) FU (-1) 0 0 μ28) (2 ^ L.length) 0 FU ξ (by omega) (by show 2 ^ L.length < 1000000; omega) y2 y3 (fun j hj => absurd hj (Nat.not_lt_zero _))
          have f82 : ∀ j, ξ1 82 j = μ 82 j := fun j => n3 ξ1 z2 82 j (by unfold scr; omega) (by unfold scrM; omega)
          have f23 := n3 ξ1 z2 70 23 (by unfold scr; omega) (by unfold scrM; omega)
          have f24 := n3 ξ1 z2 70 24 (by unfold scr; omega) (by unfold scrM; omega)
          obtain ⟨ξ2, w1, w2, w3, w4, w5, w6, w7⟩ := layM p4 l8 (cr := lets L) hcr z2.1 (UQ_congr hI.2.1.2.2.2.2.2.2.1 f23 f24 f82) (PlM_c f82 f23 f24 (Kc_PlM hK)) (by rw [n3 ξ1 z2 85 p (by unfold scr; omega) (by unfold scrM; omega), hMm.1, Nat.zero_add]) (fun k hk => by
            have := (hMm.2 k hk).1
            rw [Nat.zero_add] at this
            rw [n3 ξ1 z2 83 _ (by unfold scr; omega) (by unfold scrM; omega), this, (lets_e hL hk).1]) (s0 := (q : Int)) (by_ := b) hb (Or.inr ⟨q, rfl, (oS ξ1 z2 q).mpr hq⟩)
          have ow : ∀ k j, ¬ Wl k j → ξ2 k j = ξ1 k j := w3
          have hM2 : JobM ξ2 L.length (bW (opM μ) (μ 7) q (lets L) L.length) T (fun k => μ 8 (lets L k)) b := ⟨w4, w5, fun k hk => ⟨by rw [ow 88 k (by unfold Wl; omega)]; exact (z3.2.2.1 k hk).1, by rw [w6 k hk, n3 ξ1 z2 86 _ (by unfold scr; omega) (by unfold scrM; omega)]; exact (h86 _ (hcr k hk)).symm⟩, fun a b ha hb => bW_u hGq hcr ha hb (RD_c (oS ξ1 z2) (w7 a b ha hb))⟩
          have hS2 : Sm ν3 ξ2 := ⟨w2, fun k j hn => by rw [ow k j (fun z => hn (by unfold Wl at z; unfold scrM; omega)), z2.2 k j hn]⟩
          obtain ⟨ξ3, u1, u2⟩ := bo86_L hJ hJ' hI1 hVB hVH (l4 := c) (K := fun v46 v47 μ48 => if v46 = (-1) then (some (v46, μ48)) else (if c = 0 then (some (v46, μ48)) else (some (v47, μ48)))) (2 ^ L.length) 0 FU ξ2 (by omega) (by show 2 ^ L.length < 1000000; omega) hS2 hM2 (fun j hj => by rw [ow 95 j (by unfold Wl; omega)]; exact z4 j hj)
          have u1 : X11_boy_L86 c (fun v46 v47 μ48 => if v46 = (-1) then (some (v46, μ48)) else (if c = 0 then (some (v46, μ48)) else (some (v47, μ48)))) FU (-1) 0 0 ξ2 = if (boF VB VH (2 ^ L.length)).1 = (-1) then (some ((boF VB VH (2 ^ L.length)).1, ξ3)) else (if c = 0 then (some ((boF VB VH (2 ^ L.length)).1, ξ3)) else (some ((boF VB VH (2 ^ L.length)).2, ξ3))) := u1
          have z1 : X11_boy_L41 (p : Int) (q : Int) b c (fun μ26 => bd (X11_lay (p : Int) (q : Int) b μ26) fun v27 μ28 => X11_boy_L86 c (fun v46 v47 μ48 => if v46 = (-1) then (some (v46, μ48)) else (if c = 0 then (some (v46, μ48)) else (some (v47, μ48)))) FU (-1) 0 0 μ28) FU 0 ξ = bd (X11_lay (p : Int) (q : Int) b ξ1) fun v27 μ28 => X11_boy_L86 c (fun v46 v47 μ48 => if v46 = (-1) then (some (v46, μ48)) else (if c = 0 then (some (v46, μ48)) else (some (v47, μ48)))) FU (-1) 0 0 μ28 := z1
          have R3 : X11_boy (p : Int) (q : Int) b c ν3 = some (w, ξ3) := by
            unfold X11_boy
            rw [y1, bd_some, if_neg (by decide), isO_y ((oS ξ y2 q).mpr hq), bd_some, if_neg (by decide), in_rg _ cb, bd_some, if_neg (by decide), in_rg _ cc, bd_some, if_neg (by decide), z1, w1, bd_some, u1, hw]
            by_cases c1 : (boF VB VH (2 ^ L.length)).1 = -1
            · rw [if_pos c1, if_pos c1, c1]
            · rw [if_neg c1, if_neg c1]
              by_cases c0 : c = 0
              · rw [if_pos c0, if_pos c0]
              · rw [if_neg c0, if_neg c0]
          exact ⟨_, ν3, ξ3, R2, R3, Inv_Sm hI1 u2⟩
      · obtain ⟨μ2, e2, h2⟩ := no μ hI same0 (Or.inr (Or.inr (Or.inr (fun q e z => ho ⟨q, e, z⟩))))
        refine ⟨-1, μ, μ2, ?_, e2, h2⟩
        rw [R1, opC_n (l0 := 5) (by decide) (fun q e z => ho ⟨q, e, (hCo q).mp z⟩), bd_some, if_pos rfl]
    · obtain ⟨μ2, e2, h2⟩ := no μ hI same0 (Or.inr (Or.inr (Or.inl cb)))
      refine ⟨-1, μ, μ2, ?_, e2, h2⟩
      unfold X10_boy
      rw [half_y cc, bd_some, if_neg (by decide)]
      by_cases c1 : b < 1
      · rw [if_pos c1]
      · rw [if_neg c1, if_pos (by omega)]
  · obtain ⟨μ2, e2, h2⟩ := no μ hI same0 (Or.inr (Or.inl cc))
    refine ⟨-1, μ, μ2, ?_, e2, h2⟩
    unfold X10_boy
    rw [half_n cc, bd_some, if_pos rfl]
