/-! LAWS, the reference's reader: laws -/
theorem cJ39_F {x : Mm} {l1 : Int} {a : Nat} (hw : x 70 4 ≠ -1) (ha : a < 1000) : X11_clause_J39 l1 (ma x a) = some (0, ma x (a + 2)) := by
  unfold X11_clause_J39 sF
  dsimp only
  rw [ma_3, iA_nat (by omega), ma_ma, ma_j (by decide), if_neg hw]
  unfold X11_clause_J70 sF
  dsimp only
  rw [ma_3, iA_nat (by omega), ma_ma, ma_j (by decide), if_neg hw]
theorem cJ70_F {x : Mm} {l1 : Int} {a : Nat} (hw : x 70 4 ≠ -1) (ha : a < 1000) : X11_clause_J70 l1 (ma x a) = some (0, ma x (a + 1)) := by
  unfold X11_clause_J70 sF
  dsimp only
  rw [ma_3, iA_nat (by omega), ma_ma, ma_j (by decide), if_neg hw]
theorem wF2_76 {q i g : Nat} (hg : g < 90) : wF2 q i g 76 (90 * q + g) := by unfold wF2; omega
theorem clauseM {t : Nat → Int} {n : Nat} (hT : ∀ j, j < n → 1 ≤ t j ∧ t j ≤ 255) {q g i p : Nat} {μ : Mm} (hP : PM t n q 6 μ i p) (h75 : μ 75 q = (g : Int)) (hg : g < 90) : match clS t n p with
      | some w => ∃ p1, (p1 = w.2 ∨ p1 = sk t n w.2) ∧ OC n q i g w.1 p1 (X11_clause (ma μ p)) μ ∧ okW n (p + 2) i w
      | none => FC n q (X11_clause (ma μ p)) μ := by
  obtain ⟨h1, h2, h3, h4, h5, h6, h7, h8, h9, h10⟩ := id hP
  have h160 := h1.1
  have hge := sk_ge (t := t) (n := n) p
  have hle := sk_le (t := t) (n := n) p h8
  have b75 : (0 : Int) ≤ (q : Int) ∧ (q : Int) < ((aN 75 : Nat) : Int) := by show _ ∧ _ < (5 : Int); omega
  have b74 : (0 : Int) ≤ (q : Int) ∧ (q : Int) < ((aN 74 : Nat) : Int) := by show _ ∧ _ < (5 : Int); omega
  have b76 : (0 : Int) ≤ ((90 * q + g : Nat) : Int) ∧ ((90 * q + g : Nat) : Int) < ((aN 76 : Nat) : Int) := by show _ ∧ _ < (450 : Int); omega
  have er : iA (iM 90 (q : Int)) (g : Int) = ((90 * q + g : Nat) : Int) := by
    rw [iM_id (by omega) (by omega), iA_id (by omega) (by omega)]; omega
  have fa : fw (wF2 q i g) μ (sM μ 76 (90 * q + g) (i : Int)) := fw_sM fw_rf (wF2_76 hg)
  have fa0 := fw2_m (i' := 0) (g' := 0) fa (Nat.zero_le _) (Nat.zero_le _)
  have fbad : ∀ s : Nat, s ≤ n → ∀ r : Rs, ∀ a, a ≤ n + 9 → r = some (0, ma (sM μ 70 4 (s : Int)) a) → FC n q r μ := fun s hs r a ha e =>
    ⟨_, a, e, Bm_sM h2 (show (-1 : Int) ≤ (s : Int) ∧ (s : Int) ≤ 1000 by omega), fw_sM fw_rf (by unfold wF2; omega), by rw [sM_s]; omega, ha⟩
  have e0 : X11_clause (ma μ p) = if pk t n p = 121 then X11_clause_J39 ((90 * q + g : Nat) : Int) (ma μ (sk t n p)) else (bd (X11_bad (ma μ (sk t n p))) fun v86 μ87 => X11_clause_J39 ((90 * q + g : Nat) : Int) μ87) := by
    unfold X11_clause ldA lt_
    rw [ma_j (by decide), h4, if_pos b75, Int.toNat_natCast, ma_c (c := 75) (by decide), h75]
    dsimp only
    rw [er, ma_j (by decide), if_pos h3, look_eq h1 (by omega), bd_some]
  unfold clS
  by_cases c1 : pk t n p = 121
  · rw [if_pos c1]
    rw [if_pos c1] at e0
    have hq := pk_ne (t := t) (n := n) (p := p) (by omega)
    have hge2 := sk_ge (t := t) (n := n) (sk t n p + 1)
    have hle2 := sk_le (t := t) (n := n) (sk t n p + 1) (by omega)
    have e1 : X11_clause (ma μ p) = if pk t n (sk t n p + 1) = 58 then X11_clause_J70 ((90 * q + g : Nat) : Int) (ma μ (sk t n (sk t n p + 1))) else (bd (X11_bad (ma μ (sk t n (sk t n p + 1)))) fun v79 μ80 => X11_clause_J70 ((90 * q + g : Nat) : Int) μ80) := by
      rw [e0]
      unfold X11_clause_J39 sF
      dsimp only
      rw [ma_3, iA_nat (by omega), ma_ma, ma_j (by decide), if_pos h3, look_eq h1 (by omega), bd_some]
    by_cases c2 : pk t n (sk t n p + 1) = 58
    · rw [if_pos c2]
      rw [if_pos c2] at e1
      have hq2 := pk_ne (t := t) (n := n) (p := sk t n p + 1) (by omega)
      have hPa : PM t n q 6 (sM μ 76 (90 * q + g) (i : Int)) i (sk t n (sk t n p + 1) + 1) := ⟨Tm_s h1 (fun z => absurd z.1 (by decide)) (by decide), Bm_sM h2 (show (-2147483648 : Int) ≤ (i : Int) ∧ (i : Int) ≤ 2147483647 by omega), by rw [sM_a (by decide)]; exact h3, by rw [sM_a (by decide)]; exact h4, by rw [sM_a (by decide)]; exact h5, by rw [sM_a (by decide)]; exact h6, by omega, by omega, h9, h10⟩
      have hB := bodyM hT hPa (g := g) (by rw [sM_a (by decide)]; exact h75) hg (by rw [sM_s])
      have e2 : X11_clause (ma μ p) = X11_clause_J127 ((90 * q + g : Nat) : Int) (if pk t n (sk t n (sk t n p + 1) + 1) = 33 ∨ pk t n (sk t n (sk t n p + 1) + 1) = 40 then 1 else 0) (ma (sM μ 76 (90 * q + g) (i : Int)) (sk t n (sk t n (sk t n p + 1) + 1))) := by
        rw [e1]
        unfold X11_clause_J70 sF
        dsimp only
        rw [ma_3, iA_nat (by omega), ma_ma, ma_j (by decide), if_pos h3]
        unfold ldA stA
        rw [ma_j (by decide), h4, if_pos b74]
        simp only [Int.toNat_natCast]
        rw [ma_c (by decide), h5, if_pos b76, ma_s (by omega), look_eq hPa.1 (by omega), bd_some]
        unfold X11_clause_J122
        by_cases d1 : pk t n (sk t n (sk t n p + 1) + 1) = 33
        · rw [if_pos d1, if_pos (Or.inl d1)]
        · rw [if_neg d1, look_eq hPa.1 (by have := sk_le (t := t) (n := n) (sk t n (sk t n p + 1) + 1) (by omega); omega), bd_some, pk_sk, sk_sk]
          by_cases d2 : pk t n (sk t n (sk t n p + 1) + 1) = 40
          · rw [if_pos d2, if_pos (Or.inr d2)]
          · rw [if_neg d2, if_neg (fun z => z.elim d1 d2)]
      rw [e2]
      revert hB
      cases bodyS t n (sk t n (sk t n p + 1) + 1) with
      | none => intro hB; exact FC_mono hB fa0
      | some w =>
        rintro ⟨p1, k1, k2, k3⟩
        refine ⟨p1, k1, OC_mono k2 fa, ?_⟩
        obtain ⟨k4, k5⟩ := k3
        exact ⟨by omega, k5⟩
    · rw [if_neg c2]
      rw [if_neg c2, bad_eq h3, bd_some, cJ70_F (by rw [sM_s]; omega) (by omega)] at e1
      exact fbad _ hle2 _ _ (by omega) e1
  · rw [if_neg c1]
    rw [if_neg c1, bad_eq h3, bd_some, cJ39_F (by rw [sM_s]; omega) (by omega)] at e0
    exact fbad _ hle _ _ (by omega) e0
/-- the rows of the clauses from g on, their codes from i on -/
def rowsAt (μ : Mm) (q : Nat) : Nat → Nat → List (Cd × Cd) → Prop
  | g, _, [] => μ 75 q = (g : Int)
  | g, i, x :: L => (μ 76 (90 * q + g) = (i : Int) ∧ μ 77 (90 * q + g) = ((i + x.1.length : Nat) : Int) ∧ μ 78 (90 * q + g) = ((i + x.1.length + x.2.length : Nat) : Int) ∧ hasC μ q i (x.1 ++ x.2) ∧ gd x.2 ∧ (x.1 = [] ∨ gd x.1) ∧ i + x.1.length + x.2.length ≤ 160 ∧ pu x.1 ≤ 80 ∧ pu x.2 ≤ 80 ∧ g < 90) ∧ rowsAt μ q (g + 1) (i + x.1.length + x.2.length) L
def KA : Mm → Rs := fun μ16 => bd (X11_atEnd μ16) fun v17 μ18 => some (v17, μ18)
theorem KA_F {x : Mm} {b : Nat} (hw : x 70 4 ≠ -1) : KA (ma x b) = some (x 70 4, ma x b) := by
  unfold KA
  rw [atEnd_F (by rw [ma_j (by decide)]; exact hw), bd_some, ma_j (by decide)]
theorem lawM_L {t : Nat → Int} {n : Nat} (hT : ∀ j, j < n → 1 ≤ t j ∧ t j ≤ 255) {q : Nat} : ∀ (m fuel g i p : Nat) (μ : Mm), m < fuel → 320 ≤ p + 2 * m → 2 * g ≤ p → PM t n q 6 μ i p → μ 75 q = (g : Int) → match lawL t n m p with
      | none => ∃ f μ' a, (bd (X11_clause (ma μ p)) fun _ μ5 => X11_readLaw_L9 KA fuel μ5) = some (f, ma μ' a) ∧ Bm μ' ∧ fw (wF2 q 0 0) μ μ' ∧ f ≠ -1 ∧ a ≤ n + 9
      | some L => ∃ μ' a, (bd (X11_clause (ma μ p)) fun _ μ5 => X11_readLaw_L9 KA fuel μ5) = some (-1, ma μ' a) ∧ Bm μ' ∧ fw (wF2 q i g) μ μ' ∧ a ≤ n + 9 ∧ rowsAt μ' q g i L := by
  intro m
  induction m with
  | zero => intro fuel g i p μ _ hp _ hP _; have := hP.1.1; have := hP.2.2.2.2.2.2.2.1; omega
  | succ m ih =>
    intro fuel g i p μ hf hp hgp hP h75
    obtain ⟨f, rfl, hf'⟩ := lt_fuel (d := m + 1) hf
    have h160 := hP.1.1
    have hpn := hP.2.2.2.2.2.2.2.1
    have hC := clauseM hT hP h75 (by omega)
    unfold lawL
    revert hC
    cases clS t n p with
    | none =>
      rintro ⟨μ', a, k1, k2, k3, k4, k5⟩
      have : (bd (X11_clause (ma μ p)) fun _ μ5 => X11_readLaw_L9 KA (f + 1) μ5) = some (μ' 70 4, ma μ' a) := by
        rw [k1, bd_some, X11_readLaw_L9, ma_j (by decide), if_neg k4, KA_F k4]
      exact ⟨_, _, _, this, k2, k3, k4, k5⟩
    | some w =>
      rintro ⟨p1, k1, ⟨μ', j1, j2, j3, j4, j45, j5, j6, j7, j8, j9, j10⟩, w1, w2, w3, w4, w5, w6, w7⟩
      have hskw := sk_ge (t := t) (n := n) w.2
      have hskn := sk_le (t := t) (n := n) w.2 w2
      have hpk : pk t n p1 = pk t n w.2 ∧ sk t n p1 = sk t n w.2 ∧ p1 ≤ n := by
        rcases k1 with e | e
        · rw [e]; exact ⟨rfl, rfl, w2⟩
        · rw [e, pk_sk, sk_sk]; exact ⟨rfl, rfl, hskn⟩
      have hT' : Tm t n μ' := ⟨h160, by rw [j3 70 2 (by unfold wF2 wKd; omega)]; exact hP.1.2.1, fun j hj => by rw [j3 71 j (by unfold wF2 wKd; omega)]; exact hP.1.2.2 j hj⟩
      have e0 : (bd (X11_clause (ma μ p)) fun _ μ5 => X11_readLaw_L9 KA (f + 1) μ5) = if pk t n w.2 = 59 then (bd (X11_clause (ma μ' (sk t n w.2 + 1))) fun v13 μ14 => X11_readLaw_L9 KA f μ14) else (KA (ma μ' (sk t n w.2))) := by
        rw [j1, bd_some, X11_readLaw_L9, ma_j (by decide), if_pos j4, look_eq hT' (by omega), bd_some, hpk.1, hpk.2.1]
        by_cases c : pk t n w.2 = 59
        · rw [if_pos c, if_pos c]
          unfold sF
          dsimp only
          rw [ma_3, iA_nat (by omega), ma_ma]
        · rw [if_neg c, if_neg c]
      have row : ∀ μ2 : Mm, fw (wF2 q (i + w.1.1.length + w.1.2.length) (g + 1)) μ' μ2 → (μ2 76 (90 * q + g) = (i : Int) ∧ μ2 77 (90 * q + g) = ((i + w.1.1.length : Nat) : Int) ∧ μ2 78 (90 * q + g) = ((i + w.1.1.length + w.1.2.length : Nat) : Int) ∧ hasC μ2 q i (w.1.1 ++ w.1.2) ∧ gd w.1.2 ∧ (w.1.1 = [] ∨ gd w.1.1) ∧ i + w.1.1.length + w.1.2.length ≤ 160 ∧ pu w.1.1 ≤ 80 ∧ pu w.1.2 ≤ 80 ∧ g < 90) := by
        intro μ2 hf2
        have hl3 : (w.1.1 ++ w.1.2).length = w.1.1.length + w.1.2.length := List.length_append
        refine ⟨by rw [hf2 76 _ (by unfold wF2 wKd; omega)]; exact j7, by rw [hf2 77 _ (by unfold wF2 wKd; omega)]; exact j8, by rw [hf2 78 _ (by unfold wF2 wKd; omega)]; exact j9, hasC_fw j10 hf2 (by omega) (by omega), w3, w4, by omega, w6, w7, by omega⟩
      dsimp only
      rw [e0]
      by_cases c : pk t n w.2 = 59
      · rw [if_pos c, if_pos c]
        have hq2 := pk_ne (t := t) (n := n) (p := w.2) (by omega)
        have hP' : PM t n q 6 μ' (i + w.1.1.length + w.1.2.length) (sk t n w.2 + 1) := by
          refine ⟨hT', j2, j4, by rw [j3 70 14 (by unfold wF2 wKd; omega)]; exact hP.2.2.2.1, j5, j45, by omega, by omega, hP.2.2.2.2.2.2.2.2⟩
        have hI := ih f (g + 1) (i + w.1.1.length + w.1.2.length) (sk t n w.2 + 1) μ' (by omega) (by omega) (by omega) hP' j6
        revert hI
        cases lawL t n m (sk t n w.2 + 1) with
        | none =>
          rintro ⟨f1, μ2, a, l1, l2, l3, l4⟩
          exact ⟨f1, μ2, a, l1, l2, fw_tr (fw2_m j3 (by omega) (by omega)) l3, l4⟩
        | some L =>
          rintro ⟨μ2, a, l1, l2, l3, l4, l5⟩
          exact ⟨μ2, a, l1, l2, fw_tr j3 (fw2_m l3 (by omega) (by omega)), l4, row μ2 l3, l5⟩
      · rw [if_neg c, if_neg c]
        unfold KA
        rw [atEnd_eq hT' (by omega) j4, pk_sk, sk_sk]
        by_cases c2 : pk t n w.2 = -1
        · rw [if_pos c2, if_pos c2, bd_some]
          exact ⟨μ', _, rfl, j2, j3, by omega, row μ' fw_rf, j6⟩
        · rw [if_neg c2, if_neg c2, bd_some]
          exact ⟨_, _, _, rfl, Bm_sM j2 (show (-1 : Int) ≤ _ ∧ _ ≤ (1000 : Int) by omega), fw_sM (fw2_m j3 (by omega) (by omega)) (by unfold wF2; omega), by omega, by omega⟩
theorem rdLawM {t : Nat → Int} {n : Nat} (hT : ∀ j, j < n → 1 ≤ t j ∧ t j ≤ 255) {q : Nat} (hq : q ≤ 4) {μ : Mm} (hB : Bm μ) (h : Tm t n μ) : match lawS t n with
      | none => ∃ f μ' a, X11_readLaw (q : Int) μ = some (f, ma μ' a) ∧ Bm μ' ∧ fw (wF2 q 0 0) (sM μ 70 14 (q : Int)) μ' ∧ f ≠ -1 ∧ a ≤ n + 9
      | some L => ∃ μ' a, X11_readLaw (q : Int) μ = some (-1, ma μ' a) ∧ Bm μ' ∧ fw (wF2 q 0 0) (sM μ 70 14 (q : Int)) μ' ∧ a ≤ n + 9 ∧ rowsAt μ' q 0 0 L := by
  have h160 := h.1
  have b74 : (0 : Int) ≤ (q : Int) ∧ (q : Int) < ((aN 74 : Nat) : Int) := by show _ ∧ _ < (5 : Int); omega
  have b75 : (0 : Int) ≤ (q : Int) ∧ (q : Int) < ((aN 75 : Nat) : Int) := by show _ ∧ _ < (5 : Int); omega
  have hB1 : Bm (sM (sM (sM (sM (sM μ 70 14 (q : Int)) 70 4 (-1)) 70 5 0) 74 q 0) 75 q 0) := Bm_sM (Bm_sM (Bm_sM (Bm_sM (Bm_sM hB (show (0 : Int) ≤ (q : Int) ∧ (q : Int) ≤ 4 by omega)) (by decide)) (by decide)) (show (0 : Int) ≤ 0 ∧ (0 : Int) ≤ 340 by omega)) (show (0 : Int) ≤ 0 ∧ (0 : Int) ≤ 90 by omega)
  have hT1 : Tm t n (sM (sM (sM (sM (sM μ 70 14 (q : Int)) 70 4 (-1)) 70 5 0) 74 q 0) 75 q 0) := Tm_s (Tm_s (Tm_s (Tm_s (Tm_s h (by decide) (by decide)) (by decide) (by decide)) (by decide) (by decide)) (fun z => absurd z.1 (by decide)) (by decide)) (fun z => absurd z.1 (by decide)) (by decide)
  have hP : PM t n q 6 (sM (sM (sM (sM (sM μ 70 14 (q : Int)) 70 4 (-1)) 70 5 0) 74 q 0) 75 q 0) 0 0 := by
    refine ⟨hT1, hB1, ?_, ?_, ?_, ?_, by omega, by omega, hq, by omega⟩
    · rw [sM_a (by decide), sM_a (by decide), sM_j (by decide), sM_s]
    · rw [sM_a (by decide), sM_a (by decide), sM_j (by decide), sM_j (by decide), sM_s]
    · rw [sM_a (by decide), sM_s]; rfl
    · rw [sM_a (by decide), sM_a (by decide), sM_s]; rfl
  have ff : fw (wF2 q 0 0) (sM μ 70 14 (q : Int)) (sM (sM (sM (sM (sM μ 70 14 (q : Int)) 70 4 (-1)) 70 5 0) 74 q 0) 75 q 0) := fw_sM (fw_sM (fw_sM (fw_sM fw_rf (by unfold wF2; omega)) (by unfold wF2; omega)) (by unfold wF2 wKd; omega)) (by unfold wF2; omega)
  have e0 : X11_readLaw (q : Int) μ = bd (X11_clause (ma (sM (sM (sM (sM (sM μ 70 14 (q : Int)) 70 4 (-1)) 70 5 0) 74 q 0) 75 q 0) 0)) fun v4 μ5 => X11_readLaw_L9 KA FU μ5 := by
    unfold X11_readLaw X11_open sF stA
    dsimp only
    rw [if_pos b74, if_pos b75, bd_some, Int.toNat_natCast]
    have : sM (sM μ 70 14 (q : Int)) 70 3 0 = ma (sM μ 70 14 (q : Int)) 0 := rfl
    rw [this, ma_s (by decide), ma_s (by decide), ma_s (by omega), ma_s (by omega)]
    rfl
  have hI := lawM_L hT 160 FU 0 0 0 _ (by decide) (by omega) (by omega) hP (by rw [sM_s]; rfl)
  unfold lawS
  rw [e0]
  revert hI
  cases lawL t n 160 0 with
  | none =>
    rintro ⟨f1, μ2, a, l1, l2, l3, l4⟩
    exact ⟨f1, μ2, a, l1, l2, fw_tr ff l3, l4⟩
  | some L =>
    rintro ⟨μ2, a, l1, l2, l3, l4, l5⟩
    exact ⟨μ2, a, l1, l2, fw_tr ff l3, l4, l5⟩
