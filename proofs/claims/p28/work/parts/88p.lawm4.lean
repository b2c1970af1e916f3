/-! LAWS, the reference's reader: clauses -/
def wF2 (q i g k j : Nat) : Prop := (k = 70 ∧ (j = 3 ∨ j = 4 ∨ j = 5)) ∨ wKd q i k j ∨ (k = 75 ∧ j = q) ∨ ((k = 76 ∨ k = 77 ∨ k = 78) ∧ 90 * q + g ≤ j ∧ j < 90 * q + 90)
theorem wF2_m {q i g i' g' k j : Nat} (h : wF2 q i g k j) (h1 : i' ≤ i) (h2 : g' ≤ g) : wF2 q i' g' k j := by
  unfold wF2 wKd at *
  omega
theorem fw2_m {q i g i' g' : Nat} {μ μ' : Mm} (h : fw (wF2 q i g) μ μ') (h1 : i' ≤ i) (h2 : g' ≤ g) : fw (wF2 q i' g') μ μ' := fun k j hn => h k j (fun z => hn (wF2_m z h1 h2))
theorem fw2_F {q : Nat} {μ μ' : Mm} (h : fw (wF q) μ μ') : fw (wF2 q 0 0) μ μ' := fun k j hn => h k j (fun z => hn (by unfold wF wKd at z; unfold wF2 wKd; omega))
theorem fw2_K {q i g : Nat} {μ μ' : Mm} (h : fw (wKd q i) μ μ') : fw (wF2 q i g) μ μ' := fun k j hn => h k j (fun z => hn (Or.inr (Or.inl z)))
/-- a clause that goes wrong -/
def FC (n q : Nat) (r : Rs) (μ : Mm) : Prop := ∃ μ' a, r = some (0, ma μ' a) ∧ Bm μ' ∧ fw (wF2 q 0 0) μ μ' ∧ μ' 70 4 ≠ -1 ∧ a ≤ n + 9
/-- a clause that was read -/
def OC (n q i g : Nat) (x : Cd × Cd) (p1 : Nat) (r : Rs) (μ : Mm) : Prop := ∃ μ', r = some (0, ma μ' p1) ∧ Bm μ' ∧ fw (wF2 q i g) μ μ' ∧ μ' 70 4 = -1 ∧ μ' 70 5 = ((6 - 6 : Nat) : Int) ∧ μ' 74 q = ((i + x.1.length + x.2.length : Nat) : Int) ∧ μ' 75 q = ((g + 1 : Nat) : Int) ∧ μ' 76 (90 * q + g) = (i : Int) ∧ μ' 77 (90 * q + g) = ((i + x.1.length : Nat) : Int) ∧ μ' 78 (90 * q + g) = ((i + x.1.length + x.2.length : Nat) : Int) ∧ hasC μ' q i (x.1 ++ x.2)
theorem hasC_app {μ : Mm} {q i : Nat} {a b : Cd} (ha : hasC μ q i a) (hb : hasC μ q (i + a.length) b) : hasC μ q i (a ++ b) := by
  intro k hk
  rw [List.length_append] at hk
  by_cases c : k < a.length
  · have e : (a ++ b).getD k (0, 0) = a.getD k (0, 0) := by
      rw [List.getD_eq_getElem?_getD, List.getD_eq_getElem?_getD, List.getElem?_append_left c]
    rw [e]
    exact ha k c
  · have e : (a ++ b).getD k (0, 0) = b.getD (k - a.length) (0, 0) := by
      rw [List.getD_eq_getElem?_getD, List.getD_eq_getElem?_getD, List.getElem?_append_right (by omega)]
    have := hb (k - a.length) (by omega)
    rw [show 340 * q + (i + a.length) + (k - a.length) = 340 * q + i + k by omega] at this
    rw [e]
    exact this
theorem hasC_fw {μ μ' : Mm} {q i g i' : Nat} {c : Cd} (h : hasC μ q i c) (hf : fw (wF2 q i' g) μ μ') (hi : i + c.length ≤ i') (hq : i + c.length ≤ 340) : hasC μ' q i c := by
  intro k hk
  have := h k hk
  rw [hf 72 _ (by unfold wF2 wKd; omega), hf 73 _ (by unfold wF2 wKd; omega)]
  exact this
theorem J250_eq {μ : Mm} {q g c a : Nat} (h14 : μ 70 14 = (q : Int)) (h74 : μ 74 q = (c : Int)) (h75 : μ 75 q = (g : Int)) (hq : q ≤ 4) (hg : g < 90) : X11_clause_J250 ((90 * q + g : Nat) : Int) (ma μ a) = some (0, ma (sM (sM μ 78 (90 * q + g) (c : Int)) 75 q ((g + 1 : Nat) : Int)) a) := by
  have b74 : (0 : Int) ≤ (q : Int) ∧ (q : Int) < ((aN 74 : Nat) : Int) := by show _ ∧ _ < (5 : Int); omega
  have b75 : (0 : Int) ≤ (q : Int) ∧ (q : Int) < ((aN 75 : Nat) : Int) := by show _ ∧ _ < (5 : Int); omega
  have b78 : (0 : Int) ≤ ((90 * q + g : Nat) : Int) ∧ ((90 * q + g : Nat) : Int) < ((aN 78 : Nat) : Int) := by show _ ∧ _ < (450 : Int); omega
  unfold X11_clause_J250 ldA stA
  rw [ma_j (by decide), h14, if_pos b74]
  simp only [Int.toNat_natCast]
  rw [ma_c (by decide), h74, if_pos b78, ma_s (by omega), ma_j (by decide), sM_a (by decide), h14, if_pos b75, Int.toNat_natCast, ma_c (by decide), sM_a (by decide), h75, if_pos b75, iA_nat (by omega), ma_s (by omega)]
theorem J183_eq {μ : Mm} {q g a : Nat} {l2 : Int} (hq : q ≤ 4) (hg : g < 90) : X11_clause_J183 ((90 * q + g : Nat) : Int) l2 (ma μ a) = (if l2 = 0 then (X11_clause_J250 ((90 * q + g : Nat) : Int) (ma (sM μ 77 (90 * q + g) (μ 76 (90 * q + g))) a)) else (if μ 70 4 = -1 then (bd (X11_look (ma (sM μ 77 (90 * q + g) (μ 76 (90 * q + g))) a)) fun v37 μ38 => if v37 = 63 then (sF μ38 70 3 (iA (μ38 70 3) 1) fun μ41 => ldA μ41 74 (μ41 70 14) fun v42 => stA μ41 77 ((90 * q + g : Nat) : Int) v42 fun μ44 => bd (X11_sum RD μ44) fun v46 μ47 => X11_clause_J250 ((90 * q + g : Nat) : Int) μ47) else (bd (X11_bad μ38) fun v49 μ50 => some (0, μ50))) else (X11_clause_J250 ((90 * q + g : Nat) : Int) (ma (sM μ 77 (90 * q + g) (μ 76 (90 * q + g))) a)))) := by
  have b76 : (0 : Int) ≤ ((90 * q + g : Nat) : Int) ∧ ((90 * q + g : Nat) : Int) < ((aN 76 : Nat) : Int) := by show _ ∧ _ < (450 : Int); omega
  have b77 : (0 : Int) ≤ ((90 * q + g : Nat) : Int) ∧ ((90 * q + g : Nat) : Int) < ((aN 77 : Nat) : Int) := by show _ ∧ _ < (450 : Int); omega
  unfold X11_clause_J183 
  unfold ldA stA
  rw [if_pos b76, Int.toNat_natCast, ma_c (by decide)]
  dsimp only
  rw [if_pos b77, ma_s (by omega), ma_j (by decide), sM_a (by decide)]
/-- where something is wrong, the clause only ends -/
theorem J183_F {n q g a i' : Nat} {μ0 μ : Mm} {l2 : Int} (hq : q ≤ 4) (hg : g < 90) (hB : Bm μ) (hf : fw (wF2 q 0 0) μ0 μ) (hw : μ 70 4 ≠ -1) (ha : a ≤ n + 9) (h14 : μ 70 14 = (q : Int)) (h75 : μ 75 q = (g : Int)) (h74 : μ 74 q = (i' : Int)) (hi : i' ≤ 1000) (r76 : rI (μ 76 (90 * q + g))) : FC n q (X11_clause_J183 ((90 * q + g : Nat) : Int) l2 (ma μ a)) μ0 := by
  have e : X11_clause_J183 ((90 * q + g : Nat) : Int) l2 (ma μ a) = X11_clause_J250 ((90 * q + g : Nat) : Int) (ma (sM μ 77 (90 * q + g) (μ 76 (90 * q + g))) a) := by
    rw [J183_eq hq hg, if_neg hw]
    split <;> rfl
  rw [e, J250_eq (by rw [sM_a (by decide)]; exact h14) (by rw [sM_a (by decide)]; exact h74) (by rw [sM_a (by decide)]; exact h75) hq hg]
  have hb : Bm (sM μ 77 (90 * q + g) (μ 76 (90 * q + g))) := Bm_sM hB r76
  refine ⟨_, a, rfl, Bm_sM (Bm_sM hb ?_) ?_, fw_sM (fw_sM (fw_sM hf (by unfold wF2; omega)) (by unfold wF2; omega)) (by unfold wF2; omega), ?_, ha⟩
  · show (-2147483648 : Int) ≤ (i' : Int) ∧ (i' : Int) ≤ 2147483647
    omega
  · show (0 : Int) ≤ ((g + 1 : Nat) : Int) ∧ ((g + 1 : Nat) : Int) ≤ 90
    omega
  · rw [sM_a (by decide), sM_a (by decide), sM_a (by decide)]; exact hw
/-- behind a condition that was read -/
theorem thenM {t : Nat → Int} {n : Nat} (hT : ∀ j, j < n → 1 ≤ t j ∧ t j ≤ 255) {q g i p : Nat} {c : Cd} {pc' : Nat} {μ : Mm} (hP : PM t n q 6 μ i p) (h75 : μ 75 q = (g : Int)) (hg : g < 90) (h76 : μ 76 (90 * q + g) = (i : Int)) (hc : Gp n p (c, pc')) : match thenS t n c pc' with
      | some w => OC n q i g w.1 w.2 (X11_clause_J183 ((90 * q + g : Nat) : Int) 1 (ma (wrc μ q i c) pc')) μ ∧ Gp n pc' (w.1.2, w.2) ∧ w.1.1 = c
      | none => FC n q (X11_clause_J183 ((90 * q + g : Nat) : Int) 1 (ma (wrc μ q i c) pc')) μ := by
  have h160 := hP.1.1
  have hP1 := PM_wrc hP hc
  obtain ⟨c1, c2, c3, c4, c5⟩ := hc
  have c1 : p < pc' := c1
  have c2 : pc' ≤ n := c2
  have c4 : c.length + p ≤ pc' := c4
  have hip := hP.2.2.2.2.2.2.1
  have hq := hP.2.2.2.2.2.2.2.2.1
  have hge := sk_ge (t := t) (n := n) pc'
  have hle := sk_le (t := t) (n := n) pc' c2
  have hfc := wrc_fw (q := q) c (μ := μ) (i := i) (by omega)
  have e76 : wrc μ q i c 76 (90 * q + g) = (i : Int) := by rw [hfc 76 _ (by unfold wKd; omega)]; exact h76
  have e75 : wrc μ q i c 75 q = (g : Int) := by rw [hfc 75 _ (by unfold wKd; omega)]; exact h75
  have hB77 : ∀ (x : Mm) (v : Nat), Bm x → v ≤ 1000 → Bm (sM x 77 (90 * q + g) (v : Int)) := fun x v hx hv => Bm_sM hx (show (-2147483648 : Int) ≤ (v : Int) ∧ (v : Int) ≤ 2147483647 by omega)
  have hP2 : PM t n q 6 (sM (wrc μ q i c) 77 (90 * q + g) (i : Int)) (i + c.length) pc' := by
    obtain ⟨g1, g2, g3, g4, g5, g6, g7, g8, g9, g10⟩ := hP1
    exact ⟨Tm_s g1 (fun z => absurd z.1 (by decide)) (by decide), hB77 _ _ g2 (by omega), by rw [sM_a (by decide)]; exact g3, by rw [sM_a (by decide)]; exact g4, by rw [sM_a (by decide)]; exact g5, by rw [sM_a (by decide)]; exact g6, g7, g8, g9, g10⟩
  have e0 : X11_clause_J183 ((90 * q + g : Nat) : Int) 1 (ma (wrc μ q i c) pc') = if pk t n pc' = 63 then (sF (ma (sM (wrc μ q i c) 77 (90 * q + g) (i : Int)) (sk t n pc')) 70 3 (iA ((ma (sM (wrc μ q i c) 77 (90 * q + g) (i : Int)) (sk t n pc')) 70 3) 1) fun μ41 => ldA μ41 74 (μ41 70 14) fun v42 => stA μ41 77 ((90 * q + g : Nat) : Int) v42 fun μ44 => bd (X11_sum RD μ44) fun v46 μ47 => X11_clause_J250 ((90 * q + g : Nat) : Int) μ47) else (bd (X11_bad (ma (sM (wrc μ q i c) 77 (90 * q + g) (i : Int)) (sk t n pc'))) fun v49 μ50 => some (0, μ50)) := by
    rw [J183_eq hq hg, if_neg (by decide), if_pos hP1.2.2.1, e76, look_eq hP2.1 (by omega), bd_some]
  have f2 : fw (wF2 q i g) μ (sM (wrc μ q i c) 77 (90 * q + g) (i : Int)) := fw_sM (fw2_K hfc) (by unfold wF2; omega)
  unfold thenS
  by_cases d1 : pk t n pc' = 63
  · rw [if_pos d1]
    rw [if_pos d1] at e0
    have hq2 := pk_ne (t := t) (n := n) (p := pc') (by omega)
    have b74 : (0 : Int) ≤ (q : Int) ∧ (q : Int) < ((aN 74 : Nat) : Int) := by show _ ∧ _ < (5 : Int); omega
    have b77 : (0 : Int) ≤ ((90 * q + g : Nat) : Int) ∧ ((90 * q + g : Nat) : Int) < ((aN 77 : Nat) : Int) := by show _ ∧ _ < (450 : Int); omega
    unfold sF ldA stA at e0
    dsimp only at e0
    rw [ma_3, iA_nat (by omega), ma_ma, ma_j (by decide), hP2.2.2.2.1, if_pos b74] at e0
    simp only [Int.toNat_natCast] at e0
    rw [ma_c (by decide), hP2.2.2.2.2.1, if_pos b77, ma_s (by omega), sM_ov] at e0
    have hP3 : PM t n q 6 (sM (wrc μ q i c) 77 (90 * q + g) ((i + c.length : Nat) : Int)) (i + c.length) (sk t n pc' + 1) := by
      obtain ⟨g1, g2, g3, g4, g5, g6, g7, g8, g9, g10⟩ := hP1
      exact ⟨Tm_s g1 (fun z => absurd z.1 (by decide)) (by decide), hB77 _ _ g2 (by omega), by rw [sM_a (by decide)]; exact g3, by rw [sM_a (by decide)]; exact g4, by rw [sM_a (by decide)]; exact g5, by rw [sM_a (by decide)]; exact g6, by omega, by omega, g9, g10⟩
    have f3 : fw (wF2 q i g) μ (sM (wrc μ q i c) 77 (90 * q + g) ((i + c.length : Nat) : Int)) := fw_sM (fw2_K hfc) (by unfold wF2; omega)
    have hm := sumM hT (q := q) 6 RD (by decide) (by decide) _ _ _ hP3
    have hgs := sumS_G (t := t) (n := n) 6 (sk t n pc' + 1)
    revert hm hgs
    cases sumS t n 6 (sk t n pc' + 1) with
    | none =>
      rintro ⟨μ', a, i', k1, k2, k3, k4, k5, k6, k7⟩ _
      rw [k1, bd_some, J250_eq (by rw [k3 70 14 (by unfold wF wKd; omega)]; exact hP3.2.2.2.1) k6 (by rw [k3 75 q (by unfold wF wKd; omega), sM_a (by decide)]; exact e75) hq hg] at e0
      refine ⟨_, a, e0, Bm_sM (Bm_sM k2 (show (-2147483648 : Int) ≤ (i' : Int) ∧ (i' : Int) ≤ 2147483647 by omega)) (show (0 : Int) ≤ ((g + 1 : Nat) : Int) ∧ ((g + 1 : Nat) : Int) ≤ 90 by omega), fw_sM (fw_sM (fw_tr (fw2_m f3 (by omega) (by omega)) (fw2_F k3)) (by unfold wF2; omega)) (by unfold wF2; omega), ?_, by omega⟩
      rw [sM_a (by decide), sM_a (by decide)]; exact k4
    | some w =>
      intro hm hgs
      have hm : X11_sum RD (ma (sM (wrc μ q i c) 77 (90 * q + g) ((i + c.length : Nat) : Int)) (sk t n pc' + 1)) = some (0, ma (wrc (sM (wrc μ q i c) 77 (90 * q + g) ((i + c.length : Nat) : Int)) q (i + c.length) w.1) w.2) := hm
      have hw := hgs w (by omega) rfl
      have hP4 := PM_wrc hP3 hw
      have hwl := hw.2.2.2.1
      have hwn := hw.2.1
      have hfw := wrc_fw (q := q) w.1 (μ := sM (wrc μ q i c) 77 (90 * q + g) ((i + c.length : Nat) : Int)) (i := i + c.length) (by omega)
      have e75' : wrc (sM (wrc μ q i c) 77 (90 * q + g) ((i + c.length : Nat) : Int)) q (i + c.length) w.1 75 q = (g : Int) := by
        rw [hfw 75 q (by unfold wKd; omega), sM_a (by decide)]; exact e75
      rw [hm, bd_some, J250_eq hP4.2.2.2.1 hP4.2.2.2.2.1 e75' hq hg] at e0
      have f4 : fw (wF2 q i g) μ (wrc (sM (wrc μ q i c) 77 (90 * q + g) ((i + c.length : Nat) : Int)) q (i + c.length) w.1) := fw_tr f3 (fw2_m (fw2_K (g := g) hfw) (by omega) (by omega))
      refine ⟨⟨_, e0, Bm_sM (Bm_sM hP4.2.1 (show (-2147483648 : Int) ≤ _ ∧ _ ≤ (2147483647 : Int) by omega)) (show (0 : Int) ≤ ((g + 1 : Nat) : Int) ∧ ((g + 1 : Nat) : Int) ≤ 90 by omega), fw_sM (fw_sM f4 (by unfold wF2; omega)) (by unfold wF2; omega), ?_, ?_, ?_, ?_, ?_, ?_, ?_, ?_⟩, Gp_sk (t := t) ?_, rfl⟩
      · rw [sM_a (by decide), sM_a (by decide)]; exact hP4.2.2.1
      · rw [sM_a (by decide), sM_a (by decide)]; exact hP4.2.2.2.2.2.1
      · rw [sM_a (by decide), sM_a (by decide)]; exact hP4.2.2.2.2.1
      · rw [sM_s]
      · rw [sM_a (by decide), sM_a (by decide), hfw 76 _ (by unfold wKd; omega), sM_a (by decide)]; exact e76
      · rw [sM_a (by decide), sM_a (by decide), hfw 77 _ (by unfold wKd; omega), sM_s]
      · rw [sM_a (by decide), sM_s]
      · have hc1 : hasC (wrc μ q i c) q i c := wrc_has c (by omega)
        have hc2 : hasC (wrc (sM (wrc μ q i c) 77 (90 * q + g) ((i + c.length : Nat) : Int)) q (i + c.length) w.1) q (i + c.length) w.1 := wrc_has w.1 (by omega)
        have fa : fw (wF2 q (i + c.length) g) (wrc μ q i c) (wrc (sM (wrc μ q i c) 77 (90 * q + g) ((i + c.length : Nat) : Int)) q (i + c.length) w.1) := fw_tr (fw_sM fw_rf (by unfold wF2; omega)) (fw2_K hfw)
        have hc3 := hasC_app (hasC_fw hc1 fa (by omega) (by omega)) hc2
        have ff : fw (wF2 q 340 g) (wrc (sM (wrc μ q i c) 77 (90 * q + g) ((i + c.length : Nat) : Int)) q (i + c.length) w.1) (sM (sM (wrc (sM (wrc μ q i c) 77 (90 * q + g) ((i + c.length : Nat) : Int)) q (i + c.length) w.1) 78 (90 * q + g) ((i + c.length + w.1.length : Nat) : Int)) 75 q ((g + 1 : Nat) : Int)) := fw_sM (fw_sM fw_rf (by unfold wF2; omega)) (by unfold wF2; omega)
        have hl3 : (c ++ w.1).length = c.length + w.1.length := List.length_append
        exact hasC_fw hc3 ff (by show i + (c ++ w.1).length ≤ 340; omega) (by show i + (c ++ w.1).length ≤ 340; omega)
      · obtain ⟨k1, k2, k3, k4, k5⟩ := hw
        exact ⟨by show sk t n pc' < w.2; omega, k2, k3, by show w.1.length + sk t n pc' ≤ w.2; omega, by show 2 * pu w.1 + sk t n pc' ≤ w.2 + 1; omega⟩
  · rw [if_neg d1]
    rw [if_neg d1, bad_eq hP2.2.2.1, bd_some] at e0
    exact ⟨_, _, e0, Bm_sM hP2.2.1 (show (-1 : Int) ≤ _ ∧ _ ≤ (1000 : Int) by omega), fw_sM (fw2_m f2 (by omega) (by omega)) (by unfold wF2; omega), by rw [sM_s]; omega, by omega⟩
