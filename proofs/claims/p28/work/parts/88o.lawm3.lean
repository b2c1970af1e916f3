/-! LAWS, the reference's reader: units, clauses, laws -/
theorem PM_at {t : Nat → Int} {n q l : Nat} {μ : Mm} {i p p' : Nat} (h : PM t n q l μ i p) (h1 : p ≤ p') (h2 : p' ≤ n) : PM t n q l μ i p' := by
  obtain ⟨g1, g2, g3, g4, g5, g6, g7, g8, g9, g10⟩ := h
  exact ⟨g1, g2, g3, g4, g5, g6, by omega, h2, g9, g10⟩
theorem Gp_end {n p p' : Nat} {q : Cd × Nat} (h : Gp n p q) (h1 : q.2 ≤ p') (h2 : p' ≤ n) : Gp n p (q.1, p') := by
  obtain ⟨g1, g2, g3, g4, g5⟩ := h
  exact ⟨by show p < p'; omega, h2, g3, by show q.1.length + p ≤ p'; omega, by show 2 * pu q.1 + p ≤ p' + 1; omega⟩
theorem unitOM {t : Nat → Int} {n : Nat} (hT : ∀ j, j < n → 1 ≤ t j ∧ t j ≤ 255) {q l f : Nat} (hl : l ≤ 6) {S : Nat → Pr} (hS : (1 ≤ l ∧ MLs t n q (l - 1) (X11_unit f) S) ∨ (l = 0 ∧ ∀ p, S p = none)) (hG : GC n S) : MLs t n q l (X11_unit (f + 1)) (unitO t n l S) := by
  intro μ i p hP
  obtain ⟨h1, h2, h3, h4, h5, h6, h7, h8, h9, h10⟩ := id hP
  have h160 := h1.1
  have hge := sk_ge (t := t) (n := n) p
  have hle := sk_le (t := t) (n := n) p h8
  have hGP : GP n S := fun p q hp e => (hG p q hp e).1
  unfold unitO
  have e0 : X11_unit (f + 1) (ma μ p) = if pk t n p = 33 then (bd (X11_opens (ma μ (sk t n p))) fun v23 μ24 => if (μ24 70 4) = (-1) then (bd ((fun μq => X11_unit f μq) μ24) fun v27 μ28 => bd (X11_put 9 0 μ28) fun v30 μ31 => sF μ31 70 5 (iS (μ31 70 5) 1) fun μ33 => some (0, μ33)) else (some (0, μ24))) else (if pk t n p = 40 then (bd (X11_opens (ma μ (sk t n p))) fun v13 μ14 => if (μ14 70 4) = (-1) then (bd (X11_condition_o (fun μq => X11_unit f μq) μ14) fun v17 μ18 => bd (X11_closes 41 μ18) fun v20 μ21 => some (0, μ21)) else (some (0, μ14))) else (bd (X11_sum RD (ma μ (sk t n p))) fun v6 μ7 => if (μ7 70 4) = (-1) then (bd (X11_compare μ7) fun v10 μ11 => some (0, μ11)) else (some (0, μ7)))) := by
    rw [X11_unit, look_eq h1 (by omega), bd_some]
  have op0 : l = 0 → ∀ (g : Mm → Rs), FL n q l (bd (X11_opens (ma μ (sk t n p))) fun v23 μ24 => if (μ24 70 4) = (-1) then g μ24 else (some (0, μ24))) μ i p := by
    intro hl g
    rw [opens_0 h3 (by rw [h6, hl]; rfl) (by omega), bd_some, ma_j (by decide), sM_j (by decide), sM_s, if_neg (by omega)]
    exact ⟨_, _, i, rfl, Bm_sM (Bm_sM h2 (show (-1 : Int) ≤ _ ∧ _ ≤ (1000 : Int) by omega)) (by decide), fw_sM (fw_sM fw_rf (by unfold wF; omega)) (by unfold wF; omega), by rw [sM_j (by decide), sM_s]; omega, by omega, by rw [sM_a (by decide), sM_a (by decide)]; exact h5, by omega⟩
  have op1 : 1 ≤ l → ∀ (g : Mm → Rs), (bd (X11_opens (ma μ (sk t n p))) fun v23 μ24 => if (μ24 70 4) = (-1) then g μ24 else (some (0, μ24))) = g (ma (sM μ 70 5 ((6 - l + 1 : Nat) : Int)) (sk t n p + 1)) := by
    intro hl g
    rw [opens_1 h6 (by omega) (by omega), bd_some, ma_j (by decide), sM_j (by decide), if_pos h3]
  have ed : 6 - l + 1 = 6 - (l - 1) ∨ l = 0 := by omega
  have hP1 : 1 ≤ l → sk t n p < n → PM t n q (l - 1) (sM μ 70 5 ((6 - l + 1 : Nat) : Int)) i (sk t n p + 1) := by
    intro hl hn
    have ed : 6 - l + 1 = 6 - (l - 1) := by omega
    refine ⟨Tm_s h1 (by decide) (by decide), Bm_sM h2 (show (-2147483648 : Int) ≤ _ ∧ _ ≤ (2147483647 : Int) by omega), by rw [sM_j (by decide)]; exact h3, by rw [sM_j (by decide)]; exact h4, by rw [sM_a (by decide)]; exact h5, by rw [sM_s, ed], by omega, by omega, h9, by omega⟩
  have fr5 : fw (wF q) μ (sM μ 70 5 ((6 - l + 1 : Nat) : Int)) := fw_sM fw_rf (by unfold wF; omega)
  by_cases c1 : pk t n p = 33
  · rw [if_pos c1] at e0
    rw [if_pos c1]
    have hq := pk_ne (t := t) (n := n) (p := p) (by omega)
    rcases hS with ⟨hl1, hM⟩ | ⟨hl1, hM⟩
    · rw [op1 hl1] at e0
      have e0 : X11_unit (f + 1) (ma μ p) = bd (X11_unit f (ma (sM μ 70 5 ((6 - l + 1 : Nat) : Int)) (sk t n p + 1))) fun v27 μ28 => bd (X11_put 9 0 μ28) fun v30 μ31 => sF μ31 70 5 (iS (μ31 70 5) 1) fun μ33 => some (0, μ33) := e0
      have hm := hM _ _ _ (hP1 hl1 hq.1)
      have hg := hG (sk t n p + 1)
      revert hm hg
      cases S (sk t n p + 1) with
      | none =>
        rintro ⟨μ', a, i', f1, f2, f3, f4, f5, f6, f7⟩ _
        have h14' : μ' 70 14 = (q : Int) := by rw [f3 70 14 (by unfold wF wKd; omega), sM_j (by decide)]; exact h4
        have hw : put1 μ' q i' (9, 0) 70 4 ≠ -1 := by
          rw [put1_fw (9, 0) (show i' < 340 by omega) 70 4 (by unfold wKd; omega)]; exact f4
        rw [f1, bd_some, put_eq h14' f6 h9 (by omega), bd_some] at e0
        unfold sF at e0
        dsimp only at e0
        rw [ma_j (by decide), ma_s (by decide)] at e0
        refine ⟨_, a, i' + 1, e0, Bm_sM (put1_Bm f2 (by omega) (Or.inr (Or.inr ⟨by decide, by decide, rfl⟩))) (wI5 _), fw_sM (fw_tr fr5 (fw_tr f3 (fwF_K (put1_fw _ (by omega))))) (by unfold wF; omega), by rw [sM_j (by decide)]; exact hw, by omega, by rw [sM_a (by decide)]; unfold put1; rw [sM_s], by omega⟩
      | some w =>
        intro hm hg
        have hm : X11_unit f (ma (sM μ 70 5 ((6 - l + 1 : Nat) : Int)) (sk t n p + 1)) = some (0, ma (wrc (sM μ 70 5 ((6 - l + 1 : Nat) : Int)) q i w.1) w.2) := hm
        have hgw := (hg w (by omega) rfl).1
        have hP2 := PM_wrc (hP1 hl1 hq.1) hgw
        have hwl := hgw.2.2.2.1
        have hwn := hgw.2.1
        rw [hm, bd_some, put_eq hP2.2.2.2.1 hP2.2.2.2.2.1 h9 (by omega), bd_some] at e0
        unfold sF at e0
        dsimp only at e0
        have e5 : put1 (wrc (sM μ 70 5 ((6 - l + 1 : Nat) : Int)) q i w.1) q (i + w.1.length) (9, 0) = sM (wrc μ q i (ngc w.1)) 70 5 ((6 - l + 1 : Nat) : Int) := by
          rw [wrc_5, put1_5]
          unfold ngc
          rw [wrc_app]
          rfl
        have hlen : (ngc w.1).length = w.1.length + 1 := by unfold ngc; rw [List.length_append]; rfl
        have e6 : wrc μ q i (ngc w.1) 70 5 = ((6 - l : Nat) : Int) := by
          rw [wrc_fw (q := q) (ngc w.1) (μ := μ) (i := i) (by omega) 70 5 (by unfold wKd; omega)]; exact h6
        have e7 : iS ((6 - l + 1 : Nat) : Int) 1 = ((6 - l : Nat) : Int) := by rw [iS_id (by omega) (by omega)]; omega
        rw [e5, ma_j (by decide), sM_s, e7, ma_s (by decide), sM_ov, ← e6, sM_id] at e0
        exact e0
    · rw [hM]
      exact FL_eq (op0 hl1 _) e0
  · rw [if_neg c1] at e0
    rw [if_neg c1]
    by_cases c2 : pk t n p = 40
    · rw [if_pos c2] at e0
      rw [if_pos c2]
      have hq := pk_ne (t := t) (n := n) (p := p) (by omega)
      rcases hS with ⟨hl1, hM⟩ | ⟨hl1, hM⟩
      · rw [op1 hl1] at e0
        have hm := conM (rec := fun μq => X11_unit f μq) hM hGP _ _ _ (hP1 hl1 hq.1)
        have hg := conS_G (t := t) hG (sk t n p + 1)
        revert hm hg
        cases conS t n S (sk t n p + 1) with
        | none =>
          rintro ⟨μ', a, i', f1, f2, f3, f4, f5, f6, f7⟩ _
          rw [f1, bd_some] at e0
          have hc := closes_F (a := a) (i' := i') (n := n) (q := q) (l := l) (μ := μ) (i := i) (p := p) (c := 41) f2 (fw_tr fr5 f3) f4 (by omega) h160 h10 f6 (by omega)
          obtain ⟨μ2, a2, i2, k1, k2⟩ := hc
          rw [k1, bd_some] at e0
          exact ⟨μ2, a2, i2, e0, k2⟩
        | some w =>
          intro hm hg
          have hm : X11_condition_o (fun μq => X11_unit f μq) (ma (sM μ 70 5 ((6 - l + 1 : Nat) : Int)) (sk t n p + 1)) = some (0, ma (wrc (sM μ 70 5 ((6 - l + 1 : Nat) : Int)) q i w.1) w.2) := hm
          have hgw := (hg w (by omega) rfl).1
          have hP2 := PM_wrc (hP1 hl1 hq.1) hgw
          have hgw2 : w.2 ≤ n := hgw.2.1
          have hle2 := sk_le (t := t) (n := n) w.2 hgw2
          have hge2 := sk_ge (t := t) (n := n) w.2
          rw [hm, bd_some] at e0
          dsimp only
          have ecl : X11_closes 41 (ma (wrc (sM μ 70 5 ((6 - l + 1 : Nat) : Int)) q i w.1) w.2) = if pk t n w.2 = 41 then some (0, ma (wrc μ q i w.1) (sk t n w.2 + 1)) else bd (X11_bad (ma (wrc (sM μ 70 5 ((6 - l + 1 : Nat) : Int)) q i w.1) (sk t n w.2))) fun v8 μ9 => X11_closes_J20 μ9 := by
            unfold X11_closes
            rw [ma_j (by decide), if_pos hP2.2.2.1, look_eq hP2.1 (by omega), bd_some]
            by_cases c4 : pk t n w.2 = 41
            · rw [if_pos c4, if_pos c4, J20_eq (by omega), hP2.2.2.2.2.2.1, wrc_5]
              have : iS ((6 - (l - 1) : Nat) : Int) 1 = ((6 - l : Nat) : Int) := by rw [iS_id (by omega) (by omega)]; omega
              have e3 : wrc μ q i w.1 70 5 = ((6 - l : Nat) : Int) := by
                rw [wrc_fw (q := q) w.1 (μ := μ) (i := i) (by have := hgw.2.2.2.1; omega) 70 5 (by unfold wKd; omega)]; exact h6
              rw [this, sM_ov, ← e3, sM_id]
            · rw [if_neg c4, if_neg c4]
          rw [ecl] at e0
          by_cases c4 : pk t n w.2 = 41
          · rw [if_pos c4]
            rw [if_pos c4, bd_some] at e0
            exact e0
          · rw [if_neg c4]
            rw [if_neg c4, bad_eq hP2.2.2.1, bd_some, J20_eq (by omega), bd_some] at e0
            refine ⟨_, _, i + w.1.length, e0, Bm_sM (Bm_sM hP2.2.1 (show (-1 : Int) ≤ _ ∧ _ ≤ (1000 : Int) by omega)) (wI5 _), ?_, ?_, by omega, ?_, ?_⟩
            · refine fw_sM (fw_sM (fw_tr fr5 (fwF_K (wrc_fw (q := q) w.1 (by have := hgw.2.2.2.1; omega)))) (by unfold wF; omega)) (by unfold wF; omega)
            · rw [sM_j (by decide), sM_s]; omega
            · rw [sM_a (by decide), sM_a (by decide)]; exact hP2.2.2.2.2.1
            · have := hgw.2.2.2.1
              omega
      · have : conS t n S (sk t n p + 1) = none := by unfold conS truS chS; rw [hM]
        rw [this]
        exact FL_eq (op0 hl1 _) e0
    · rw [if_neg c2] at e0
      rw [if_neg c2]
      have hP0 := PM_at hP hge hle
      have hF := sumM hT (q := q) l RD hl (by show l < 12; omega)
      have hm := hF _ _ _ hP0
      have hg := sumS_G (t := t) (n := n) l (sk t n p)
      unfold cmpS
      rw [← sumS_sk l p]
      revert hm hg
      cases sumS t n l (sk t n p) with
      | none =>
        rintro ⟨μ', a, i', f1, f2, f3, f4, f5, f6, f7⟩ _
        rw [f1, bd_some, ma_j (by decide), if_neg f4] at e0
        exact ⟨μ', a, i', e0, f2, f3, f4, f5, f6, by omega⟩
      | some w =>
        intro hm hg
        have hm : X11_sum RD (ma μ (sk t n p)) = some (0, ma (wrc μ q i w.1) w.2) := hm
        have hw := hg w hle rfl
        have hP2 := PM_wrc hP0 hw
        rw [hm, bd_some, ma_j (by decide), if_pos hP2.2.2.1] at e0
        have hc := cmpRM hT hl (a := w.1) (p := w.2) hP0 hw (fun _ => X11_sum RD) hF
        dsimp only
        revert hc
        cases cmpR t n l w.1 w.2 with
        | none =>
          intro hc
          have hc := FL_mono (p0 := p) (i0 := i) fw_rf hc (by omega)
          obtain ⟨μ', a, i', f1, f2⟩ := hc
          rw [f1, bd_some] at e0
          exact ⟨μ', a, i', e0, f2⟩
        | some v =>
          intro hc
          have hc : X11_compare (ma (wrc μ q i w.1) w.2) = some (0, ma (wrc μ q i v.1) v.2) := hc
          rw [hc, bd_some] at e0
          exact e0
theorem unitM {t : Nat → Int} {n : Nat} (hT : ∀ j, j < n → 1 ≤ t j ∧ t j ≤ 255) {q : Nat} : ∀ (l fuel : Nat), l ≤ 6 → l < fuel → MLs t n q l (X11_unit fuel) (unitS t n l) := by
  intro l
  induction l with
  | zero =>
    intro fuel _ hf
    obtain ⟨f, rfl, hf'⟩ := lt_fuel hf
    exact unitOM hT (l := 0) (by decide) (S := fun _ => none) (Or.inr ⟨rfl, fun _ => rfl⟩) (fun _ _ _ e => by cases e)
  | succ l ih =>
    intro fuel hl hf
    obtain ⟨f, rfl, hf'⟩ := lt_fuel (d := l + 1) hf
    exact unitOM hT (l := l + 1) hl (S := unitS t n l) (Or.inl ⟨by omega, ih f (by omega) (by omega)⟩) (unitS_G l)
