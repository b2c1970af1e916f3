/-! LAWS, the reference's reader: units, clauses, laws -/
theorem PM_at {t : Nat → Int} {n q l : Nat} {μ : Mm} {i p p' : Nat} (h : PM t n q l μ i p) (h1 : p ≤ p') (h2 : p' ≤ n) : PM t n q l μ i p' := by
  obtain ⟨g1, g2, g3, g4, g5, g6, g7, g8, g9, g10⟩ := h
  exact ⟨g1, g2, g3, g4, g5, g6, by omega, h2, g9, g10⟩
theorem Gp_end {n p p' : Nat} {q : Cd × Nat} (h : Gp n p q) (h1 : q.2 ≤ p') (h2 : p' ≤ n) : Gp n p (q.1, p') := by
  obtain ⟨g1, g2, g3, g4, g5⟩ := h
  exact ⟨by show p < p'; omega, h2, g3, by show q.1.length + p ≤ p'; omega, by show 2 * pu q.1 + p ≤ p' + 1; omega⟩
theorem unitOM {t : Nat → Int} {n : Nat} (hT : ∀ j, j < n → 1 ≤ t j ∧ t j ≤ 255) {q l f : Nat} (hl : l ≤ 6) {S : Nat → Pr} (hS : (1 ≤ l ∧ MLs t n q (l - 1) (X11_unit f) S) ∨ (l = 0 ∧ ∀ p, S p = none)) (hG : GC n S) : MLs t n q l (X11_unit (f + 1)) (unitO t n l S) := by
  intro μ i p hP
  obtain ⟨h1, h2, h3, h4, h5, h6, h7, h8, h9, h10⟩ := id hP
  have h160 := h1.1
  have hge := sk_ge (t := t) (n := n) p
  have hle := sk_le (t := t) (n := n) p h8
  have hGP : GP n S := fun p q hp e => (hG p q hp e).1
  unfold unitO
  have e0 : X11_unit (f + 1) (ma μ p) = if pk t n p = 33 then (bd (X11_opens (ma μ (sk t n p))) fun v23 μ24 => if (μ24 70 4) = (-1) then (bd ((fun μq => X11_unit f μq) μ24) fun v27 μ28 => bd (X11_put 9 0 μ28) fun v30 μ31 => sF μ31 70 5 (iS (μ31 70 5) 1) fun μ33 => some (0, μ33)) else (some (0, μ24))) else (if pk t n p = 40 then (bd (X11_opens (ma μ (sk t n p))) fun v13 μ14 => if (μ14 70 4) = (-1) then (bd (X11_condition_o (fun μq => X11_unit f μq) μ14) fun v17 μ18 => bd (X11_closes 41 μ18) fun v20 μ21 => some (0, μ21)) else (some (0, μ14))) else (bd (X11_sum RD (ma μ (sk t n p))) fun v6 μ7 => if (μ7 70 4) = (-1) then (bd (X11_compare μ7) fun v10 μ11 => some (0, μ11)) else (some (0, μ7)))) := by
    rw [X11_unit, look_eq h1 (by omega), bd_some]
  have op0 : l = 0 → ∀ (g : Mm → Rs), FL n q l (bd (X11_opens (ma μ (sk t n p))) fun v23 μ24 => if (μ24 70 4) = (-1) then g μ24 else (some (0, μ24))) μ i p := by
    intro hl g
    rw [opens_0 h3 (by rw [h6, hl]; rfl) (by omega), bd_some, ma_j (by decide), sM_j (by decide), sM_s, if_neg (by omega)]
    exact ⟨_, _, i, rfl, Bm_sM (Bm_sM h2 (show (-1 : Int) ≤ _ ∧ _ ≤ (1000 : Int) by omega)) (by decide), fw_sM (fw_sM fw_rf (by unfold wF; omega)) (by unfold wF; omega), by rw [sM_j (by decide), sM_s]; omega, by omega, by rw [sM_a (by decide), sM_a (by decide)]; exact h5, by omega⟩
  have op1 : 1 ≤ l → ∀ (g : Mm → Rs), (bd (X11_opens (ma μ (sk t n p))) fun v23 μ24 => if (μ24 70 4) = (-1) then g μ24 else (some (0, μ24))) = g (ma (sM μ 70 5 ((6 - l + 1 : Nat) : Int)) (sk t n p + 1)) := by
    intro hl g
    rw [opens_1 h6 (by omega) (by omega), bd_some, ma_j (by decide), sM_j (by decide), if_pos h3]
  have ed : 6 - l + 1 = 6 - (l - 1) ∨ l = 0 := by omega
  have hP1 : 1 ≤ l → sk t n p < n → PM t n q (l - 1) (sM μ 70 5 ((6 - l + 1 : Nat) : Int)) i (sk t n p + 1) := by
    intro hl hn
    have ed : 6 - l + 1 = 6 - (l - 1) := by omega
    refine ⟨Tm_s h1 (by decide) (by decide), Bm_sM h2 (show (-2147483648 : Int) ≤ _ ∧ _ ≤ (2147483647 : Int) by omega), by rw [sM_j (by decide)]; exact h3, by rw [sM_j (by decide)]; exact h4, by rw [sM_a (by decide)]; exact h5, by rw [sM_s, ed], by omega, by omega, h9, by omega⟩
  have fr5 : fw (wF q) μ (sM μ 70 5 ((6 - l + 1 : Nat) : Int)) := fw_sM fw_rf (by unfold wF; omega)
  by_cases c1 : pk t n p = 33
  · rw [if_pos c1] at e0
    rw [if_pos c1]
    have hq := pk_ne (t := t) (n := n) (p := p) (by omega)
    rcases hS with ⟨hl1, hM⟩ | ⟨hl1, hM⟩
    · rw [op1 hl1] at e0
      have e0 : X11_unit (f + 1) (ma μ p) = bd (X11_unit f (ma (sM μ 70 5 ((6 - l + 1 : Nat) : Int)) (sk t n p + 1))) fun v27 μ28 => bd (X11_put 9 0 μ28) fun v30 μ31 => sF μ31 70 5 (iS (μ31 70 5) 1) fun μ33 => some (0, μ33) := e0
      have hm := hM _ _ _ (hP1 hl1 hq.1)
      have hg := hG (sk t n p + 1)
      revert hm hg
      cases S (sk t n p + 1) with
      | none =>
        rintro ⟨μ', a, i', f1, f2, f3, f4, f5, f6, f7⟩ _
        have h14' : μ' 70 14 = (q : Int) := by rw [f3 70 14 (by unfold wF wKd; omega), sM_j (by decide)]; exact h4
        have hw : put1 μ' q i' (9, 0) 70 4 ≠ -1 := by
          rw [put1_fw (9, 0) (show i' < 340 by omega) 70 4 (by unfold wKd; omega)]; exact f4
        rw [f1, bd_some, put_eq h14' f6 h9 (by omega), bd_some] at e0
        unfold sF at e0
        dsimp only at e0
        rw [ma_j (by decide), ma_s (by decide)] at e0
        refine ⟨_, a, i' + 1, e0, Bm_sM (put1_Bm f2 (by omega) (Or.inr (Or.inr ⟨by decide, by decide, rfl⟩))) (wI5 _), fw_sM (fw_tr fr5 (fw_tr f3 (fwF_K (put1_fw _ (by omega))))) (by unfold wF; omega), by rw [sM_j (by decide)]; exact hw, by omega, by rw [sM_a (by decide)]; unfold put1; rw [sM_s], by omega⟩
      | some w =>
        intro hm hg
        have hm : X11_unit f (ma (sM μ 70 5 ((6 - l + 1 : Nat) : Int)) (sk t n p + 1)) = some (0, ma (wrc (sM μ 70 5 ((6 - l + 1 : Nat) : Int)) q i w.1) w.2) := hm
        have hgw := (hg w (by omega) rfl).1
        have hP2 := PM_wrc (hP1 hl1 hq.1) hgw
        have hwl := hgw.2.2.2.1
        have hwn := hgw.2.1
        rw [hm, bd_some, put_eq hP2.2.2.2.1 hP2.2.2.2.2.1 h9 (by omega), bd_some] at e0
        unfold sF at e0
        dsimp only at e0
        have e5 : put1 (wrc (sM μ 70 5 ((6 - l + 1 : Nat) : Int)) q i w.1) q (i + w.1.length) (9, 0) = sM (wrc μ q i (ngc w.1)) 70 5 ((6 - l + 1 : Nat) : Int) := by
          rw [wrc_5, put1_5]
          unfold ngc
          rw [wrc_app]
          rfl
        have hlen : (ngc w.1).length = w.1.length + 1 := by unfold ngc; rw [List.length_append]; rfl
        have e6 : wrc μ q i (ngc w.1) 70 5 = ((6 - l : Nat) : Int) := by
          rw [wrc_fw (q := q) (ngc w.1) (μ := μ) (i := i) (by omega) 70 5 (by unfold wKd; omega)]; exact h6
        have e7 : iS ((6 - l + 1 : Nat) : Int) 1 = ((6 - l : Nat) : Int) := by rw [iS_id (by omega) (by omega)]; omega
        rw [e5, ma_j (by decide), sM_s, e7, ma_s (by decide), sM_ov, ← e6, sM_id] at e0
        exact e0
    · rw [hM]
      exact FL_eq (op0 hl1 _) e0
  · rw [if_neg c1] at e0
    rw [if_neg c1]
    by_cases c2 : pk t n p = 40
    · rw [if_pos c2] at e0
      rw [if_pos c2]
      have hq := pk_ne (t := t) (n := n) (p := p) (by omega)
      rcases hS with ⟨hl1, hM⟩ | ⟨hl1, hM⟩
      · rw [op1 hl1] at e0
        have hm := conM (rec := fun μq => X11_unit f μq) hM hGP _ _ _ (hP1 hl1 hq.1)
        have hg := conS_G (t := t) hG (sk t n p + 1)
        revert hm hg
        cases conS t n S (sk t n p + 1) with
        | none =>
          rintro ⟨μ', a, i', f1, f2, f3, f4, f5, f6, f7⟩ _
          rw [f1, bd_some] at e0
          have hc := closes_F (a := a) (i' := i') (n := n) (q := q) (l := l) (μ := μ) (i := i) (p := p) (c := 41) f2 (fw_tr fr5 f3) f4 (by omega) h160 h10 f6 (by omega)
          obtain ⟨μ2, a2, i2, k1, k2⟩ := hc
          rw [k1, bd_some] at e0
          exact ⟨μ2, a2, i2, e0, k2⟩
        | some w =>
          intro hm hg
          have hm : X11_condition_o (fun μq => X11_unit f μq) (ma (sM μ 70 5 ((6 - l + 1 : Nat) : Int)) (sk t n p + 1)) = some (0, ma (wrc (sM μ 70 5 ((6 - l + 1 : Nat) : Int)) q i w.1) w.2) := hm
          have hgw := (hg w (by omega) rfl).1
          have hP2 := PM_wrc (hP1 hl1 hq.1) hgw
          have hgw2 : w.2 ≤ n := hgw.2.1
          have hle2 := sk_le (t := t) (n := n) w.2 hgw2
          have hge2 := sk_ge (t := t) (n := n) w.2
          rw [hm, bd_some] at e0
          dsimp only
          have ecl : X11_closes 41 (ma (wrc (sM μ 70 5 ((6 - l + 1 : Nat) : Int)) q i w.1) w.2) = if pk t n w.2 = 41 then some (0, ma (wrc μ q i w.1) (sk t n w.2 + 1)) else bd (X11_bad (ma (wrc (sM μ 70 5 ((6 - l + 1 : Nat) : Int)) q i w.1) (sk t n w.2))) fun v8 μ9 => X11_closes_J20 μ9 := by
            unfold X11_closes
            rw [ma_j (by decide), if_pos hP2.2.2.1, look_eq hP2.1 (by omega), bd_some]
            by_cases c4 : pk t n w.2 = 41
            · rw [if_pos c4, if_pos c4, J20_eq (by omega), hP2.2.2.2.2.2.1, wrc_5]
              have : iS ((6 - (l - 1) : Nat) : Int) 1 = ((6 - l : Nat) : Int) := by rw [iS_id (by omega) (by omega)]; omega
              have e3 : wrc μ q i w.1 70 5 = ((6 - l : Nat) : Int) := by
                rw [wrc_fw (q := q) w.1 (μ := μ) (i := i) (by have := hgw.2.2.2.1; omega) 70 5 (by unfold wKd; omega)]; exact h6
              rw [this, sM_ov, ← e3, sM_id]
            · rw [if_neg c4, if_neg c4]
          rw [ecl] at e0
          by_cases c4 : pk t n w.2 = 41
          · rw [if_pos c4]
            rw [if_pos c4, bd_some] at e0
            exact e0
          · rw [if_neg c4]
            rw [if_neg c4, bad_eq hP2.2.2.1, bd_some, J20_eq (by omega), bd_some] at e0
            refine ⟨_, _, i + w.1.length, e0, Bm_sM (Bm_sM hP2.2.1 (show (-1 : Int) ≤ _ ∧ _ ≤ (1000 : Int) by omega)) (wI5 _), ?_, ?_, by omega, ?_, ?_⟩
            · refine fw_sM (fw_sM (fw_tr fr5 (fwF_K (wrc_fw (q := q) w.1 (by have := hgw.2.2.2.1; omega)))) (by unfold wF; omega)) (by unfold wF; omega)
            · rw [sM_j (by decide), sM_s]; omega
            · rw [sM_a (by decide), sM_a (by decide)]; exact hP2.2.2.2.2.1
            · have := hgw.2.2.2.1
              omega
      · have : conS t n S (sk t n p + 1) = none := by unfold conS truS chS; rw [hM]
        rw [this]
        exact FL_eq (op0 hl1 _) e0
    · rw [if_neg c2] at e0
      rw [if_neg c2]
      have hP0 := PM_at hP hge hle
      have hF := sumM hT (q := q) l RD hl (by show l < 12; omega)
      have hm := hF _ _ _ hP0
      have hg := sumS_G (t := t) (n := n) l (sk t n p)
      unfold cmpS
      rw [← sumS_sk l p]
      revert hm hg
      cases sumS t n l (sk t n p) with
      | none =>
        rintro ⟨μ', a, i', f1, f2, f3, f4, f5, f6, f7⟩ _
        rw [f1, bd_some, ma_j (by decide), if_neg f4] at e0
        exact ⟨μ', a, i', e0, f2, f3, f4, f5, f6, by omega⟩
      | some w =>
        intro hm hg
        have hm : X11_sum RD (ma μ (sk t n p)) = some (0, ma (wrc μ q i w.1) w.2) := hm
        have hw := hg w hle rfl
        have hP2 := PM_wrc hP0 hw
        rw [hm, bd_some, ma_j (by decide), if_pos hP2.2.2.1] at e0
        have hc := cmpRM hT hl (a := w.1) (p := w.2) hP0 hw (fun _ => X11_sum RD) hF
        dsimp only
        revert hc
        cases cmpR t n l w.1 w.2 with
        | none =>
          intro hc
          have hc := FL_mono (p0 := p) (i0 := i) fw_rf hc (by omega)
          obtain ⟨μ', a, i', f1, f2⟩ := hc
          rw [f1, bd_some] at e0
          exact ⟨μ', a, i', e0, f2⟩
        | some v =>
          intro hc
          have hc : X11_compare (ma (wrc μ q i w.1) w.2) = some (0, ma (wrc μ q i v.1) v.2) := hc
          rw [hc, bd_some] at e0
          exact e0
theorem unitM {t : Nat → Int} {n : Nat} (hT : ∀ j, j < n → 1 ≤ t j ∧ t j ≤ 255) {q : Nat} : ∀ (l fuel : Nat), l ≤ 6 → l < fuel → MLs t n q l (X11_unit fuel) (unitS t n l) := by
  intro l
  induction l with
  | zero =>
    intro fuel _ hf
    obtain ⟨f, rfl, hf'⟩ := lt_fuel hf
    exact unitOM hT (l := 0) (by decide) (S := fun _ => none) (Or.inr ⟨rfl, fun _ => rfl⟩) (fun _ _ _ e => by cases e)
  | succ l ih =>
    intro fuel hl hf
    obtain ⟨f, rfl, hf'⟩ := lt_fuel (d := l + 1) hf
    exact unitOM hT (l := l + 1) hl (S := unitS t n l) (Or.inl ⟨by omega, ih f (by omega) (by omega)⟩) (unitS_G l)
/-! LAWS, the reference's reader: clauses -/
def wF2 (q i g k j : Nat) : Prop := (k = 70 ∧ (j = 3 ∨ j = 4 ∨ j = 5)) ∨ wKd q i k j ∨ (k = 75 ∧ j = q) ∨ ((k = 76 ∨ k = 77 ∨ k = 78) ∧ 90 * q + g ≤ j ∧ j < 90 * q + 90)
theorem wF2_m {q i g i' g' k j : Nat} (h : wF2 q i g k j) (h1 : i' ≤ i) (h2 : g' ≤ g) : wF2 q i' g' k j := by
  unfold wF2 wKd at *
  omega
theorem fw2_m {q i g i' g' : Nat} {μ μ' : Mm} (h : fw (wF2 q i g) μ μ') (h1 : i' ≤ i) (h2 : g' ≤ g) : fw (wF2 q i' g') μ μ' := fun k j hn => h k j (fun z => hn (wF2_m z h1 h2))
theorem fw2_F {q : Nat} {μ μ' : Mm} (h : fw (wF q) μ μ') : fw (wF2 q 0 0) μ μ' := fun k j hn => h k j (fun z => hn (by unfold wF wKd at z; unfold wF2 wKd; omega))
theorem fw2_K {q i g : Nat} {μ μ' : Mm} (h : fw (wKd q i) μ μ') : fw (wF2 q i g) μ μ' := fun k j hn => h k j (fun z => hn (Or.inr (Or.inl z)))
/-- a clause that goes wrong -/
def FC (n q : Nat) (r : Rs) (μ : Mm) : Prop := ∃ μ' a, r = some (0, ma μ' a) ∧ Bm μ' ∧ fw (wF2 q 0 0) μ μ' ∧ μ' 70 4 ≠ -1 ∧ a ≤ n + 9
/-- a clause that was read -/
def OC (n q i g : Nat) (x : Cd × Cd) (p1 : Nat) (r : Rs) (μ : Mm) : Prop := ∃ μ', r = some (0, ma μ' p1) ∧ Bm μ' ∧ fw (wF2 q i g) μ μ' ∧ μ' 70 4 = -1 ∧ μ' 70 5 = ((6 - 6 : Nat) : Int) ∧ μ' 74 q = ((i + x.1.length + x.2.length : Nat) : Int) ∧ μ' 75 q = ((g + 1 : Nat) : Int) ∧ μ' 76 (90 * q + g) = (i : Int) ∧ μ' 77 (90 * q + g) = ((i + x.1.length : Nat) : Int) ∧ μ' 78 (90 * q + g) = ((i + x.1.length + x.2.length : Nat) : Int) ∧ hasC μ' q i (x.1 ++ x.2)
theorem hasC_app {μ : Mm} {q i : Nat} {a b : Cd} (ha : hasC μ q i a) (hb : hasC μ q (i + a.length) b) : hasC μ q i (a ++ b) := by
  intro k hk
  rw [List.length_append] at hk
  by_cases c : k < a.length
  · have e : (a ++ b).getD k (0, 0) = a.getD k (0, 0) := by
      rw [List.getD_eq_getElem?_getD, List.getD_eq_getElem?_getD, List.getElem?_append_left c]
    rw [e]
    exact ha k c
  · have e : (a ++ b).getD k (0, 0) = b.getD (k - a.length) (0, 0) := by
      rw [List.getD_eq_getElem?_getD, List.getD_eq_getElem?_getD, List.getElem?_append_right (by omega)]
    have := hb (k - a.length) (by omega)
    rw [show 340 * q + (i + a.length) + (k - a.length) = 340 * q + i + k by omega] at this
    rw [e]
    exact this
theorem hasC_fw {μ μ' : Mm} {q i g i' : Nat} {c : Cd} (h : hasC μ q i c) (hf : fw (wF2 q i' g) μ μ') (hi : i + c.length ≤ i') (hq : i + c.length ≤ 340) : hasC μ' q i c := by
  intro k hk
  have := h k hk
  rw [hf 72 _ (by unfold wF2 wKd; omega), hf 73 _ (by unfold wF2 wKd; omega)]
  exact this
theorem J250_eq {μ : Mm} {q g c a : Nat} (h14 : μ 70 14 = (q : Int)) (h74 : μ 74 q = (c : Int)) (h75 : μ 75 q = (g : Int)) (hq : q ≤ 4) (hg : g < 90) : X11_clause_J250 ((90 * q + g : Nat) : Int) (ma μ a) = some (0, ma (sM (sM μ 78 (90 * q + g) (c : Int)) 75 q ((g + 1 : Nat) : Int)) a) := by
  have b74 : (0 : Int) ≤ (q : Int) ∧ (q : Int) < ((aN 74 : Nat) : Int) := by show _ ∧ _ < (5 : Int); omega
  have b75 : (0 : Int) ≤ (q : Int) ∧ (q : Int) < ((aN 75 : Nat) : Int) := by show _ ∧ _ < (5 : Int); omega
  have b78 : (0 : Int) ≤ ((90 * q + g : Nat) : Int) ∧ ((90 * q + g : Nat) : Int) < ((aN 78 : Nat) : Int) := by show _ ∧ _ < (450 : Int); omega
  unfold X11_clause_J250 ldA stA
  rw [ma_j (by decide), h14, if_pos b74]
  simp only [Int.toNat_natCast]
  rw [ma_c (by decide), h74, if_pos b78, ma_s (by omega), ma_j (by decide), sM_a (by decide), h14, if_pos b75, Int.toNat_natCast, ma_c (by decide), sM_a (by decide), h75, if_pos b75, iA_nat (by omega), ma_s (by omega)]
theorem J183_eq {μ : Mm} {q g a : Nat} {l2 : Int} (hq : q ≤ 4) (hg : g < 90) : X11_clause_J183 ((90 * q + g : Nat) : Int) l2 (ma μ a) = (if l2 = 0 then (X11_clause_J250 ((90 * q + g : Nat) : Int) (ma (sM μ 77 (90 * q + g) (μ 76 (90 * q + g))) a)) else (if μ 70 4 = -1 then (bd (X11_look (ma (sM μ 77 (90 * q + g) (μ 76 (90 * q + g))) a)) fun v37 μ38 => if v37 = 63 then (sF μ38 70 3 (iA (μ38 70 3) 1) fun μ41 => ldA μ41 74 (μ41 70 14) fun v42 => stA μ41 77 ((90 * q + g : Nat) : Int) v42 fun μ44 => bd (X11_sum RD μ44) fun v46 μ47 => X11_clause_J250 ((90 * q + g : Nat) : Int) μ47) else (bd (X11_bad μ38) fun v49 μ50 => some (0, μ50))) else (X11_clause_J250 ((90 * q + g : Nat) : Int) (ma (sM μ 77 (90 * q + g) (μ 76 (90 * q + g))) a)))) := by
  have b76 : (0 : Int) ≤ ((90 * q + g : Nat) : Int) ∧ ((90 * q + g : Nat) : Int) < ((aN 76 : Nat) : Int) := by show _ ∧ _ < (450 : Int); omega
  have b77 : (0 : Int) ≤ ((90 * q + g : Nat) : Int) ∧ ((90 * q + g : Nat) : Int) < ((aN 77 : Nat) : Int) := by show _ ∧ _ < (450 : Int); omega
  unfold X11_clause_J183 
  unfold ldA stA
  rw [if_pos b76, Int.toNat_natCast, ma_c (by decide)]
  dsimp only
  rw [if_pos b77, ma_s (by omega), ma_j (by decide), sM_a (by decide)]
/-- where something is wrong, the clause only ends -/
theorem J183_F {n q g a i' : Nat} {μ0 μ : Mm} {l2 : Int} (hq : q ≤ 4) (hg : g < 90) (hB : Bm μ) (hf : fw (wF2 q 0 0) μ0 μ) (hw : μ 70 4 ≠ -1) (ha : a ≤ n + 9) (h14 : μ 70 14 = (q : Int)) (h75 : μ 75 q = (g : Int)) (h74 : μ 74 q = (i' : Int)) (hi : i' ≤ 1000) (r76 : rI (μ 76 (90 * q + g))) : FC n q (X11_clause_J183 ((90 * q + g : Nat) : Int) l2 (ma μ a)) μ0 := by
  have e : X11_clause_J183 ((90 * q + g : Nat) : Int) l2 (ma μ a) = X11_clause_J250 ((90 * q + g : Nat) : Int) (ma (sM μ 77 (90 * q + g) (μ 76 (90 * q + g))) a) := by
    rw [J183_eq hq hg, if_neg hw]
    split <;> rfl
  rw [e, J250_eq (by rw [sM_a (by decide)]; exact h14) (by rw [sM_a (by decide)]; exact h74) (by rw [sM_a (by decide)]; exact h75) hq hg]
  have hb : Bm (sM μ 77 (90 * q + g) (μ 76 (90 * q + g))) := Bm_sM hB r76
  refine ⟨_, a, rfl, Bm_sM (Bm_sM hb ?_) ?_, fw_sM (fw_sM (fw_sM hf (by unfold wF2; omega)) (by unfold wF2; omega)) (by unfold wF2; omega), ?_, ha⟩
  · show (-2147483648 : Int) ≤ (i' : Int) ∧ (i' : Int) ≤ 2147483647
    omega
  · show (0 : Int) ≤ ((g + 1 : Nat) : Int) ∧ ((g + 1 : Nat) : Int) ≤ 90
    omega
  · rw [sM_a (by decide), sM_a (by decide), sM_a (by decide)]; exact hw
/-- behind a condition that was read -/
theorem thenM {t : Nat → Int} {n : Nat} (hT : ∀ j, j < n → 1 ≤ t j ∧ t j ≤ 255) {q g i p : Nat} {c : Cd} {pc' : Nat} {μ : Mm} (hP : PM t n q 6 μ i p) (h75 : μ 75 q = (g : Int)) (hg : g < 90) (h76 : μ 76 (90 * q + g) = (i : Int)) (hc : Gp n p (c, pc')) : match thenS t n c pc' with
      | some w => OC n q i g w.1 w.2 (X11_clause_J183 ((90 * q + g : Nat) : Int) 1 (ma (wrc μ q i c) pc')) μ ∧ Gp n pc' (w.1.2, w.2) ∧ w.1.1 = c
      | none => FC n q (X11_clause_J183 ((90 * q + g : Nat) : Int) 1 (ma (wrc μ q i c) pc')) μ := by
  have h160 := hP.1.1
  have hP1 := PM_wrc hP hc
  obtain ⟨c1, c2, c3, c4, c5⟩ := hc
  have c1 : p < pc' := c1
  have c2 : pc' ≤ n := c2
  have c4 : c.length + p ≤ pc' := c4
  have hip := hP.2.2.2.2.2.2.1
  have hq := hP.2.2.2.2.2.2.2.2.1
  have hge := sk_ge (t := t) (n := n) pc'
  have hle := sk_le (t := t) (n := n) pc' c2
  have hfc := wrc_fw (q := q) c (μ := μ) (i := i) (by omega)
  have e76 : wrc μ q i c 76 (90 * q + g) = (i : Int) := by rw [hfc 76 _ (by unfold wKd; omega)]; exact h76
  have e75 : wrc μ q i c 75 q = (g : Int) := by rw [hfc 75 _ (by unfold wKd; omega)]; exact h75
  have hB77 : ∀ (x : Mm) (v : Nat), Bm x → v ≤ 1000 → Bm (sM x 77 (90 * q + g) (v : Int)) := fun x v hx hv => Bm_sM hx (show (-2147483648 : Int) ≤ (v : Int) ∧ (v : Int) ≤ 2147483647 by omega)
  have hP2 : PM t n q 6 (sM (wrc μ q i c) 77 (90 * q + g) (i : Int)) (i + c.length) pc' := by
    obtain ⟨g1, g2, g3, g4, g5, g6, g7, g8, g9, g10⟩ := hP1
    exact ⟨Tm_s g1 (fun z => absurd z.1 (by decide)) (by decide), hB77 _ _ g2 (by omega), by rw [sM_a (by decide)]; exact g3, by rw [sM_a (by decide)]; exact g4, by rw [sM_a (by decide)]; exact g5, by rw [sM_a (by decide)]; exact g6, g7, g8, g9, g10⟩
  have e0 : X11_clause_J183 ((90 * q + g : Nat) : Int) 1 (ma (wrc μ q i c) pc') = if pk t n pc' = 63 then (sF (ma (sM (wrc μ q i c) 77 (90 * q + g) (i : Int)) (sk t n pc')) 70 3 (iA ((ma (sM (wrc μ q i c) 77 (90 * q + g) (i : Int)) (sk t n pc')) 70 3) 1) fun μ41 => ldA μ41 74 (μ41 70 14) fun v42 => stA μ41 77 ((90 * q + g : Nat) : Int) v42 fun μ44 => bd (X11_sum RD μ44) fun v46 μ47 => X11_clause_J250 ((90 * q + g : Nat) : Int) μ47) else (bd (X11_bad (ma (sM (wrc μ q i c) 77 (90 * q + g) (i : Int)) (sk t n pc'))) fun v49 μ50 => some (0, μ50)) := by
    rw [J183_eq hq hg, if_neg (by decide), if_pos hP1.2.2.1, e76, look_eq hP2.1 (by omega), bd_some]
  have f2 : fw (wF2 q i g) μ (sM (wrc μ q i c) 77 (90 * q + g) (i : Int)) := fw_sM (fw2_K hfc) (by unfold wF2; omega)
  unfold thenS
  by_cases d1 : pk t n pc' = 63
  · rw [if_pos d1]
    rw [if_pos d1] at e0
    have hq2 := pk_ne (t := t) (n := n) (p := pc') (by omega)
    have b74 : (0 : Int) ≤ (q : Int) ∧ (q : Int) < ((aN 74 : Nat) : Int) := by show _ ∧ _ < (5 : Int); omega
    have b77 : (0 : Int) ≤ ((90 * q + g : Nat) : Int) ∧ ((90 * q + g : Nat) : Int) < ((aN 77 : Nat) : Int) := by show _ ∧ _ < (450 : Int); omega
    unfold sF ldA stA at e0
    dsimp only at e0
    rw [ma_3, iA_nat (by omega), ma_ma, ma_j (by decide), hP2.2.2.2.1, if_pos b74] at e0
    simp only [Int.toNat_natCast] at e0
    rw [ma_c (by decide), hP2.2.2.2.2.1, if_pos b77, ma_s (by omega), sM_ov] at e0
    have hP3 : PM t n q 6 (sM (wrc μ q i c) 77 (90 * q + g) ((i + c.length : Nat) : Int)) (i + c.length) (sk t n pc' + 1) := by
      obtain ⟨g1, g2, g3, g4, g5, g6, g7, g8, g9, g10⟩ := hP1
      exact ⟨Tm_s g1 (fun z => absurd z.1 (by decide)) (by decide), hB77 _ _ g2 (by omega), by rw [sM_a (by decide)]; exact g3, by rw [sM_a (by decide)]; exact g4, by rw [sM_a (by decide)]; exact g5, by rw [sM_a (by decide)]; exact g6, by omega, by omega, g9, g10⟩
    have f3 : fw (wF2 q i g) μ (sM (wrc μ q i c) 77 (90 * q + g) ((i + c.length : Nat) : Int)) := fw_sM (fw2_K hfc) (by unfold wF2; omega)
    have hm := sumM hT (q := q) 6 RD (by decide) (by decide) _ _ _ hP3
    have hgs := sumS_G (t := t) (n := n) 6 (sk t n pc' + 1)
    revert hm hgs
    cases sumS t n 6 (sk t n pc' + 1) with
    | none =>
      rintro ⟨μ', a, i', k1, k2, k3, k4, k5, k6, k7⟩ _
      rw [k1, bd_some, J250_eq (by rw [k3 70 14 (by unfold wF wKd; omega)]; exact hP3.2.2.2.1) k6 (by rw [k3 75 q (by unfold wF wKd; omega), sM_a (by decide)]; exact e75) hq hg] at e0
      refine ⟨_, a, e0, Bm_sM (Bm_sM k2 (show (-2147483648 : Int) ≤ (i' : Int) ∧ (i' : Int) ≤ 2147483647 by omega)) (show (0 : Int) ≤ ((g + 1 : Nat) : Int) ∧ ((g + 1 : Nat) : Int) ≤ 90 by omega), fw_sM (fw_sM (fw_tr (fw2_m f3 (by omega) (by omega)) (fw2_F k3)) (by unfold wF2; omega)) (by unfold wF2; omega), ?_, by omega⟩
      rw [sM_a (by decide), sM_a (by decide)]; exact k4
    | some w =>
      intro hm hgs
      have hm : X11_sum RD (ma (sM (wrc μ q i c) 77 (90 * q + g) ((i + c.length : Nat) : Int)) (sk t n pc' + 1)) = some (0, ma (wrc (sM (wrc μ q i c) 77 (90 * q + g) ((i + c.length : Nat) : Int)) q (i + c.length) w.1) w.2) := hm
      have hw := hgs w (by omega) rfl
      have hP4 := PM_wrc hP3 hw
      have hwl := hw.2.2.2.1
      have hwn := hw.2.1
      have hfw := wrc_fw (q := q) w.1 (μ := sM (wrc μ q i c) 77 (90 * q + g) ((i + c.length : Nat) : Int)) (i := i + c.length) (by omega)
      have e75' : wrc (sM (wrc μ q i c) 77 (90 * q + g) ((i + c.length : Nat) : Int)) q (i + c.length) w.1 75 q = (g : Int) := by
        rw [hfw 75 q (by unfold wKd; omega), sM_a (by decide)]; exact e75
      rw [hm, bd_some, J250_eq hP4.2.2.2.1 hP4.2.2.2.2.1 e75' hq hg] at e0
      have f4 : fw (wF2 q i g) μ (wrc (sM (wrc μ q i c) 77 (90 * q + g) ((i + c.length : Nat) : Int)) q (i + c.length) w.1) := fw_tr f3 (fw2_m (fw2_K (g := g) hfw) (by omega) (by omega))
      refine ⟨⟨_, e0, Bm_sM (Bm_sM hP4.2.1 (show (-2147483648 : Int) ≤ _ ∧ _ ≤ (2147483647 : Int) by omega)) (show (0 : Int) ≤ ((g + 1 : Nat) : Int) ∧ ((g + 1 : Nat) : Int) ≤ 90 by omega), fw_sM (fw_sM f4 (by unfold wF2; omega)) (by unfold wF2; omega), ?_, ?_, ?_, ?_, ?_, ?_, ?_, ?_⟩, Gp_sk (t := t) ?_, rfl⟩
      · rw [sM_a (by decide), sM_a (by decide)]; exact hP4.2.2.1
      · rw [sM_a (by decide), sM_a (by decide)]; exact hP4.2.2.2.2.2.1
      · rw [sM_a (by decide), sM_a (by decide)]; exact hP4.2.2.2.2.1
      · rw [sM_s]
      · rw [sM_a (by decide), sM_a (by decide), hfw 76 _ (by unfold wKd; omega), sM_a (by decide)]; exact e76
      · rw [sM_a (by decide), sM_a (by decide), hfw 77 _ (by unfold wKd; omega), sM_s]
      · rw [sM_a (by decide), sM_s]
      · have hc1 : hasC (wrc μ q i c) q i c := wrc_has c (by omega)
        have hc2 : hasC (wrc (sM (wrc μ q i c) 77 (90 * q + g) ((i + c.length : Nat) : Int)) q (i + c.length) w.1) q (i + c.length) w.1 := wrc_has w.1 (by omega)
        have fa : fw (wF2 q (i + c.length) g) (wrc μ q i c) (wrc (sM (wrc μ q i c) 77 (90 * q + g) ((i + c.length : Nat) : Int)) q (i + c.length) w.1) := fw_tr (fw_sM fw_rf (by unfold wF2; omega)) (fw2_K hfw)
        have hc3 := hasC_app (hasC_fw hc1 fa (by omega) (by omega)) hc2
        have ff : fw (wF2 q 340 g) (wrc (sM (wrc μ q i c) 77 (90 * q + g) ((i + c.length : Nat) : Int)) q (i + c.length) w.1) (sM (sM (wrc (sM (wrc μ q i c) 77 (90 * q + g) ((i + c.length : Nat) : Int)) q (i + c.length) w.1) 78 (90 * q + g) ((i + c.length + w.1.length : Nat) : Int)) 75 q ((g + 1 : Nat) : Int)) := fw_sM (fw_sM fw_rf (by unfold wF2; omega)) (by unfold wF2; omega)
        have hl3 : (c ++ w.1).length = c.length + w.1.length := List.length_append
        exact hasC_fw hc3 ff (by show i + (c ++ w.1).length ≤ 340; omega) (by show i + (c ++ w.1).length ≤ 340; omega)
      · obtain ⟨k1, k2, k3, k4, k5⟩ := hw
        exact ⟨by show sk t n pc' < w.2; omega, k2, k3, by show w.1.length + sk t n pc' ≤ w.2; omega, by show 2 * pu w.1 + sk t n pc' ≤ w.2 + 1; omega⟩
  · rw [if_neg d1]
    rw [if_neg d1, bad_eq hP2.2.2.1, bd_some] at e0
    exact ⟨_, _, e0, Bm_sM hP2.2.1 (show (-1 : Int) ≤ _ ∧ _ ≤ (1000 : Int) by omega), fw_sM (fw2_m f2 (by omega) (by omega)) (by unfold wF2; omega), by rw [sM_s]; omega, by omega⟩
/-! LAWS, the reference's reader: all of it -/
theorem OC_mono {n q i g p1 : Nat} {x : Cd × Cd} {r : Rs} {μ0 μ : Mm} (h : OC n q i g x p1 r μ) (hf : fw (wF2 q i g) μ0 μ) : OC n q i g x p1 r μ0 := by
  obtain ⟨μ', h1, h2, h3, h4⟩ := h
  exact ⟨μ', h1, h2, fw_tr hf h3, h4⟩
theorem FC_mono {n q : Nat} {r : Rs} {μ0 μ : Mm} (h : FC n q r μ) (hf : fw (wF2 q 0 0) μ0 μ) : FC n q r μ0 := by
  obtain ⟨μ', a, h1, h2, h3, h4⟩ := h
  exact ⟨μ', a, h1, h2, fw_tr hf h3, h4⟩
/-- what a clause's codes are -/
def okW (n p i : Nat) (w : (Cd × Cd) × Nat) : Prop := p < w.2 ∧ w.2 ≤ n ∧ gd w.1.2 ∧ (w.1.1 = [] ∨ gd w.1.1) ∧ i + w.1.1.length + w.1.2.length ≤ w.2 ∧ pu w.1.1 ≤ 80 ∧ pu w.1.2 ≤ 80
theorem bd_cg {x : Rs} {f g : Int → Mm → Rs} (h : ∀ v μ, f v μ = g v μ) : bd x f = bd x g := by
  have : f = g := funext fun v => funext fun μ => h v μ
  rw [this]
theorem bodyM {t : Nat → Int} {n : Nat} (hT : ∀ j, j < n → 1 ≤ t j ∧ t j ≤ 255) {q g i p : Nat} {μ : Mm} (hP : PM t n q 6 μ i p) (h75 : μ 75 q = (g : Int)) (hg : g < 90) (h76 : μ 76 (90 * q + g) = (i : Int)) : match bodyS t n p with
      | some w => ∃ p1, (p1 = w.2 ∨ p1 = sk t n w.2) ∧ OC n q i g w.1 p1 (X11_clause_J127 ((90 * q + g : Nat) : Int) (if pk t n p = 33 ∨ pk t n p = 40 then 1 else 0) (ma μ (sk t n p))) μ ∧ okW n p i w
      | none => FC n q (X11_clause_J127 ((90 * q + g : Nat) : Int) (if pk t n p = 33 ∨ pk t n p = 40 then 1 else 0) (ma μ (sk t n p))) μ := by
  have h160 := hP.1.1
  have hpn := hP.2.2.2.2.2.2.2.1
  have hip := hP.2.2.2.2.2.2.1
  have hq := hP.2.2.2.2.2.2.2.2.1
  have hge := sk_ge (t := t) (n := n) p
  have hle := sk_le (t := t) (n := n) p hpn
  have hP0 := PM_at hP hge hle
  have r76 : rI (μ 76 (90 * q + g)) := by rw [h76]; exact ⟨by omega, by omega⟩
  have failing : ∀ {R : Rs} {l2 : Int} {i1 p0 : Nat} {r : Rs} {μ1 : Mm}, i1 ≤ 200 → fw (wF q) μ μ1 → FL n q 6 r μ1 i1 p0 → R = (bd r fun _ μ69 => X11_clause_J183 ((90 * q + g : Nat) : Int) l2 μ69) → FC n q R μ := by
    intro R l2 i1 p0 r μ1 hi1 hf1 h e
    obtain ⟨μ', a, i', k1, k2, k3, k4, k5, k6, k7⟩ := h
    have k3 := fw_tr hf1 k3
    rw [e, k1, bd_some]
    exact J183_F hq hg k2 (fw2_F k3) k4 (by omega) (by rw [k3 70 14 (by unfold wF wKd; omega)]; exact hP.2.2.2.1) (by rw [k3 75 q (by unfold wF wKd; omega)]; exact h75) k6 (by omega) (by rw [k3 76 _ (by unfold wF wKd; omega)]; exact r76)
  have cond : ∀ R : Rs, R = (bd (X11_condition_o (X11_unit RD) (ma μ (sk t n p))) fun _ μ69 => X11_clause_J183 ((90 * q + g : Nat) : Int) 1 μ69) → match (match conS t n (unitS t n 6) p with | none => none | some w => thenS t n w.1 w.2) with
      | some w => ∃ p1, (p1 = w.2 ∨ p1 = sk t n w.2) ∧ OC n q i g w.1 p1 R μ ∧ okW n p i w
      | none => FC n q R μ := by
    intro R e
    have hm := conM (rec := X11_unit RD) (unitM hT (q := q) 6 RD (by decide) (by decide)) (fun p q hp e => (unitS_G 6 p q hp e).1) _ _ _ hP0
    have hG := conS_G (t := t) (n := n) (rec := unitS t n 6) (unitS_G 6) (sk t n p)
    have hsk : conS t n (unitS t n 6) (sk t n p) = conS t n (unitS t n 6) p := chS_sk (chS_sk (unitS_sk 6)) p
    rw [hsk] at hm hG
    revert hm hG
    cases conS t n (unitS t n 6) p with
    | none =>
      intro hm _
      exact failing (by omega) fw_rf hm e
    | some c =>
      intro hm hG
      have hm : X11_condition_o (X11_unit RD) (ma μ (sk t n p)) = some (0, ma (wrc μ q i c.1) c.2) := hm
      have hc := (hG c hle rfl).1
      rw [hm, bd_some] at e
      have ht := thenM hT hP0 h75 hg h76 (c := c.1) (pc' := c.2) hc
      dsimp only
      revert ht
      cases thenS t n c.1 c.2 with
      | none => intro ht; rw [e]; exact ht
      | some w =>
        rintro ⟨k1, k2, k3⟩
        refine ⟨w.2, Or.inl rfl, by rw [e]; exact k1, ?_⟩
        obtain ⟨a1, a2, a3, a4, a5⟩ := hc
        obtain ⟨b1, b2, b3, b4, b5⟩ := k2
        have b1 : c.2 < w.2 := b1
        have b2 : w.2 ≤ n := b2
        have b4 : w.1.2.length + c.2 ≤ w.2 := b4
        have b5 : 2 * pu w.1.2 + c.2 ≤ w.2 + 1 := b5
        refine ⟨by omega, b2, b3, Or.inr (by rw [k3]; exact a3), by rw [k3]; omega, by rw [k3]; omega, by omega⟩
  unfold bodyS
  by_cases c0 : pk t n p = 33 ∨ pk t n p = 40
  · rw [if_pos c0, if_pos c0]
    refine cond _ ?_
    unfold X11_clause_J127
    rw [if_neg (by decide)]
  · rw [if_neg c0, if_neg c0]
    have e0 : X11_clause_J127 ((90 * q + g : Nat) : Int) 0 (ma μ (sk t n p)) = bd (X11_sum RD (ma μ (sk t n p))) fun v18 μ19 => if (μ19 70 4) = (-1) then (bd (X11_look μ19) fun v61 μ62 => bd (X11_isSign v61 μ62) fun v64 μ65 => if v64 = 0 then (X11_clause_J183 ((90 * q + g : Nat) : Int) 0 μ65) else (bd (X11_compare μ65) fun v52 μ53 => bd (X11_goOnAnd_o (X11_unit RD) μ53) fun v55 μ56 => bd (X11_goOnOr_o (X11_unit RD) μ56) fun v58 μ59 => X11_clause_J183 ((90 * q + g : Nat) : Int) 1 μ59)) else (X11_clause_J183 ((90 * q + g : Nat) : Int) 0 μ19) := by
      unfold X11_clause_J127
      rw [if_pos rfl]
      refine bd_cg (fun v18 μ19 => ?_)
      by_cases d : μ19 70 4 = -1
      · rw [if_pos d, if_pos d]
        refine bd_cg (fun v61 μ62 => bd_cg (fun v64 μ65 => ?_))
        unfold X11_clause_J165 X11_clause_J166
        by_cases d2 : v64 = 0
        · rw [if_pos d2, if_pos d2, if_pos rfl]
        · rw [if_neg d2, if_neg d2, if_neg (by decide)]
      · rw [if_neg d, if_neg d]
        unfold X11_clause_J165 X11_clause_J166
        rw [if_pos rfl]
    rw [e0]
    have hm := sumM hT (q := q) 6 RD (by decide) (by decide) _ _ _ hP0
    have hG := sumS_G (t := t) (n := n) 6 (sk t n p)
    rw [sumS_sk 6 p] at hm hG
    cases hS : sumS t n 6 p with
    | none =>
      rw [hS] at hm
      have hm : FL n q 6 (X11_sum RD (ma μ (sk t n p))) μ i (sk t n p) := hm
      obtain ⟨μ', a, i', k1, k2, k3, k4, k5, k6, k7⟩ := id hm
      show FC n q _ μ
      rw [k1, bd_some, ma_j (by decide), if_neg k4]
      exact J183_F hq hg k2 (fw2_F k3) k4 (by omega) (by rw [k3 70 14 (by unfold wF wKd; omega)]; exact hP.2.2.2.1) (by rw [k3 75 q (by unfold wF wKd; omega)]; exact h75) k6 (by omega) (by rw [k3 76 _ (by unfold wF wKd; omega)]; exact r76)
    | some s =>
      rw [hS] at hm
      have hm : X11_sum RD (ma μ (sk t n p)) = some (0, ma (wrc μ q i s.1) s.2) := hm
      have hs := hG s hle hS
      have hP1 := PM_wrc hP0 hs
      have hge2 := sk_ge (t := t) (n := n) s.2
      have hle2 := sk_le (t := t) (n := n) s.2 hs.2.1
      have hsl := hs.2.2.2.1
      rw [hm, bd_some, ma_j (by decide), if_pos hP1.2.2.1, look_eq hP1.1 (by have := hs.2.1; omega), bd_some, isSign_eq, bd_some]
      dsimp only
      by_cases c : cop (pk t n s.2) = -1
      · rw [if_pos c, if_pos (by rw [if_pos c])]
        have hfc := wrc_fw (q := q) s.1 (μ := μ) (i := i) (by omega)
        have e76 : wrc μ q i s.1 76 (90 * q + g) = (i : Int) := by rw [hfc 76 _ (by unfold wKd; omega)]; exact h76
        have e75 : wrc μ q i s.1 75 q = (g : Int) := by rw [hfc 75 _ (by unfold wKd; omega)]; exact h75
        refine ⟨sk t n s.2, Or.inr rfl, ?_, ?_⟩
        · rw [J183_eq hq hg, if_pos rfl, e76, J250_eq (by rw [sM_a (by decide)]; exact hP1.2.2.2.1) (by rw [sM_a (by decide)]; exact hP1.2.2.2.2.1) (by rw [sM_a (by decide)]; exact e75) hq hg]
          refine ⟨_, rfl, Bm_sM (Bm_sM (Bm_sM hP1.2.1 (show (-2147483648 : Int) ≤ _ ∧ _ ≤ (2147483647 : Int) by omega)) (show (-2147483648 : Int) ≤ _ ∧ _ ≤ (2147483647 : Int) by omega)) (show (0 : Int) ≤ ((g + 1 : Nat) : Int) ∧ ((g + 1 : Nat) : Int) ≤ 90 by omega), fw_sM (fw_sM (fw_sM (fw2_K hfc) (by unfold wF2; omega)) (by unfold wF2; omega)) (by unfold wF2; omega), ?_, ?_, ?_, ?_, ?_, ?_, ?_, ?_⟩
          · rw [sM_a (by decide), sM_a (by decide), sM_a (by decide)]; exact hP1.2.2.1
          · rw [sM_a (by decide), sM_a (by decide), sM_a (by decide)]; exact hP1.2.2.2.2.2.1
          · rw [sM_a (by decide), sM_a (by decide), sM_a (by decide)]; exact hP1.2.2.2.2.1
          · rw [sM_s]
          · rw [sM_a (by decide), sM_a (by decide), sM_a (by decide)]; exact e76
          · rw [sM_a (by decide), sM_a (by decide), sM_s]; rfl
          · rw [sM_a (by decide), sM_s]; rfl
          · have hc1 : hasC (wrc μ q i s.1) q i s.1 := wrc_has s.1 (by omega)
            have ff : fw (wF2 q 340 g) (wrc μ q i s.1) (sM (sM (sM (wrc μ q i s.1) 77 (90 * q + g) (i : Int)) 78 (90 * q + g) ((i + s.1.length : Nat) : Int)) 75 q ((g + 1 : Nat) : Int)) := fw_sM (fw_sM (fw_sM fw_rf (by unfold wF2; omega)) (by unfold wF2; omega)) (by unfold wF2; omega)
            exact hasC_fw (c := s.1) hc1 ff (by omega) (by omega)
        · have h1 := hs.1
          have h5 := hs.2.2.2.2
          have h2 := hs.2.1
          exact ⟨by show p < s.2; omega, h2, hs.2.2.1, Or.inl rfl, by show i + 0 + s.1.length ≤ s.2; omega, by show 0 ≤ 80; omega, by show pu s.1 ≤ 80; omega⟩
      · rw [if_neg c, if_neg (by rw [if_neg c]; decide)]
        refine cond _ ?_
        have hu : X11_unit RD (ma μ (sk t n p)) = X11_compare (ma (wrc μ q i s.1) (sk t n s.2)) := by
          have e1 : X11_unit RD (ma μ (sk t n p)) = bd (X11_sum RD (ma μ (sk t n p))) fun v6 μ7 => if (μ7 70 4) = (-1) then (bd (X11_compare μ7) fun v10 μ11 => some (0, μ11)) else (some (0, μ7)) := by
            show X11_unit (11 + 1) (ma μ (sk t n p)) = _
            rw [X11_unit, look_eq hP.1 (by omega), bd_some, pk_sk, sk_sk, if_neg (fun z => c0 (Or.inl z)), if_neg (fun z => c0 (Or.inr z))]
          rw [e1, hm, bd_some, ma_j (by decide), if_pos hP1.2.2.1]
          have e2 : X11_compare (ma (wrc μ q i s.1) s.2) = X11_compare (ma (wrc μ q i s.1) (sk t n s.2)) := by
            unfold X11_compare
            rw [ma_j (by decide), ma_j (by decide), if_pos hP1.2.2.1, if_pos hP1.2.2.1, look_eq hP1.1 (by have := hs.2.1; omega), look_eq hP1.1 (by omega), bd_some, bd_some, pk_sk, sk_sk]
          rw [e2]
          have hc := cmpRM hT (l := 6) (by decide) (a := s.1) (p := sk t n s.2) hP0 (Gp_end hs hge2 hle2) (fun _ => X11_sum RD) (sumM hT (q := q) 6 RD (by decide) (by decide))
          revert hc
          cases cmpR t n 6 s.1 (sk t n s.2) with
          | none =>
            rintro ⟨μ', a, i', k1, k2⟩
            rw [k1]; rfl
          | some v =>
            intro hc
            have hc : X11_compare (ma (wrc μ q i s.1) (sk t n s.2)) = some (0, ma (wrc μ q i v.1) v.2) := hc
            rw [hc]; rfl
        have assoc : ∀ (x : Rs) (g : Int → Mm → Rs) (k : Int → Mm → Rs), bd (bd x g) k = bd x fun v μ => bd (g v μ) k := by
          intro x g k; cases x <;> rfl
        unfold X11_condition_o
        rw [hu, assoc]
        refine bd_cg (fun v52 μ53 => ?_)
        rw [assoc]
        refine bd_cg (fun v55 μ56 => ?_)
        rw [assoc]
        exact bd_cg (fun v58 μ59 => (bd_some _ _ _).symm)
/-! LAWS, the reference's reader: laws -/
theorem cJ39_F {x : Mm} {l1 : Int} {a : Nat} (hw : x 70 4 ≠ -1) (ha : a < 1000) : X11_clause_J39 l1 (ma x a) = some (0, ma x (a + 2)) := by
  unfold X11_clause_J39 sF
  dsimp only
  rw [ma_3, iA_nat (by omega), ma_ma, ma_j (by decide), if_neg hw]
  unfold X11_clause_J70 sF
  dsimp only
  rw [ma_3, iA_nat (by omega), ma_ma, ma_j (by decide), if_neg hw]
theorem cJ70_F {x : Mm} {l1 : Int} {a : Nat} (hw : x 70 4 ≠ -1) (ha : a < 1000) : X11_clause_J70 l1 (ma x a) = some (0, ma x (a + 1)) := by
  unfold X11_clause_J70 sF
  dsimp only
  rw [ma_3, iA_nat (by omega), ma_ma, ma_j (by decide), if_neg hw]
theorem wF2_76 {q i g : Nat} (hg : g < 90) : wF2 q i g 76 (90 * q + g) := by unfold wF2; omega
theorem clauseM {t : Nat → Int} {n : Nat} (hT : ∀ j, j < n → 1 ≤ t j ∧ t j ≤ 255) {q g i p : Nat} {μ : Mm} (hP : PM t n q 6 μ i p) (h75 : μ 75 q = (g : Int)) (hg : g < 90) : match clS t n p with
      | some w => ∃ p1, (p1 = w.2 ∨ p1 = sk t n w.2) ∧ OC n q i g w.1 p1 (X11_clause (ma μ p)) μ ∧ okW n (p + 2) i w
      | none => FC n q (X11_clause (ma μ p)) μ := by
  obtain ⟨h1, h2, h3, h4, h5, h6, h7, h8, h9, h10⟩ := id hP
  have h160 := h1.1
  have hge := sk_ge (t := t) (n := n) p
  have hle := sk_le (t := t) (n := n) p h8
  have b75 : (0 : Int) ≤ (q : Int) ∧ (q : Int) < ((aN 75 : Nat) : Int) := by show _ ∧ _ < (5 : Int); omega
  have b74 : (0 : Int) ≤ (q : Int) ∧ (q : Int) < ((aN 74 : Nat) : Int) := by show _ ∧ _ < (5 : Int); omega
  have b76 : (0 : Int) ≤ ((90 * q + g : Nat) : Int) ∧ ((90 * q + g : Nat) : Int) < ((aN 76 : Nat) : Int) := by show _ ∧ _ < (450 : Int); omega
  have er : iA (iM 90 (q : Int)) (g : Int) = ((90 * q + g : Nat) : Int) := by
    rw [iM_id (by omega) (by omega), iA_id (by omega) (by omega)]; omega
  have fa : fw (wF2 q i g) μ (sM μ 76 (90 * q + g) (i : Int)) := fw_sM fw_rf (wF2_76 hg)
  have fa0 := fw2_m (i' := 0) (g' := 0) fa (Nat.zero_le _) (Nat.zero_le _)
  have fbad : ∀ s : Nat, s ≤ n → ∀ r : Rs, ∀ a, a ≤ n + 9 → r = some (0, ma (sM μ 70 4 (s : Int)) a) → FC n q r μ := fun s hs r a ha e =>
    ⟨_, a, e, Bm_sM h2 (show (-1 : Int) ≤ (s : Int) ∧ (s : Int) ≤ 1000 by omega), fw_sM fw_rf (by unfold wF2; omega), by rw [sM_s]; omega, ha⟩
  have e0 : X11_clause (ma μ p) = if pk t n p = 121 then X11_clause_J39 ((90 * q + g : Nat) : Int) (ma μ (sk t n p)) else (bd (X11_bad (ma μ (sk t n p))) fun v86 μ87 => X11_clause_J39 ((90 * q + g : Nat) : Int) μ87) := by
    unfold X11_clause ldA lt_
    rw [ma_j (by decide), h4, if_pos b75, Int.toNat_natCast, ma_c (c := 75) (by decide), h75]
    dsimp only
    rw [er, ma_j (by decide), if_pos h3, look_eq h1 (by omega), bd_some]
  unfold clS
  by_cases c1 : pk t n p = 121
  · rw [if_pos c1]
    rw [if_pos c1] at e0
    have hq := pk_ne (t := t) (n := n) (p := p) (by omega)
    have hge2 := sk_ge (t := t) (n := n) (sk t n p + 1)
    have hle2 := sk_le (t := t) (n := n) (sk t n p + 1) (by omega)
    have e1 : X11_clause (ma μ p) = if pk t n (sk t n p + 1) = 58 then X11_clause_J70 ((90 * q + g : Nat) : Int) (ma μ (sk t n (sk t n p + 1))) else (bd (X11_bad (ma μ (sk t n (sk t n p + 1)))) fun v79 μ80 => X11_clause_J70 ((90 * q + g : Nat) : Int) μ80) := by
      rw [e0]
      unfold X11_clause_J39 sF
      dsimp only
      rw [ma_3, iA_nat (by omega), ma_ma, ma_j (by decide), if_pos h3, look_eq h1 (by omega), bd_some]
    by_cases c2 : pk t n (sk t n p + 1) = 58
    · rw [if_pos c2]
      rw [if_pos c2] at e1
      have hq2 := pk_ne (t := t) (n := n) (p := sk t n p + 1) (by omega)
      have hPa : PM t n q 6 (sM μ 76 (90 * q + g) (i : Int)) i (sk t n (sk t n p + 1) + 1) := ⟨Tm_s h1 (fun z => absurd z.1 (by decide)) (by decide), Bm_sM h2 (show (-2147483648 : Int) ≤ (i : Int) ∧ (i : Int) ≤ 2147483647 by omega), by rw [sM_a (by decide)]; exact h3, by rw [sM_a (by decide)]; exact h4, by rw [sM_a (by decide)]; exact h5, by rw [sM_a (by decide)]; exact h6, by omega, by omega, h9, h10⟩
      have hB := bodyM hT hPa (g := g) (by rw [sM_a (by decide)]; exact h75) hg (by rw [sM_s])
      have e2 : X11_clause (ma μ p) = X11_clause_J127 ((90 * q + g : Nat) : Int) (if pk t n (sk t n (sk t n p + 1) + 1) = 33 ∨ pk t n (sk t n (sk t n p + 1) + 1) = 40 then 1 else 0) (ma (sM μ 76 (90 * q + g) (i : Int)) (sk t n (sk t n (sk t n p + 1) + 1))) := by
        rw [e1]
        unfold X11_clause_J70 sF
        dsimp only
        rw [ma_3, iA_nat (by omega), ma_ma, ma_j (by decide), if_pos h3]
        unfold ldA stA
        rw [ma_j (by decide), h4, if_pos b74]
        simp only [Int.toNat_natCast]
        rw [ma_c (by decide), h5, if_pos b76, ma_s (by omega), look_eq hPa.1 (by omega), bd_some]
        unfold X11_clause_J122
        by_cases d1 : pk t n (sk t n (sk t n p + 1) + 1) = 33
        · rw [if_pos d1, if_pos (Or.inl d1)]
        · rw [if_neg d1, look_eq hPa.1 (by have := sk_le (t := t) (n := n) (sk t n (sk t n p + 1) + 1) (by omega); omega), bd_some, pk_sk, sk_sk]
          by_cases d2 : pk t n (sk t n (sk t n p + 1) + 1) = 40
          · rw [if_pos d2, if_pos (Or.inr d2)]
          · rw [if_neg d2, if_neg (fun z => z.elim d1 d2)]
      rw [e2]
      revert hB
      cases bodyS t n (sk t n (sk t n p + 1) + 1) with
      | none => intro hB; exact FC_mono hB fa0
      | some w =>
        rintro ⟨p1, k1, k2, k3⟩
        refine ⟨p1, k1, OC_mono k2 fa, ?_⟩
        obtain ⟨k4, k5⟩ := k3
        exact ⟨by omega, k5⟩
    · rw [if_neg c2]
      rw [if_neg c2, bad_eq h3, bd_some, cJ70_F (by rw [sM_s]; omega) (by omega)] at e1
      exact fbad _ hle2 _ _ (by omega) e1
  · rw [if_neg c1]
    rw [if_neg c1, bad_eq h3, bd_some, cJ39_F (by rw [sM_s]; omega) (by omega)] at e0
    exact fbad _ hle _ _ (by omega) e0
/-- the rows of the clauses from g on, their codes from i on -/
def rowsAt (μ : Mm) (q : Nat) : Nat → Nat → List (Cd × Cd) → Prop
  | g, _, [] => μ 75 q = (g : Int)
  | g, i, x :: L => (μ 76 (90 * q + g) = (i : Int) ∧ μ 77 (90 * q + g) = ((i + x.1.length : Nat) : Int) ∧ μ 78 (90 * q + g) = ((i + x.1.length + x.2.length : Nat) : Int) ∧ hasC μ q i (x.1 ++ x.2) ∧ gd x.2 ∧ (x.1 = [] ∨ gd x.1) ∧ i + x.1.length + x.2.length ≤ 160 ∧ pu x.1 ≤ 80 ∧ pu x.2 ≤ 80 ∧ g < 90) ∧ rowsAt μ q (g + 1) (i + x.1.length + x.2.length) L
def KA : Mm → Rs := fun μ16 => bd (X11_atEnd μ16) fun v17 μ18 => some (v17, μ18)
theorem KA_F {x : Mm} {b : Nat} (hw : x 70 4 ≠ -1) : KA (ma x b) = some (x 70 4, ma x b) := by
  unfold KA
  rw [atEnd_F (by rw [ma_j (by decide)]; exact hw), bd_some, ma_j (by decide)]
theorem lawM_L {t : Nat → Int} {n : Nat} (hT : ∀ j, j < n → 1 ≤ t j ∧ t j ≤ 255) {q : Nat} : ∀ (m fuel g i p : Nat) (μ : Mm), m < fuel → 320 ≤ p + 2 * m → 2 * g ≤ p → PM t n q 6 μ i p → μ 75 q = (g : Int) → match lawL t n m p with
      | none => ∃ f μ' a, (bd (X11_clause (ma μ p)) fun _ μ5 => X11_readLaw_L9 KA fuel μ5) = some (f, ma μ' a) ∧ Bm μ' ∧ fw (wF2 q 0 0) μ μ' ∧ f ≠ -1 ∧ a ≤ n + 9
      | some L => ∃ μ' a, (bd (X11_clause (ma μ p)) fun _ μ5 => X11_readLaw_L9 KA fuel μ5) = some (-1, ma μ' a) ∧ Bm μ' ∧ fw (wF2 q i g) μ μ' ∧ a ≤ n + 9 ∧ rowsAt μ' q g i L := by
  intro m
  induction m with
  | zero => intro fuel g i p μ _ hp _ hP _; have := hP.1.1; have := hP.2.2.2.2.2.2.2.1; omega
  | succ m ih =>
    intro fuel g i p μ hf hp hgp hP h75
    obtain ⟨f, rfl, hf'⟩ := lt_fuel (d := m + 1) hf
    have h160 := hP.1.1
    have hpn := hP.2.2.2.2.2.2.2.1
    have hC := clauseM hT hP h75 (by omega)
    unfold lawL
    revert hC
    cases clS t n p with
    | none =>
      rintro ⟨μ', a, k1, k2, k3, k4, k5⟩
      have : (bd (X11_clause (ma μ p)) fun _ μ5 => X11_readLaw_L9 KA (f + 1) μ5) = some (μ' 70 4, ma μ' a) := by
        rw [k1, bd_some, X11_readLaw_L9, ma_j (by decide), if_neg k4, KA_F k4]
      exact ⟨_, _, _, this, k2, k3, k4, k5⟩
    | some w =>
      rintro ⟨p1, k1, ⟨μ', j1, j2, j3, j4, j45, j5, j6, j7, j8, j9, j10⟩, w1, w2, w3, w4, w5, w6, w7⟩
      have hskw := sk_ge (t := t) (n := n) w.2
      have hskn := sk_le (t := t) (n := n) w.2 w2
      have hpk : pk t n p1 = pk t n w.2 ∧ sk t n p1 = sk t n w.2 ∧ p1 ≤ n := by
        rcases k1 with e | e
        · rw [e]; exact ⟨rfl, rfl, w2⟩
        · rw [e, pk_sk, sk_sk]; exact ⟨rfl, rfl, hskn⟩
      have hT' : Tm t n μ' := ⟨h160, by rw [j3 70 2 (by unfold wF2 wKd; omega)]; exact hP.1.2.1, fun j hj => by rw [j3 71 j (by unfold wF2 wKd; omega)]; exact hP.1.2.2 j hj⟩
      have e0 : (bd (X11_clause (ma μ p)) fun _ μ5 => X11_readLaw_L9 KA (f + 1) μ5) = if pk t n w.2 = 59 then (bd (X11_clause (ma μ' (sk t n w.2 + 1))) fun v13 μ14 => X11_readLaw_L9 KA f μ14) else (KA (ma μ' (sk t n w.2))) := by
        rw [j1, bd_some, X11_readLaw_L9, ma_j (by decide), if_pos j4, look_eq hT' (by omega), bd_some, hpk.1, hpk.2.1]
        by_cases c : pk t n w.2 = 59
        · rw [if_pos c, if_pos c]
          unfold sF
          dsimp only
          rw [ma_3, iA_nat (by omega), ma_ma]
        · rw [if_neg c, if_neg c]
      have row : ∀ μ2 : Mm, fw (wF2 q (i + w.1.1.length + w.1.2.length) (g + 1)) μ' μ2 → (μ2 76 (90 * q + g) = (i : Int) ∧ μ2 77 (90 * q + g) = ((i + w.1.1.length : Nat) : Int) ∧ μ2 78 (90 * q + g) = ((i + w.1.1.length + w.1.2.length : Nat) : Int) ∧ hasC μ2 q i (w.1.1 ++ w.1.2) ∧ gd w.1.2 ∧ (w.1.1 = [] ∨ gd w.1.1) ∧ i + w.1.1.length + w.1.2.length ≤ 160 ∧ pu w.1.1 ≤ 80 ∧ pu w.1.2 ≤ 80 ∧ g < 90) := by
        intro μ2 hf2
        have hl3 : (w.1.1 ++ w.1.2).length = w.1.1.length + w.1.2.length := List.length_append
        refine ⟨by rw [hf2 76 _ (by unfold wF2 wKd; omega)]; exact j7, by rw [hf2 77 _ (by unfold wF2 wKd; omega)]; exact j8, by rw [hf2 78 _ (by unfold wF2 wKd; omega)]; exact j9, hasC_fw j10 hf2 (by omega) (by omega), w3, w4, by omega, w6, w7, by omega⟩
      dsimp only
      rw [e0]
      by_cases c : pk t n w.2 = 59
      · rw [if_pos c, if_pos c]
        have hq2 := pk_ne (t := t) (n := n) (p := w.2) (by omega)
        have hP' : PM t n q 6 μ' (i + w.1.1.length + w.1.2.length) (sk t n w.2 + 1) := by
          refine ⟨hT', j2, j4, by rw [j3 70 14 (by unfold wF2 wKd; omega)]; exact hP.2.2.2.1, j5, j45, by omega, by omega, hP.2.2.2.2.2.2.2.2⟩
        have hI := ih f (g + 1) (i + w.1.1.length + w.1.2.length) (sk t n w.2 + 1) μ' (by omega) (by omega) (by omega) hP' j6
        revert hI
        cases lawL t n m (sk t n w.2 + 1) with
        | none =>
          rintro ⟨f1, μ2, a, l1, l2, l3, l4⟩
          exact ⟨f1, μ2, a, l1, l2, fw_tr (fw2_m j3 (by omega) (by omega)) l3, l4⟩
        | some L =>
          rintro ⟨μ2, a, l1, l2, l3, l4, l5⟩
          exact ⟨μ2, a, l1, l2, fw_tr j3 (fw2_m l3 (by omega) (by omega)), l4, row μ2 l3, l5⟩
      · rw [if_neg c, if_neg c]
        unfold KA
        rw [atEnd_eq hT' (by omega) j4, pk_sk, sk_sk]
        by_cases c2 : pk t n w.2 = -1
        · rw [if_pos c2, if_pos c2, bd_some]
          exact ⟨μ', _, rfl, j2, j3, by omega, row μ' fw_rf, j6⟩
        · rw [if_neg c2, if_neg c2, bd_some]
          exact ⟨_, _, _, rfl, Bm_sM j2 (show (-1 : Int) ≤ _ ∧ _ ≤ (1000 : Int) by omega), fw_sM (fw2_m j3 (by omega) (by omega)) (by unfold wF2; omega), by omega, by omega⟩
theorem rdLawM {t : Nat → Int} {n : Nat} (hT : ∀ j, j < n → 1 ≤ t j ∧ t j ≤ 255) {q : Nat} (hq : q ≤ 4) {μ : Mm} (hB : Bm μ) (h : Tm t n μ) : match lawS t n with
      | none => ∃ f μ' a, X11_readLaw (q : Int) μ = some (f, ma μ' a) ∧ Bm μ' ∧ fw (wF2 q 0 0) (sM μ 70 14 (q : Int)) μ' ∧ f ≠ -1 ∧ a ≤ n + 9
      | some L => ∃ μ' a, X11_readLaw (q : Int) μ = some (-1, ma μ' a) ∧ Bm μ' ∧ fw (wF2 q 0 0) (sM μ 70 14 (q : Int)) μ' ∧ a ≤ n + 9 ∧ rowsAt μ' q 0 0 L := by
  have h160 := h.1
  have b74 : (0 : Int) ≤ (q : Int) ∧ (q : Int) < ((aN 74 : Nat) : Int) := by show _ ∧ _ < (5 : Int); omega
  have b75 : (0 : Int) ≤ (q : Int) ∧ (q : Int) < ((aN 75 : Nat) : Int) := by show _ ∧ _ < (5 : Int); omega
  have hB1 : Bm (sM (sM (sM (sM (sM μ 70 14 (q : Int)) 70 4 (-1)) 70 5 0) 74 q 0) 75 q 0) := Bm_sM (Bm_sM (Bm_sM (Bm_sM (Bm_sM hB (show (0 : Int) ≤ (q : Int) ∧ (q : Int) ≤ 4 by omega)) (by decide)) (by decide)) (show (0 : Int) ≤ 0 ∧ (0 : Int) ≤ 340 by omega)) (show (0 : Int) ≤ 0 ∧ (0 : Int) ≤ 90 by omega)
  have hT1 : Tm t n (sM (sM (sM (sM (sM μ 70 14 (q : Int)) 70 4 (-1)) 70 5 0) 74 q 0) 75 q 0) := Tm_s (Tm_s (Tm_s (Tm_s (Tm_s h (by decide) (by decide)) (by decide) (by decide)) (by decide) (by decide)) (fun z => absurd z.1 (by decide)) (by decide)) (fun z => absurd z.1 (by decide)) (by decide)
  have hP : PM t n q 6 (sM (sM (sM (sM (sM μ 70 14 (q : Int)) 70 4 (-1)) 70 5 0) 74 q 0) 75 q 0) 0 0 := by
    refine ⟨hT1, hB1, ?_, ?_, ?_, ?_, by omega, by omega, hq, by omega⟩
    · rw [sM_a (by decide), sM_a (by decide), sM_j (by decide), sM_s]
    · rw [sM_a (by decide), sM_a (by decide), sM_j (by decide), sM_j (by decide), sM_s]
    · rw [sM_a (by decide), sM_s]; rfl
    · rw [sM_a (by decide), sM_a (by decide), sM_s]; rfl
  have ff : fw (wF2 q 0 0) (sM μ 70 14 (q : Int)) (sM (sM (sM (sM (sM μ 70 14 (q : Int)) 70 4 (-1)) 70 5 0) 74 q 0) 75 q 0) := fw_sM (fw_sM (fw_sM (fw_sM fw_rf (by unfold wF2; omega)) (by unfold wF2; omega)) (by unfold wF2 wKd; omega)) (by unfold wF2; omega)
  have e0 : X11_readLaw (q : Int) μ = bd (X11_clause (ma (sM (sM (sM (sM (sM μ 70 14 (q : Int)) 70 4 (-1)) 70 5 0) 74 q 0) 75 q 0) 0)) fun v4 μ5 => X11_readLaw_L9 KA FU μ5 := by
    unfold X11_readLaw X11_open sF stA
    dsimp only
    rw [if_pos b74, if_pos b75, bd_some, Int.toNat_natCast]
    have : sM (sM μ 70 14 (q : Int)) 70 3 0 = ma (sM μ 70 14 (q : Int)) 0 := rfl
    rw [this, ma_s (by decide), ma_s (by decide), ma_s (by omega), ma_s (by omega)]
    rfl
  have hI := lawM_L hT 160 FU 0 0 0 _ (by decide) (by omega) (by omega) hP (by rw [sM_s]; rfl)
  unfold lawS
  rw [e0]
  revert hI
  cases lawL t n 160 0 with
  | none =>
    rintro ⟨f1, μ2, a, l1, l2, l3, l4⟩
    exact ⟨f1, μ2, a, l1, l2, fw_tr ff l3, l4⟩
  | some L =>
    rintro ⟨μ2, a, l1, l2, l3, l4, l5⟩
    exact ⟨μ2, a, l1, l2, fw_tr ff l3, l4, l5⟩
/-! LAWS worked out, the reference's -/
theorem bounded_eq (x : Int) (μ : Mm) : X11_bounded x μ = some (clm x, μ) := by
  unfold X11_bounded
  have := clm_b x
  show some (wI (clm x), μ) = _
  rw [wI_id (by omega) (by omega)]
theorem lC_0 (a b : Int) : (lC a b = 0 ↔ a = b) ∧ (0 ≤ lC a b ↔ b ≤ a) ∧ (lC a b ≤ 0 ↔ a ≤ b) := by
  unfold lC
  by_cases h1 : b < a
  · rw [if_pos h1]; omega
  · rw [if_neg h1]
    by_cases h2 : a = b
    · rw [if_pos h2]; omega
    · rw [if_neg h2]; omega
theorem worked_eq {o : Int} (ho : 2 ≤ o ∧ o ≤ 11 ∧ o ≠ 9) (a b : Int) (μ : Mm) : X11_worked o a b μ = some (wk o a b, μ) := by
  unfold X11_worked wk
  have hab := lC_0 a b
  have ha0 := lC_0 a 0
  have hb0 := lC_0 b 0
  by_cases h2 : o = 2
  · rw [if_pos h2, if_pos h2, bounded_eq, bd_some]
  · rw [if_neg h2, if_neg h2]
    by_cases h3 : o = 3
    · rw [if_pos h3, if_pos h3, bounded_eq, bd_some]
    · rw [if_neg h3, if_neg h3]
      by_cases h4 : o = 4
      · rw [if_pos h4, if_pos h4, bounded_eq, bd_some]
      · rw [if_neg h4, if_neg h4]
        by_cases h5 : o = 5
        · rw [if_pos h5, if_pos h5]
          by_cases c : b = 0
          · rw [if_pos (hb0.1.mpr c), if_pos c]
          · rw [if_neg (fun z => c (hb0.1.mp z)), if_neg c]
            unfold dZ
            rw [if_neg c, bounded_eq, bd_some]
        · rw [if_neg h5, if_neg h5]
          by_cases h6 : o = 6
          · rw [if_pos h6, if_pos h6]
            by_cases c : a = b
            · rw [if_pos (hab.1.mpr c), if_pos c]
            · rw [if_neg (fun z => c (hab.1.mp z)), if_neg c]
          · rw [if_neg h6, if_neg h6]
            by_cases h7 : o = 7
            · rw [if_pos h7, if_pos h7]
              by_cases c : b ≤ a
              · rw [if_pos (hab.2.1.mpr c), if_neg (by omega)]
              · rw [if_neg (fun z => c (hab.2.1.mp z)), if_pos (by omega)]
            · rw [if_neg h7, if_neg h7]
              by_cases h8 : o = 8
              · rw [if_pos h8, if_pos h8]
                by_cases c : a ≤ b
                · rw [if_pos (hab.2.2.mpr c), if_neg (by omega)]
                · rw [if_neg (fun z => c (hab.2.2.mp z)), if_pos (by omega)]
              · rw [if_neg h8, if_neg h8, if_neg ho.2.2]
                have za : (lC a 0 = 0) = (a = 0) := propext ha0.1
                have zb : (lC b 0 = 0) = (b = 0) := propext hb0.1
                by_cases h10 : o = 10
                · rw [if_pos h10, if_pos h10]
                  by_cases c : a = 0
                  · rw [if_pos (ha0.1.mpr c), if_pos c]
                  · rw [if_neg (fun z => c (ha0.1.mp z)), if_neg c]
                    by_cases c2 : b = 0
                    · rw [if_pos (hb0.1.mpr c2), if_pos c2]
                    · rw [if_neg (fun z => c2 (hb0.1.mp z)), if_neg c2]
                · rw [if_neg h10, if_neg h10]
                  by_cases c : a = 0
                  · rw [if_pos (ha0.1.mpr c), if_pos c]
                    by_cases c2 : b = 0
                    · rw [if_pos (hb0.1.mpr c2), if_pos c2]
                    · rw [if_neg (fun z => c2 (hb0.1.mp z)), if_neg c2]
                  · rw [if_neg (fun z => c (ha0.1.mp z)), if_neg c]
/-- the stack, its top first -/
def stk (μ : Mm) : List Int → Prop
  | [] => True
  | v :: s => μ 80 s.length = v ∧ stk μ s
theorem stk_s {μ : Mm} {k : Nat} {v : Int} : ∀ (s : List Int), s.length ≤ k → stk μ s → stk (sM μ 80 k v) s := by
  intro s
  induction s with
  | nil => intro _ _; trivial
  | cons x s ih =>
    intro h1 h2
    have h1 : s.length + 1 ≤ k := h1
    exact ⟨by rw [sM_j (by omega)]; exact h2.1, ih (by omega) h2.2⟩
def f80 (k _ : Nat) : Prop := k = 80
def r80 (μ : Mm) : Prop := ∀ j, rI (μ 80 j)
theorem r80_s {μ : Mm} (h : r80 μ) {k : Nat} {v : Int} (hv : rI v) : r80 (sM μ 80 k v) := by
  intro j
  rw [sM_if]
  split
  · exact hv
  · exact h j
theorem hasC_t {μ : Mm} {q j : Nat} {x : Int × Int} {c : Cd} (h : hasC μ q j (x :: c)) : (μ 72 (340 * q + j) = x.1 ∧ μ 73 (340 * q + j) = x.2) ∧ hasC μ q (j + 1) c := by
  refine ⟨h 0 (Nat.succ_pos _), fun k hk => ?_⟩
  have := h (k + 1) (Nat.succ_lt_succ hk)
  rw [show 340 * q + (j + 1) + k = 340 * q + j + (k + 1) by omega]
  exact this
theorem hasC_80 {μ : Mm} {q j k : Nat} {v : Int} {c : Cd} (h : hasC μ q j c) : hasC (sM μ 80 k v) q j c := by
  intro i hi
  rw [sM_a (by decide), sM_a (by decide)]
  exact h i hi
theorem e340 {q j : Nat} (hq : q ≤ 4) (hj : j ≤ 340) : iA (iM 340 (q : Int)) (j : Int) = ((340 * q + j : Nat) : Int) := by
  rw [iM_id (by omega) (by omega), iA_id (by omega) (by omega)]; omega
theorem e90 {q j : Nat} (hq : q ≤ 4) (hj : j ≤ 340) : iA (iM 90 (q : Int)) (j : Int) = ((90 * q + j : Nat) : Int) := by
  rw [iM_id (by omega) (by omega), iA_id (by omega) (by omega)]; omega
theorem ei1 (b : Int) (s1 : List Int) (h : s1.length ≤ 100) : iS (((b :: s1).length : Nat) : Int) 1 = (s1.length : Int) := by
  have hl : (b :: s1).length = s1.length + 1 := rfl
  rw [hl, iS_id (by omega) (by omega)]; omega
theorem ei2 (a b : Int) (s2 : List Int) (h : s2.length ≤ 100) : iA (((b :: a :: s2).length : Nat) : Int) (-1) = ((s2.length + 1 : Nat) : Int) := by
  have hl : (b :: a :: s2).length = s2.length + 2 := rfl
  rw [hl, iA_id (by omega) (by omega)]; omega
theorem ei3 {k : Nat} (h : k ≤ 100) : iS ((k + 1 : Nat) : Int) 1 = (k : Int) := by
  rw [iS_id (by omega) (by omega)]; omega
theorem ej340 {q j : Nat} (hq : q ≤ 4) (hj : j ≤ 340) : iA ((340 * q + j : Nat) : Int) 1 = ((340 * q + (j + 1) : Nat) : Int) := by
  rw [iA_nat (by omega)]; rfl
theorem work_L {q : Nat} (hq : q ≤ 4) {e : Nat → Int} : ∀ (c : Cd) (fuel j : Nat) (μ : Mm) (s : List Int), c.length < fuel → j + c.length ≤ 200 → hasC μ q j c → (∀ i, μ 79 i = e i) → (∀ i, rI (e i)) → stk μ s → s.length ≤ 80 → hOK c s.length → (∀ x, x ∈ c → okx x) → r80 μ → ∃ μ', X11_workOut_L12 (q : Int) ((j + c.length : Nat) : Int) fuel (s.length : Int) ((340 * q + j : Nat) : Int) μ = some (μ' 80 0, μ') ∧ fw f80 μ μ' ∧ r80 μ' ∧ stk μ' (ev e c s) := by
  intro c
  induction c with
  | nil =>
    intro fuel j μ s hf hj _ _ _ hs _ _ _ hr
    obtain ⟨f, rfl, -⟩ := lt_fuel hf
    refine ⟨μ, ?_, fw_rf, hr, hs⟩
    have hj : j + 0 ≤ 200 := hj
    show X11_workOut_L12 (q : Int) ((j : Nat) : Int) (f + 1) (s.length : Int) ((340 * q + j : Nat) : Int) μ = _
    rw [X11_workOut_L12, e340 hq (by omega), if_pos (by omega)]
    rfl
  | cons x c ih =>
    intro fuel j μ s hf hj hc he hre hs hs80 hh hx hr
    have hf : c.length + 1 < fuel := hf
    have hj : j + (c.length + 1) ≤ 200 := hj
    obtain ⟨f, rfl, hf'⟩ := lt_fuel (d := c.length + 1) hf
    obtain ⟨⟨hc1, hc2⟩, hc3⟩ := hasC_t hc
    have hxx := hx x (List.mem_cons_self ..)
    have hx' : ∀ y, y ∈ c → okx y := fun y hy => hx y (List.mem_cons_of_mem _ hy)
    have b72 : (0 : Int) ≤ ((340 * q + j : Nat) : Int) ∧ ((340 * q + j : Nat) : Int) < ((aN 72 : Nat) : Int) := by show _ ∧ _ < (1700 : Int); omega
    have b73 : (0 : Int) ≤ ((340 * q + j : Nat) : Int) ∧ ((340 * q + j : Nat) : Int) < ((aN 73 : Nat) : Int) := by show _ ∧ _ < (1700 : Int); omega
    have l72 : ∀ g : Int → Rs, ldA μ 72 ((340 * q + j : Nat) : Int) g = g x.1 := fun g => by
      unfold ldA; rw [if_pos b72, Int.toNat_natCast, hc1]
    have l73 : ∀ g : Int → Rs, ldA μ 73 ((340 * q + j : Nat) : Int) g = g x.2 := fun g => by
      unfold ldA; rw [if_pos b73, Int.toNat_natCast, hc2]
    have l80 : ∀ (k : Nat) (g : Int → Rs), k < 80 → ldA μ 80 (k : Int) g = g (μ 80 k) := fun k g hk => by
      unfold ldA; rw [if_pos (by show (0 : Int) ≤ (k : Int) ∧ (k : Int) < 80; omega), Int.toNat_natCast]
    have t80 : ∀ (k : Nat) (v : Int) (g : Mm → Rs), k < 80 → stA μ 80 (k : Int) v g = g (sM μ 80 k v) := fun k v g hk => by
      unfold stA; rw [if_pos (by show (0 : Int) ≤ (k : Int) ∧ (k : Int) < 80; omega), Int.toNat_natCast]
    have hq4 := hq
    have hj340 : j ≤ 340 := by omega
    have eend : ((j + (c.length + 1) : Nat) : Int) = ((j + 1 + c.length : Nat) : Int) := by omega
    have next : ∀ (k : Nat) (v : Int) (s' : List Int), s'.length + 0 = k → s'.length + 1 ≤ 80 → stk μ s' → rI v → hOK c (k + 1) → ev e (x :: c) s = ev e c (v :: s') → ∃ μ', X11_workOut_L12 (q : Int) ((j + (c.length + 1) : Nat) : Int) f ((k + 1 : Nat) : Int) ((340 * q + (j + 1) : Nat) : Int) (sM μ 80 k v) = some (μ' 80 0, μ') ∧ fw f80 μ μ' ∧ r80 μ' ∧ stk μ' (ev e (x :: c) s) := by
      intro k v s' hk hs' hst hv hok hev
      have hlen : (v :: s').length = k + 1 := by show s'.length + 1 = k + 1; omega
      obtain ⟨μ', g1, g2, g3, g4⟩ := ih f (j + 1) (sM μ 80 k v) (v :: s') (by omega) (by omega) (hasC_80 hc3) (fun i => by rw [sM_a (by decide)]; exact he i) hre ⟨by rw [show s'.length = k by omega, sM_s], stk_s s' (by omega) hst⟩ (by rw [hlen]; omega) (by rw [hlen]; exact hok) hx' (r80_s hr hv)
      rw [hlen, ← eend] at g1
      exact ⟨μ', g1, fw_tr (fw_sM fw_rf rfl) g2, g3, by rw [hev]; exact g4⟩
    show ∃ μ', X11_workOut_L12 (q : Int) ((j + (c.length + 1) : Nat) : Int) (f + 1) (s.length : Int) ((340 * q + j : Nat) : Int) μ = _ ∧ _
    rw [X11_workOut_L12, e340 hq (by omega), if_neg (by omega), l72, l72]
    have hh : if x.1 = 0 ∨ x.1 = 1 then s.length < 80 ∧ hOK c (s.length + 1) else if x.1 = 9 then 1 ≤ s.length ∧ hOK c s.length else 2 ≤ s.length ∧ hOK c (s.length - 1) := hh
    by_cases d0 : x.1 = 0
    · rw [if_pos (Or.inl d0)] at hh
      rw [if_pos d0]
      unfold X11_workOut_J45
      rw [l72, if_pos d0, l73, t80 s.length x.2 _ hh.1, iA_nat (by omega), ej340 hq4 hj340]
      refine next s.length x.2 s rfl (by omega) hs ?_ hh.2 ?_
      · unfold okx at hxx; exact ⟨by omega, by omega⟩
      · show ev e c (ev1 e x s) = _
        unfold ev1
        rw [if_pos d0]
    · rw [if_neg d0]
      by_cases d1 : x.1 = 1
      · rw [if_pos (Or.inr d1)] at hh
        have hi : 0 ≤ x.2 ∧ x.2 ≤ 4 := by unfold okx at hxx; omega
        rw [if_pos d1]
        unfold X11_workOut_J45
        have l79 : ∀ g : Int → Rs, ldA μ 79 x.2 g = g (e x.2.toNat) := fun g => by
          unfold ldA; rw [if_pos (by show (0 : Int) ≤ x.2 ∧ x.2 < 5; omega), he]
        rw [l72, if_neg d0, l73, l79, t80 s.length _ _ hh.1, iA_nat (by omega), ej340 hq4 hj340]
        refine next s.length _ s rfl (by omega) hs (hre _) hh.2 ?_
        show ev e c (ev1 e x s) = _
        unfold ev1
        rw [if_neg d0, if_pos d1]
      · rw [if_neg (fun z => z.elim d0 d1)] at hh
        rw [if_neg d1, l72]
        by_cases d9 : x.1 = 9
        · rw [if_pos d9] at hh
          rw [if_pos d9]
          cases s with
          | nil => exact absurd hh.1 (by decide)
          | cons b s1 =>
            have hl : (b :: s1).length = s1.length + 1 := rfl
            rw [ei1 b s1 (by omega), l80 s1.length _ (by omega), hs.1, t80 s1.length _ _ (by omega), ej340 hq4 hj340]
            have := next s1.length (iS 1 b) s1 rfl (by omega) hs.2 (wI_r _) hh.2 (by
              show ev e c (ev1 e x (b :: s1)) = _
              unfold ev1
              rw [if_neg d0, if_neg d1]
              show ev e c (if x.1 = 9 then _ else _) = _
              rw [if_pos d9]
              rfl)
            exact this
        · rw [if_neg d9] at hh
          rw [if_neg d9, l72]
          cases s with
          | nil => exact absurd hh.1 (by decide)
          | cons b s1 =>
            cases s1 with
            | nil => exact absurd hh.1 (by show ¬ (2 ≤ 1); decide)
            | cons a s2 =>
              have hl : (b :: a :: s2).length = s2.length + 2 := rfl
              have hb : μ 80 (s2.length + 1) = b := hs.1
              have ho : 2 ≤ x.1 ∧ x.1 ≤ 11 ∧ x.1 ≠ 9 := by unfold okx at hxx; omega
              rw [ei2 a b s2 (by omega), ei3 (by omega), l80 s2.length _ (by omega), l80 (s2.length + 1) _ (by omega), hb, hs.2.1, worked_eq ho, bd_some, t80 s2.length _ _ (by omega), ej340 hq4 hj340]
              have hw := wk_b x.1 a b
              exact next s2.length (wk x.1 a b) s2 rfl (by omega) hs.2.2 ⟨by omega, by omega⟩ (by rw [hl] at hh; exact hh.2) (by
                show ev e c (ev1 e x (b :: a :: s2)) = _
                unfold ev1
                rw [if_neg d0, if_neg d1]
                show ev e c (if x.1 = 9 then _ else _) = _
                rw [if_neg d9])
theorem wo_unf {q : Nat} (hq : q ≤ 4) {j : Nat} (hj : j ≤ 340) {l3 : Int} {μ : Mm} {r : Rs} (h : X11_workOut_L12 (q : Int) l3 FU 0 ((340 * q + j : Nat) : Int) μ = r) : X11_workOut (q : Int) (j : Int) l3 μ = r := by
  have e : ∀ l1 l2, X11_workOut l1 l2 l3 μ = X11_workOut_L12 l1 l3 FU 0 (iA (iM 340 l1) l2) μ := fun l1 l2 => by
    unfold X11_workOut lt_
    rfl
  rw [e, e340 hq hj]
  exact h
theorem work_eq {q : Nat} (hq : q ≤ 4) {c : Cd} {j : Nat} {μ : Mm} (hj : j + c.length ≤ 200) (hc : hasC μ q j c) (hg : gd c) (hp : pu c ≤ 80) (h79 : ∀ i, rI (μ 79 i)) (hr : r80 μ) : ∃ μ', X11_workOut (q : Int) (j : Int) ((j + c.length : Nat) : Int) μ = some (vl (μ 79) c, μ') ∧ fw f80 μ μ' ∧ r80 μ' ∧ rI (vl (μ 79) c) := by
  have hj' : j ≤ 340 := by omega
  have hcl : c.length < FU := by show c.length < 1000000; omega
  have hp0 : 0 + pu c ≤ 80 := by omega
  have hok : hOK c 0 := by
    have := hg.2.1 [] 0 hp0 trivial
    rw [List.append_nil] at this
    exact this
  have W := work_L hq (e := μ 79) c FU j μ [] hcl hj hc (fun i => rfl) h79 trivial (by decide) hok hg.2.2.2.1 hr
  rw [hg.1] at W
  obtain ⟨μ', g1, g2, g3, g4⟩ := W
  refine ⟨μ', ?_, g2, g3, ?_⟩
  · have hv : vl (μ 79) c = μ' 80 0 := g4.1.symm
    rw [hv]
    exact wo_unf hq hj' g1
  · have hv : vl (μ 79) c = μ' 80 0 := g4.1.symm
    rw [hv]; exact g3 0
theorem rows_75 {μ : Mm} {q : Nat} : ∀ (L : List (Cd × Cd)) (g i : Nat), rowsAt μ q g i L → μ 75 q = ((g + L.length : Nat) : Int) ∧ (L.length = 0 ∨ g + L.length ≤ 90) := by
  intro L
  induction L with
  | nil => intro g i h; exact ⟨h, Or.inl rfl⟩
  | cons x L ih =>
    intro g i h
    have := ih _ _ h.2
    have hg := h.1.2.2.2.2.2.2.2.2.2
    have hl : (x :: L).length = L.length + 1 := rfl
    rw [hl]
    refine ⟨by rw [this.1]; omega, Or.inr (by omega)⟩
theorem rows_80 {μ μ' : Mm} {q : Nat} (hf : fw f80 μ μ') : ∀ (L : List (Cd × Cd)) (g i : Nat), rowsAt μ q g i L → rowsAt μ' q g i L := by
  have e : ∀ k j, k ≠ 80 → μ' k j = μ k j := fun k j h => hf k j h
  intro L
  induction L with
  | nil => intro g i h; show μ' 75 q = _; rw [e 75 q (by decide)]; exact h
  | cons x L ih =>
    intro g i h
    obtain ⟨⟨h1, h2, h3, h4, h5⟩, h6⟩ := h
    exact ⟨⟨by rw [e _ _ (by decide)]; exact h1, by rw [e _ _ (by decide)]; exact h2, by rw [e _ _ (by decide)]; exact h3, fun k hk => by rw [e _ _ (by decide), e _ _ (by decide)]; exact h4 k hk, h5⟩, ih _ _ h6⟩
theorem worth_L {q : Nat} (hq : q ≤ 4) {e : Nat → Int} (he : ∀ i, rI (e i)) : ∀ (L : List (Cd × Cd)) (fuel g i : Nat) (μ : Mm), L.length < fuel → g + L.length ≤ 90 → rowsAt μ q g i L → (∀ i, μ 79 i = e i) → r80 μ → ∃ μ', X11_worthOf_L5 (q : Int) (fun v17 μ18 => X11_worthOf_J55 (q : Int) v17 μ18) fuel ((90 * q + g : Nat) : Int) μ = some (lawV e L, μ') ∧ fw f80 μ μ' ∧ r80 μ' ∧ rI (lawV e L) := by
  intro L
  induction L with
  | nil =>
    intro fuel g i μ hf hg hR h79 hr
    obtain ⟨f, rfl, -⟩ := lt_fuel hf
    have b75 : (0 : Int) ≤ (q : Int) ∧ (q : Int) < ((aN 75 : Nat) : Int) := by show _ ∧ _ < (5 : Int); omega
    have h75 : μ 75 q = (g : Int) := hR
    refine ⟨μ, ?_, fw_rf, hr, by show rI 0; exact ⟨by decide, by decide⟩⟩
    rw [X11_worthOf_L5]
    unfold ldA
    have hg : g + 0 ≤ 90 := hg
    rw [if_pos b75]
    simp only [Int.toNat_natCast]
    rw [h75, e90 hq (by omega), if_pos (by omega)]
    rfl
  | cons x L ih =>
    intro fuel g i μ hf hg hR h79 hr
    have hf : L.length + 1 < fuel := hf
    have hg : g + (L.length + 1) ≤ 90 := hg
    obtain ⟨f, rfl, hf'⟩ := lt_fuel (d := L.length + 1) hf
    have h75 := (rows_75 _ _ _ hR).1
    have hl : (x :: L).length = L.length + 1 := rfl
    rw [hl] at h75
    obtain ⟨⟨r1, r2, r3, r4, r5, r6, r7, r8, r9, r10⟩, hR2⟩ := hR
    have b75 : (0 : Int) ≤ (q : Int) ∧ (q : Int) < ((aN 75 : Nat) : Int) := by show _ ∧ _ < (5 : Int); omega
    have bg : ∀ a, a = 76 ∨ a = 77 ∨ a = 78 → (0 : Int) ≤ ((90 * q + g : Nat) : Int) ∧ ((90 * q + g : Nat) : Int) < ((aN a : Nat) : Int) := by
      rintro a (rfl | rfl | rfl) <;> (show _ ∧ _ < (450 : Int)) <;> omega
    have ld : ∀ (ν : Mm) (a : Nat) (k : Int → Rs), (a = 76 ∨ a = 77 ∨ a = 78) → ldA ν a ((90 * q + g : Nat) : Int) k = k (ν a (90 * q + g)) := fun ν a k ha => by
      unfold ldA; rw [if_pos (bg a ha), Int.toNat_natCast]
    have hv : ∀ ν : Mm, fw f80 μ ν → r80 ν → ∃ μ', X11_worthOf_J55 (q : Int) ((90 * q + g : Nat) : Int) ν = some (vl e x.2, μ') ∧ fw f80 ν μ' ∧ r80 μ' ∧ rI (vl e x.2) := by
      intro ν hfν hrν
      have e79 : ν 79 = e := by funext i; rw [hfν 79 i (by unfold f80; decide)]; exact h79 i
      have hcν : hasC ν q (i + x.1.length) x.2 := by
        intro k hk
        have := r4 (x.1.length + k) (by rw [List.length_append]; omega)
        have e2 : (x.1 ++ x.2).getD (x.1.length + k) (0, 0) = x.2.getD k (0, 0) := by
          rw [List.getD_eq_getElem?_getD, List.getD_eq_getElem?_getD, List.getElem?_append_right (by omega)]
          congr 2; omega
        rw [e2, show 340 * q + i + (x.1.length + k) = 340 * q + (i + x.1.length) + k by omega] at this
        rw [hfν 72 _ (by unfold f80; decide), hfν 73 _ (by unfold f80; decide)]
        exact this
      obtain ⟨μ', g1, g2, g3, g4⟩ := work_eq hq (by omega) hcν r5 r9 (by rw [e79]; exact he) hrν
      rw [e79] at g1 g4
      refine ⟨μ', ?_, g2, g3, g4⟩
      unfold X11_worthOf_J55
      rw [ld ν 77 _ (by decide), ld ν 78 _ (by decide), hfν 77 _ (by unfold f80; decide), hfν 78 _ (by unfold f80; decide), r2, r3, g1, bd_some]
    have e1 : X11_worthOf_L5 (q : Int) (fun v17 μ18 => X11_worthOf_J55 (q : Int) v17 μ18) (f + 1) ((90 * q + g : Nat) : Int) μ = if (i : Int) = ((i + x.1.length : Nat) : Int) then X11_worthOf_J55 (q : Int) ((90 * q + g : Nat) : Int) μ else bd (X11_workOut (q : Int) (i : Int) ((i + x.1.length : Nat) : Int) μ) fun v13 μ14 => if v13 = 0 then (X11_worthOf_L5 (q : Int) (fun v17 μ18 => X11_worthOf_J55 (q : Int) v17 μ18) f (iA ((90 * q + g : Nat) : Int) 1) μ14) else (X11_worthOf_J55 (q : Int) ((90 * q + g : Nat) : Int) μ14) := by
      have l75 : ∀ k : Int → Rs, ldA μ 75 (q : Int) k = k ((g + (L.length + 1) : Nat) : Int) := fun k => by
        unfold ldA; rw [if_pos b75, Int.toNat_natCast, h75]
      rw [X11_worthOf_L5, l75, e90 hq (by omega), if_neg (by omega), ld μ 76 _ (by decide), ld μ 77 _ (by decide), ld μ 76 _ (by decide), ld μ 77 _ (by decide), r1, r2]
    show ∃ μ', _ = some (if x.1 = [] then vl e x.2 else if vl e x.1 = 0 then lawV e L else vl e x.2, μ') ∧ _ ∧ _ ∧ rI (if x.1 = [] then vl e x.2 else if vl e x.1 = 0 then lawV e L else vl e x.2)
    rw [e1]
    by_cases c : x.1 = []
    · rw [if_pos c, if_pos (by rw [c]; rfl)]
      exact hv μ fw_rf hr
    · have hlen : 1 ≤ x.1.length := by
        cases h : x.1 with
        | nil => exact absurd h c
        | cons y z => exact Nat.succ_pos _
      rw [if_neg c, if_neg (by omega)]
      have hc1 : hasC μ q i x.1 := by
        intro k hk
        have := r4 k (by rw [List.length_append]; omega)
        have e2 : (x.1 ++ x.2).getD k (0, 0) = x.1.getD k (0, 0) := by
          rw [List.getD_eq_getElem?_getD, List.getD_eq_getElem?_getD, List.getElem?_append_left hk]
        rw [e2] at this
        exact this
      have e79 : μ 79 = e := by funext i; exact h79 i
      obtain ⟨μ1, g1, g2, g3, g4⟩ := work_eq hq (by omega) hc1 (r6.resolve_left c) r8 (by rw [e79]; exact he) hr
      rw [e79] at g1
      rw [g1, bd_some]
      by_cases c2 : vl e x.1 = 0
      · rw [if_pos c2, if_pos c2, iA_nat (by omega)]
        obtain ⟨μ2, k1, k2, k3, k4⟩ := ih f (g + 1) _ μ1 (by omega) (by omega) (rows_80 g2 _ _ _ hR2) (fun i => by rw [g2 79 i (by unfold f80; decide)]; exact h79 i) g3
        exact ⟨μ2, k1, fw_tr g2 k2, k3, k4⟩
      · rw [if_neg c2, if_neg c2]
        obtain ⟨μ2, k1, k2, k3, k4⟩ := hv μ1 g2 g3
        exact ⟨μ2, k1, fw_tr g2 k2, k3, k4⟩
/-- a LAW that was read, worked out for five letters -/
theorem worthM {q : Nat} (hq : q ≤ 4) {L : List (Cd × Cd)} {μ : Mm} (hB : Bm μ) (hR : rowsAt μ q 0 0 L) : ∃ μ', X11_worthOf (q : Int) μ = some (lawV (μ 79) L, μ') ∧ fw f80 μ μ' ∧ r80 μ' ∧ rI (lawV (μ 79) L) := by
  have h := rows_75 _ _ _ hR
  have e1 : iM 90 (q : Int) = ((90 * q + 0 : Nat) : Int) := by rw [iM_id (by omega) (by omega)]; omega
  unfold X11_worthOf
  rw [e1]
  exact worth_L hq (fun i => hB 79 i (by decide)) L FU 0 0 μ (by show L.length < 1000000; omega) (by omega) hR (fun i => rfl) (fun j => hB 80 j (by decide))
theorem rows_agr {μ ν : Mm} {q : Nat} (ha : agr (q : Int) ν μ) : ∀ (L : List (Cd × Cd)) (g i : Nat), rowsAt μ q g i L → rowsAt ν q g i L := by
  obtain ⟨a1, a2, a3⟩ := ha
  rw [Int.toNat_natCast] at a2
  intro L
  induction L with
  | nil => intro g i h; show ν 75 q = _; rw [a2]; exact h
  | cons x L ih =>
    intro g i h
    obtain ⟨⟨h1, h2, h3, h4, h5, h6, h7, h8, h9, h10⟩, h11⟩ := h
    have r := a3 (90 * q + g) (by omega) (by omega)
    refine ⟨⟨by rw [r.1]; exact h1, by rw [r.2.1]; exact h2, by rw [r.2.2]; exact h3, fun k hk => ?_, h5, h6, h7, h8, h9, h10⟩, ih _ _ h11⟩
    have hk2 : k < x.1.length + x.2.length := by rw [← List.length_append]; exact hk
    have r1 := a1 (340 * q + i + k) (by omega) (by omega)
    rw [r1.1, r1.2]
    exact h4 k hk
theorem LawOK_rows {μ : Mm} {q : Nat} (hq : q ≤ 4) {L : List (Cd × Cd)} (hR : rowsAt μ q 0 0 L) : LawOK μ (q : Int) := by
  intro ν hB ha
  obtain ⟨ν', g1, g2, g3, g4⟩ := worthM hq hB (rows_agr ha _ _ _ hR)
  rw [g1, wp_some]
  exact ⟨g2, g3, g4⟩
/-! WHAT IS KEPT, in both systems alike -/
theorem St_rf {W : Nat → Nat → Prop} {μ : Mm} (h : Bx μ) : St W μ μ := ⟨h, fw_rf⟩
def cnt (P : Int → Bool) (f : Nat → Int) : Nat → Int
  | 0 => 0
  | n + 1 => cnt P f n + (if P (f n) then 1 else 0)
theorem cnt_congr {P : Int → Bool} {f g : Nat → Int} : ∀ n, (∀ j, j < n → f j = g j) → cnt P f n = cnt P g n := by
  intro n
  induction n with
  | zero => intro _; rfl
  | succ n ih =>
    intro h
    show cnt P f n + _ = cnt P g n + _
    rw [ih (fun j hj => h j (by omega)), h n (by omega)]
def isX (x : Int) : Bool := decide (x ≠ -1)
def is1 (x : Int) : Bool := decide (x = 1)
def Tp (μ : Mm) : Prop := ∃ n : Nat, n ≤ 160 ∧ μ 1 1 = (n : Int) ∧ μ 70 2 = (n : Int) ∧ ∀ j, j < n → μ 2 j = μ 71 j ∧ 1 ≤ μ 71 j ∧ μ 71 j ≤ 255
def Pl (μ : Mm) : Prop := ∃ m : Nat, m ≤ 5 ∧ μ 0 15 = (m : Int) ∧ μ 70 28 = (m : Int) ∧ ∀ p, p < m → ∃ L : List (Int × Int), 1 ≤ L.length ∧ L.length ≤ 8 ∧ hasP μ (18 + 3 * p) 0 L ∧ hasM μ p 0 L
def Lw (μ : Mm) : Prop := ∃ m : Nat, m ≤ 4 ∧ μ 0 16 = (m : Int) ∧ μ 70 13 = (m : Int) ∧ ∀ q, q < m → ∃ (n : Nat) (L : List (Cd × Cd)), n ≤ 160 ∧ μ (37 + 2 * q) 1 = (n : Int) ∧ (∀ j, j < n → 1 ≤ μ (38 + 2 * q) j ∧ μ (38 + 2 * q) j ≤ 255) ∧ lawS (μ (38 + 2 * q)) n = some L ∧ rowsAt μ q 0 0 L
/-- a CELLAR of the class and its places, WINDS, STOOP, NIGHT in the reference -/
def Kc (μ : Mm) (l0 A W s g : Nat) : Prop := (∀ p, p < 60 → (isP μ p → μ (l0 + 1) p = μ A p) ∧ (¬ isP μ p → μ (l0 + 1) p = -1)) ∧ (∀ p, p < 60 → ((isP μ p ∧ μ A p = 2) ↔ μ l0 3 = ((p : Nat) : Int))) ∧ (∀ c, c < 8 → ∀ p, p < 60 → ((isP μ p ∧ μ A p = 3 + ((c : Nat) : Int)) ↔ μ (l0 + 2) c = ((p : Nat) : Int))) ∧ (∀ c, c < 8 → -1 ≤ μ (l0 + 2) c ∧ μ (l0 + 2) c ≤ 59) ∧ (μ l0 4 ≤ 0 ↔ μ 70 23 = 0) ∧ μ l0 5 = cnt isX (μ (l0 + 2)) 8 ∧ μ l0 6 = cnt is1 (μ (l0 + 1)) 60 ∧ μ l0 7 = μ 70 s ∧ μ l0 8 = μ 70 g ∧ (μ 70 23 ≠ 0 → ∀ c, c < 8 → μ (l0 + 3) c = μ W c)
def Im (μ : Mm) : Prop := (μ 9 4 ≤ 0 ↔ μ 70 53 = 0) ∧ (μ 70 53 ≠ 0 → Kc μ 9 96 97 51 52 ∧ μ 9 4 = μ 5 4)
def Th (μ : Mm) : Prop := ∃ n : Nat, n ≤ 10 ∧ μ 67 2 = (n : Int) ∧ μ 70 45 = (n : Int) ∧ ∀ j, j < n → μ 68 j = μ 93 j ∧ μ 69 j = μ 94 j
def Inv (μ : Mm) : Prop := Bx μ ∧ Ir μ ∧ Tp μ ∧ Pl μ ∧ Lw μ ∧ Kc μ 5 82 86 30 31 ∧ μ 0 17 = μ 70 32 ∧ Im μ ∧ Th μ
/-! the cells that each speaks of -/
theorem Tp_congr {μ ν : Mm} (h : Tp μ) (e1 : ν 1 1 = μ 1 1) (e2 : ∀ j, ν 2 j = μ 2 j) (e3 : ν 70 2 = μ 70 2) (e4 : ∀ j, ν 71 j = μ 71 j) : Tp ν := by
  obtain ⟨n, h1, h2, h3, h4⟩ := h
  exact ⟨n, h1, by rw [e1]; exact h2, by rw [e3]; exact h3, fun j hj => by rw [e2, e4]; exact h4 j hj⟩
theorem Pl_congr {μ ν : Mm} (h : Pl μ) (e1 : ν 0 15 = μ 0 15) (e2 : ∀ k j, 18 ≤ k → k ≤ 32 → ν k j = μ k j) (e3 : ν 70 28 = μ 70 28) (e4 : ∀ j, j < 40 → ν 83 j = μ 83 j ∧ ν 84 j = μ 84 j) (e5 : ∀ j, j < 5 → ν 85 j = μ 85 j) : Pl ν := by
  obtain ⟨m, h1, h2, h3, h4⟩ := h
  refine ⟨m, h1, by rw [e1]; exact h2, by rw [e3]; exact h3, fun p hp => ?_⟩
  obtain ⟨L, l1, l2, l3, l4⟩ := h4 p hp
  refine ⟨L, l1, l2, ⟨by rw [e2 _ _ (by omega) (by omega)]; exact l3.1, fun i hi => ?_⟩, ⟨by rw [e5 _ (by omega)]; exact l4.1, fun i hi => ?_⟩⟩
  · rw [e2 _ _ (by omega) (by omega), e2 _ _ (by omega) (by omega)]; exact l3.2 i hi
  · rw [(e4 _ (by omega)).1, (e4 _ (by omega)).2]; exact l4.2 i hi
theorem rows_congr {μ ν : Mm} {q : Nat} (hq : q < 4) (e1 : ∀ j, j < 1360 → ν 72 j = μ 72 j ∧ ν 73 j = μ 73 j) (e2 : ∀ j, j < 4 → ν 75 j = μ 75 j) (e3 : ∀ j, j < 360 → ν 76 j = μ 76 j ∧ ν 77 j = μ 77 j ∧ ν 78 j = μ 78 j) : ∀ (L : List (Cd × Cd)) (g i : Nat), rowsAt μ q g i L → rowsAt ν q g i L := by
  intro L
  induction L with
  | nil => intro g i h; show ν 75 q = _; rw [e2 q hq]; exact h
  | cons x L ih =>
    intro g i h
    obtain ⟨⟨h1, h2, h3, h4, h5, h6, h7, h8, h9, h10⟩, h11⟩ := h
    have r := e3 (90 * q + g) (by omega)
    refine ⟨⟨by rw [r.1]; exact h1, by rw [r.2.1]; exact h2, by rw [r.2.2]; exact h3, fun k hk => ?_, h5, h6, h7, h8, h9, h10⟩, ih _ _ h11⟩
    have hk2 : k < x.1.length + x.2.length := by rw [← List.length_append]; exact hk
    have r1 := e1 (340 * q + i + k) (by omega)
    rw [r1.1, r1.2]
    exact h4 k hk
theorem lawS_congr {t t' : Nat → Int} {n : Nat} (h : ∀ j, t j = t' j) : lawS t n = lawS t' n := by
  have : t = t' := funext h
  rw [this]
theorem Lw_congr {μ ν : Mm} (h : Lw μ) (e0 : ν 0 16 = μ 0 16) (e4 : ν 70 13 = μ 70 13) (e5 : ∀ k j, 37 ≤ k → k ≤ 44 → ν k j = μ k j) (e1 : ∀ j, j < 1360 → ν 72 j = μ 72 j ∧ ν 73 j = μ 73 j) (e2 : ∀ j, j < 4 → ν 75 j = μ 75 j) (e3 : ∀ j, j < 360 → ν 76 j = μ 76 j ∧ ν 77 j = μ 77 j ∧ ν 78 j = μ 78 j) : Lw ν := by
  obtain ⟨m, h1, h2, h3, h4⟩ := h
  refine ⟨m, h1, by rw [e0]; exact h2, by rw [e4]; exact h3, fun q hq => ?_⟩
  obtain ⟨n, L, l1, l2, l3, l4, l5⟩ := h4 q hq
  have eb : ∀ j, ν (38 + 2 * q) j = μ (38 + 2 * q) j := fun j => e5 _ j (by omega) (by omega)
  exact ⟨n, L, l1, by rw [e5 _ _ (by omega) (by omega)]; exact l2, fun j hj => by rw [eb]; exact l3 j hj, by rw [lawS_congr eb]; exact l4, rows_congr (by omega) e1 e2 e3 _ _ _ l5⟩
theorem Kc_congr {μ ν : Mm} {l0 A W s g : Nat} (h : Kc μ l0 A W s g) (e0 : ∀ j, 3 ≤ j → j ≤ 8 → ν l0 j = μ l0 j) (e1 : ∀ j, ν (l0 + 1) j = μ (l0 + 1) j) (e2 : ∀ j, ν (l0 + 2) j = μ (l0 + 2) j) (e3 : ∀ j, ν (l0 + 3) j = μ (l0 + 3) j) (eA : ∀ j, ν A j = μ A j) (eW : ∀ j, ν W j = μ W j) (es : ν 70 s = μ 70 s) (eg : ν 70 g = μ 70 g) (e23 : ν 70 23 = μ 70 23) (e24 : ν 70 24 = μ 70 24) : Kc ν l0 A W s g := by
  obtain ⟨h1, h2, h3, h4, h5, h6, h7, h8, h9, h10⟩ := h
  have i : ∀ p, isP ν p ↔ isP μ p := isP_congr e23 e24
  refine ⟨fun p hp => ?_, fun p hp => ?_, fun c hc p hp => ?_, fun c hc => by rw [e2]; exact h4 c hc, by rw [e0 4 (by decide) (by decide), e23]; exact h5, ?_, ?_, by rw [e0 7 (by decide) (by decide), es]; exact h8, by rw [e0 8 (by decide) (by decide), eg]; exact h9, fun z c hc => by rw [e3, eW]; rw [e23] at z; exact h10 z c hc⟩
  · rw [i p, e1, eA]; exact h1 p hp
  · rw [i p, eA, e0 3 (by decide) (by decide)]; exact h2 p hp
  · rw [i p, eA, e2]; exact h3 c hc p hp
  · rw [e0 5 (by decide) (by decide), h6]; exact (cnt_congr 8 (fun j _ => e2 j)).symm
  · rw [e0 6 (by decide) (by decide), h7]; exact (cnt_congr 60 (fun j _ => e1 j)).symm
theorem Th_congr {μ ν : Mm} (h : Th μ) (e1 : ν 67 2 = μ 67 2) (e2 : ν 70 45 = μ 70 45) (e3 : ∀ j, ν 68 j = μ 68 j ∧ ν 69 j = μ 69 j ∧ ν 93 j = μ 93 j ∧ ν 94 j = μ 94 j) : Th ν := by
  obtain ⟨n, h1, h2, h3, h4⟩ := h
  refine ⟨n, h1, by rw [e1]; exact h2, by rw [e2]; exact h3, fun j hj => ?_⟩
  obtain ⟨k1, k2, k3, k4⟩ := e3 j
  rw [k1, k2, k3, k4]
  exact h4 j hj
theorem Im_congr {μ ν : Mm} (h : Im μ) (e9 : ∀ k j, 9 ≤ k → k ≤ 12 → ν k j = μ k j) (e5 : ν 5 4 = μ 5 4) (eA : ∀ j, ν 96 j = μ 96 j) (eW : ∀ j, ν 97 j = μ 97 j) (es : ν 70 51 = μ 70 51) (eg : ν 70 52 = μ 70 52) (e53 : ν 70 53 = μ 70 53) (e23 : ν 70 23 = μ 70 23) (e24 : ν 70 24 = μ 70 24) : Im ν := by
  refine ⟨by rw [e9 9 4 (by decide) (by decide), e53]; exact h.1, fun h2 => ?_⟩
  rw [e53] at h2
  obtain ⟨k1, k2⟩ := h.2 h2
  exact ⟨Kc_congr k1 (fun j _ _ => e9 9 j (by decide) (by decide)) (fun j => e9 10 j (by decide) (by decide)) (fun j => e9 11 j (by decide) (by decide)) (fun j => e9 12 j (by decide) (by decide)) eA eW es eg e23 e24, by rw [e9 9 4 (by decide) (by decide), e5]; exact k2⟩
/-- the cells that are kept -/
def kep (k j : Nat) : Prop := (k = 0 ∧ 15 ≤ j) ∨ (k = 1 ∧ j = 1) ∨ k = 2 ∨ (5 ≤ k ∧ k ≤ 12) ∨ (18 ≤ k ∧ k ≤ 32) ∨ (37 ≤ k ∧ k ≤ 44) ∨ (k = 67 ∧ j = 2) ∨ k = 68 ∨ k = 69 ∨ (k = 70 ∧ (j = 2 ∨ j = 13 ∨ j = 23 ∨ j = 24 ∨ j = 28 ∨ j = 30 ∨ j = 31 ∨ j = 32 ∨ j = 45 ∨ j = 51 ∨ j = 52 ∨ j = 53)) ∨ k = 71 ∨ ((k = 72 ∨ k = 73) ∧ j < 1360) ∨ (k = 75 ∧ j < 4) ∨ (76 ≤ k ∧ k ≤ 78 ∧ j < 360) ∨ k = 82 ∨ ((k = 83 ∨ k = 84) ∧ j < 40) ∨ (k = 85 ∧ j < 5) ∨ k = 86 ∨ k = 93 ∨ k = 94 ∨ k = 96 ∨ k = 97
theorem Inv_congr {μ ν : Mm} (hI : Inv μ) (hB : Bx ν) (hM : Ir ν) (e : ∀ k j, kep k j → ν k j = μ k j) : Inv ν := by
  obtain ⟨_, _, h3, h4, h5, h6, h7, h8, h9⟩ := hI
  have s : ∀ j, (j = 2 ∨ j = 13 ∨ j = 23 ∨ j = 24 ∨ j = 28 ∨ j = 30 ∨ j = 31 ∨ j = 32 ∨ j = 45 ∨ j = 51 ∨ j = 52 ∨ j = 53) → ν 70 j = μ 70 j := fun j hj => e 70 j (Or.inr (Or.inr (Or.inr (Or.inr (Or.inr (Or.inr (Or.inr (Or.inr (Or.inr (Or.inl (⟨rfl, hj⟩)))))))))))
  have w : ∀ k j, 5 ≤ k → k ≤ 12 → ν k j = μ k j := fun k j h1 h2 => e k j (Or.inr (Or.inr (Or.inr (Or.inl (⟨h1, h2⟩)))))
  refine ⟨hB, hM, Tp_congr h3 (e 1 1 (Or.inr (Or.inl (⟨rfl, rfl⟩)))) (fun j => e 2 j (Or.inr (Or.inr (Or.inl (rfl))))) (s 2 (by decide)) (fun j => e 71 j (Or.inr (Or.inr (Or.inr (Or.inr (Or.inr (Or.inr (Or.inr (Or.inr (Or.inr (Or.inr (Or.inl (rfl))))))))))))), ?_, ?_, ?_, ?_, ?_, ?_⟩
  · exact Pl_congr h4 (e 0 15 (Or.inl (⟨rfl, by decide⟩))) (fun k j h1 h2 => e k j (Or.inr (Or.inr (Or.inr (Or.inr (Or.inl (⟨h1, h2⟩))))))) (s 28 (by decide)) (fun j hj => ⟨e 83 j (Or.inr (Or.inr (Or.inr (Or.inr (Or.inr (Or.inr (Or.inr (Or.inr (Or.inr (Or.inr (Or.inr (Or.inr (Or.inr (Or.inr (Or.inr (Or.inl (⟨Or.inl rfl, hj⟩))))))))))))))))), e 84 j (Or.inr (Or.inr (Or.inr (Or.inr (Or.inr (Or.inr (Or.inr (Or.inr (Or.inr (Or.inr (Or.inr (Or.inr (Or.inr (Or.inr (Or.inr (Or.inl (⟨Or.inr rfl, hj⟩)))))))))))))))))⟩) (fun j hj => e 85 j (Or.inr (Or.inr (Or.inr (Or.inr (Or.inr (Or.inr (Or.inr (Or.inr (Or.inr (Or.inr (Or.inr (Or.inr (Or.inr (Or.inr (Or.inr (Or.inr (Or.inl (⟨rfl, hj⟩)))))))))))))))))))
  · exact Lw_congr h5 (e 0 16 (Or.inl (⟨rfl, by decide⟩))) (s 13 (by decide)) (fun k j h1 h2 => e k j (Or.inr (Or.inr (Or.inr (Or.inr (Or.inr (Or.inl (⟨h1, h2⟩)))))))) (fun j hj => ⟨e 72 j (Or.inr (Or.inr (Or.inr (Or.inr (Or.inr (Or.inr (Or.inr (Or.inr (Or.inr (Or.inr (Or.inr (Or.inl (⟨Or.inl rfl, hj⟩))))))))))))), e 73 j (Or.inr (Or.inr (Or.inr (Or.inr (Or.inr (Or.inr (Or.inr (Or.inr (Or.inr (Or.inr (Or.inr (Or.inl (⟨Or.inr rfl, hj⟩)))))))))))))⟩) (fun j hj => e 75 j (Or.inr (Or.inr (Or.inr (Or.inr (Or.inr (Or.inr (Or.inr (Or.inr (Or.inr (Or.inr (Or.inr (Or.inr (Or.inl (⟨rfl, hj⟩))))))))))))))) (fun j hj => ⟨e 76 j (Or.inr (Or.inr (Or.inr (Or.inr (Or.inr (Or.inr (Or.inr (Or.inr (Or.inr (Or.inr (Or.inr (Or.inr (Or.inr (Or.inl (⟨by decide, by decide, hj⟩))))))))))))))), e 77 j (Or.inr (Or.inr (Or.inr (Or.inr (Or.inr (Or.inr (Or.inr (Or.inr (Or.inr (Or.inr (Or.inr (Or.inr (Or.inr (Or.inl (⟨by decide, by decide, hj⟩))))))))))))))), e 78 j (Or.inr (Or.inr (Or.inr (Or.inr (Or.inr (Or.inr (Or.inr (Or.inr (Or.inr (Or.inr (Or.inr (Or.inr (Or.inr (Or.inl (⟨by decide, by decide, hj⟩)))))))))))))))⟩)
  · exact Kc_congr h6 (fun j _ _ => w 5 j (by decide) (by decide)) (fun j => w 6 j (by decide) (by decide)) (fun j => w 7 j (by decide) (by decide)) (fun j => w 8 j (by decide) (by decide)) (fun j => e 82 j (Or.inr (Or.inr (Or.inr (Or.inr (Or.inr (Or.inr (Or.inr (Or.inr (Or.inr (Or.inr (Or.inr (Or.inr (Or.inr (Or.inr (Or.inl (rfl))))))))))))))))) (fun j => e 86 j (Or.inr (Or.inr (Or.inr (Or.inr (Or.inr (Or.inr (Or.inr (Or.inr (Or.inr (Or.inr (Or.inr (Or.inr (Or.inr (Or.inr (Or.inr (Or.inr (Or.inr (Or.inl (rfl)))))))))))))))))))) (s 30 (by decide)) (s 31 (by decide)) (s 23 (by decide)) (s 24 (by decide))
  · rw [e 0 17 (Or.inl (⟨rfl, by decide⟩)), s 32 (by decide)]; exact h7
  · exact Im_congr h8 (fun k j h1 h2 => w k j (by omega) h2) (w 5 4 (by decide) (by decide)) (fun j => e 96 j (Or.inr (Or.inr (Or.inr (Or.inr (Or.inr (Or.inr (Or.inr (Or.inr (Or.inr (Or.inr (Or.inr (Or.inr (Or.inr (Or.inr (Or.inr (Or.inr (Or.inr (Or.inr (Or.inr (Or.inr (Or.inl (rfl))))))))))))))))))))))) (fun j => e 97 j (Or.inr (Or.inr (Or.inr (Or.inr (Or.inr (Or.inr (Or.inr (Or.inr (Or.inr (Or.inr (Or.inr (Or.inr (Or.inr (Or.inr (Or.inr (Or.inr (Or.inr (Or.inr (Or.inr (Or.inr (Or.inr (rfl))))))))))))))))))))))) (s 51 (by decide)) (s 52 (by decide)) (s 53 (by decide)) (s 23 (by decide)) (s 24 (by decide))
  · exact Th_congr h9 (e 67 2 (Or.inr (Or.inr (Or.inr (Or.inr (Or.inr (Or.inr (Or.inl (⟨rfl, rfl⟩))))))))) (s 45 (by decide)) (fun j => ⟨e 68 j (Or.inr (Or.inr (Or.inr (Or.inr (Or.inr (Or.inr (Or.inr (Or.inl (rfl))))))))), e 69 j (Or.inr (Or.inr (Or.inr (Or.inr (Or.inr (Or.inr (Or.inr (Or.inr (Or.inl (rfl)))))))))), e 93 j (Or.inr (Or.inr (Or.inr (Or.inr (Or.inr (Or.inr (Or.inr (Or.inr (Or.inr (Or.inr (Or.inr (Or.inr (Or.inr (Or.inr (Or.inr (Or.inr (Or.inr (Or.inr (Or.inl (rfl)))))))))))))))))))), e 94 j (Or.inr (Or.inr (Or.inr (Or.inr (Or.inr (Or.inr (Or.inr (Or.inr (Or.inr (Or.inr (Or.inr (Or.inr (Or.inr (Or.inr (Or.inr (Or.inr (Or.inr (Or.inr (Or.inr (Or.inl (rfl)))))))))))))))))))))⟩)
theorem kep_scr {k j : Nat} (h : kep k j) : ¬ scr k j := by unfold kep at h; unfold scr; omega
theorem kep_scrM {k j : Nat} (h : kep k j) : ¬ scrM k j := by unfold kep at h; unfold scrM; omega
theorem Inv_St {μ μ1 : Mm} (hI : Inv μ) (g : St scr μ μ1) : Inv μ1 := by
  have e70 : ∀ k j, 70 ≤ k → μ1 k j = μ k j := fun k j h => g.2 k j (by unfold scr; omega)
  have hB : Bm μ1 := fun k j h => by rw [e70 k j h]; exact hI.2.1.1 k j h
  exact Inv_congr hI g.1 (Ir_congr hI.2.1 hB (fun k j h => e70 k j (by unfold perI at h; omega))) (fun k j h => g.2 k j (kep_scr h))
theorem scrM_lo {k j : Nat} (h : k < 70) : ¬ scrM k j := by unfold scrM; omega
theorem Bx_congr {μ ν : Mm} (h : Bx μ) (e : ∀ k j, k < 70 → ν k j = μ k j) : Bx ν := by
  obtain ⟨h1, h2, h3, h4⟩ := h
  refine ⟨fun k j hk => by rw [e k j hk]; exact h1 k j hk, ?_, ?_, ?_⟩
  · rw [e 3 0 (by decide)]; exact h2
  · rw [e 62 4 (by decide)]; exact h3
  · rw [e 67 3 (by decide)]; exact h4
theorem Inv_Sm {μ μ1 : Mm} (hI : Inv μ) (g : Sm μ μ1) : Inv μ1 :=
  Inv_congr hI (Bx_congr hI.1 (fun k j h => g.2 k j (scrM_lo h))) (Ir_of hI.2.1 g) (fun k j h => g.2 k j (kep_scrM h))
theorem t_X11_out {μs : Mm} {l1 : Int} (hI : Ir μs) (hp_l1 : -2147483648 ≤ l1 ∧ l1 ≤ 2147483647) {μ : Mm} (hS : Sm μs μ) : wp (X11_out l1 μ) (fun r μ' => Sm μs μ' ∧ (-2147483648 ≤ r ∧ r ≤ 2147483647) ∧ True) := by
  have hIμ := Ir_of hI hS
  unfold X11_out
  obtain ⟨r, e1, hc⟩ := isCr (μ := μ) hp_l1
  rw [e1, bd_some]
  rcases hc with ⟨hc, _⟩ | ⟨hc, h1, h2, p, hp, ip, ep⟩
  · rw [if_pos hc, wp_some]
    exact ⟨hS, ⟨by decide, by decide⟩, trivial⟩
  · rw [if_neg (by omega)]
    have e3 : iA 3 l1 = 3 + l1 := iA_id (by omega) (by omega)
    rw [e3, plc_at hIμ.2.2.2.2.2.2.1 hp ip ep (by omega), bd_some]
    refine wp_call (t_X11_spread (l1 := (p : Int)) hI (by omega) hS) (fun v m hh => ?_)
    obtain ⟨hm, _, _⟩ := hh
    have hIm := Ir_of hI hm
    have h23 : m 70 23 ≠ 0 := by
      have e : m 70 23 = μ 70 23 := by rw [eqS hm (by unfold scrM; omega), eqS hS (by unfold scrM; omega)]
      have := ip.1
      rw [e]; omega
    obtain ⟨s, hs, is, es⟩ := hIm.2.2.1 h23
    rw [plc_at hIm.2.2.2.2.2.2.1 hs is es (by decide), bd_some, wp_ldA]
    refine ⟨by show (0 : Int) ≤ (s : Int) ∧ (s : Int) < 60; omega, ?_⟩
    rw [wp_some]
    exact ⟨hm, hm.1 87 _ (by decide), trivial⟩
/-! THE QUESTIONS leave what is kept -/
theorem q_at : ∀ a0, rI a0 → sD Inv Inv (X10_at a0) (X11_at a0) := by
  intro a0 h0
  intro μ hI
  have t1 := t_X10_at (W := scr) (μs := μ) (hp_l1 := h0) (St_rf hI.1)
  have t2 := t_X11_at (μs := μ) (hp_l1 := h0) (Sm_rf hI.2.1.1)
  obtain ⟨r, μ1, e1, g1, _⟩ := wp_ex t1
  obtain ⟨r2, μ2, e2, g2, _⟩ := wp_ex t2
  subst g1
  subst g2
  exact ⟨r, _, r2, _, e1, e2, hI⟩
theorem q_way : ∀ a0, rI a0 → ∀ a1, rI a1 → sD Inv Inv (X10_way a0 a1) (X11_way a0 a1) := by
  intro a0 h0 a1 h1
  intro μ hI
  have t1 := t_X10_way (W := scr) (μs := μ) (hW := fun _ _ h => h) (hp_l1 := h0) (hp_l2 := h1) (St_rf hI.1)
  obtain ⟨r, μ1, e1, g1, _⟩ := wp_ex t1
  have hI1 := Inv_St hI g1
  have t2 := t_X11_way (μs := μ1) (hI := hI1.2.1) (hp_l1 := h0) (hp_l2 := h1) (Sm_rf hI1.2.1.1)
  obtain ⟨r2, μ2, e2, g2, _⟩ := wp_ex t2
  exact ⟨r, μ1, r2, μ2, e1, e2, Inv_Sm hI1 g2⟩
theorem q_cue : ∀ a0, rI a0 → ∀ a1, rI a1 → ∀ a2, rI a2 → sD Inv Inv (X10_cue a0 a1 a2) (X11_cue a0 a1 a2) := by
  intro a0 h0 a1 h1 a2 h2
  intro μ hI
  have t1 := t_X10_cue (W := scr) (μs := μ) (hW := fun _ _ h => h) (hp_l1 := h0) (hp_l2 := h1) (hp_l3 := h2) (St_rf hI.1)
  obtain ⟨r, μ1, e1, g1, _⟩ := wp_ex t1
  have hI1 := Inv_St hI g1
  have t2 := t_X11_cue (μs := μ1) (hI := hI1.2.1) (hp_l1 := h0) (hp_l2 := h1) (hp_l3 := h2) (Sm_rf hI1.2.1.1)
  obtain ⟨r2, μ2, e2, g2, _⟩ := wp_ex t2
  exact ⟨r, μ1, r2, μ2, e1, e2, Inv_Sm hI1 g2⟩
theorem q_order : ∀ a0, rI a0 → ∀ a1, rI a1 → ∀ a2, rI a2 → sD Inv Inv (X10_order a0 a1 a2) (X11_order a0 a1 a2) := by
  intro a0 h0 a1 h1 a2 h2
  intro μ hI
  have t1 := t_X10_order (W := scr) (μs := μ) (hW := fun _ _ h => h) (hp_l1 := h0) (hp_l2 := h1) (hp_l3 := h2) (St_rf hI.1)
  obtain ⟨r, μ1, e1, g1, _⟩ := wp_ex t1
  have hI1 := Inv_St hI g1
  have t2 := t_X11_order (μs := μ1) (hI := hI1.2.1) (hp_l1 := h0) (hp_l2 := h1) (hp_l3 := h2) (Sm_rf hI1.2.1.1)
  obtain ⟨r2, μ2, e2, g2, _⟩ := wp_ex t2
  exact ⟨r, μ1, r2, μ2, e1, e2, Inv_Sm hI1 g2⟩
theorem q_done : ∀ a0, rI a0 → ∀ a1, rI a1 → ∀ a2, rI a2 → ∀ a3, rI a3 → sD Inv Inv (X10_done a0 a1 a2 a3) (X11_done a0 a1 a2 a3) := by
  intro a0 h0 a1 h1 a2 h2 a3 h3
  intro μ hI
  have t1 := t_X10_done (W := scr) (μs := μ) (hW := fun _ _ h => h) (hp_l1 := h0) (hp_l2 := h1) (hp_l3 := h2) (hp_l4 := h3) (St_rf hI.1)
  obtain ⟨r, μ1, e1, g1, _⟩ := wp_ex t1
  have hI1 := Inv_St hI g1
  have t2 := t_X11_done (μs := μ1) (hI := hI1.2.1) (hp_l1 := h0) (hp_l2 := h1) (hp_l3 := h2) (hp_l4 := h3) (Sm_rf hI1.2.1.1)
  obtain ⟨r2, μ2, e2, g2, _⟩ := wp_ex t2
  exact ⟨r, μ1, r2, μ2, e1, e2, Inv_Sm hI1 g2⟩
theorem q_where : ∀ a0, rI a0 → ∀ a1, rI a1 → ∀ a2, rI a2 → sD Inv Inv (X10_where a0 a1 a2) (X11_where a0 a1 a2) := by
  intro a0 h0 a1 h1 a2 h2
  intro μ hI
  have t1 := t_X10_where (W := scr) (μs := μ) (hW := fun _ _ h => h) (hp_l1 := h0) (hp_l2 := h1) (hp_l3 := h2) (St_rf hI.1)
  obtain ⟨r, μ1, e1, g1, _⟩ := wp_ex t1
  have hI1 := Inv_St hI g1
  have t2 := t_X11_where (μs := μ1) (hI := hI1.2.1) (hp_l1 := h0) (hp_l2 := h1) (hp_l3 := h2) (Sm_rf hI1.2.1.1)
  obtain ⟨r2, μ2, e2, g2, _⟩ := wp_ex t2
  exact ⟨r, μ1, r2, μ2, e1, e2, Inv_Sm hI1 g2⟩
theorem q_best : ∀ a0, rI a0 → ∀ a1, rI a1 → ∀ a2, rI a2 → sD Inv Inv (X10_best a0 a1 a2) (X11_best a0 a1 a2) := by
  intro a0 h0 a1 h1 a2 h2
  intro μ hI
  have t1 := t_X10_best (W := scr) (μs := μ) (hW := fun _ _ h => h) (hp_l1 := h0) (hp_l2 := h1) (hp_l3 := h2) (St_rf hI.1)
  obtain ⟨r, μ1, e1, g1, _⟩ := wp_ex t1
  have hI1 := Inv_St hI g1
  have t2 := t_X11_best (μs := μ1) (hI := hI1.2.1) (hp_l1 := h0) (hp_l2 := h1) (hp_l3 := h2) (Sm_rf hI1.2.1.1)
  obtain ⟨r2, μ2, e2, g2, _⟩ := wp_ex t2
  exact ⟨r, μ1, r2, μ2, e1, e2, Inv_Sm hI1 g2⟩
theorem q_met : ∀ a0, rI a0 → ∀ a1, rI a1 → sD Inv Inv (X10_met a0 a1) (X11_met a0 a1) := by
  intro a0 h0 a1 h1
  intro μ hI
  have t1 := t_X10_met (W := scr) (μs := μ) (hW := fun _ _ h => h) (hp_l1 := h0) (hp_l2 := h1) (St_rf hI.1)
  obtain ⟨r, μ1, e1, g1, _⟩ := wp_ex t1
  have hI1 := Inv_St hI g1
  have t2 := t_X11_met (μs := μ1) (hI := hI1.2.1) (hp_l1 := h0) (hp_l2 := h1) (Sm_rf hI1.2.1.1)
  obtain ⟨r2, μ2, e2, g2, _⟩ := wp_ex t2
  exact ⟨r, μ1, r2, μ2, e1, e2, Inv_Sm hI1 g2⟩
theorem q_knot : ∀ a0, rI a0 → sD Inv Inv (X10_knot a0) (X11_knot a0) := by
  intro a0 h0
  intro μ hI
  have t1 := t_X10_knot (W := scr) (μs := μ) (hW := fun _ _ h => h) (hp_l1 := h0) (St_rf hI.1)
  obtain ⟨r, μ1, e1, g1, _⟩ := wp_ex t1
  have hI1 := Inv_St hI g1
  have t2 := t_X11_knot (μs := μ1) (hI := hI1.2.1) (hp_l1 := h0) (Sm_rf hI1.2.1.1)
  obtain ⟨r2, μ2, e2, g2, _⟩ := wp_ex t2
  exact ⟨r, μ1, r2, μ2, e1, e2, Inv_Sm hI1 g2⟩
theorem q_age : ∀ a0, rI a0 → sD Inv Inv (X10_age a0) (X11_age a0) := by
  intro a0 h0
  intro μ hI
  have t1 := t_X10_age (W := scr) (μs := μ) (hW := fun _ _ h => h) (hp_l1 := h0) (St_rf hI.1)
  obtain ⟨r, μ1, e1, g1, _⟩ := wp_ex t1
  have hI1 := Inv_St hI g1
  have t2 := t_X11_age (μs := μ1) (hI := hI1.2.1) (hp_l1 := h0) (Sm_rf hI1.2.1.1)
  obtain ⟨r2, μ2, e2, g2, _⟩ := wp_ex t2
  exact ⟨r, μ1, r2, μ2, e1, e2, Inv_Sm hI1 g2⟩
theorem q_first : sD Inv Inv (X10_first) (X11_first) := by
  intro μ hI
  have t1 := t_X10_first (W := scr) (μs := μ) (hW := fun _ _ h => h) (St_rf hI.1)
  obtain ⟨r, μ1, e1, g1, _⟩ := wp_ex t1
  have hI1 := Inv_St hI g1
  have t2 := t_X11_first (μs := μ1) (hI := hI1.2.1) (Sm_rf hI1.2.1.1)
  obtain ⟨r2, μ2, e2, g2, _⟩ := wp_ex t2
  exact ⟨r, μ1, r2, μ2, e1, e2, Inv_Sm hI1 g2⟩
theorem q_post : ∀ a0, rI a0 → ∀ a1, rI a1 → sD Inv Inv (X10_post a0 a1) (X11_post a0 a1) := by
  intro a0 h0 a1 h1
  intro μ hI
  have t1 := t_X10_post (W := scr) (μs := μ) (hW := fun _ _ h => h) (hp_l1 := h0) (hp_l2 := h1) (St_rf hI.1)
  obtain ⟨r, μ1, e1, g1, _⟩ := wp_ex t1
  have hI1 := Inv_St hI g1
  have t2 := t_X11_post (μs := μ1) (hI := hI1.2.1) (hp_l1 := h0) (hp_l2 := h1) (Sm_rf hI1.2.1.1)
  obtain ⟨r2, μ2, e2, g2, _⟩ := wp_ex t2
  exact ⟨r, μ1, r2, μ2, e1, e2, Inv_Sm hI1 g2⟩
theorem q_rope : ∀ a0, rI a0 → ∀ a1, rI a1 → sD Inv Inv (X10_rope a0 a1) (X11_rope a0 a1) := by
  intro a0 h0 a1 h1
  intro μ hI
  have t1 := t_X10_rope (W := scr) (μs := μ) (hW := fun _ _ h => h) (hp_l1 := h0) (hp_l2 := h1) (St_rf hI.1)
  obtain ⟨r, μ1, e1, g1, _⟩ := wp_ex t1
  have hI1 := Inv_St hI g1
  have t2 := t_X11_rope (μs := μ1) (hI := hI1.2.1) (hp_l1 := h0) (hp_l2 := h1) (Sm_rf hI1.2.1.1)
  obtain ⟨r2, μ2, e2, g2, _⟩ := wp_ex t2
  exact ⟨r, μ1, r2, μ2, e1, e2, Inv_Sm hI1 g2⟩
theorem q_exchange : ∀ a0, rI a0 → ∀ a1, rI a1 → ∀ a2, rI a2 → sD Inv Inv (X10_exchange a0 a1 a2) (X11_exchange a0 a1 a2) := by
  intro a0 h0 a1 h1 a2 h2
  intro μ hI
  have t1 := t_X10_exchange (W := scr) (μs := μ) (hW := fun _ _ h => h) (hp_l1 := h0) (hp_l2 := h1) (hp_l3 := h2) (St_rf hI.1)
  obtain ⟨r, μ1, e1, g1, _⟩ := wp_ex t1
  have hI1 := Inv_St hI g1
  have t2 := t_X11_exchange (μs := μ1) (hI := hI1.2.1) (hp_l1 := h0) (hp_l2 := h1) (hp_l3 := h2) (Sm_rf hI1.2.1.1)
  obtain ⟨r2, μ2, e2, g2, _⟩ := wp_ex t2
  exact ⟨r, μ1, r2, μ2, e1, e2, Inv_Sm hI1 g2⟩
theorem q_skip : ∀ a0, rI a0 → ∀ a1, rI a1 → ∀ a2, rI a2 → sD Inv Inv (X10_skip a0 a1 a2) (X11_skip a0 a1 a2) := by
  intro a0 h0 a1 h1 a2 h2
  intro μ hI
  have t1 := t_X10_skip (W := scr) (μs := μ) (hW := fun _ _ h => h) (hp_l1 := h0) (hp_l2 := h1) (hp_l3 := h2) (St_rf hI.1)
  obtain ⟨r, μ1, e1, g1, _⟩ := wp_ex t1
  have hI1 := Inv_St hI g1
  have t2 := t_X11_skip (μs := μ1) (hI := hI1.2.1) (hp_l1 := h0) (hp_l2 := h1) (hp_l3 := h2) (Sm_rf hI1.2.1.1)
  obtain ⟨r2, μ2, e2, g2, _⟩ := wp_ex t2
  exact ⟨r, μ1, r2, μ2, e1, e2, Inv_Sm hI1 g2⟩
theorem q_nights : ∀ a0, rI a0 → ∀ a1, rI a1 → ∀ a2, rI a2 → sD Inv Inv (X10_nights a0 a1 a2) (X11_nights a0 a1 a2) := by
  intro a0 h0 a1 h1 a2 h2
  intro μ hI
  have t1 := t_X10_nights (W := scr) (μs := μ) (hW := fun _ _ h => h) (hp_l1 := h0) (hp_l2 := h1) (hp_l3 := h2) (St_rf hI.1)
  obtain ⟨r, μ1, e1, g1, _⟩ := wp_ex t1
  have hI1 := Inv_St hI g1
  have t2 := t_X11_nights (μs := μ1) (hI := hI1.2.1) (hp_l1 := h0) (hp_l2 := h1) (hp_l3 := h2) (Sm_rf hI1.2.1.1)
  obtain ⟨r2, μ2, e2, g2, _⟩ := wp_ex t2
  exact ⟨r, μ1, r2, μ2, e1, e2, Inv_Sm hI1 g2⟩
theorem q_fit : ∀ a0, rI a0 → ∀ a1, rI a1 → sD Inv Inv (X10_fit a0 a1) (X11_fit a0 a1) := by
  intro a0 h0 a1 h1
  intro μ hI
  have t1 := t_X10_fit (W := scr) (μs := μ) (hW := fun _ _ h => h) (hp_l1 := h0) (hp_l2 := h1) (St_rf hI.1)
  obtain ⟨r, μ1, e1, g1, _⟩ := wp_ex t1
  have hI1 := Inv_St hI g1
  have t2 := t_X11_fit (μs := μ1) (hI := hI1.2.1) (hp_l1 := h0) (hp_l2 := h1) (Sm_rf hI1.2.1.1)
  obtain ⟨r2, μ2, e2, g2, _⟩ := wp_ex t2
  exact ⟨r, μ1, r2, μ2, e1, e2, Inv_Sm hI1 g2⟩
theorem q_boy : ∀ a0, rI a0 → ∀ a1, rI a1 → ∀ a2, rI a2 → ∀ a3, rI a3 → sD Inv Inv (X10_boy a0 a1 a2 a3) (X11_boy a0 a1 a2 a3) := by
  intro a0 h0 a1 h1 a2 h2 a3 h3
  intro μ hI
  have t1 := t_X10_boy (W := scr) (μs := μ) (hW := fun _ _ h => h) (hp_l1 := h0) (hp_l2 := h1) (hp_l3 := h2) (hp_l4 := h3) (St_rf hI.1)
  obtain ⟨r, μ1, e1, g1, _⟩ := wp_ex t1
  have hI1 := Inv_St hI g1
  have t2 := t_X11_boy (μs := μ1) (hI := hI1.2.1) (hp_l1 := h0) (hp_l2 := h1) (hp_l3 := h2) (hp_l4 := h3) (Sm_rf hI1.2.1.1)
  obtain ⟨r2, μ2, e2, g2, _⟩ := wp_ex t2
  exact ⟨r, μ1, r2, μ2, e1, e2, Inv_Sm hI1 g2⟩
theorem q_out : ∀ a0, rI a0 → sD Inv Inv (X10_out a0) (X11_out a0) := by
  intro a0 h0
  intro μ hI
  have t1 := t_X10_out (W := scr) (μs := μ) (hW := fun _ _ h => h) (hp_l1 := h0) (St_rf hI.1)
  obtain ⟨r, μ1, e1, g1, _⟩ := wp_ex t1
  have hI1 := Inv_St hI g1
  have t2 := t_X11_out (μs := μ1) (hI := hI1.2.1) (hp_l1 := h0) (Sm_rf hI1.2.1.1)
  obtain ⟨r2, μ2, e2, g2, _⟩ := wp_ex t2
  exact ⟨r, μ1, r2, μ2, e1, e2, Inv_Sm hI1 g2⟩
theorem q_walk : ∀ a0, rI a0 → ∀ a1, rI a1 → ∀ a2, rI a2 → sD Inv Inv (X10_walk a0 a1 a2) (X11_walk a0 a1 a2) := by
  intro a0 h0 a1 h1 a2 h2
  intro μ hI
  have t1 := t_X10_walk (W := scr) (μs := μ) (hW := fun _ _ h => h) (hp_l1 := h0) (hp_l2 := h1) (hp_l3 := h2) (St_rf hI.1)
  obtain ⟨r, μ1, e1, g1, _⟩ := wp_ex t1
  have hI1 := Inv_St hI g1
  have t2 := t_X11_walk (μs := μ1) (hI := hI1.2.1) (hp_l1 := h0) (hp_l2 := h1) (hp_l3 := h2) (Sm_rf hI1.2.1.1)
  obtain ⟨r2, μ2, e2, g2, _⟩ := wp_ex t2
  exact ⟨r, μ1, r2, μ2, e1, e2, Inv_Sm hI1 g2⟩
theorem q_mend : ∀ a0, rI a0 → ∀ a1, rI a1 → ∀ a2, rI a2 → sD Inv Inv (X10_mend a0 a1 a2) (X11_mend a0 a1 a2) := by
  intro a0 h0 a1 h1 a2 h2
  intro μ hI
  have t1 := t_X10_mend (W := scr) (μs := μ) (hW := fun _ _ h => h) (hp_l1 := h0) (hp_l2 := h1) (hp_l3 := h2) (St_rf hI.1)
  obtain ⟨r, μ1, e1, g1, _⟩ := wp_ex t1
  have hI1 := Inv_St hI g1
  have t2 := t_X11_mend (μs := μ1) (hI := hI1.2.1) (hp_l1 := h0) (hp_l2 := h1) (hp_l3 := h2) (Sm_rf hI1.2.1.1)
  obtain ⟨r2, μ2, e2, g2, _⟩ := wp_ex t2
  exact ⟨r, μ1, r2, μ2, e1, e2, Inv_Sm hI1 g2⟩
theorem q_slack : ∀ a0, rI a0 → ∀ a1, rI a1 → sD Inv Inv (X10_slack a0 a1) (X11_slack a0 a1) := by
  intro a0 h0 a1 h1
  intro μ hI
  have t1 := t_X10_slack (W := scr) (μs := μ) (hW := fun _ _ h => h) (hp_l1 := h0) (hp_l2 := h1) (St_rf hI.1)
  obtain ⟨r, μ1, e1, g1, _⟩ := wp_ex t1
  have hI1 := Inv_St hI g1
  have t2 := t_X11_slack (μs := μ1) (hI := hI1.2.1) (hp_l1 := h0) (hp_l2 := h1) (Sm_rf hI1.2.1.1)
  obtain ⟨r2, μ2, e2, g2, _⟩ := wp_ex t2
  exact ⟨r, μ1, r2, μ2, e1, e2, Inv_Sm hI1 g2⟩
theorem q_urgent : ∀ a0, rI a0 → sD Inv Inv (X10_urgent a0) (X11_urgent a0) := by
  intro a0 h0
  intro μ hI
  have t1 := t_X10_urgent (W := scr) (μs := μ) (hW := fun _ _ h => h) (hp_l1 := h0) (St_rf hI.1)
  obtain ⟨r, μ1, e1, g1, _⟩ := wp_ex t1
  have hI1 := Inv_St hI g1
  have t2 := t_X11_urgent (μs := μ1) (hI := hI1.2.1) (hp_l1 := h0) (Sm_rf hI1.2.1.1)
  obtain ⟨r2, μ2, e2, g2, _⟩ := wp_ex t2
  exact ⟨r, μ1, r2, μ2, e1, e2, Inv_Sm hI1 g2⟩
theorem q_dead : sD Inv Inv (X10_dead) (X11_dead) := by
  intro μ hI
  have t1 := t_X10_dead (W := scr) (μs := μ) (hW := fun _ _ h => h) (St_rf hI.1)
  obtain ⟨r, μ1, e1, g1, _⟩ := wp_ex t1
  have hI1 := Inv_St hI g1
  have t2 := t_X11_dead (μs := μ1) (hI := hI1.2.1) (Sm_rf hI1.2.1.1)
  obtain ⟨r2, μ2, e2, g2, _⟩ := wp_ex t2
  exact ⟨r, μ1, r2, μ2, e1, e2, Inv_Sm hI1 g2⟩
theorem q_pillar : ∀ a0, rI a0 → ∀ a1, rI a1 → sD Inv Inv (X10_pillar a0 a1) (X11_pillar a0 a1) := by
  intro a0 h0 a1 h1
  intro μ hI
  have t1 := t_X10_pillar (W := scr) (μs := μ) (hW := fun _ _ h => h) (hp_l1 := h0) (hp_l2 := h1) (St_rf hI.1)
  obtain ⟨r, μ1, e1, g1, _⟩ := wp_ex t1
  have hI1 := Inv_St hI g1
  have t2 := t_X11_pillar (μs := μ1) (hI := hI1.2.1) (hp_l1 := h0) (hp_l2 := h1) (Sm_rf hI1.2.1.1)
  obtain ⟨r2, μ2, e2, g2, _⟩ := wp_ex t2
  exact ⟨r, μ1, r2, μ2, e1, e2, Inv_Sm hI1 g2⟩
theorem q_count : ∀ a0, rI a0 → sD Inv Inv (X10_count a0) (X11_count a0) := by
  intro a0 h0
  intro μ hI
  have t1 := t_X10_count (W := scr) (μs := μ) (hp_l1 := h0) (St_rf hI.1)
  have t2 := t_X11_count (μs := μ) (hp_l1 := h0) (Sm_rf hI.2.1.1)
  obtain ⟨r, μ1, e1, g1, _⟩ := wp_ex t1
  obtain ⟨r2, μ2, e2, g2, _⟩ := wp_ex t2
  subst g1
  subst g2
  exact ⟨r, _, r2, _, e1, e2, hI⟩
/-! WHAT ALTERS what is kept -/
def kT (k j : Nat) : Prop := (k = 1 ∧ j = 1) ∨ k = 2 ∨ (k = 70 ∧ j = 2) ∨ k = 71
def kP (k j : Nat) : Prop := (k = 0 ∧ j = 15) ∨ (18 ≤ k ∧ k ≤ 32) ∨ (k = 70 ∧ j = 28) ∨ ((k = 83 ∨ k = 84) ∧ j < 40) ∨ (k = 85 ∧ j < 5)
def kLw (k j : Nat) : Prop := (k = 0 ∧ j = 16) ∨ (37 ≤ k ∧ k ≤ 44) ∨ (k = 70 ∧ j = 13) ∨ ((k = 72 ∨ k = 73) ∧ j < 1360) ∨ (k = 75 ∧ j < 4) ∨ (76 ≤ k ∧ k ≤ 78 ∧ j < 360)
def kCl (k j : Nat) : Prop := (5 ≤ k ∧ k ≤ 8) ∨ k = 82 ∨ k = 86 ∨ (k = 70 ∧ (j = 23 ∨ j = 24 ∨ j = 30 ∨ j = 31))
def kH (k j : Nat) : Prop := (k = 0 ∧ j = 17) ∨ (k = 70 ∧ j = 32)
def kI (k j : Nat) : Prop := (9 ≤ k ∧ k ≤ 12) ∨ (k = 5 ∧ j = 4) ∨ k = 96 ∨ k = 97 ∨ (k = 70 ∧ (j = 23 ∨ j = 24 ∨ j = 51 ∨ j = 52 ∨ j = 53))
def kU (k j : Nat) : Prop := (k = 67 ∧ j = 2) ∨ k = 68 ∨ k = 69 ∨ (k = 70 ∧ j = 45) ∨ k = 93 ∨ k = 94
theorem Inv_W {μ ν : Mm} {W : Nat → Nat → Prop} (hI : Inv μ) (hB : Bx ν) (hM : Ir ν) (hf : fw W μ ν) (T : (∀ k j, kT k j → ¬ W k j) ∨ Tp ν) (P : (∀ k j, kP k j → ¬ W k j) ∨ Pl ν) (L : (∀ k j, kLw k j → ¬ W k j) ∨ Lw ν) (C : (∀ k j, kCl k j → ¬ W k j) ∨ Kc ν 5 82 86 30 31) (H : (∀ k j, kH k j → ¬ W k j) ∨ ν 0 17 = ν 70 32) (I : (∀ k j, kI k j → ¬ W k j) ∨ Im ν) (U : (∀ k j, kU k j → ¬ W k j) ∨ Th ν) : Inv ν := by
  obtain ⟨_, _, h3, h4, h5, h6, h7, h8, h9⟩ := hI
  refine ⟨hB, hM, T.elim (fun n => ?_) id, P.elim (fun n => ?_) id, L.elim (fun n => ?_) id, C.elim (fun n => ?_) id, H.elim (fun n => ?_) id, I.elim (fun n => ?_) id, U.elim (fun n => ?_) id⟩
  · have e : ∀ k j, kT k j → ν k j = μ k j := fun k j h => hf k j (n k j h)
    exact Tp_congr h3 (e 1 1 (by unfold kT; omega)) (fun j => e 2 j (by unfold kT; omega)) (e 70 2 (by unfold kT; omega)) (fun j => e 71 j (by unfold kT; omega))
  · have e : ∀ k j, kP k j → ν k j = μ k j := fun k j h => hf k j (n k j h)
    exact Pl_congr h4 (e 0 15 (by unfold kP; omega)) (fun k j h1 h2 => e k j (by unfold kP; omega)) (e 70 28 (by unfold kP; omega)) (fun j hj => ⟨e 83 j (by unfold kP; omega), e 84 j (by unfold kP; omega)⟩) (fun j hj => e 85 j (by unfold kP; omega))
  · have e : ∀ k j, kLw k j → ν k j = μ k j := fun k j h => hf k j (n k j h)
    exact Lw_congr h5 (e 0 16 (by unfold kLw; omega)) (e 70 13 (by unfold kLw; omega)) (fun k j h1 h2 => e k j (by unfold kLw; omega)) (fun j hj => ⟨e 72 j (by unfold kLw; omega), e 73 j (by unfold kLw; omega)⟩) (fun j hj => e 75 j (by unfold kLw; omega)) (fun j hj => ⟨e 76 j (by unfold kLw; omega), e 77 j (by unfold kLw; omega), e 78 j (by unfold kLw; omega)⟩)
  · have e : ∀ k j, kCl k j → ν k j = μ k j := fun k j h => hf k j (n k j h)
    exact Kc_congr h6 (fun j _ _ => e 5 j (by unfold kCl; omega)) (fun j => e 6 j (by unfold kCl; omega)) (fun j => e 7 j (by unfold kCl; omega)) (fun j => e 8 j (by unfold kCl; omega)) (fun j => e 82 j (by unfold kCl; omega)) (fun j => e 86 j (by unfold kCl; omega)) (e 70 30 (by unfold kCl; omega)) (e 70 31 (by unfold kCl; omega)) (e 70 23 (by unfold kCl; omega)) (e 70 24 (by unfold kCl; omega))
  · have e : ∀ k j, kH k j → ν k j = μ k j := fun k j h => hf k j (n k j h)
    rw [e 0 17 (by unfold kH; omega), e 70 32 (by unfold kH; omega)]; exact h7
  · have e : ∀ k j, kI k j → ν k j = μ k j := fun k j h => hf k j (n k j h)
    exact Im_congr h8 (fun k j h1 h2 => e k j (by unfold kI; omega)) (e 5 4 (by unfold kI; omega)) (fun j => e 96 j (by unfold kI; omega)) (fun j => e 97 j (by unfold kI; omega)) (e 70 51 (by unfold kI; omega)) (e 70 52 (by unfold kI; omega)) (e 70 53 (by unfold kI; omega)) (e 70 23 (by unfold kI; omega)) (e 70 24 (by unfold kI; omega))
  · have e : ∀ k j, kU k j → ν k j = μ k j := fun k j h => hf k j (n k j h)
    exact Th_congr h9 (e 67 2 (by unfold kU; omega)) (e 70 45 (by unfold kU; omega)) (fun j => ⟨e 68 j (by unfold kU; omega), e 69 j (by unfold kU; omega), e 93 j (by unfold kU; omega), e 94 j (by unfold kU; omega)⟩)
theorem sD_I {Inv Inv' : Mm → Prop} {f g : Mm → Rs} (h : sI Inv Inv' f g) : sD Inv Inv' f g := fun μ hI => by
  obtain ⟨r, μ1, μ2, e1, e2, h2⟩ := h μ hI
  exact ⟨r, μ1, r, μ2, e1, e2, h2⟩
def W70 (k _ : Nat) : Prop := k < 70
theorem scr_70 : ∀ k j, scr k j → W70 k j := fun k j h => by unfold scr at h; unfold W70; omega
/-! feed -/
theorem put_T {n : Nat} {l : List Int} (hl : ∀ b, b ∈ l → 0 ≤ b ∧ b ≤ 255) : ∀ (μ ν : Mm) (n : Nat), μ 1 1 = (n : Int) → ν 70 2 = (n : Int) → (∀ j, j < n → μ 2 j = ν 71 j ∧ 1 ≤ ν 71 j ∧ ν 71 j ≤ 255) → ∃ m : Nat, (m : Int) = (n : Int) + nzc l ∧ (l.foldl (putB 1 1 2) μ) 1 1 = (m : Int) ∧ (l.foldl (putB 70 2 71) ν) 70 2 = (m : Int) ∧ ∀ j, j < m → (l.foldl (putB 1 1 2) μ) 2 j = (l.foldl (putB 70 2 71) ν) 71 j ∧ 1 ≤ (l.foldl (putB 70 2 71) ν) 71 j ∧ (l.foldl (putB 70 2 71) ν) 71 j ≤ 255 := by
  induction l with
  | nil => intro μ ν n h1 h2 h3; exact ⟨n, by show (n : Int) = n + 0; omega, h1, h2, h3⟩
  | cons b l ih =>
    intro μ ν n h1 h2 h3
    have hb := hl b (List.mem_cons_self ..)
    have hl' : ∀ b, b ∈ l → 0 ≤ b ∧ b ≤ 255 := fun x hx => hl x (List.mem_cons_of_mem _ hx)
    rw [List.foldl_cons, List.foldl_cons]
    have en : nzc (b :: l) = (if b = 0 then 0 else 1) + nzc l := rfl
    by_cases c : b = 0
    · have e1 : putB 1 1 2 μ b = μ := by unfold putB; rw [if_pos c]
      have e2 : putB 70 2 71 ν b = ν := by unfold putB; rw [if_pos c]
      rw [e1, e2]
      obtain ⟨m, k1, k2⟩ := ih hl' μ ν n h1 h2 h3
      exact ⟨m, by rw [en, if_pos c]; omega, k2⟩
    · have e1 : putB 1 1 2 μ b = sM (sM μ 2 n b) 1 1 ((n + 1 : Nat) : Int) := by unfold putB; rw [if_neg c, h1, Int.toNat_natCast]; rfl
      have e2 : putB 70 2 71 ν b = sM (sM ν 71 n b) 70 2 ((n + 1 : Nat) : Int) := by unfold putB; rw [if_neg c, h2, Int.toNat_natCast]; rfl
      rw [e1, e2]
      obtain ⟨m, k1, k2⟩ := ih hl' (sM (sM μ 2 n b) 1 1 ((n + 1 : Nat) : Int)) (sM (sM ν 71 n b) 70 2 ((n + 1 : Nat) : Int)) (n + 1) (by rw [sM_s]) (by rw [sM_s]) (fun j hj => by
        rw [sM_a (a := 1) (b := 2) (by decide), sM_a (a := 70) (b := 71) (by decide), sM_if, sM_if]
        by_cases d : j = n
        · rw [if_pos d, if_pos d]; exact ⟨rfl, by omega, hb.2⟩
        · rw [if_neg d, if_neg d]; exact h3 j (by omega))
      exact ⟨m, by rw [en, if_neg c]; omega, k2⟩
theorem put_fw {o s a : Nat} (l : List Int) : ∀ μ : Mm, fw (fun k j => (k = o ∧ j = s) ∨ k = a) μ (l.foldl (putB o s a) μ) := by
  induction l with
  | nil => intro μ; exact fw_rf
  | cons b l ih =>
    intro μ
    rw [List.foldl_cons]
    refine fw_tr ?_ (ih _)
    unfold putB
    split
    · exact fw_rf
    · exact fw_sM (fw_sM fw_rf (Or.inr rfl)) (Or.inl ⟨rfl, rfl⟩)
theorem four_b (x : Int) : ∀ b, b ∈ four x → 0 ≤ b ∧ b ≤ 255 := by
  intro b hb
  unfold four at hb
  simp only [List.mem_cons, List.not_mem_nil, or_false] at hb
  rcases hb with h | h | h | h <;> rw [h] <;> exact byt_b _ _
theorem LB_b (a b c d e : Int) : ∀ x, x ∈ LB a b c d e → 0 ≤ x ∧ x ≤ 255 := by
  intro x hx
  unfold LB at hx
  simp only [List.mem_append] at hx
  rcases hx with h | h | h | h | h <;> exact four_b _ x h
theorem put_Bm {l : List Int} (hl : ∀ b, b ∈ l → 0 ≤ b ∧ b ≤ 255) : ∀ μ : Mm, Bm μ → 0 ≤ μ 70 2 → μ 70 2 + nzc l ≤ 160 → Bm (l.foldl (putB 70 2 71) μ) := by
  induction l with
  | nil => intro μ h _ _; exact h
  | cons b l ih =>
    intro μ h h0 h1
    have hb := hl b (List.mem_cons_self ..)
    have hl' : ∀ b, b ∈ l → 0 ≤ b ∧ b ≤ 255 := fun x hx => hl x (List.mem_cons_of_mem _ hx)
    have en : nzc (b :: l) = (if b = 0 then 0 else 1) + nzc l := rfl
    have hz := (nzc_b l).1
    rw [en] at h1
    rw [List.foldl_cons]
    by_cases c : b = 0
    · rw [if_pos c] at h1
      have e2 : putB 70 2 71 μ b = μ := by unfold putB; rw [if_pos c]
      rw [e2]
      exact ih hl' μ h h0 (by omega)
    · rw [if_neg c] at h1
      have e2 : putB 70 2 71 μ b = sM (sM μ 71 (μ 70 2).toNat b) 70 2 (μ 70 2 + 1) := by unfold putB; rw [if_neg c]
      rw [e2]
      refine ih hl' _ (Bm_sM (Bm_sM h (show (-2147483648 : Int) ≤ b ∧ b ≤ 2147483647 by omega)) (show (0 : Int) ≤ μ 70 2 + 1 ∧ μ 70 2 + 1 ≤ 160 by omega)) (by rw [sM_s]; omega) (by rw [sM_s]; omega)
def Wtp (k j : Nat) : Prop := (k = 1 ∧ j = 1) ∨ k = 2 ∨ (k = 70 ∧ j = 2) ∨ k = 71
theorem m_feed : ∀ a0, rI a0 → ∀ a1, rI a1 → ∀ a2, rI a2 → ∀ a3, rI a3 → ∀ a4, rI a4 → sI Inv Inv (X10_feed a0 a1 a2 a3 a4) (X11_feed a0 a1 a2 a3 a4) := by
  intro a h0 b h1 c h2 d h3 e h4 μ hI
  obtain ⟨n, n1, n2, n3, n4⟩ := id hI.2.2.1
  have t1 := t_X10_feed (W := W70) (μs := μ) scr_70 (fun k j h => h) (hp_l1 := h0) (hp_l2 := h1) (hp_l3 := h2) (hp_l4 := h3) (hp_l5 := h4) (St_rf hI.1)
  have e1 := feed_eq a b c d e μ (by omega) (by omega)
  have hLB : four a ++ (four b ++ (four c ++ (four d ++ four e))) = LB a b c d e := rfl
  rw [hLB] at e1
  by_cases g : μ 1 1 + nzc (LB a b c d e) ≤ 160
  · rw [if_pos g] at e1
    rw [e1, wp_some] at t1
    have hB1 := t1.1.1
    have hf1 := put_fw (o := 1) (s := 1) (a := 2) (LB a b c d e) μ
    have e70 : ∀ k j, 70 ≤ k → (LB a b c d e).foldl (putB 1 1 2) μ k j = μ k j := fun k j hk => hf1 k j (by omega)
    have hM1 : Bm ((LB a b c d e).foldl (putB 1 1 2) μ) := fun k j h => by rw [e70 k j h]; exact hI.2.1.1 k j h
    have e2 := mfeed_eq a b c d e ((LB a b c d e).foldl (putB 1 1 2) μ) (by rw [e70 70 2 (by decide)]; omega) (by rw [e70 70 2 (by decide)]; omega)
    rw [e70 70 2 (by decide), if_pos (by omega)] at e2
    have hf2 := put_fw (o := 70) (s := 2) (a := 71) (LB a b c d e) ((LB a b c d e).foldl (putB 1 1 2) μ)
    have hM2 := put_Bm (LB_b a b c d e) _ hM1 (by rw [e70 70 2 (by decide)]; omega) (by rw [e70 70 2 (by decide)]; omega)
    have hf : fw Wtp μ ((LB a b c d e).foldl (putB 70 2 71) ((LB a b c d e).foldl (putB 1 1 2) μ)) := fun k j hn => by
      rw [hf2 k j (by unfold Wtp at hn; omega), hf1 k j (by unfold Wtp at hn; omega)]
    have hT := put_T (n := n) (LB_b a b c d e) μ ((LB a b c d e).foldl (putB 1 1 2) μ) n n2 (by rw [e70 70 2 (by decide)]; exact n3) (fun j hj => by rw [e70 71 j (by decide)]; exact n4 j hj)
    obtain ⟨m, k1, k2, k3, k4⟩ := hT
    have hTp : Tp ((LB a b c d e).foldl (putB 70 2 71) ((LB a b c d e).foldl (putB 1 1 2) μ)) := by
      refine ⟨m, by omega, ?_, k3, fun j hj => ?_⟩
      · rw [hf2 1 1 (by omega)]; exact k2
      · rw [hf2 2 j (by omega)]; exact k4 j hj
    refine ⟨_, _, _, e1, (show _ = some (μ 1 1 + nzc (LB a b c d e), _) by rw [n2, ← n3]; exact e2), ?_⟩
    refine Inv_W hI (Bx_congr hB1 (fun k j hk => hf2 k j (by omega))) (Ir_congr hI.2.1 hM2 (fun k j h => hf k j (by unfold perI at h; unfold Wtp; omega))) hf (Or.inr hTp) (Or.inl ?_) (Or.inl ?_) (Or.inl ?_) (Or.inl ?_) (Or.inl ?_) (Or.inl ?_)
    · intro k j h; unfold kP at h; unfold Wtp; omega
    · intro k j h; unfold kLw at h; unfold Wtp; omega
    · intro k j h; unfold kCl at h; unfold Wtp; omega
    · intro k j h; unfold kH at h; unfold Wtp; omega
    · intro k j h; unfold kI at h; unfold Wtp; omega
    · intro k j h; unfold kU at h; unfold Wtp; omega
  · rw [if_neg g] at e1
    have e2 := mfeed_eq a b c d e μ (by omega) (by omega)
    rw [if_neg (by omega)] at e2
    exact ⟨_, _, _, e1, e2, hI⟩
/-! end -/
theorem m_end : ∀ a0, rI a0 → sI Inv Inv (X10_end a0) (X11_end a0) := by
  intro a h μ hI
  obtain ⟨n, n1, n2, n3, n4⟩ := id hI.2.2.1
  have t1 := t_X10_end (W := W70) (μs := μ) scr_70 (fun k j h => h) (hp_l1 := h) (St_rf hI.1)
  by_cases c1 : a < 0
  · have e1 : X10_end a μ = some (0, μ) := by
      unfold X10_end X7_cut
      rw [if_pos c1, bd_some, rZ_b (Or.inl rfl)]
    have e2 : X11_end a μ = some (0, μ) := by
      unfold X11_end
      rw [if_pos c1]
    exact ⟨_, _, _, e1, e2, hI⟩
  · by_cases c2 : a ≤ μ 1 1
    · have e1 : X10_end a μ = some (1, sM μ 1 1 a) := by
        unfold X10_end X7_cut sF
        rw [if_neg c1, if_pos c2]
        dsimp only
        rw [bd_some, rZ_b (Or.inr rfl)]
      have e2 : X11_end a (sM μ 1 1 a) = some (1, sM (sM μ 1 1 a) 70 2 a) := by
        unfold X11_end sF
        rw [if_neg c1, sM_a (by decide), if_pos (by omega)]
      rw [e1, wp_some] at t1
      have hB1 := t1.1.1
      refine ⟨_, _, _, e1, e2, ?_⟩
      have hf : fw Wtp μ (sM (sM μ 1 1 a) 70 2 a) := fw_sM (fw_sM fw_rf (by unfold Wtp; omega)) (by unfold Wtp; omega)
      have hM2 : Bm (sM (sM μ 1 1 a) 70 2 a) := Bm_sM (fun k j hk => by rw [sM_a (by omega)]; exact hI.2.1.1 k j hk) (show (0 : Int) ≤ a ∧ a ≤ 160 by omega)
      refine Inv_W hI (Bx_congr hB1 (fun k j hk => sM_a (by omega))) (Ir_congr hI.2.1 hM2 (fun k j h => hf k j (by unfold perI at h; unfold Wtp; omega))) hf (Or.inr ?_) (Or.inl ?_) (Or.inl ?_) (Or.inl ?_) (Or.inl ?_) (Or.inl ?_) (Or.inl ?_)
      · refine ⟨a.toNat, by omega, ?_, ?_, fun j hj => ?_⟩
        · rw [sM_a (by decide), sM_s]; omega
        · rw [sM_s]; omega
        · rw [sM_a (by decide), sM_a (by decide), sM_a (by decide), sM_a (by decide)]; exact n4 j (by omega)
      · intro k j h; unfold kP at h; unfold Wtp; omega
      · intro k j h; unfold kLw at h; unfold Wtp; omega
      · intro k j h; unfold kCl at h; unfold Wtp; omega
      · intro k j h; unfold kH at h; unfold Wtp; omega
      · intro k j h; unfold kI at h; unfold Wtp; omega
      · intro k j h; unfold kU at h; unfold Wtp; omega
    · have e1 : X10_end a μ = some (0, μ) := by
        unfold X10_end X7_cut
        rw [if_neg c1, if_neg c2, bd_some, rZ_b (Or.inl rfl)]
      have e2 : X11_end a μ = some (0, μ) := by
        unfold X11_end
        rw [if_neg c1, if_neg (by omega)]
      exact ⟨_, _, _, e1, e2, hI⟩
