/-! LAWS, the reference's reader: all of it -/
theorem OC_mono {n q i g p1 : Nat} {x : Cd × Cd} {r : Rs} {μ0 μ : Mm} (h : OC n q i g x p1 r μ) (hf : fw (wF2 q i g) μ0 μ) : OC n q i g x p1 r μ0 := by
  obtain ⟨μ', h1, h2, h3, h4⟩ := h
  exact ⟨μ', h1, h2, fw_tr hf h3, h4⟩
theorem FC_mono {n q : Nat} {r : Rs} {μ0 μ : Mm} (h : FC n q r μ) (hf : fw (wF2 q 0 0) μ0 μ) : FC n q r μ0 := by
  obtain ⟨μ', a, h1, h2, h3, h4⟩ := h
  exact ⟨μ', a, h1, h2, fw_tr hf h3, h4⟩
/-- what a clause's codes are -/
def okW (n p i : Nat) (w : (Cd × Cd) × Nat) : Prop := p < w.2 ∧ w.2 ≤ n ∧ gd w.1.2 ∧ (w.1.1 = [] ∨ gd w.1.1) ∧ i + w.1.1.length + w.1.2.length ≤ w.2 ∧ pu w.1.1 ≤ 80 ∧ pu w.1.2 ≤ 80
theorem bd_cg {x : Rs} {f g : Int → Mm → Rs} (h : ∀ v μ, f v μ = g v μ) : bd x f = bd x g := by
  have : f = g := funext fun v => funext fun μ => h v μ
  rw [this]
theorem bodyM {t : Nat → Int} {n : Nat} (hT : ∀ j, j < n → 1 ≤ t j ∧ t j ≤ 255) {q g i p : Nat} {μ : Mm} (hP : PM t n q 6 μ i p) (h75 : μ 75 q = (g : Int)) (hg : g < 90) (h76 : μ 76 (90 * q + g) = (i : Int)) : match bodyS t n p with
      | some w => ∃ p1, (p1 = w.2 ∨ p1 = sk t n w.2) ∧ OC n q i g w.1 p1 (X11_clause_J127 ((90 * q + g : Nat) : Int) (if pk t n p = 33 ∨ pk t n p = 40 then 1 else 0) (ma μ (sk t n p))) μ ∧ okW n p i w
      | none => FC n q (X11_clause_J127 ((90 * q + g : Nat) : Int) (if pk t n p = 33 ∨ pk t n p = 40 then 1 else 0) (ma μ (sk t n p))) μ := by
  have h160 := hP.1.1
  have hpn := hP.2.2.2.2.2.2.2.1
  have hip := hP.2.2.2.2.2.2.1
  have hq := hP.2.2.2.2.2.2.2.2.1
  have hge := sk_ge (t := t) (n := n) p
  have hle := sk_le (t := t) (n := n) p hpn
  have hP0 := PM_at hP hge hle
  have r76 : rI (μ 76 (90 * q + g)) := by rw [h76]; exact ⟨by omega, by omega⟩
  have failing : ∀ {R : Rs} {l2 : Int} {i1 p0 : Nat} {r : Rs} {μ1 : Mm}, i1 ≤ 200 → fw (wF q) μ μ1 → FL n q 6 r μ1 i1 p0 → R = (bd r fun _ μ69 => X11_clause_J183 ((90 * q + g : Nat) : Int) l2 μ69) → FC n q R μ := by
    intro R l2 i1 p0 r μ1 hi1 hf1 h e
    obtain ⟨μ', a, i', k1, k2, k3, k4, k5, k6, k7⟩ := h
    have k3 := fw_tr hf1 k3
    rw [e, k1, bd_some]
    exact J183_F hq hg k2 (fw2_F k3) k4 (by omega) (by rw [k3 70 14 (by unfold wF wKd; omega)]; exact hP.2.2.2.1) (by rw [k3 75 q (by unfold wF wKd; omega)]; exact h75) k6 (by omega) (by rw [k3 76 _ (by unfold wF wKd; omega)]; exact r76)
  have cond : ∀ R : Rs, R = (bd (X11_condition_o (X11_unit RD) (ma μ (sk t n p))) fun _ μ69 => X11_clause_J183 ((90 * q + g : Nat) : Int) 1 μ69) → match (match conS t n (unitS t n 6) p with | none => none | some w => thenS t n w.1 w.2) with
      | some w => ∃ p1, (p1 = w.2 ∨ p1 = sk t n w.2) ∧ OC n q i g w.1 p1 R μ ∧ okW n p i w
      | none => FC n q R μ := by
    intro R e
    have hm := conM (rec := X11_unit RD) (unitM hT (q := q) 6 RD (by decide) (by decide)) (fun p q hp e => (unitS_G 6 p q hp e).1) _ _ _ hP0
    have hG := conS_G (t := t) (n := n) (rec := unitS t n 6) (unitS_G 6) (sk t n p)
    have hsk : conS t n (unitS t n 6) (sk t n p) = conS t n (unitS t n 6) p := chS_sk (chS_sk (unitS_sk 6)) p
    rw [hsk] at hm hG
    revert hm hG
    cases conS t n (unitS t n 6) p with
    | none =>
      intro hm _
      exact failing (by omega) fw_rf hm e
    | some c =>
      intro hm hG
      have hm : X11_condition_o (X11_unit RD) (ma μ (sk t n p)) = some (0, ma (wrc μ q i c.1) c.2) := hm
      have hc := (hG c hle rfl).1
      rw [hm, bd_some] at e
      have ht := thenM hT hP0 h75 hg h76 (c := c.1) (pc' := c.2) hc
      dsimp only
      revert ht
      cases thenS t n c.1 c.2 with
      | none => intro ht; rw [e]; exact ht
      | some w =>
        rintro ⟨k1, k2, k3⟩
        refine ⟨w.2, Or.inl rfl, by rw [e]; exact k1, ?_⟩
        obtain ⟨a1, a2, a3, a4, a5⟩ := hc
        obtain ⟨b1, b2, b3, b4, b5⟩ := k2
        have b1 : c.2 < w.2 := b1
        have b2 : w.2 ≤ n := b2
        have b4 : w.1.2.length + c.2 ≤ w.2 := b4
        have b5 : 2 * pu w.1.2 + c.2 ≤ w.2 + 1 := b5
        refine ⟨by omega, b2, b3, Or.inr (by rw [k3]; exact a3), by rw [k3]; omega, by rw [k3]; omega, by omega⟩
  unfold bodyS
  by_cases c0 : pk t n p = 33 ∨ pk t n p = 40
  · rw [if_pos c0, if_pos c0]
    refine cond _ ?_
    unfold X11_clause_J127
    rw [if_neg (by decide)]
  · rw [if_neg c0, if_neg c0]
    have e0 : X11_clause_J127 ((90 * q + g : Nat) : Int) 0 (ma μ (sk t n p)) = bd (X11_sum RD (ma μ (sk t n p))) fun v18 μ19 => if (μ19 70 4) = (-1) then (bd (X11_look μ19) fun v61 μ62 => bd (X11_isSign v61 μ62) fun v64 μ65 => if v64 = 0 then (X11_clause_J183 ((90 * q + g : Nat) : Int) 0 μ65) else (bd (X11_compare μ65) fun v52 μ53 => bd (X11_goOnAnd_o (X11_unit RD) μ53) fun v55 μ56 => bd (X11_goOnOr_o (X11_unit RD) μ56) fun v58 μ59 => X11_clause_J183 ((90 * q + g : Nat) : Int) 1 μ59)) else (X11_clause_J183 ((90 * q + g : Nat) : Int) 0 μ19) := by
      unfold X11_clause_J127
      rw [if_pos rfl]
      refine bd_cg (fun v18 μ19 => ?_)
      by_cases d : μ19 70 4 = -1
      · rw [if_pos d, if_pos d]
        refine bd_cg (fun v61 μ62 => bd_cg (fun v64 μ65 => ?_))
        unfold X11_clause_J165 X11_clause_J166
        by_cases d2 : v64 = 0
        · rw [if_pos d2, if_pos d2, if_pos rfl]
        · rw [if_neg d2, if_neg d2, if_neg (by decide)]
      · rw [if_neg d, if_neg d]
        unfold X11_clause_J165 X11_clause_J166
        rw [if_pos rfl]
    rw [e0]
    have hm := sumM hT (q := q) 6 RD (by decide) (by decide) _ _ _ hP0
    have hG := sumS_G (t := t) (n := n) 6 (sk t n p)
    rw [sumS_sk 6 p] at hm hG
    cases hS : sumS t n 6 p with
    | none =>
      rw [hS] at hm
      have hm : FL n q 6 (X11_sum RD (ma μ (sk t n p))) μ i (sk t n p) := hm
      obtain ⟨μ', a, i', k1, k2, k3, k4, k5, k6, k7⟩ := id hm
      show FC n q _ μ
      rw [k1, bd_some, ma_j (by decide), if_neg k4]
      exact J183_F hq hg k2 (fw2_F k3) k4 (by omega) (by rw [k3 70 14 (by unfold wF wKd; omega)]; exact hP.2.2.2.1) (by rw [k3 75 q (by unfold wF wKd; omega)]; exact h75) k6 (by omega) (by rw [k3 76 _ (by unfold wF wKd; omega)]; exact r76)
    | some s =>
      rw [hS] at hm
      have hm : X11_sum RD (ma μ (sk t n p)) = some (0, ma (wrc μ q i s.1) s.2) := hm
      have hs := hG s hle hS
      have hP1 := PM_wrc hP0 hs
      have hge2 := sk_ge (t := t) (n := n) s.2
      have hle2 := sk_le (t := t) (n := n) s.2 hs.2.1
      have hsl := hs.2.2.2.1
      rw [hm, bd_some, ma_j (by decide), if_pos hP1.2.2.1, look_eq hP1.1 (by have := hs.2.1; omega), bd_some, isSign_eq, bd_some]
      dsimp only
      by_cases c : cop (pk t n s.2) = -1
      · rw [if_pos c, if_pos (by rw [if_pos c])]
        have hfc := wrc_fw (q := q) s.1 (μ := μ) (i := i) (by omega)
        have e76 : wrc μ q i s.1 76 (90 * q + g) = (i : Int) := by rw [hfc 76 _ (by unfold wKd; omega)]; exact h76
        have e75 : wrc μ q i s.1 75 q = (g : Int) := by rw [hfc 75 _ (by unfold wKd; omega)]; exact h75
        refine ⟨sk t n s.2, Or.inr rfl, ?_, ?_⟩
        · rw [J183_eq hq hg, if_pos rfl, e76, J250_eq (by rw [sM_a (by decide)]; exact hP1.2.2.2.1) (by rw [sM_a (by decide)]; exact hP1.2.2.2.2.1) (by rw [sM_a (by decide)]; exact e75) hq hg]
          refine ⟨_, rfl, Bm_sM (Bm_sM (Bm_sM hP1.2.1 (show (-2147483648 : Int) ≤ _ ∧ _ ≤ (2147483647 : Int) by omega)) (show (-2147483648 : Int) ≤ _ ∧ _ ≤ (2147483647 : Int) by omega)) (show (0 : Int) ≤ ((g + 1 : Nat) : Int) ∧ ((g + 1 : Nat) : Int) ≤ 90 by omega), fw_sM (fw_sM (fw_sM (fw2_K hfc) (by unfold wF2; omega)) (by unfold wF2; omega)) (by unfold wF2; omega), ?_, ?_, ?_, ?_, ?_, ?_, ?_, ?_⟩
          · rw [sM_a (by decide), sM_a (by decide), sM_a (by decide)]; exact hP1.2.2.1
          · rw [sM_a (by decide), sM_a (by decide), sM_a (by decide)]; exact hP1.2.2.2.2.2.1
          · rw [sM_a (by decide), sM_a (by decide), sM_a (by decide)]; exact hP1.2.2.2.2.1
          · rw [sM_s]
          · rw [sM_a (by decide), sM_a (by decide), sM_a (by decide)]; exact e76
          · rw [sM_a (by decide), sM_a (by decide), sM_s]; rfl
          · rw [sM_a (by decide), sM_s]; rfl
          · have hc1 : hasC (wrc μ q i s.1) q i s.1 := wrc_has s.1 (by omega)
            have ff : fw (wF2 q 340 g) (wrc μ q i s.1) (sM (sM (sM (wrc μ q i s.1) 77 (90 * q + g) (i : Int)) 78 (90 * q + g) ((i + s.1.length : Nat) : Int)) 75 q ((g + 1 : Nat) : Int)) := fw_sM (fw_sM (fw_sM fw_rf (by unfold wF2; omega)) (by unfold wF2; omega)) (by unfold wF2; omega)
            exact hasC_fw (c := s.1) hc1 ff (by omega) (by omega)
        · have h1 := hs.1
          have h5 := hs.2.2.2.2
          have h2 := hs.2.1
          exact ⟨by show p < s.2; omega, h2, hs.2.2.1, Or.inl rfl, by show i + 0 + s.1.length ≤ s.2; omega, by show 0 ≤ 80; omega, by show pu s.1 ≤ 80; omega⟩
      · rw [if_neg c, if_neg (by rw [if_neg c]; decide)]
        refine cond _ ?_
        have hu : X11_unit RD (ma μ (sk t n p)) = X11_compare (ma (wrc μ q i s.1) (sk t n s.2)) := by
          have e1 : X11_unit RD (ma μ (sk t n p)) = bd (X11_sum RD (ma μ (sk t n p))) fun v6 μ7 => if (μ7 70 4) = (-1) then (bd (X11_compare μ7) fun v10 μ11 => some (0, μ11)) else (some (0, μ7)) := by
            show X11_unit (11 + 1) (ma μ (sk t n p)) = _
            rw [X11_unit, look_eq hP.1 (by omega), bd_some, pk_sk, sk_sk, if_neg (fun z => c0 (Or.inl z)), if_neg (fun z => c0 (Or.inr z))]
          rw [e1, hm, bd_some, ma_j (by decide), if_pos hP1.2.2.1]
          have e2 : X11_compare (ma (wrc μ q i s.1) s.2) = X11_compare (ma (wrc μ q i s.1) (sk t n s.2)) := by
            unfold X11_compare
            rw [ma_j (by decide), ma_j (by decide), if_pos hP1.2.2.1, if_pos hP1.2.2.1, look_eq hP1.1 (by have := hs.2.1; omega), look_eq hP1.1 (by omega), bd_some, bd_some, pk_sk, sk_sk]
          rw [e2]
          have hc := cmpRM hT (l := 6) (by decide) (a := s.1) (p := sk t n s.2) hP0 (Gp_end hs hge2 hle2) (fun _ => X11_sum RD) (sumM hT (q := q) 6 RD (by decide) (by decide))
          revert hc
          cases cmpR t n 6 s.1 (sk t n s.2) with
          | none =>
            rintro ⟨μ', a, i', k1, k2⟩
            rw [k1]; rfl
          | some v =>
            intro hc
            have hc : X11_compare (ma (wrc μ q i s.1) (sk t n s.2)) = some (0, ma (wrc μ q i v.1) v.2) := hc
            rw [hc]; rfl
        have assoc : ∀ (x : Rs) (g : Int → Mm → Rs) (k : Int → Mm → Rs), bd (bd x g) k = bd x fun v μ => bd (g v μ) k := by
          intro x g k; cases x <;> rfl
        unfold X11_condition_o
        rw [hu, assoc]
        refine bd_cg (fun v52 μ53 => ?_)
        rw [assoc]
        refine bd_cg (fun v55 μ56 => ?_)
        rw [assoc]
        exact bd_cg (fun v58 μ59 => (bd_some _ _ _).symm)
