/-! LAWS, the class's reader: conditions, clauses -/
theorem isCmp_eq (x : Int) (μ : Mm) : X2_isComparison x μ = some (if cop x = -1 then 0 else 1, μ) := by
  unfold X2_isComparison cop
  by_cases c1 : x = 61
  · rw [if_pos c1, if_pos c1, if_neg (by decide)]
  · rw [if_neg c1, if_neg c1]
    by_cases c2 : x = 60
    · rw [if_pos c2, if_pos c2, if_neg (by decide)]
    · rw [if_neg c2, if_neg c2]
      by_cases c3 : x = 62
      · rw [if_pos c3, if_pos c3, if_neg (by decide)]
      · rw [if_neg c3, if_neg c3, if_pos rfl]
theorem cop_dig {x : Int} (h : x = -1 ∨ (48 ≤ x ∧ x ≤ 57)) : cop x = -1 := by
  unfold cop
  rw [if_neg (by omega), if_neg (by omega), if_neg (by omega)]
theorem cmp_val (x v1 v14 : Int) (hx : cop x ≠ -1) (μ : Mm) : (if x = 61 then (if v1 = v14 then (some (1, μ) : Rs) else (some (0, μ))) else (if x = 60 then (if v14 ≤ v1 then (some (0, μ)) else (some (1, μ))) else (if v1 ≤ v14 then (some (0, μ)) else (some (1, μ))))) = some (wk (cop x) v1 v14, μ) := by
  unfold cop at *
  by_cases c1 : x = 61
  · rw [if_pos c1, if_pos c1]
    show _ = some (if v1 = v14 then 1 else 0, μ)
    by_cases c : v1 = v14
    · rw [if_pos c, if_pos c]
    · rw [if_neg c, if_neg c]
  · rw [if_neg c1] at hx
    rw [if_neg c1, if_neg c1]
    by_cases c2 : x = 60
    · rw [if_pos c2, if_pos c2]
      show _ = some (if v1 < v14 then 1 else 0, μ)
      by_cases c : v14 ≤ v1
      · rw [if_pos c, if_neg (by omega)]
      · rw [if_neg c, if_pos (by omega)]
    · rw [if_neg c2] at hx
      rw [if_neg c2, if_neg c2]
      by_cases c3 : x = 62
      · rw [if_pos c3]
        show _ = some (if v14 < v1 then 1 else 0, μ)
        by_cases c : v1 ≤ v14
        · rw [if_pos c, if_neg (by omega)]
        · rw [if_neg c, if_pos (by omega)]
      · rw [if_neg c3] at hx; exact absurd rfl hx
theorem cmp_rg (x v1 v14 : Int) (μ : Mm) : ∃ r, (if x = 61 then (if v1 = v14 then (some (1, μ) : Rs) else (some (0, μ))) else (if x = 60 then (if v14 ≤ v1 then (some (0, μ)) else (some (1, μ))) else (if v1 ≤ v14 then (some (0, μ)) else (some (1, μ))))) = some (r, μ) ∧ rgB r := by
  unfold rgB
  repeat' split
  all_goals exact ⟨_, rfl, by decide⟩
theorem cmpC {t : Nat → Int} {n : Nat} {ν : Mm} (h : Tx t n ν) (hT : ∀ j, j < n → 1 ≤ t j ∧ t j ≤ 255) (hE : eOK (envC ν)) {l : Nat} (hl : l ≤ 6) {p : Nat} (hp : p ≤ n) : CLs t n ν (X2_comparison ((6 - l : Nat) : Int)) p rgB (cmpS t n l p) := by
  have h1 := sumC h hT hE l RD hl (by show l < 12; omega) p hp
  have hG1 := sumS_G (t := t) (n := n) l p
  unfold cmpS
  have h160 := h.1
  revert h1 hG1
  cases sumS t n l p with
  | none =>
    rintro ⟨r, p', f', e1, e2, _⟩ _
    obtain ⟨v, g1, g2, g3⟩ := peek_B h e2
    have e : X2_comparison ((6 - l : Nat) : Int) (cr ν p (-1)) = bd (X4_refuseAt (p' : Int) (cr ν p' f')) fun v22 μ23 => some (0, μ23) := by
      unfold X2_comparison
      rw [e1, bd_some, g1, bd_some, isCmp_eq, bd_some, if_pos (by rw [if_pos (cop_dig g2)]), cr_1]
    by_cases c : f' = -1
    · subst c
      rw [refuse_eq, bd_some] at e
      exact ⟨_, _, _, e, Or.inl (by omega), Or.inl rfl⟩
    · rw [refuse_F c, bd_some] at e
      exact ⟨_, _, _, e, e2, Or.inl rfl⟩
  | some q =>
    intro h1 hG1
    have h1 : X2_sum RD ((6 - l : Nat) : Int) (cr ν p (-1)) = some (vl (envC ν) q.1, cr ν q.2 (-1)) := h1
    have hq := hG1 q hp rfl
    have hge := sk_ge (t := t) (n := n) q.2
    have hle := sk_le (t := t) (n := n) q.2 hq.2.1
    dsimp only
    unfold cmpR
    by_cases c : cop (pk t n q.2) = -1
    · rw [if_neg (fun z => z c)]
      refine ⟨0, sk t n q.2, ((sk t n q.2 : Nat) : Int), ?_, Or.inl (by omega), Or.inl rfl⟩
      unfold X2_comparison
      rw [h1, bd_some, peek_eq h hq.2.1, bd_some, isCmp_eq, bd_some, if_pos (by rw [if_pos c]), cr_1, refuse_eq, bd_some]
    · rw [if_pos c]
      have hq2 := pk_ne (t := t) (n := n) (p := q.2) (fun z => c (by rw [z]; decide))
      have h2 := sumC h hT hE l RD hl (by show l < 12; omega) (sk t n q.2 + 1) (by omega)
      have hG2 := sumS_G (t := t) (n := n) l (sk t n q.2 + 1)
      have e : X2_comparison ((6 - l : Nat) : Int) (cr ν p (-1)) = bd (X2_sum RD ((6 - l : Nat) : Int) (cr ν (sk t n q.2 + 1) (-1))) fun v14 μ15 => if pk t n q.2 = 61 then (if vl (envC ν) q.1 = v14 then (some (1, μ15)) else (some (0, μ15))) else (if pk t n q.2 = 60 then (if v14 ≤ vl (envC ν) q.1 then (some (0, μ15)) else (some (1, μ15))) else (if vl (envC ν) q.1 ≤ v14 then (some (0, μ15)) else (some (1, μ15)))) := by
        unfold X2_comparison
        rw [h1, bd_some, peek_eq h hq.2.1, bd_some, isCmp_eq, bd_some, if_neg (by rw [if_neg c]; decide), pass_eq h hq2.1, bd_some]
      revert h2 hG2
      cases sumS t n l (sk t n q.2 + 1) with
      | none =>
        rintro ⟨r, p', f', e1, e2, _⟩ _
        rw [e1, bd_some] at e
        obtain ⟨r2, g1, g2⟩ := cmp_rg (pk t n q.2) (vl (envC ν) q.1) r (cr ν p' f')
        exact ⟨r2, p', f', e.trans g1, e2, g2⟩
      | some w =>
        intro h2 hG2
        have h2 : X2_sum RD ((6 - l : Nat) : Int) (cr ν (sk t n q.2 + 1) (-1)) = some (vl (envC ν) w.1, cr ν w.2 (-1)) := h2
        have hw := hG2 w (by omega) rfl
        have hcb := cop_b (pk t n q.2)
        show X2_comparison ((6 - l : Nat) : Int) (cr ν p (-1)) = some (vl (envC ν) (bin (cop (pk t n q.2)) q.1 w.1), cr ν w.2 (-1))
        rw [e, h2, bd_some, cmp_val _ _ _ c, vl_bin' (by omega) hq.2.2.1 hw.2.2.1]
/-- a loop over one sign -/
def Lp1 (s o : Int) (F : Mm → Rs) (L : Nat → Int → Int → Mm → Rs) : Prop := ∀ f a k μ, (a = 0 ∨ a = 1) → L (f + 1) a k μ = if 160 ≤ k then (some (a, μ)) else (bd (X4_take s μ) fun v6 μ7 => if v6 = 0 then (some (a, μ7)) else (bd (F μ7) fun v μ' => L f (wk o a v) (iA k 1) μ'))
theorem Lp1_B {t : Nat → Int} {n : Nat} {ν : Mm} (h : Tx t n ν) {s o : Int} {F : Mm → Rs} {L : Nat → Int → Int → Mm → Rs} (hL : Lp1 s o F L) (h1 : okS s) {f : Nat} {a k : Int} (ha : a = 0 ∨ a = 1) {p : Nat} {g : Int} (hb : Bad t n p g) : L (f + 1) a k (cr ν p g) = some (a, cr ν p g) := by
  rw [hL f a k _ ha]
  by_cases c : 160 ≤ k
  · rw [if_pos c]
  · rw [if_neg c, take_B h hb h1, bd_some, if_pos rfl]
theorem chC1 {t : Nat → Int} {n : Nat} {ν : Mm} (h : Tx t n ν) (hE : eOK (envC ν)) {s o : Int} (h1 : okS s) (ho : 6 ≤ o ∧ o ≤ 11 ∧ o ≠ 9) {F : Mm → Rs} {L : Nat → Int → Int → Mm → Rs} (hL : Lp1 s o F L) {S : Nat → Pr} (hF : ∀ p, p ≤ n → CLs t n ν F p rgB (S p)) (hG : GC n S) : ∀ (m fuel : Nat) (a : Cd) (p0 p : Nat), m ≤ 160 → m < fuel → 161 ≤ p + m → Gp n p0 (a, p) → isC a → CLs t n ν (L fuel (vl (envC ν) a) ((160 - m : Nat) : Int)) p rgB (chL t n s s o o S m a p) := by
  intro m
  induction m with
  | zero =>
    intro fuel a p0 p _ _ hp hg _
    have := h.1
    have : p ≤ n := hg.2.1
    omega
  | succ m ih =>
    intro fuel a p0 p hm hf hp hg hc
    obtain ⟨f, rfl, hf'⟩ := lt_fuel (d := m + 1) hf
    obtain ⟨f2, rfl⟩ : ∃ f2, f = f2 + 1 := ⟨f - 1, by omega⟩
    have h160 := h.1
    have hpn : p ≤ n := hg.2.1
    have hge := sk_ge (t := t) (n := n) p
    have hle := sk_le (t := t) (n := n) p hpn
    have hk : iA ((160 - (m + 1) : Nat) : Int) 1 = ((160 - m : Nat) : Int) := by rw [iA_nat (by omega)]; omega
    have ho2 : 2 ≤ o ∧ o ≤ 11 ∧ o ≠ 9 := ⟨by omega, ho.2⟩
    unfold chL
    by_cases c1 : pk t n p = s
    · rw [if_pos c1]
      have hq := pk_ne (t := t) (n := n) (p := p) (by rw [c1]; exact h1.1)
      have e : L (f2 + 1 + 1) (vl (envC ν) a) ((160 - (m + 1) : Nat) : Int) (cr ν p (-1)) = bd (F (cr ν (sk t n p + 1) (-1))) fun v μ' => L (f2 + 1) (wk o (vl (envC ν) a) v) ((160 - m : Nat) : Int) μ' := by
        rw [hL _ _ _ _ (hc _), if_neg (by omega), take_eq h hpn s h1.1, if_pos c1, bd_some, if_neg (by decide), hk]
      have hF1 := hF (sk t n p + 1) (by omega)
      have hG1 := hG (sk t n p + 1)
      revert hF1 hG1
      cases S (sk t n p + 1) with
      | none =>
        rintro ⟨r, p', f', e1, e2, _⟩ _
        rw [e1, bd_some, Lp1_B h hL h1 (wk_c ho.1 _ _) e2] at e
        exact ⟨_, _, _, e, e2, wk_c ho.1 _ _⟩
      | some q =>
        intro hF1 hG1
        have hF1 : F (cr ν (sk t n p + 1) (-1)) = some (vl (envC ν) q.1, cr ν q.2 (-1)) := hF1
        have hq := (hG1 q (by omega) rfl).1
        have hb := Gp_bin ho2 hg hge hq
        rw [hF1, bd_some, ← vl_bin' ho2 hg.2.2.1 hq.2.2.1] at e
        have hI := ih (f2 + 1) (bin o a q.1) p0 q.2 (by omega) (by omega) (by have := hq.1; omega) hb (isC_bin ho hg.2.2.1 hq.2.2.1)
        dsimp only
        revert hI
        unfold CLs
        cases chL t n s s o o S m (bin o a q.1) q.2 with
        | none =>
          rintro ⟨r, p', f', e1, e2, e3⟩
          exact ⟨r, p', f', e.trans e1, e2, e3⟩
        | some w => intro hI; exact e.trans hI
    · rw [if_neg c1, if_neg c1]
      show L (f2 + 1 + 1) (vl (envC ν) a) ((160 - (m + 1) : Nat) : Int) (cr ν p (-1)) = some (vl (envC ν) a, cr ν (sk t n p) (-1))
      rw [hL _ _ _ _ (hc _), if_neg (by omega), take_eq h hpn s h1.1, if_neg c1, bd_some, if_pos rfl]
theorem chC1S {t : Nat → Int} {n : Nat} {ν : Mm} (h : Tx t n ν) (hE : eOK (envC ν)) {s o : Int} (h1 : okS s) (ho : 6 ≤ o ∧ o ≤ 11 ∧ o ≠ 9) {F : Mm → Rs} {L : Nat → Int → Int → Mm → Rs} (hL : Lp1 s o F L) {S : Nat → Pr} (hF : ∀ p, p ≤ n → CLs t n ν F p rgB (S p)) (hG : GC n S) {p : Nat} (hp : p ≤ n) : CLs t n ν (fun μ => bd (F μ) fun v1 μ2 => L FU v1 0 μ2) p rgB (chS t n s s o o S p) := by
  unfold chS
  have hF1 := hF p hp
  have hG1 := hG p
  revert hF1 hG1
  cases S p with
  | none =>
    rintro ⟨r, p', f', e1, e2, e3⟩ _
    refine ⟨r, p', f', ?_, e2, e3⟩
    show (bd (F (cr ν p (-1))) fun v1 μ2 => L FU v1 0 μ2) = _
    rw [e1, bd_some]
    exact Lp1_B h hL h1 e3 e2
  | some q =>
    intro hF1 hG1
    have hF1 : F (cr ν p (-1)) = some (vl (envC ν) q.1, cr ν q.2 (-1)) := hF1
    have hq := hG1 q hp rfl
    have hI := chC1 h hE h1 ho hL hF hG 160 FU q.1 p q.2 (by omega) (by decide) (by have := hq.1.1; omega) hq.1 hq.2
    dsimp only
    have e : (bd (F (cr ν p (-1))) fun v1 μ2 => L FU v1 0 μ2) = L FU (vl (envC ν) q.1) ((160 - 160 : Nat) : Int) (cr ν q.2 (-1)) := by rw [hF1, bd_some]; rfl
    revert hI
    unfold CLs
    cases chL t n s s o o S 160 q.1 q.2 with
    | none =>
      rintro ⟨r, p', f', e1, e2, e3⟩
      exact ⟨r, p', f', e.trans e1, e2, e3⟩
    | some w => intro hI; exact e.trans hI
theorem rZ_b {a : Int} (h : a = 0 ∨ a = 1) (μ : Mm) : rZ a μ = some (a, μ) := by unfold rZ; rw [if_pos h]
theorem wk_and (a v : Int) : wk 10 a v = if v = 0 then 0 else if a = 0 then 0 else 1 := by
  show (if a = 0 then 0 else if v = 0 then 0 else 1) = _
  by_cases h1 : a = 0
  · rw [if_pos h1, if_pos h1]; split <;> rfl
  · rw [if_neg h1, if_neg h1]
theorem wk_or (a v : Int) : wk 11 a v = if v = 0 then (if a = 0 then 0 else 1) else 1 := by
  show (if a = 0 then (if v = 0 then 0 else 1) else 1) = _
  by_cases h1 : a = 0
  · rw [if_pos h1, if_pos h1]
  · rw [if_neg h1, if_neg h1]; split <;> rfl
theorem Lp_truth (rec : Int → Mm → Rs) (d : Int) : Lp1 38 10 (rec d) (X2_truth_L8 rec d) := by
  intro f a k μ ha
  rw [X2_truth_L8, rZ_b ha]
  congr 1
  congr 1
  funext v6 μ7
  rw [rZ_b ha]
  congr 1
  congr 1
  funext v11 μ12
  rw [wk_and]
  by_cases c1 : v11 = 0
  · rw [if_pos c1, if_pos c1]
  · rw [if_neg c1, if_neg c1]
    by_cases c2 : a = 0
    · rw [if_pos c2, if_pos c2]
    · rw [if_neg c2, if_neg c2]
theorem Lp_cond (rec : Int → Mm → Rs) (d : Int) : Lp1 124 11 (X2_truth_o rec d) (X2_condition_L8 rec d) := by
  intro f a k μ ha
  rw [X2_condition_L8, rZ_b ha]
  congr 1
  congr 1
  funext v6 μ7
  rw [rZ_b ha]
  congr 1
  congr 1
  funext v11 μ12
  rw [wk_or]
  by_cases c1 : v11 = 0
  · rw [if_pos c1, if_pos c1]
    by_cases c2 : a = 0
    · rw [if_pos c2, if_pos c2]
    · rw [if_neg c2, if_neg c2]
  · rw [if_neg c1, if_neg c1]
theorem conC {t : Nat → Int} {n : Nat} {ν : Mm} (h : Tx t n ν) (hE : eOK (envC ν)) {rec : Int → Mm → Rs} {d : Int} {S : Nat → Pr} (hF : ∀ p, p ≤ n → CLs t n ν (rec d) p rgB (S p)) (hG : GC n S) {p : Nat} (hp : p ≤ n) : CLs t n ν (X2_condition_o rec d) p rgB (conS t n S p) := by
  refine chC1S h hE (by unfold okS; decide) (by decide) (Lp_cond rec d) (fun p hp => ?_) (chS_C (by decide) (by decide) (by decide) hG) hp
  exact chC1S h hE (by unfold okS; decide) (by decide) (Lp_truth rec d) hF hG hp
theorem unitOC {t : Nat → Int} {n : Nat} {ν : Mm} (h : Tx t n ν) (hT : ∀ j, j < n → 1 ≤ t j ∧ t j ≤ 255) (hE : eOK (envC ν)) {f l : Nat} (hl : l ≤ 6) {S : Nat → Pr} (hS : (1 ≤ l ∧ ∀ p, p ≤ n → CLs t n ν (X2_unit f ((6 - (l - 1) : Nat) : Int)) p rgB (S p)) ∨ (l = 0 ∧ ∀ p, S p = none)) (hG : GC n S) {p : Nat} (hp : p ≤ n) : CLs t n ν (X2_unit (f + 1) ((6 - l : Nat) : Int)) p rgB (unitO t n l S p) := by
  have h160 := h.1
  have hge := sk_ge (t := t) (n := n) p
  have hle := sk_le (t := t) (n := n) p hp
  unfold unitO
  have J0 : ∀ l2, l = 0 → X2_unit_J26 (fun w0 μq => X2_unit f w0 μq) ((6 - l : Nat) : Int) l2 (cr ν (sk t n p) (-1)) = some (0, cr ν (sk t n p) ((sk t n p : Nat) : Int)) := by
    intro l2 h0
    unfold X2_unit_J26
    rw [if_neg (by omega), cr_1, refuse_eq, bd_some]
  have hd : 1 ≤ l → iA ((6 - l : Nat) : Int) 1 = ((6 - (l - 1) : Nat) : Int) := fun h1 => by rw [iA_nat (by omega)]; omega
  by_cases c1 : pk t n p = 33
  · rw [if_pos c1]
    have hq := pk_ne (t := t) (n := n) (p := p) (by omega)
    have e0 : X2_unit (f + 1) ((6 - l : Nat) : Int) (cr ν p (-1)) = X2_unit_J26 (fun w0 μq => X2_unit f w0 μq) ((6 - l : Nat) : Int) 33 (cr ν (sk t n p) (-1)) := by
      rw [X2_unit, peek_eq h hp, bd_some, c1, if_pos rfl]
    rcases hS with ⟨h1, h2⟩ | ⟨h1, h2⟩
    · have e : X2_unit (f + 1) ((6 - l : Nat) : Int) (cr ν p (-1)) = bd (bd (X2_unit f ((6 - (l - 1) : Nat) : Int) (cr ν (sk t n p + 1) (-1))) fun v1 μ2 => if v1 = 0 then (some (1, μ2)) else (some (0, μ2))) fun v14 μ15 => rZ v14 μ15 := by
        rw [e0]
        unfold X2_unit_J26 X2_denied_o
        rw [if_pos (by omega), pass_eq h hq.1, bd_some, if_pos rfl, hd h1]
      have hF1 := h2 (sk t n p + 1) (by omega)
      have hG1 := hG (sk t n p + 1)
      revert hF1 hG1
      cases S (sk t n p + 1) with
      | none =>
        rintro ⟨r, p', f', e1, e2, e3⟩ _
        rw [e1, bd_some] at e
        by_cases c : r = 0
        · rw [if_pos c, bd_some, rZ_b (Or.inr rfl)] at e
          exact ⟨_, _, _, e, e2, Or.inr rfl⟩
        · rw [if_neg c, bd_some, rZ_b (Or.inl rfl)] at e
          exact ⟨_, _, _, e, e2, Or.inl rfl⟩
      | some q =>
        intro hF1 hG1
        have hF1 : X2_unit f ((6 - (l - 1) : Nat) : Int) (cr ν (sk t n p + 1) (-1)) = some (vl (envC ν) q.1, cr ν q.2 (-1)) := hF1
        obtain ⟨hq1, hq2⟩ := hG1 q (by omega) rfl
        have hn := (gd_neg hq1.2.2.1 hq2).2.2 (envC ν)
        show X2_unit (f + 1) ((6 - l : Nat) : Int) (cr ν p (-1)) = some (vl (envC ν) (ngc q.1), cr ν q.2 (-1))
        rw [e, hF1, bd_some, hn]
        by_cases c : vl (envC ν) q.1 = 0
        · rw [if_pos c, if_pos c, bd_some, rZ_b (Or.inr rfl)]
        · rw [if_neg c, if_neg c, bd_some, rZ_b (Or.inl rfl)]
    · rw [h2]
      exact ⟨_, _, _, e0.trans (J0 33 h1), Or.inl (by omega), Or.inl rfl⟩
  · rw [if_neg c1]
    by_cases c2 : pk t n p = 40
    · rw [if_pos c2]
      have hq := pk_ne (t := t) (n := n) (p := p) (by omega)
      have e0 : X2_unit (f + 1) ((6 - l : Nat) : Int) (cr ν p (-1)) = X2_unit_J26 (fun w0 μq => X2_unit f w0 μq) ((6 - l : Nat) : Int) 40 (cr ν (sk t n p) (-1)) := by
        rw [X2_unit, peek_eq h hp, bd_some, if_neg c1, c2, if_pos rfl]
      rcases hS with ⟨h1, h2⟩ | ⟨h1, h2⟩
      · have e : X2_unit (f + 1) ((6 - l : Nat) : Int) (cr ν p (-1)) = bd (bd (X2_condition_o (fun w0 μq => X2_unit f w0 μq) ((6 - (l - 1) : Nat) : Int) (cr ν (sk t n p + 1) (-1))) fun v1 μ2 => bd (X4_need 41 μ2) fun v4 μ5 => rZ v1 μ5) fun v10 μ11 => rZ v10 μ11 := by
          rw [e0]
          unfold X2_unit_J26 X2_enclosed_o
          rw [if_pos (by omega), pass_eq h hq.1, bd_some, if_neg (by decide), hd h1]
        have hF1 := conC h hE (rec := fun w0 μq => X2_unit f w0 μq) (d := ((6 - (l - 1) : Nat) : Int)) h2 hG (p := sk t n p + 1) (by omega)
        have hG1 := conS_G (t := t) hG (sk t n p + 1)
        revert hF1 hG1
        cases conS t n S (sk t n p + 1) with
        | none =>
          rintro ⟨r, p', f', e1, e2, e3⟩ _
          obtain ⟨f2, g1, g2⟩ := need_B h e2 (c := 41) (by decide)
          rw [e1, bd_some, g1, bd_some, rZ_b e3, bd_some, rZ_b e3] at e
          exact ⟨_, _, _, e, Or.inl g2, e3⟩
        | some q =>
          intro hF1 hG1
          have hF1 : X2_condition_o (fun w0 μq => X2_unit f w0 μq) ((6 - (l - 1) : Nat) : Int) (cr ν (sk t n p + 1) (-1)) = some (vl (envC ν) q.1, cr ν q.2 (-1)) := hF1
          obtain ⟨hq1, hq2⟩ := hG1 q (by omega) rfl
          rw [hF1, bd_some, need_eq h hq1.2.1 41 (by decide)] at e
          dsimp only
          by_cases c4 : pk t n q.2 = 41
          · rw [if_pos c4, bd_some, rZ_b (hq2 _), bd_some, rZ_b (hq2 _)] at e
            rw [if_pos c4]
            exact e
          · rw [if_neg c4, bd_some, rZ_b (hq2 _), bd_some, rZ_b (hq2 _)] at e
            rw [if_neg c4]
            exact ⟨_, _, _, e, Or.inl (by omega), hq2 _⟩
      · have : conS t n S (sk t n p + 1) = none := by unfold conS truS chS; rw [h2]
        rw [this]
        exact ⟨_, _, _, e0.trans (J0 40 h1), Or.inl (by omega), Or.inl rfl⟩
    · rw [if_neg c2]
      have e : X2_unit (f + 1) ((6 - l : Nat) : Int) (cr ν p (-1)) = bd (X2_comparison ((6 - l : Nat) : Int) (cr ν (sk t n p) (-1))) fun v22 μ23 => rZ v22 μ23 := by
        rw [X2_unit, peek_eq h hp, bd_some, if_neg c1, if_neg c2]
      have hF1 := cmpC h hT hE hl (p := sk t n p) hle
      have hG1 := cmpS_G (t := t) (n := n) (l := l) p
      rw [cmpS_sk p] at hF1
      revert hF1 hG1
      cases cmpS t n l p with
      | none =>
        rintro ⟨r, p', f', e1, e2, e3⟩ _
        rw [e1, bd_some, rZ_b e3] at e
        exact ⟨_, _, _, e, e2, e3⟩
      | some q =>
        intro hF1 hG1
        have hF1 : X2_comparison ((6 - l : Nat) : Int) (cr ν (sk t n p) (-1)) = some (vl (envC ν) q.1, cr ν q.2 (-1)) := hF1
        obtain ⟨hq1, hq2⟩ := hG1 q hp rfl
        rw [hF1, bd_some, rZ_b (hq2 _)] at e
        exact e
theorem unitC {t : Nat → Int} {n : Nat} {ν : Mm} (h : Tx t n ν) (hT : ∀ j, j < n → 1 ≤ t j ∧ t j ≤ 255) (hE : eOK (envC ν)) : ∀ (l fuel : Nat), l ≤ 6 → l < fuel → ∀ p, p ≤ n → CLs t n ν (X2_unit fuel ((6 - l : Nat) : Int)) p rgB (unitS t n l p) := by
  intro l
  induction l with
  | zero =>
    intro fuel _ hf p hp
    obtain ⟨f, rfl, hf'⟩ := lt_fuel hf
    exact unitOC h hT hE (l := 0) (by decide) (Or.inr ⟨rfl, fun _ => rfl⟩) (fun _ _ _ e => by cases e) hp
  | succ l ih =>
    intro fuel hl hf p hp
    obtain ⟨f, rfl, hf'⟩ := lt_fuel (d := l + 1) hf
    exact unitOC h hT hE (l := l + 1) hl (Or.inl ⟨by omega, fun p hp => ih f (by omega) (by omega) p hp⟩) (unitS_G l) hp
