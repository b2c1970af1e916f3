/-! two CRANKS exchanged, a PILLAR -/
theorem chg_eq {μ : Mm} (hU : UQ μ 82) {a b : Int} (ha : 0 ≤ a ∧ a ≤ 7) (hb : 0 ≤ b ∧ b ≤ 7) {p q : Nat} (hp : p < 60) (ip : isP μ p) (ep : μ 82 p = 3 + a) (hq : q < 60) (iq : isP μ q) (eq : μ 82 q = 3 + b) : X11_change a b μ = some (0, sM (sM μ 82 p (3 + b)) 82 q (3 + a)) := by
  unfold X11_change
  have e1 : iA 3 a = 3 + a := iA_id (by omega) (by omega)
  have e2 : iA 3 b = 3 + b := iA_id (by omega) (by omega)
  rw [e1, e2, plc_at hU hp ip ep (by omega), bd_some, plc_at hU hq iq eq (by omega), bd_some]
  unfold stA
  rw [if_pos (by show (0 : Int) ≤ (p : Int) ∧ (p : Int) < 60; omega)]
  dsimp only
  rw [if_pos (by show (0 : Int) ≤ (q : Int) ∧ (q : Int) < 60; omega), Int.toNat_natCast, Int.toNat_natCast]
theorem chg_at {μ : Mm} {p q : Nat} {x y : Int} (hpq : p ≠ q) (j : Nat) : sM (sM μ 82 p y) 82 q x 82 j = if j = q then x else if j = p then y else μ 82 j := by
  rw [sM_if, sM_if]
theorem Ir_chg {μ : Mm} (hI : Ir μ) {p q : Nat} (hp : p < 60) (ip : isP μ p) (hq : q < 60) (iq : isP μ q) (hpq : p ≠ q) (h3 : 3 ≤ μ 82 p) (h4 : 3 ≤ μ 82 q) : Ir (sM (sM μ 82 p (μ 82 q)) 82 q (μ 82 p)) := by
  have hU := hI.2.2.2.2.2.2.1
  have hB : Bm (sM (sM μ 82 p (μ 82 q)) 82 q (μ 82 p)) := Bm_sM (Bm_sM hI.1 (show (0 : Int) ≤ μ 82 q ∧ μ 82 q ≤ 10 from hI.1 82 q (by decide))) (show (0 : Int) ≤ μ 82 p ∧ μ 82 p ≤ 10 from hI.1 82 p (by decide))
  refine Ir_now hI hB (fun k j _ hk => by rw [sM_a hk, sM_a hk]) ?_ (fun h => ?_)
  · intro P R hP hR iP iR e2 e3
    have f : ∀ j, sM (sM μ 82 p (μ 82 q)) 82 q (μ 82 p) 70 j = μ 70 j := fun j => by rw [sM_a (by decide), sM_a (by decide)]
    have iP := (isP_congr (f 23) (f 24) P).mp iP
    have iR := (isP_congr (f 23) (f 24) R).mp iR
    rw [chg_at hpq, chg_at hpq] at e2
    rw [chg_at hpq] at e3
    have hne : μ 82 p ≠ μ 82 q := fun e => hpq (hU p q hp hq ip iq e (by omega))
    by_cases c1 : P = q
    · rw [if_pos c1] at e2
      by_cases c2 : R = q
      · rw [c1, c2]
      · rw [if_neg c2] at e2
        by_cases c3 : R = p
        · rw [if_pos c3] at e2; exact absurd e2 hne
        · rw [if_neg c3] at e2
          exact absurd (hU p R hp hR ip iR e2 (by omega)).symm c3
    · rw [if_neg c1] at e2 e3
      by_cases c4 : P = p
      · rw [if_pos c4] at e2 e3
        by_cases c2 : R = q
        · rw [if_pos c2] at e2; exact absurd e2.symm hne
        · rw [if_neg c2] at e2
          by_cases c3 : R = p
          · rw [c4, c3]
          · rw [if_neg c3] at e2
            exact absurd (hU q R hq hR iq iR e2 (by omega)).symm c2
      · rw [if_neg c4] at e2 e3
        by_cases c2 : R = q
        · rw [if_pos c2] at e2
          exact absurd (hU P p hP hp iP ip e2 (by omega)) c4
        · rw [if_neg c2] at e2
          by_cases c3 : R = p
          · rw [if_pos c3] at e2
            exact absurd (hU P q hP hq iP iq e2 (by omega)) c1
          · rw [if_neg c3] at e2
            exact hU P R hP hR iP iR e2 e3
  · obtain ⟨s, hs, is, hs2⟩ := hI.2.2.1 h
    refine ⟨s, hs, is, ?_⟩
    rw [chg_at hpq, if_neg (fun e => by rw [e] at hs2; omega), if_neg (fun e => by rw [e] at hs2; omega)]
    exact hs2
theorem isCr {μ : Mm} {a : Int} (ha : -2147483648 ≤ a ∧ a ≤ 2147483647) : ∃ r, X11_isCrank a μ = some (r, μ) ∧ ((r = 0 ∧ (0 ≤ a → a ≤ 7 → ∀ p : Nat, p < 60 → isP μ p → μ 82 p ≠ 3 + a)) ∨ (r = 1 ∧ 0 ≤ a ∧ a ≤ 7 ∧ ∃ p : Nat, p < 60 ∧ isP μ p ∧ μ 82 p = 3 + a)) := by
  unfold X11_isCrank X11_in
  by_cases h1 : a < 0
  · rw [if_pos h1, bd_some, if_pos rfl]
    exact ⟨0, rfl, Or.inl ⟨rfl, fun h => absurd h (by omega)⟩⟩
  · rw [if_neg h1]
    by_cases h2 : 7 < a
    · rw [if_pos h2, bd_some, if_pos rfl]
      exact ⟨0, rfl, Or.inl ⟨rfl, fun _ h => absurd h (by omega)⟩⟩
    · rw [if_neg h2, bd_some, if_neg (by decide)]
      have e1 : iA 3 a = 3 + a := iA_id (by omega) (by omega)
      rw [e1]
      obtain ⟨r, hr, hc⟩ := plc (3 + a) μ
      rw [hr, bd_some]
      rcases hc with ⟨h3, h4⟩ | ⟨h3, h4, h5, h6⟩
      · rw [if_pos h3]
        exact ⟨0, rfl, Or.inl ⟨rfl, fun _ _ => h4⟩⟩
      · rw [if_neg (by omega)]
        exact ⟨1, rfl, Or.inr ⟨rfl, by omega, by omega, r.toNat, by omega, h5, h6⟩⟩
theorem exch_in {μs : Mm} (hI : Ir μs) {l1 l2 : Int} (h1 : -2147483648 ≤ l1 ∧ l1 ≤ 2147483647) (h2 : -2147483648 ≤ l2 ∧ l2 ≤ 2147483647) {a b : Int} (hab : a ≠ b) (ha : 0 ≤ a ∧ a ≤ 7) (hb : 0 ≤ b ∧ b ≤ 7) {μ : Mm} (hS : Sm μs μ) {p q : Nat} (hp : p < 60) (ip : isP μ p) (ep : μ 82 p = 3 + a) (hq : q < 60) (iq : isP μ q) (eq : μ 82 q = 3 + b) {f : Int → Mm → Rs} {Q : Int → Mm → Prop} (k : ∀ r μ', Sm μs μ' → rI r → wp (f r μ') Q) : wp (bd (X11_change a b μ) fun _ μ28 => bd (X11_bothNow l1 l2 μ28) fun v30 μ31 => bd (X11_change a b μ31) fun _ μ34 => f v30 μ34) Q := by
  have hIμ := Ir_of hI hS
  have hU := hIμ.2.2.2.2.2.2.1
  have hpq : p ≠ q := fun e => by rw [e, eq] at ep; omega
  rw [chg_eq hU ha hb hp ip ep hq iq eq, bd_some]
  have hM : Ir (sM (sM μ 82 p (3 + b)) 82 q (3 + a)) := by
    have := Ir_chg hIμ hp ip hq iq hpq (by omega) (by omega)
    rw [ep, eq] at this
    exact this
  refine wp_call (t_X11_bothNow (μs := sM (sM μ 82 p (3 + b)) 82 q (3 + a)) (l1 := l1) (l2 := l2) hM h1 h2 (Sm_rf hM.1)) (fun r μ5 hh => ?_)
  obtain ⟨hS5, hr5, _⟩ := hh
  have hI5 := Ir_of hM hS5
  have f70 : ∀ j, j = 23 ∨ j = 24 → μ5 70 j = μ 70 j := fun j hj => by
    rw [eqS hS5 (by unfold scrM; omega), sM_a (by decide), sM_a (by decide)]
  have f82 : ∀ j, μ5 82 j = if j = q then 3 + a else if j = p then 3 + b else μ 82 j := fun j => by
    rw [eqS hS5 (by unfold scrM; omega), chg_at hpq]
  have ip5 := (isP_congr (f70 23 (by decide)) (f70 24 (by decide)) p).mpr ip
  have iq5 := (isP_congr (f70 23 (by decide)) (f70 24 (by decide)) q).mpr iq
  rw [chg_eq hI5.2.2.2.2.2.2.1 ha hb hq iq5 (by rw [f82, if_pos rfl]) hp ip5 (by rw [f82, if_neg hpq, if_pos rfl]), bd_some]
  refine k r _ ?_ hr5
  refine ⟨Bm_sM (Bm_sM hS5.1 (show (0 : Int) ≤ 3 + b ∧ 3 + b ≤ 10 by omega)) (show (0 : Int) ≤ 3 + a ∧ 3 + a ≤ 10 by omega), fun k j hk => ?_⟩
  by_cases hk82 : k = 82
  · subst hk82
    rw [chg_at (Ne.symm hpq), f82]
    by_cases c1 : j = p
    · rw [if_pos c1, c1, ← ep]; rw [c1] at hk; exact eqS hS hk
    · rw [if_neg c1]
      by_cases c2 : j = q
      · rw [if_pos c2, c2, ← eq]; rw [c2] at hk; exact eqS hS hk
      · rw [if_neg c2, if_neg c2, if_neg c1]; exact eqS hS hk
  · rw [sM_a hk82, sM_a hk82, eqS hS5 hk, sM_a hk82, sM_a hk82]
    exact eqS hS hk
theorem exch_L59 {μs : Mm} (hI : Ir μs) {l1 l2 l3 l6 : Int} (h1 : -2147483648 ≤ l1 ∧ l1 ≤ 2147483647) (h2 : -2147483648 ≤ l2 ∧ l2 ≤ 2147483647) (h6 : 0 ≤ l6 ∧ l6 ≤ 7) {K : Int → Int → Mm → Rs} {Q : Int → Mm → Prop} (hK : ∀ a b μ, Sm μs μ → rI a → rI b → wp (K a b μ) Q) : ∀ (n : Nat) (l4 l5 l7 : Int) (μ : Mm), Sm μs μ → rI l4 → rI l5 → l6 < l7 ∧ l7 ≤ 8 → 8 - l7 + 1 ≤ ((n : Nat) : Int) → wp (X11_exchange_L59 l1 l2 l3 l6 K n l4 l5 l7 μ) Q := by
  intro n
  induction n with
  | zero => intro l4 l5 l7 μ _ _ _ hc h; exact absurd h (by have : ((0 : Nat) : Int) = 0 := rfl; omega)
  | succ n ih =>
    intro l4 l5 l7 μ hS h4 h5 hc hn
    have hn1 : ((n + 1 : Nat) : Int) = ((n : Nat) : Int) + 1 := rfl
    have e1 : iA l7 1 = l7 + 1 := iA_id (by omega) (by omega)
    show wp (if 8 ≤ l7 then _ else _) Q
    refine wp_if (fun g => ?_) (fun g => ?_)
    · exact hK l4 l5 μ hS h4 h5
    · obtain ⟨r, hr, hc1⟩ := isCr (μ := μ) (a := l6) (by omega)
      rw [hr, bd_some]
      rcases hc1 with ⟨h0, -⟩ | ⟨h0, -, -, p, hp, ip, ep⟩
      · rw [if_pos h0, e1]
        exact ih _ _ _ _ hS h4 h5 (by omega) (by omega)
      · rw [if_neg (by omega)]
        obtain ⟨r2, hr2, hc2⟩ := isCr (μ := μ) (a := l7) (by omega)
        rw [hr2, bd_some]
        rcases hc2 with ⟨h00, -⟩ | ⟨h00, -, -, q, hq, iq, eq⟩
        · rw [if_pos h00, e1]
          exact ih _ _ _ _ hS h4 h5 (by omega) (by omega)
        · rw [if_neg (by omega)]
          refine exch_in hI h1 h2 (a := l6) (b := l7) (by omega) h6 (by omega) hS hp ip ep hq iq eq (fun r3 μ' hS' hr3 => ?_)
          rw [e1]
          have fin : wp (X11_exchange_J127 (fun w4 w5 w7 μq => X11_exchange_L59 l1 l2 l3 l6 K n w4 w5 w7 μq) l1 l2 l3 l6 l7 r3 μ') Q := by
            unfold X11_exchange_J127
            refine wp_ltv (fun v hv => ?_)
            rw [e1]
            exact ih _ _ _ _ hS' (by rw [hv]; exact wI_r _) hr3 (by omega) (by omega)
          refine wp_if (fun _ => ?_) (fun _ => ?_)
          · exact ih _ _ _ _ hS' h4 h5 (by omega) (by omega)
          refine wp_if (fun _ => ?_) (fun _ => ?_)
          · exact fin
          refine wp_if (fun _ => ?_) (fun _ => ?_)
          · exact ih _ _ _ _ hS' h4 h5 (by omega) (by omega)
          · exact fin
theorem exch_L46 {μs : Mm} (hI : Ir μs) {l1 l2 l3 : Int} (h1 : -2147483648 ≤ l1 ∧ l1 ≤ 2147483647) (h2 : -2147483648 ≤ l2 ∧ l2 ≤ 2147483647) {K : Int → Int → Mm → Rs} {Q : Int → Mm → Prop} (hK : ∀ a b μ, Sm μs μ → rI a → rI b → wp (K a b μ) Q) : ∀ (n : Nat) (l4 l5 l6 : Int) (μ : Mm), Sm μs μ → rI l4 → rI l5 → 0 ≤ l6 ∧ l6 ≤ 8 → 8 - l6 + 1 ≤ ((n : Nat) : Int) → wp (X11_exchange_L46 l1 l2 l3 K n l4 l5 l6 μ) Q := by
  intro n
  induction n with
  | zero => intro l4 l5 l6 μ _ _ _ hc h; exact absurd h (by have : ((0 : Nat) : Int) = 0 := rfl; omega)
  | succ n ih =>
    intro l4 l5 l6 μ hS h4 h5 hc hn
    have hn1 : ((n + 1 : Nat) : Int) = ((n : Nat) : Int) + 1 := rfl
    have e1 : iA l6 1 = l6 + 1 := iA_id (by omega) (by omega)
    show wp (if 8 ≤ l6 then _ else _) Q
    refine wp_if (fun g => ?_) (fun g => ?_)
    · exact hK l4 l5 μ hS h4 h5
    · rw [e1]
      exact exch_L59 hI h1 h2 (by omega) (fun a b μ' hS' ha hb => ih _ _ _ _ hS' ha hb (by omega) (by omega)) FU _ _ _ _ hS h4 h5 (by omega) (by rw [FU_v]; omega)
theorem t_X11_exchange {μs : Mm} {l1 l2 l3 : Int} (hI : Ir μs) (hp_l1 : -2147483648 ≤ l1 ∧ l1 ≤ 2147483647) (hp_l2 : -2147483648 ≤ l2 ∧ l2 ≤ 2147483647) (hp_l3 : -2147483648 ≤ l3 ∧ l3 ≤ 2147483647) {μ : Mm} (hS : Sm μs μ) : wp (X11_exchange l1 l2 l3 μ) (fun r μ' => Sm μs μ' ∧ (-2147483648 ≤ r ∧ r ≤ 2147483647) ∧ True) := by
  unfold X11_exchange
  refine wp_call (t_X11_isReady (l1 := l1) hI hp_l1 hS) (fun v μ2 hh => ?_)
  obtain ⟨h2, hr2, hp2⟩ := hh
  refine wp_if (fun g => ?_) (fun g => ?_)
  · exact ⟨h2, by omega, trivial⟩
  refine wp_call (t_X11_isReady (l1 := l2) hI hp_l2 h2) (fun v3 μ3 hh3 => ?_)
  obtain ⟨h3, hr3, hp3⟩ := hh3
  refine wp_if (fun g3 => ?_) (fun g3 => ?_)
  · exact ⟨h3, by omega, trivial⟩
  refine wp_if (fun g4 => ?_) (fun g4 => ?_)
  · exact ⟨h3, by omega, trivial⟩
  refine wp_calls (t_X11_in (l0 := l3) (l1 := 0) (l2 := 1) hp_l3 (by omega) (by omega) h3) (fun v5 hh5 => ?_)
  refine wp_if (fun g5 => ?_) (fun g5 => ?_)
  · exact ⟨h3, by omega, trivial⟩
  refine wp_call (t_X11_bothNow (l1 := l1) (l2 := l2) hI hp_l1 hp_l2 h3) (fun v6 μ6 hh6 => ?_)
  obtain ⟨h6, hr6, hp6⟩ := hh6
  refine exch_L46 hI hp_l1 hp_l2 (fun a b μ7 h7 ha hb => ?_) FU _ _ _ _ h6 ⟨by decide, by decide⟩ hr6 (by omega) (by rw [FU_v]; omega)
  refine wp_if (fun _ => ?_) (fun _ => ?_)
  · exact ⟨h7, by omega, trivial⟩
  refine wp_if (fun _ => ?_) (fun _ => ?_)
  · exact ⟨h7, ha, trivial⟩
  · exact ⟨h7, hb, trivial⟩
theorem pill_L {μs : Mm} (hI : Ir μs) {l1 l2 : Int} (h1 : -2147483648 ≤ l1 ∧ l1 ≤ 2147483647) {K : Int → Int → Mm → Rs} {Q : Int → Mm → Prop} (hK : ∀ a b μ, Sm μs μ → rI a → rI b → wp (K a b μ) Q) : ∀ (n : Nat) (l3 l4 l5 : Int) (μ : Mm), Sm μs μ → rI l3 → rI l4 → 0 ≤ l5 ∧ l5 ≤ 60 → 60 - l5 + 1 ≤ ((n : Nat) : Int) → wp (X11_pillar_L40 l1 l2 K n l3 l4 l5 μ) Q := by
  intro n
  induction n with
  | zero => intro l3 l4 l5 μ _ _ _ hc h; exact absurd h (by have : ((0 : Nat) : Int) = 0 := rfl; omega)
  | succ n ih =>
    intro l3 l4 l5 μ hS h3 h4 hc hn
    have hn1 : ((n + 1 : Nat) : Int) = ((n : Nat) : Int) + 1 := rfl
    show wp (if 60 ≤ l5 then _ else _) Q
    refine wp_if (fun g => ?_) (fun g => ?_)
    · exact hK l3 l4 μ hS h3 h4
    · have e1 : iA l5 1 = l5 + 1 := iA_id (by omega) (by omega)
      rw [e1]
      refine wp_calls (t_X11_isPlace (l1 := l5) (by omega) hS) (fun v hh => ?_)
      refine wp_if (fun g2 => ?_) (fun g2 => ?_)
      · exact ih _ _ _ μ hS h3 h4 (by omega) (by omega)
      · refine wp_ldv (by show 0 ≤ l5 ∧ l5 < 60; omega) (fun v2 q2 => ?_)
        refine wp_if (fun g3 => ?_) (fun g3 => ?_)
        · refine wp_stv (P := fun x => x = sM μ 82 l5.toNat 1) (by show 0 ≤ l5 ∧ l5 < 60; omega) rfl (fun μ3 e3 _ => ?_)
          have hI3 : Ir μ3 := by rw [e3]; exact Ir_82 (Ir_of hI hS) (by omega) (by omega)
          refine wp_call (t_X11_leastNow (μs := μ3) (l1 := l1) hI3 h1 (Sm_rf hI3.1)) (fun r μ4 h4' => ?_)
          obtain ⟨hS4, hr4, _⟩ := h4'
          rw [e3] at hS4
          refine wp_stv (P := fun x => x = sM μ4 82 l5.toNat 0) (by show 0 ≤ l5 ∧ l5 < 60; omega) rfl (fun μ5 e5 _ => ?_)
          have hS5 : Sm μs μ5 := by
            have := back_c hS (by decide) (fun j => by unfold scrM; omega) hS4
            rw [← q2, g3] at this
            rw [e5]; exact this
          refine wp_if (fun _ => ?_) (fun _ => ?_)
          · exact ih _ _ _ _ hS5 ⟨by omega, by omega⟩ hr4 (by omega) (by omega)
          refine wp_if (fun _ => ?_) (fun _ => ?_)
          · exact ih _ _ _ _ hS5 h3 h4 (by omega) (by omega)
          refine wp_if (fun _ => ?_) (fun _ => ?_)
          · exact ih _ _ _ _ hS5 ⟨by omega, by omega⟩ hr4 (by omega) (by omega)
          refine wp_if (fun _ => ?_) (fun _ => ?_)
          · exact ih _ _ _ _ hS5 h3 h4 (by omega) (by omega)
          · exact ih _ _ _ _ hS5 ⟨by omega, by omega⟩ hr4 (by omega) (by omega)
        · exact ih _ _ _ μ hS h3 h4 (by omega) (by omega)
theorem t_X11_pillar {μs : Mm} {l1 l2 : Int} (hI : Ir μs) (hp_l1 : -2147483648 ≤ l1 ∧ l1 ≤ 2147483647) (hp_l2 : -2147483648 ≤ l2 ∧ l2 ≤ 2147483647) {μ : Mm} (hS : Sm μs μ) : wp (X11_pillar l1 l2 μ) (fun r μ' => Sm μs μ' ∧ (-2147483648 ≤ r ∧ r ≤ 2147483647) ∧ True) := by
  unfold X11_pillar
  refine wp_call (t_X11_isReady (l1 := l1) hI hp_l1 hS) (fun v μ2 hh => ?_)
  obtain ⟨h2, hr2, hp2⟩ := hh
  refine wp_if (fun g => ?_) (fun g => ?_)
  · exact ⟨h2, by omega, trivial⟩
  refine wp_calls (t_X11_in (l0 := l2) (l1 := 0) (l2 := 1) hp_l2 (by omega) (by omega) h2) (fun v3 hh3 => ?_)
  refine wp_if (fun g2 => ?_) (fun g2 => ?_)
  · exact ⟨h2, by omega, trivial⟩
  refine wp_calls (t_X11_all h2) (fun v4 hh4 => ?_)
  refine wp_call (t_X11_leastOf (l1 := 0) (l2 := v4) hI (by omega) hh4.1 h2) (fun v5 μ5 hh5 => ?_)
  obtain ⟨h5, hr5, hp5⟩ := hh5
  refine wp_if (fun g5 => ?_) (fun g5 => ?_)
  · exact ⟨h5, by omega, trivial⟩
  refine pill_L hI hp_l1 (fun a b μ3 h3 ha hb => ?_) FU _ _ _ _ h5 ⟨by decide, by decide⟩ ⟨by decide, by decide⟩ (by omega) (by rw [FU_v]; omega)
  refine wp_if (fun _ => ?_) (fun _ => ?_)
  · exact ⟨h3, ha, trivial⟩
  refine wp_if (fun _ => ?_) (fun _ => ?_)
  · exact ⟨h3, ha, trivial⟩
  refine wp_if (fun _ => ?_) (fun _ => ?_)
  · exact ⟨h3, by omega, trivial⟩
  · exact ⟨h3, hb, trivial⟩
