/-! WHAT IS ALTERED FOR A WHILE: a POST, a ROPE, two CRANKS, a PILLAR -/
theorem Bm_sM {μ : Mm} (h : Bm μ) {a j : Nat} {v : Int} (hv : (bm a j).1 ≤ v ∧ v ≤ (bm a j).2) : Bm (sM μ a j v) := fun k i hk => by
  unfold sM
  by_cases c : k = a ∧ i = j
  · rw [if_pos c, c.1, c.2]; exact hv
  · rw [if_neg c]; exact h k i hk
/-- the cells that Ir speaks of -/
def perI (k j : Nat) : Prop := (k = 70 ∧ (j = 13 ∨ j = 23 ∨ j = 24 ∨ j = 28 ∨ j = 32 ∨ j = 53)) ∨ (72 ≤ k ∧ k ≤ 78) ∨ k = 82 ∨ k = 83 ∨ k = 85 ∨ k = 96
theorem isP_congr {μ ν : Mm} (h1 : ν 70 23 = μ 70 23) (h2 : ν 70 24 = μ 70 24) (p : Nat) : isP ν p ↔ isP μ p := by
  unfold isP; rw [h1, h2]
theorem LawOK_congr {μ ν : Mm} {q : Int} (h : LawOK μ q) (e : agr q ν μ) : LawOK ν q := by
  intro x hx ha
  refine h x hx ⟨fun j h1 h2 => ?_, ha.2.1.trans e.2.1, fun j h1 h2 => ?_⟩
  · exact ⟨(ha.1 j h1 h2).1.trans (e.1 j h1 h2).1, (ha.1 j h1 h2).2.trans (e.1 j h1 h2).2⟩
  · exact ⟨(ha.2.2 j h1 h2).1.trans (e.2.2 j h1 h2).1, (ha.2.2 j h1 h2).2.1.trans (e.2.2 j h1 h2).2.1, (ha.2.2 j h1 h2).2.2.trans (e.2.2 j h1 h2).2.2⟩
theorem agr_of {μ ν : Mm} (q : Int) (h : ∀ k j, 72 ≤ k → k ≤ 78 → ν k j = μ k j) : agr q ν μ :=
  ⟨fun j _ _ => ⟨h 72 j (by decide) (by decide), h 73 j (by decide) (by decide)⟩, h 75 _ (by decide) (by decide), fun j _ _ => ⟨h 76 j (by decide) (by decide), h 77 j (by decide) (by decide), h 78 j (by decide) (by decide)⟩⟩
theorem UQ_congr {μ ν : Mm} {c : Nat} (h : UQ μ c) (h1 : ν 70 23 = μ 70 23) (h2 : ν 70 24 = μ 70 24) (hc : ∀ p, ν c p = μ c p) : UQ ν c := by
  intro p q hp hq ip iq e2 e3
  rw [hc p, hc q] at e2
  rw [hc p] at e3
  exact h p q hp hq ((isP_congr h1 h2 p).mp ip) ((isP_congr h1 h2 q).mp iq) e2 e3
theorem Ir_congr {μ ν : Mm} (hI : Ir μ) (hB : Bm ν) (e : ∀ k j, perI k j → ν k j = μ k j) : Ir ν := by
  have s : ∀ j, (j = 13 ∨ j = 23 ∨ j = 24 ∨ j = 28 ∨ j = 32 ∨ j = 53) → ν 70 j = μ 70 j := fun j hj => e 70 j (Or.inl ⟨rfl, hj⟩)
  have e23 := s 23 (by decide)
  have e24 := s 24 (by decide)
  obtain ⟨_, h2, h3, h4, h5, h6, h7, h8⟩ := hI
  refine ⟨hB, fun p k hp hk => ?_, fun h => ?_, fun h => ?_, ?_, fun q hq1 hq2 => ?_, UQ_congr h7 e23 e24 (fun p => e 82 p (by unfold perI; omega)), fun h => ?_⟩
  · rw [s 28 (by decide)] at hp
    rw [e 85 p (by unfold perI; omega)] at hk
    rw [e 83 _ (by unfold perI; omega)]
    exact h2 p k hp hk
  · rw [e23] at h
    obtain ⟨p, hp, ip, hp2⟩ := h3 h
    exact ⟨p, hp, (isP_congr e23 e24 p).mpr ip, by rw [e 82 p (by unfold perI; omega)]; exact hp2⟩
  · rw [s 53 (by decide)] at h
    obtain ⟨p, hp, ip, hp2⟩ := h4 h
    exact ⟨p, hp, (isP_congr e23 e24 p).mpr ip, by rw [e 96 p (by unfold perI; omega)]; exact hp2⟩
  · rw [s 32 (by decide), s 13 (by decide)]; exact h5
  · rw [s 13 (by decide)] at hq2
    exact LawOK_congr (h6 q hq1 hq2) (agr_of q (fun k j h1 h2 => e k j (by unfold perI; omega)))
  · rw [s 53 (by decide)] at h
    exact UQ_congr (h8 h) e23 e24 (fun p => e 96 p (by unfold perI; omega))
theorem Ir_of {μs μ : Mm} (hI : Ir μs) (h : Sm μs μ) : Ir μ := Ir_congr hI h.1 (fun k j hp => eqS h (by unfold perI at hp; unfold scrM; omega))
theorem Ir_now {μ ν : Mm} (hI : Ir μ) (hB : Bm ν) (e : ∀ k j, perI k j → k ≠ 82 → ν k j = μ k j) (hU : UQ ν 82) (hS : μ 70 23 ≠ 0 → ∃ p, p < 60 ∧ isP μ p ∧ ν 82 p = 2) : Ir ν := by
  have s : ∀ j, (j = 13 ∨ j = 23 ∨ j = 24 ∨ j = 28 ∨ j = 32 ∨ j = 53) → ν 70 j = μ 70 j := fun j hj => e 70 j (Or.inl ⟨rfl, hj⟩) (by decide)
  have e23 := s 23 (by decide)
  have e24 := s 24 (by decide)
  obtain ⟨_, h2, h3, h4, h5, h6, h7, h8⟩ := hI
  refine ⟨hB, fun p k hp hk => ?_, fun h => ?_, fun h => ?_, ?_, fun q hq1 hq2 => ?_, hU, fun h => ?_⟩
  · rw [s 28 (by decide)] at hp
    rw [e 85 p (by unfold perI; omega) (by decide)] at hk
    rw [e 83 _ (by unfold perI; omega) (by decide)]
    exact h2 p k hp hk
  · rw [e23] at h
    obtain ⟨p, hp, ip, hp2⟩ := hS h
    exact ⟨p, hp, (isP_congr e23 e24 p).mpr ip, hp2⟩
  · rw [s 53 (by decide)] at h
    obtain ⟨p, hp, ip, hp2⟩ := h4 h
    exact ⟨p, hp, (isP_congr e23 e24 p).mpr ip, by rw [e 96 p (by unfold perI; omega) (by decide)]; exact hp2⟩
  · rw [s 32 (by decide), s 13 (by decide)]; exact h5
  · rw [s 13 (by decide)] at hq2
    exact LawOK_congr (h6 q hq1 hq2) (agr_of q (fun k j h1 h2 => e k j (by unfold perI; omega) (by omega)))
  · rw [s 53 (by decide)] at h
    exact UQ_congr (h8 h) e23 e24 (fun p => e 96 p (by unfold perI; omega) (by decide))
theorem UQ_sM {μ : Mm} (h : UQ μ 82) {i : Nat} {v : Int} (hv : v < 2) : UQ (sM μ 82 i v) 82 := by
  intro p q hp hq ip iq e2 e3
  have e23 : ∀ j, sM μ 82 i v 70 j = μ 70 j := fun j => sM_a (by decide)
  have ip := (isP_congr (e23 23) (e23 24) p).mp ip
  have iq := (isP_congr (e23 23) (e23 24) q).mp iq
  rw [sM_if] at e3
  by_cases c1 : p = i
  · rw [if_pos c1] at e3; omega
  · rw [if_neg c1] at e3
    rw [sM_if, sM_if, if_neg c1] at e2
    by_cases c2 : q = i
    · rw [if_pos c2] at e2; omega
    · rw [if_neg c2] at e2
      exact h p q hp hq ip iq e2 e3
theorem Ir_82 {μ : Mm} (hI : Ir μ) {i : Nat} {v : Int} (hx : μ 82 i < 2) (hv : 0 ≤ v ∧ v < 2) : Ir (sM μ 82 i v) := by
  refine Ir_now hI (Bm_sM hI.1 (show (0 : Int) ≤ v ∧ v ≤ 10 by omega)) (fun k j _ hk => sM_a hk) (UQ_sM hI.2.2.2.2.2.2.1 hv.2) (fun h => ?_)
  obtain ⟨p, hp, ip, hp2⟩ := hI.2.2.1 h
  refine ⟨p, hp, ip, ?_⟩
  rw [sM_j (fun e => by rw [e] at hp2; omega)]
  exact hp2
theorem back_c {μs μ μ2 : Mm} {c i : Nat} {v : Int} (h : Sm μs μ) (hc : 70 ≤ c) (hn : ∀ j, ¬ scrM c j) (h2 : Sm (sM μ c i v) μ2) : Sm μs (sM μ2 c i (μ c i)) := by
  refine ⟨Bm_sM h2.1 (h.1 c i hc), fun k j hk => ?_⟩
  unfold sM
  by_cases e : k = c ∧ j = i
  · rw [if_pos e, e.1, e.2]; exact eqS h (hn i)
  · rw [if_neg e, eqS h2 hk]
    unfold sM
    rw [if_neg e]
    exact eqS h hk
theorem post_L {μs : Mm} (hI : Ir μs) {l1 l2 : Int} (h1 : -2147483648 ≤ l1 ∧ l1 ≤ 2147483647) {K : Int → Int → Mm → Rs} {Q : Int → Mm → Prop} (hK : ∀ a b μ, Sm μs μ → rI a → rI b → wp (K a b μ) Q) : ∀ (n : Nat) (l3 l4 l5 : Int) (μ : Mm), Sm μs μ → rI l3 → rI l4 → 0 ≤ l5 ∧ l5 ≤ 60 → 60 - l5 + 1 ≤ ((n : Nat) : Int) → wp (X11_post_L27 l1 l2 K n l3 l4 l5 μ) Q := by
  intro n
  induction n with
  | zero => intro l3 l4 l5 μ _ _ _ hc h; exact absurd h (by have : ((0 : Nat) : Int) = 0 := rfl; omega)
  | succ n ih =>
    intro l3 l4 l5 μ hS h3 h4 hc hn
    have hn1 : ((n + 1 : Nat) : Int) = ((n : Nat) : Int) + 1 := rfl
    show wp (if 60 ≤ l5 then _ else _) Q
    refine wp_if (fun g => ?_) (fun g => ?_)
    · exact hK l3 l4 μ hS h3 h4
    · have e1 : iA l5 1 = l5 + 1 := iA_id (by omega) (by omega)
      rw [e1]
      refine wp_calls (t_X11_isPlace (l1 := l5) (by omega) hS) (fun v hh => ?_)
      refine wp_if (fun g2 => ?_) (fun g2 => ?_)
      · exact ih _ _ _ μ hS h3 h4 (by omega) (by omega)
      · refine wp_ldv (by show 0 ≤ l5 ∧ l5 < 60; omega) (fun v2 q2 => ?_)
        refine wp_if (fun g3 => ?_) (fun g3 => ?_)
        · refine wp_stv (P := fun x => x = sM μ 82 l5.toNat 0) (by show 0 ≤ l5 ∧ l5 < 60; omega) rfl (fun μ3 e3 _ => ?_)
          have hI3 : Ir μ3 := by rw [e3]; exact Ir_82 (Ir_of hI hS) (by omega) (by omega)
          refine wp_call (t_X11_leastNow (μs := μ3) (l1 := l1) hI3 h1 (Sm_rf hI3.1)) (fun r μ4 h4' => ?_)
          obtain ⟨hS4, hr4, _⟩ := h4'
          rw [e3] at hS4
          refine wp_stv (P := fun x => x = sM μ4 82 l5.toNat 1) (by show 0 ≤ l5 ∧ l5 < 60; omega) rfl (fun μ5 e5 _ => ?_)
          have hS5 : Sm μs μ5 := by
            have := back_c hS (by decide) (fun j => by unfold scrM; omega) hS4
            rw [← q2, g3] at this
            rw [e5]; exact this
          refine wp_if (fun _ => ?_) (fun _ => ?_)
          · exact ih _ _ _ _ hS5 h3 h4 (by omega) (by omega)
          refine wp_if (fun _ => ?_) (fun _ => ?_)
          · exact ih _ _ _ _ hS5 ⟨by omega, by omega⟩ hr4 (by omega) (by omega)
          refine wp_if (fun _ => ?_) (fun _ => ?_)
          · exact ih _ _ _ _ hS5 h3 h4 (by omega) (by omega)
          · exact ih _ _ _ _ hS5 ⟨by omega, by omega⟩ hr4 (by omega) (by omega)
        · exact ih _ _ _ μ hS h3 h4 (by omega) (by omega)
theorem t_X11_post {μs : Mm} {l1 l2 : Int} (hI : Ir μs) (hp_l1 : -2147483648 ≤ l1 ∧ l1 ≤ 2147483647) (hp_l2 : -2147483648 ≤ l2 ∧ l2 ≤ 2147483647) {μ : Mm} (hS : Sm μs μ) : wp (X11_post l1 l2 μ) (fun r μ' => Sm μs μ' ∧ (-2147483648 ≤ r ∧ r ≤ 2147483647) ∧ True) := by
  unfold X11_post
  refine wp_call (t_X11_isReady (l1 := l1) hI hp_l1 hS) (fun v μ2 hh => ?_)
  obtain ⟨h2, hr2, hp2⟩ := hh
  refine wp_if (fun g => ?_) (fun g => ?_)
  · exact ⟨h2, by omega, trivial⟩
  refine wp_calls (t_X11_in (l0 := l2) (l1 := 0) (l2 := 1) hp_l2 (by omega) (by omega) h2) (fun v3 hh3 => ?_)
  refine wp_if (fun g2 => ?_) (fun g2 => ?_)
  · exact ⟨h2, by omega, trivial⟩
  refine post_L hI hp_l1 (fun a b μ3 h3 ha hb => ?_) FU _ _ _ _ h2 ⟨by decide, by decide⟩ ⟨by decide, by decide⟩ (by omega) (by rw [FU_v]; omega)
  refine wp_if (fun _ => ?_) (fun _ => ?_)
  · exact ⟨h3, ha, trivial⟩
  refine wp_if (fun _ => ?_) (fun _ => ?_)
  · exact ⟨h3, ha, trivial⟩
  · exact ⟨h3, hb, trivial⟩
theorem rope_L {μs : Mm} (hI : Ir μs) {l1 l2 : Int} (h1 : -2147483648 ≤ l1 ∧ l1 ≤ 2147483647) {K : Int → Int → Mm → Rs} {Q : Int → Mm → Prop} (hK : ∀ a b μ, Sm μs μ → rI a → rI b → wp (K a b μ) Q) : ∀ (n : Nat) (l3 l4 l5 : Int) (μ : Mm), Sm μs μ → rI l3 → rI l4 → 0 ≤ l5 ∧ l5 ≤ 8 → 8 - l5 + 1 ≤ ((n : Nat) : Int) → wp (X11_rope_L27 l1 l2 K n l3 l4 l5 μ) Q := by
  intro n
  induction n with
  | zero => intro l3 l4 l5 μ _ _ _ hc h; exact absurd h (by have : ((0 : Nat) : Int) = 0 := rfl; omega)
  | succ n ih =>
    intro l3 l4 l5 μ hS h3 h4 hc hn
    have hn1 : ((n + 1 : Nat) : Int) = ((n : Nat) : Int) + 1 := rfl
    show wp (if 8 ≤ l5 then _ else _) Q
    refine wp_if (fun g => ?_) (fun g => ?_)
    · exact hK l3 l4 μ hS h3 h4
    · have e1 : iA l5 1 = l5 + 1 := iA_id (by omega) (by omega)
      rw [e1]
      refine wp_calls (t_X11_isCrank (l1 := l5) (by omega) hS) (fun v hh => ?_)
      refine wp_if (fun g2 => ?_) (fun g2 => ?_)
      · exact ih _ _ _ μ hS h3 h4 (by omega) (by omega)
      · refine wp_ldv (by show 0 ≤ l5 ∧ l5 < 8; omega) (fun v2 q2 => ?_)
        have hb2 := gA_11_16 hS l5.toNat
        have hw : 0 ≤ iD (iA v2 1) 2 ∧ iD (iA v2 1) 2 ≤ 30 := by
          rw [q2, iA_id (by omega) (by omega), iD_id (by omega) (by omega) (by decide)]
          omega
        refine wp_stv (P := fun x => x = sM μ 86 l5.toNat (iD (iA v2 1) 2)) (by show 0 ≤ l5 ∧ l5 < 8; omega) rfl (fun μ3 e3 _ => ?_)
        have hI3 : Ir μ3 := by
          rw [e3]
          refine Ir_congr (Ir_of hI hS) (Bm_sM hS.1 hw) (fun k j hp => sM_a (fun e => ?_))
          unfold perI at hp; omega
        refine wp_call (t_X11_leastNow (μs := μ3) (l1 := l1) hI3 h1 (Sm_rf hI3.1)) (fun r μ4 h4' => ?_)
        obtain ⟨hS4, hr4, _⟩ := h4'
        rw [e3] at hS4
        refine wp_stv (P := fun x => x = sM μ4 86 l5.toNat v2) (by show 0 ≤ l5 ∧ l5 < 8; omega) rfl (fun μ5 e5 _ => ?_)
        have hS5 : Sm μs μ5 := by
          have := back_c hS (by decide) (fun j => by unfold scrM; omega) hS4
          rw [← q2] at this
          rw [e5]; exact this
        refine wp_if (fun _ => ?_) (fun _ => ?_)
        · exact ih _ _ _ _ hS5 h3 h4 (by omega) (by omega)
        refine wp_if (fun _ => ?_) (fun _ => ?_)
        · exact ih _ _ _ _ hS5 ⟨by omega, by omega⟩ hr4 (by omega) (by omega)
        refine wp_if (fun _ => ?_) (fun _ => ?_)
        · exact ih _ _ _ _ hS5 h3 h4 (by omega) (by omega)
        · exact ih _ _ _ _ hS5 ⟨by omega, by omega⟩ hr4 (by omega) (by omega)
theorem t_X11_rope {μs : Mm} {l1 l2 : Int} (hI : Ir μs) (hp_l1 : -2147483648 ≤ l1 ∧ l1 ≤ 2147483647) (hp_l2 : -2147483648 ≤ l2 ∧ l2 ≤ 2147483647) {μ : Mm} (hS : Sm μs μ) : wp (X11_rope l1 l2 μ) (fun r μ' => Sm μs μ' ∧ (-2147483648 ≤ r ∧ r ≤ 2147483647) ∧ True) := by
  unfold X11_rope
  refine wp_call (t_X11_isReady (l1 := l1) hI hp_l1 hS) (fun v μ2 hh => ?_)
  obtain ⟨h2, hr2, hp2⟩ := hh
  refine wp_if (fun g => ?_) (fun g => ?_)
  · exact ⟨h2, by omega, trivial⟩
  refine wp_calls (t_X11_in (l0 := l2) (l1 := 0) (l2 := 1) hp_l2 (by omega) (by omega) h2) (fun v3 hh3 => ?_)
  refine wp_if (fun g2 => ?_) (fun g2 => ?_)
  · exact ⟨h2, by omega, trivial⟩
  refine rope_L hI hp_l1 (fun a b μ3 h3 ha hb => ?_) FU _ _ _ _ h2 ⟨by decide, by decide⟩ ⟨by decide, by decide⟩ (by omega) (by rw [FU_v]; omega)
  refine wp_if (fun _ => ?_) (fun _ => ?_)
  · exact ⟨h3, ha, trivial⟩
  refine wp_if (fun _ => ?_) (fun _ => ?_)
  · exact ⟨h3, ha, trivial⟩
  · exact ⟨h3, hb, trivial⟩
/-! where something lies -/
theorem isPl_eq {μ : Mm} {a : Int} (ha : 0 ≤ a ∧ a < 60) : X11_isPlace a μ = some (if ((a.toNat / 10 : Nat) : Int) < μ 70 23 ∧ ((a.toNat % 10 : Nat) : Int) < μ 70 24 then 1 else 0, μ) := by
  unfold X11_isPlace
  have e1 : iD a 10 = a / 10 := iD_id ha.1 (by omega) (by decide)
  have e2 : iR a 10 = a % 10 := iR_id ha.1 (by omega) (by decide)
  rw [if_neg (by omega), e1, e2]
  have f1 : ((a.toNat / 10 : Nat) : Int) = a / 10 := by omega
  have f2 : ((a.toNat % 10 : Nat) : Int) = a % 10 := by omega
  rw [f1, f2]
  by_cases h1 : μ 70 23 ≤ a / 10
  · rw [if_pos h1, if_neg (by omega)]
  · rw [if_neg h1]
    by_cases h2 : μ 70 24 ≤ a % 10
    · rw [if_pos h2, if_neg (by omega)]
    · rw [if_neg h2, if_pos (by omega)]
theorem plc_L {μ : Mm} {a : Int} : ∀ (n : Nat) (f k : Int), 0 ≤ k ∧ k ≤ 60 → ((f = -1 ∧ ∀ p : Nat, (p : Int) < k → isP μ p → μ 82 p ≠ a) ∨ (0 ≤ f ∧ f < k ∧ isP μ f.toNat ∧ μ 82 f.toNat = a)) → 60 - k + 1 ≤ ((n : Nat) : Int) → ∃ r, X11_placeOf_L4 a n f k μ = some (r, μ) ∧ ((r = -1 ∧ ∀ p : Nat, p < 60 → isP μ p → μ 82 p ≠ a) ∨ (0 ≤ r ∧ r < 60 ∧ isP μ r.toNat ∧ μ 82 r.toNat = a)) := by
  intro n
  induction n with
  | zero => intro f k hk _ h; exact absurd h (by have : ((0 : Nat) : Int) = 0 := rfl; omega)
  | succ n ih =>
    intro f k hk hf hn
    have hn1 : ((n + 1 : Nat) : Int) = ((n : Nat) : Int) + 1 := rfl
    have e1 : iA k 1 = k + 1 := iA_id (by omega) (by omega)
    show ∃ r, (if 60 ≤ k then _ else _) = _ ∧ _
    by_cases g : 60 ≤ k
    · rw [if_pos g]
      refine ⟨f, rfl, ?_⟩
      rcases hf with ⟨h1, h2⟩ | ⟨h1, h2, h3⟩
      · exact Or.inl ⟨h1, fun p hp => h2 p (by omega)⟩
      · exact Or.inr ⟨h1, by omega, h3⟩
    · rw [if_neg g, isPl_eq (by omega), bd_some, e1]
      have hkk : ((k.toNat : Nat) : Int) = k := by omega
      by_cases g2 : ((k.toNat / 10 : Nat) : Int) < μ 70 23 ∧ ((k.toNat % 10 : Nat) : Int) < μ 70 24
      · rw [if_pos g2, if_neg (by decide)]
        unfold ldA
        rw [if_pos (by show 0 ≤ k ∧ k < 60; omega)]
        dsimp only
        by_cases g3 : μ 82 k.toNat = a
        · rw [if_pos g3]
          exact ih k (k + 1) (by omega) (Or.inr ⟨by omega, by omega, g2, g3⟩) (by omega)
        · rw [if_neg g3]
          refine ih f (k + 1) (by omega) ?_ (by omega)
          rcases hf with ⟨h1, h2⟩ | ⟨h1, h2, h3⟩
          · refine Or.inl ⟨h1, fun p hp ip => ?_⟩
            by_cases hpk : (p : Int) < k
            · exact h2 p hpk ip
            · have : p = k.toNat := by omega
              rw [this]; exact g3
          · exact Or.inr ⟨h1, by omega, h3⟩
      · rw [if_neg g2, if_pos rfl]
        refine ih f (k + 1) (by omega) ?_ (by omega)
        rcases hf with ⟨h1, h2⟩ | ⟨h1, h2, h3⟩
        · refine Or.inl ⟨h1, fun p hp ip => ?_⟩
          by_cases hpk : (p : Int) < k
          · exact h2 p hpk ip
          · have : p = k.toNat := by omega
            rw [this] at ip
            exact absurd ip g2
        · exact Or.inr ⟨h1, by omega, h3⟩
theorem plc (a : Int) (μ : Mm) : ∃ r, X11_placeOf a μ = some (r, μ) ∧ ((r = -1 ∧ ∀ p : Nat, p < 60 → isP μ p → μ 82 p ≠ a) ∨ (0 ≤ r ∧ r < 60 ∧ isP μ r.toNat ∧ μ 82 r.toNat = a)) :=
  plc_L FU (-1) 0 (by omega) (Or.inl ⟨rfl, fun p hp => absurd hp (by omega)⟩) (by rw [FU_v]; omega)
theorem plc_at {μ : Mm} (hU : UQ μ 82) {a : Int} {p : Nat} (hp : p < 60) (ip : isP μ p) (e : μ 82 p = a) (ha : 2 ≤ a) : X11_placeOf a μ = some ((p : Int), μ) := by
  obtain ⟨r, hr, hc⟩ := plc a μ
  rcases hc with ⟨_, h2⟩ | ⟨h1, h2, h3, h4⟩
  · exact absurd e (h2 p hp ip)
  · have h5 := hU r.toNat p (by omega) hp h3 ip (by rw [h4, e]) (by omega)
    rw [hr]
    have : r = (p : Int) := by omega
    rw [this]
