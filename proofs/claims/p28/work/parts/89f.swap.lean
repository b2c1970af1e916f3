/-! two CRANKS exchanged by hand -/
theorem isX_i {x : Int} (h : x ≠ -1) : isX x = true := by unfold isX; exact decide_eq_true h
theorem is1_n {x : Int} (h : x ≠ 1) : is1 x = false := by unfold is1; exact decide_eq_false h
theorem Kc_swap {μ ν : Mm} (hK : Kc μ 5 82 86 30 31) {A B p q : Nat} (hA : A < 8) (hB : B < 8) (hAB : A ≠ B) (hp : p < 60) (hq : q < 60) (hpq : p ≠ q) (ip : isP μ p) (iq : isP μ q) (ep : μ 82 p = 3 + ((A : Nat) : Int)) (eq : μ 82 q = 3 + ((B : Nat) : Int)) (e7A : μ 7 A = (p : Int)) (e7B : μ 7 B = (q : Int)) (f7 : ∀ j, ν 7 j = if j = B then (p : Int) else if j = A then (q : Int) else μ 7 j) (f6 : ∀ j, ν 6 j = if j = p then 3 + ((B : Nat) : Int) else if j = q then 3 + ((A : Nat) : Int) else μ 6 j) (f82 : ∀ j, ν 82 j = if j = q then 3 + ((A : Nat) : Int) else if j = p then 3 + ((B : Nat) : Int) else μ 82 j) (fo : ∀ k j, k ≠ 6 → k ≠ 7 → k ≠ 82 → ν k j = μ k j) : Kc ν 5 82 86 30 31 := by
  obtain ⟨h1, h2, h3, h4, h5, h6, h7, h8, h9, h10⟩ := hK
  have i : ∀ q, isP ν q ↔ isP μ q := isP_congr (fo 70 23 (by decide) (by decide) (by decide)) (fo 70 24 (by decide) (by decide) (by decide))
  have m6p : μ 6 p = 3 + ((A : Nat) : Int) := ((h1 p hp).1 ip).trans ep
  have m6q : μ 6 q = 3 + ((B : Nat) : Int) := ((h1 q hq).1 iq).trans eq
  refine ⟨fun s hs => ?_, fun s hs => ?_, fun d hd s hs => ?_, fun d hd => ?_, ?_, ?_, ?_, ?_, ?_, fun z d hd => ?_⟩
  · show (isP ν s → ν 6 s = ν 82 s) ∧ (¬ isP ν s → ν 6 s = -1)
    rw [i s, f6, f82]
    by_cases c : s = p
    · rw [if_pos c, if_neg (fun e => hpq (c.symm.trans e)), if_pos c]
      exact ⟨fun _ => rfl, fun n => absurd (by rw [c]; exact ip) n⟩
    · rw [if_neg c, if_neg c]
      by_cases c2 : s = q
      · rw [if_pos c2, if_pos c2]
        exact ⟨fun _ => rfl, fun n => absurd (by rw [c2]; exact iq) n⟩
      · rw [if_neg c2, if_neg c2]; exact h1 s hs
  · rw [i s, f82, fo 5 3 (by decide) (by decide) (by decide)]
    by_cases c2 : s = q
    · rw [if_pos c2]
      refine ⟨fun z => absurd z.2 (by omega), fun z => ?_⟩
      have := ((h2 s hs).mpr z).2
      rw [c2, eq] at this
      exact absurd this (by omega)
    · rw [if_neg c2]
      by_cases c : s = p
      · rw [if_pos c]
        refine ⟨fun z => absurd z.2 (by omega), fun z => ?_⟩
        have := ((h2 s hs).mpr z).2
        rw [c, ep] at this
        exact absurd this (by omega)
      · rw [if_neg c]; exact h2 s hs
  · show (isP ν s ∧ ν 82 s = 3 + ((d : Nat) : Int)) ↔ ν 7 d = ((s : Nat) : Int)
    have k3 : (isP μ s ∧ μ 82 s = 3 + ((d : Nat) : Int)) ↔ μ 7 d = ((s : Nat) : Int) := h3 d hd s hs
    rw [i s, f82, f7]
    by_cases c2 : s = q
    · rw [if_pos c2]
      by_cases d1 : d = B
      · rw [if_pos d1]
        exact ⟨fun z => absurd z.2 (by omega), fun z => absurd z (by omega)⟩
      · rw [if_neg d1]
        by_cases d2 : d = A
        · rw [if_pos d2, c2, d2]
          exact ⟨fun _ => rfl, fun _ => ⟨iq, rfl⟩⟩
        · rw [if_neg d2]
          refine ⟨fun z => absurd z.2 (by omega), fun z => ?_⟩
          have := (k3.mpr z).2
          rw [c2, eq] at this
          exact absurd this (by omega)
    · rw [if_neg c2]
      by_cases c : s = p
      · rw [if_pos c]
        by_cases d1 : d = B
        · rw [if_pos d1, c, d1]
          exact ⟨fun _ => rfl, fun _ => ⟨ip, rfl⟩⟩
        · rw [if_neg d1]
          by_cases d2 : d = A
          · rw [if_pos d2]
            exact ⟨fun z => absurd z.2 (by omega), fun z => absurd z (by omega)⟩
          · rw [if_neg d2]
            refine ⟨fun z => absurd z.2 (by omega), fun z => ?_⟩
            have := (k3.mpr z).2
            rw [c, ep] at this
            exact absurd this (by omega)
      · rw [if_neg c]
        by_cases d1 : d = B
        · rw [if_pos d1]
          refine ⟨fun z => ?_, fun z => absurd z (by omega)⟩
          have := k3.mp z
          rw [d1, e7B] at this
          exact absurd this (by omega)
        · rw [if_neg d1]
          by_cases d2 : d = A
          · rw [if_pos d2]
            refine ⟨fun z => ?_, fun z => absurd z (by omega)⟩
            have := k3.mp z
            rw [d2, e7A] at this
            exact absurd this (by omega)
          · rw [if_neg d2]; exact k3
  · show -1 ≤ ν 7 d ∧ ν 7 d ≤ 59
    have := h4 d hd
    have : -1 ≤ μ 7 d ∧ μ 7 d ≤ 59 := this
    rw [f7]
    by_cases d1 : d = B
    · rw [if_pos d1]; omega
    · rw [if_neg d1]
      by_cases d2 : d = A
      · rw [if_pos d2]; omega
      · rw [if_neg d2]; exact this
  · rw [fo 5 4 (by decide) (by decide) (by decide), fo 70 23 (by decide) (by decide) (by decide)]; exact h5
  · rw [fo 5 5 (by decide) (by decide) (by decide), h6]
    refine cnt_P 8 (fun j _ => ?_)
    show isX (μ 7 j) = isX (ν 7 j)
    rw [f7]
    by_cases d1 : j = B
    · rw [if_pos d1, d1, e7B, isX_i (by omega), isX_i (by omega)]
    · rw [if_neg d1]
      by_cases d2 : j = A
      · rw [if_pos d2, d2, e7A, isX_i (by omega), isX_i (by omega)]
      · rw [if_neg d2]
  · rw [fo 5 6 (by decide) (by decide) (by decide), h7]
    refine cnt_P 60 (fun j _ => ?_)
    show is1 (μ 6 j) = is1 (ν 6 j)
    rw [f6]
    by_cases c : j = p
    · rw [if_pos c, c, m6p, is1_n (by omega), is1_n (by omega)]
    · rw [if_neg c]
      by_cases c2 : j = q
      · rw [if_pos c2, c2, m6q, is1_n (by omega), is1_n (by omega)]
      · rw [if_neg c2]
  · rw [fo 5 7 (by decide) (by decide) (by decide), fo 70 30 (by decide) (by decide) (by decide)]; exact h8
  · rw [fo 5 8 (by decide) (by decide) (by decide), fo 70 31 (by decide) (by decide) (by decide)]; exact h9
  · show ν 8 d = ν 86 d
    rw [fo 8 d (by decide) (by decide) (by decide), fo 86 d (by decide) (by decide) (by decide)]; rw [fo 70 23 (by decide) (by decide) (by decide)] at z; exact h10 z d hd
theorem m_swap : ∀ a0, rI a0 → ∀ a1, rI a1 → sI Inv Inv (X10_swap a0 a1) (X11_swap a0 a1) := by
  intro a ha b hb μ hI
  have t1 := t_X10_swap (W := W70) (μs := μ) scr_70 (fun k j h => h) (hp_l1 := ha) (hp_l2 := hb) (St_rf hI.1)
  obtain ⟨w, e0, hw⟩ := crk hI ha
  obtain ⟨w2, e02, hw2⟩ := crk hI hb
  have hc := crk_m (μ := μ) (ν := μ) (fun k j _ => rfl) ha hw
  have hc2 := crk_m (μ := μ) (ν := μ) (fun k j _ => rfl) hb hw2
  by_cases c1 : w = -1
  · have e1 : X10_swap a b μ = some (0, μ) := by
      unfold X10_swap X0_exchangeCranks
      rw [e0, bd_some, e02, bd_some, if_pos c1, bd_some, rZ_b (Or.inl rfl)]
    have e2 : X11_swap a b μ = some (0, μ) := by
      unfold X11_swap
      rw [hc, bd_some, if_pos (by rw [if_pos c1])]
    exact ⟨_, _, _, e1, e2, hI⟩
  · by_cases c2 : w2 = -1
    · have e1 : X10_swap a b μ = some (0, μ) := by
        unfold X10_swap X0_exchangeCranks
        rw [e0, bd_some, e02, bd_some, if_neg c1, if_pos c2, bd_some, rZ_b (Or.inl rfl)]
      have e2 : X11_swap a b μ = some (0, μ) := by
        unfold X11_swap
        rw [hc, bd_some, if_neg (by rw [if_neg c1]; decide), hc2, bd_some, if_pos (by rw [if_pos c2])]
      exact ⟨_, _, _, e1, e2, hI⟩
    · by_cases c3 : a = b
      · have e1 : X10_swap a b μ = some (0, μ) := by
          unfold X10_swap X0_exchangeCranks
          rw [e0, bd_some, e02, bd_some, if_neg c1, if_neg c2, if_pos c3, bd_some, rZ_b (Or.inl rfl)]
        have e2 : X11_swap a b μ = some (0, μ) := by
          unfold X11_swap
          rw [hc, bd_some, if_neg (by rw [if_neg c1]; decide), hc2, bd_some, if_neg (by rw [if_neg c2]; decide), if_pos c3]
        exact ⟨_, _, _, e1, e2, hI⟩
      · rcases hw with ⟨h, _⟩ | ⟨ha0, ha7, p, hp, ip, ep, ew, e7⟩
        · exact absurd h c1
        rcases hw2 with ⟨h, _⟩ | ⟨hb0, hb7, q, hq, iq, eq, ew2, e72⟩
        · exact absurd h c2
        obtain ⟨A, rfl⟩ : ∃ A : Nat, a = (A : Int) := ⟨a.toNat, by omega⟩
        obtain ⟨B, rfl⟩ : ∃ B : Nat, b = (B : Int) := ⟨b.toNat, by omega⟩
        rw [Int.toNat_natCast] at e7 e72
        have hpq : p ≠ q := fun e => by
          rw [e, eq] at ep
          omega
        have e1 : X10_swap (A : Int) (B : Int) μ = some (1, sM (sM (sM (sM μ 7 A (q : Int)) 7 B (p : Int)) 6 q (3 + (A : Int))) 6 p (3 + (B : Int))) := by
          unfold X10_swap X0_exchangeCranks
          rw [e0, bd_some, e02, bd_some, if_neg c1, if_neg c2, if_neg c3, ew, ew2, iA_id (a := 3) (b := (A : Int)) (by omega) (by omega), iA_id (a := 3) (b := (B : Int)) (by omega) (by omega)]
          unfold stA
          rw [if_pos (by show (0 : Int) ≤ (A : Int) ∧ (A : Int) < 8; omega)]
          dsimp only
          rw [if_pos (by show (0 : Int) ≤ (B : Int) ∧ (B : Int) < 8; omega), if_pos (by show (0 : Int) ≤ (q : Int) ∧ (q : Int) < 60; omega), if_pos (by show (0 : Int) ≤ (p : Int) ∧ (p : Int) < 60; omega), Int.toNat_natCast, Int.toNat_natCast, Int.toNat_natCast, Int.toNat_natCast, bd_some, rZ_b (Or.inr rfl)]
        have e70 : ∀ k j, 70 ≤ k → sM (sM (sM (sM μ 7 A (q : Int)) 7 B (p : Int)) 6 q (3 + (A : Int))) 6 p (3 + (B : Int)) k j = μ k j := fun k j hk => by rw [sM_a (by omega), sM_a (by omega), sM_a (by omega), sM_a (by omega)]
        have hIr1 : Ir (sM (sM (sM (sM μ 7 A (q : Int)) 7 B (p : Int)) 6 q (3 + (A : Int))) 6 p (3 + (B : Int))) := Ir_lo (Ir_lo (Ir_lo (Ir_lo hI.2.1 (by decide)) (by decide)) (by decide)) (by decide)
        have hd := crk_m (μ := μ) e70 ha (Or.inr ⟨ha0, ha7, p, hp, ip, ep, ew, by rw [Int.toNat_natCast]; exact e7⟩)
        have hd2 := crk_m (μ := μ) e70 hb (Or.inr ⟨hb0, hb7, q, hq, iq, eq, ew2, by rw [Int.toNat_natCast]; exact e72⟩)
        have j : ∀ s, isP (sM (sM (sM (sM μ 7 A (q : Int)) 7 B (p : Int)) 6 q (3 + (A : Int))) 6 p (3 + (B : Int))) s ↔ isP μ s := isP_congr (e70 70 23 (by decide)) (e70 70 24 (by decide))
        have ep' : sM (sM (sM (sM μ 7 A (q : Int)) 7 B (p : Int)) 6 q (3 + (A : Int))) 6 p (3 + (B : Int)) 82 p = 3 + (A : Int) := (e70 82 p (by decide)).trans ep
        have eq' : sM (sM (sM (sM μ 7 A (q : Int)) 7 B (p : Int)) 6 q (3 + (A : Int))) 6 p (3 + (B : Int)) 82 q = 3 + (B : Int) := (e70 82 q (by decide)).trans eq
        have hch := chg_eq hIr1.2.2.2.2.2.2.1 (a := (A : Int)) (b := (B : Int)) ⟨ha0, ha7⟩ ⟨hb0, hb7⟩ hp ((j p).mpr ip) ep' hq ((j q).mpr iq) eq'
        have e2 : X11_swap (A : Int) (B : Int) (sM (sM (sM (sM μ 7 A (q : Int)) 7 B (p : Int)) 6 q (3 + (A : Int))) 6 p (3 + (B : Int))) = some (1, sM (sM (sM (sM (sM (sM μ 7 A (q : Int)) 7 B (p : Int)) 6 q (3 + (A : Int))) 6 p (3 + (B : Int))) 82 p (3 + (B : Int))) 82 q (3 + (A : Int))) := by
          unfold X11_swap
          rw [hd, bd_some, if_neg (by rw [if_neg c1]; decide), hd2, bd_some, if_neg (by rw [if_neg c2]; decide), if_neg c3, hch, bd_some]
        have hIr := Ir_chg hIr1 hp ((j p).mpr ip) hq ((j q).mpr iq) hpq (by rw [ep']; omega) (by rw [eq']; omega)
        rw [ep', eq'] at hIr
        refine ⟨_, _, _, e1, e2, Inv_C hI (Bx_congr (Bx_t t1 e1) (fun k j hk => by rw [sM_a (by omega), sM_a (by omega)])) hIr (fw_sM (fw_sM (fw_sM (fw_sM (fw_sM (fw_sM fw_rf (by unfold WC; omega)) (by unfold WC; omega)) (by unfold WC; omega)) (by unfold WC; omega)) (by unfold WC; omega)) (by unfold WC; omega)) ?_⟩
        refine Kc_swap hI.2.2.2.2.2.1 (A := A) (B := B) (p := p) (q := q) (by omega) (by omega) (fun e => c3 (by rw [e])) hp hq hpq ip iq ep eq e7 e72 (fun j => ?_) (fun j => ?_) (fun j => ?_) (fun k j g1 g2 g3 => ?_)
        · rw [sM_a (by decide), sM_a (by decide), sM_a (by decide), sM_a (by decide), sM_if, sM_if]
        · rw [sM_a (by decide), sM_a (by decide), sM_if, sM_if, sM_a (by decide), sM_a (by decide)]
        · rw [sM_if, sM_if, e70 82 j (by decide)]
        · rw [sM_a g3, sM_a g3, sM_a g1, sM_a g1, sM_a g2, sM_a g2]
