/-! THE READER OF CELLARS, the class's: rows, and all of it -/
def rowStep (t : Nat → Int) (n r w p : Nat) (σ : CS) : Option (Nat × Nat × CS) := match rowS t n (if r = 0 then 9 else w) p (10 * r) σ with
  | none => none
  | some q => if q.2.1 - 10 * r < 2 ∨ q.2.1 - 10 * r < (if r = 0 then q.2.1 - 10 * r else w) then none else some (q.1, if r = 0 then q.2.1 - 10 * r else w, q.2.2)
def celN (t : Nat → Int) (n : Nat) : Nat → Nat → Nat → Nat → CS → Option (Nat × Nat × CS)
  | 0, r, p, w, σ => if pk t n p = -1 ∧ σ.2.1 2 ≠ -1 ∧ σ.2.2.1 ≠ 0 then some (r + 1, w, σ) else none
  | left + 1, r, p, w, σ => if pk t n p = 47 then
      (match rowStep t n (r + 1) w (sk t n p + 1) σ with
        | none => none
        | some q => celN t n left (r + 1) q.1 q.2.1 q.2.2)
    else if pk t n p = -1 ∧ σ.2.1 2 ≠ -1 ∧ σ.2.2.1 ≠ 0 then some (r + 1, w, σ) else none
def σ0 : CS := (fun _ => -1, fun _ => -1, 0, 0)
def celS (t : Nat → Int) (n : Nat) : Option (Nat × Nat × CS) := match rowStep t n 0 0 0 σ0 with
  | none => none
  | some q => celN t n 5 0 q.1 q.2.1 q.2.2
def wD (l0 k j : Nat) : Prop := (k = l0 ∧ 3 ≤ j ∧ j ≤ 6) ∨ k = l0 + 1 ∨ k = l0 + 2
def fD (l0 : Nat) (ν ν' : Mm) : Prop := fw (wD l0) ν ν'
theorem fD_C {l0 : Nat} {ν ν' : Mm} (h : fC l0 ν ν') : fD l0 ν ν' := fun k j hn => h k j (fun z => hn (by unfold wC at z; unfold wD; omega))
theorem Tx_fD {t : Nat → Int} {n l0 : Nat} {ν ν' : Mm} (hk : kD l0 = (10, 9)) (h : Tx t n ν) (hf : fD l0 ν ν') : Tx t n ν' := by
  obtain ⟨h1, x, h2, h3, h4, h5⟩ := h
  have hp := kCr hk
  have hx := kTr h3
  refine ⟨h1, x, ?_, h3, ?_, fun j hj => ?_⟩
  · rw [hf 3 0 (by unfold wD; omega)]; exact h2
  · rw [hf x 1 (by unfold wD; omega)]; exact h4
  · rw [hf (x + 1) j (by unfold wD; omega)]; exact h5 j hj
theorem CelC_4 {ν : Mm} {l0 : Nat} {σ : CS} (h : CelC ν l0 σ) {v : Int} : CelC (sM ν l0 4 v) l0 σ := by
  obtain ⟨h1, h2, h3, h4, h5⟩ := h
  exact ⟨fun j hj => by rw [sM_a (by omega)]; exact h1 j hj, by rw [sM_j (by decide)]; exact h2, fun c hc => by rw [sM_a (by omega)]; exact h3 c hc, by rw [sM_j (by decide)]; exact h4, by rw [sM_j (by decide)]; exact h5⟩
theorem J71_F {l0 : Nat} (hl : l0 ≠ 3) {ν : Mm} {p : Nat} {f j : Int} (hf : f ≠ -1) : X0_readRow_J71 l0 j (cr ν p f) = some (0, cr ν p f) := by
  unfold X0_readRow_J71
  by_cases c : j < 2
  · rw [if_pos c, refuse_F hf, bd_some]
  · rw [if_neg c]
    by_cases c2 : cr ν p f l0 4 ≤ j
    · rw [if_pos c2]
    · rw [if_neg c2, refuse_F hf, bd_some]
theorem readRowC {t : Nat → Int} {n : Nat} {l0 : Nat} (hk : kD l0 = (10, 9)) {r w : Nat} (hr : r ≤ 5) (hw : w ≤ 9) {ν : Mm} {σ : CS} (h : Tx t n ν) (hC : CelC ν l0 σ) (h4 : r = 0 ∨ ν l0 4 = (w : Int)) (hb : bdS σ (10 * r)) {p : Nat} (hp : p ≤ n) :
    ∃ ν' p' f, X0_readRow l0 (r : Int) (cr ν p (-1)) = some (0, cr ν' p' f) ∧ fD l0 ν ν' ∧ match rowStep t n r w p σ with
      | none => f ≠ -1
      | some q => f = -1 ∧ (p' = q.1 ∨ p' = sk t n q.1) ∧ q.1 ≤ n ∧ CelC ν' l0 q.2.2 ∧ ν' l0 4 = (q.2.1 : Int) ∧ q.2.1 ≤ 9 ∧ bdS q.2.2 (10 * (r + 1)) := by
  have hl := kCr' hk
  have hl3 : l0 ≠ 3 := by omega
  have e0 : X0_readRow l0 (r : Int) (cr ν p (-1)) = X0_readRow_L17 l0 (r : Int) ((if r = 0 then 9 else w : Nat) : Int) (fun v13 μ14 => X0_readRow_J61 l0 (r : Int) v13 μ14) (fun v13 μ14 => X0_readRow_J61 l0 (r : Int) v13 μ14) FU ((0 : Nat) : Int) (cr ν p (-1)) := by
    unfold X0_readRow X0_readRow_J13
    by_cases c : r = 0
    · rw [if_pos (by omega), if_pos c]; rfl
    · rw [if_neg (by omega), if_neg c, cr_c hl3, h4.resolve_left c]; rfl
  obtain ⟨ν1, p1, f1, j1, e1, e2, e3, e4⟩ := rowC hk (r := r) (m := if r = 0 then 9 else w) (by split <;> omega) (by split <;> omega) (K := fun v13 μ14 => X0_readRow_J61 l0 (r : Int) v13 μ14) (if r = 0 then 9 else w) FU 0 p ν σ (by omega) (by show _ < 1000000; split <;> omega) h hC hb hp
  rw [e0, e1]
  have em : (if r = 0 then 9 else w) ≤ 9 := by split <;> omega
  -- the width that holds behind the row
  have hJ : ∃ ν2, X0_readRow_J61 l0 (r : Int) (j1 : Int) (cr ν1 p1 f1) = X0_readRow_J71 l0 (j1 : Int) (cr ν2 p1 f1) ∧ fD l0 ν ν2 ∧ (∀ σ', CelC ν1 l0 σ' → CelC ν2 l0 σ') ∧ ν2 l0 4 = ((if r = 0 then j1 else w : Nat) : Int) := by
    unfold X0_readRow_J61
    by_cases c : r = 0
    · rw [if_pos (by omega), if_pos c]
      unfold sF
      dsimp only
      rw [cr_s hl3]
      exact ⟨_, rfl, fw_sM (fD_C e3) (by unfold wD; omega), fun _ h => CelC_4 h, by rw [sM_s]⟩
    · rw [if_neg (by omega), if_neg c]
      refine ⟨ν1, rfl, fD_C e3, fun _ h => h, ?_⟩
      rw [e3 l0 4 (by unfold wC; omega)]; exact h4.resolve_left c
  obtain ⟨ν2, g1, g2, g3, g4⟩ := hJ
  rw [g1]
  unfold rowStep
  rw [Nat.add_zero] at e4
  revert e4
  cases hR : rowS t n (if r = 0 then 9 else w) p (10 * r) σ with
  | none =>
    intro e4
    have e4 : f1 ≠ -1 := e4
    rw [J71_F hl3 e4]
    exact ⟨ν2, p1, f1, rfl, g2, e4⟩
  | some q =>
    intro e4
    obtain ⟨rfl, k2, k3, k4, k5, k6⟩ := e4
    dsimp only
    have ej : q.2.1 - 10 * r = j1 := by omega
    rw [ej]
    unfold X0_readRow_J71
    rw [cr_c hl3, g4]
    have hp1 : (p1 : Int) ≠ -1 := by omega
    by_cases c1 : j1 < 2
    · rw [if_pos (by omega), if_pos (Or.inl c1), cr_1, refuse_eq, bd_some]
      exact ⟨ν2, p1, _, rfl, g2, hp1⟩
    · rw [if_neg (by omega)]
      by_cases c2 : j1 < (if r = 0 then j1 else w)
      · rw [if_neg (by omega), if_pos (Or.inr c2), cr_1, refuse_eq, bd_some]
        exact ⟨ν2, p1, _, rfl, g2, hp1⟩
      · rw [if_pos (by omega), if_neg (by omega)]
        refine ⟨ν2, p1, -1, rfl, g2, rfl, k3, k4, g3 _ k5, g4, by show (if r = 0 then j1 else w) ≤ 9; split <;> omega, ?_⟩
        show bdS q.2.2 (10 * (r + 1))
        unfold bdS at k6 ⊢
        omega
/-! clear -/
def wK (l0 k j : Nat) : Prop := (k = l0 ∧ 3 ≤ j ∧ j ≤ 7) ∨ k = l0 + 1 ∨ k = l0 + 2 ∨ k = l0 + 3
theorem clr_L2 {l0 : Nat} (hk : kD l0 = (10, 9)) (K : Mm → Rs) : ∀ (d fuel : Nat) (ν : Mm), d ≤ 60 → d < fuel → ∃ ν', X0_clear_L2 l0 K fuel (60 - (d : Int)) ν = K ν' ∧ (∀ k j, k ≠ l0 + 1 → ν' k j = ν k j) ∧ (∀ j : Nat, 60 ≤ j + d → j < 60 → ν' (l0 + 1) j = -1) ∧ (∀ j : Nat, j + d < 60 → ν' (l0 + 1) j = ν (l0 + 1) j) := by
  have hl := kCr' hk
  have a1 : aN (l0 + 1) = 60 := (bA_0_1 hk (by omega) 0).2.2
  intro d
  induction d with
  | zero =>
    intro fuel ν _ hf
    obtain ⟨m, rfl, -⟩ := lt_fuel hf
    refine ⟨ν, ?_, fun _ _ _ => rfl, fun j h1 h2 => by omega, fun _ _ => rfl⟩
    rw [X0_clear_L2, if_pos (by omega)]
  | succ d ih =>
    intro fuel ν hd hf
    obtain ⟨m, rfl, hm⟩ := lt_fuel hf
    obtain ⟨ν', e1, e2, e3, e4⟩ := ih m (sM ν (l0 + 1) (60 - (d + 1)) (-1)) (by omega) (by omega)
    refine ⟨ν', ?_, fun k j hk => ?_, fun j h1 h2 => ?_, fun j h1 => ?_⟩
    · rw [X0_clear_L2, if_neg (by omega)]
      unfold stA
      rw [if_pos (by rw [a1]; omega)]
      have ea : iA (60 - ((d + 1 : Nat) : Int)) 1 = 60 - (d : Int) := by rw [iA_id (by omega) (by omega)]; omega
      have eb : (60 - ((d + 1 : Nat) : Int)).toNat = 60 - (d + 1) := by omega
      rw [ea, eb]
      exact e1
    · rw [e2 k j hk, sM_a hk]
    · by_cases hj : 60 ≤ j + d
      · exact e3 j hj h2
      · rw [e4 j (by omega), sM_if, if_pos (by omega)]
    · rw [e4 j (by omega), sM_if, if_neg (by omega)]
theorem clr_L23 {l0 : Nat} (hk : kD l0 = (10, 9)) (K : Mm → Rs) : ∀ (d fuel : Nat) (ν : Mm), d ≤ 8 → d < fuel → ∃ ν', X0_clear_L23 l0 K fuel (8 - (d : Int)) ν = K ν' ∧ (∀ k j, k ≠ l0 + 2 → k ≠ l0 + 3 → ν' k j = ν k j) ∧ (∀ j : Nat, 8 ≤ j + d → j < 8 → ν' (l0 + 2) j = -1 ∧ ν' (l0 + 3) j = 3) ∧ (∀ j : Nat, j + d < 8 → ν' (l0 + 2) j = ν (l0 + 2) j ∧ ν' (l0 + 3) j = ν (l0 + 3) j) := by
  have hl := kCr' hk
  have a2 : aN (l0 + 2) = 8 := (bA_0_2 hk (by omega) 0).2.2
  have a3 : aN (l0 + 3) = 8 := (bA_0_3 hk (by omega) 0).2.2
  intro d
  induction d with
  | zero =>
    intro fuel ν _ hf
    obtain ⟨m, rfl, -⟩ := lt_fuel hf
    refine ⟨ν, ?_, fun _ _ _ _ => rfl, fun j h1 h2 => by omega, fun _ _ => ⟨rfl, rfl⟩⟩
    rw [X0_clear_L23, if_pos (by omega)]
  | succ d ih =>
    intro fuel ν hd hf
    obtain ⟨m, rfl, hm⟩ := lt_fuel hf
    obtain ⟨ν', e1, e2, e3, e4⟩ := ih m (sM (sM ν (l0 + 2) (8 - (d + 1)) (-1)) (l0 + 3) (8 - (d + 1)) 3) (by omega) (by omega)
    refine ⟨ν', ?_, fun k j hk hk2 => ?_, fun j h1 h2 => ?_, fun j h1 => ?_⟩
    · rw [X0_clear_L23, if_neg (by omega)]
      unfold stA
      rw [if_pos (by rw [a2]; omega)]
      dsimp only
      rw [if_pos (by rw [a3]; omega)]
      have ea : iA (8 - ((d + 1 : Nat) : Int)) 1 = 8 - (d : Int) := by rw [iA_id (by omega) (by omega)]; omega
      have eb : (8 - ((d + 1 : Nat) : Int)).toNat = 8 - (d + 1) := by omega
      rw [ea, eb]
      exact e1
    · rw [e2 k j hk hk2, sM_a hk2, sM_a hk]
    · by_cases hj : 8 ≤ j + d
      · exact e3 j hj h2
      · have := e4 j (by omega)
        rw [this.1, this.2, sM_a (by omega), sM_if, sM_if, if_pos (by omega), if_pos (by omega)]
        exact ⟨rfl, rfl⟩
    · have := e4 j (by omega)
      rw [this.1, this.2, sM_a (by omega), sM_if, sM_if, if_neg (by omega), if_neg (by omega), sM_a (by omega)]
      exact ⟨rfl, rfl⟩
theorem clearC {l0 : Nat} (hk : kD l0 = (10, 9)) (ν : Mm) : ∃ ν', X0_clear l0 ν = some (0, ν') ∧ fw (wK l0) ν ν' ∧ CelC ν' l0 σ0 ∧ ν' l0 4 = 0 ∧ ν' l0 7 = 1 ∧ ∀ j, j < 8 → ν' (l0 + 3) j = 3 := by
  have hl := kCr' hk
  unfold X0_clear
  obtain ⟨ν1, e1, e2, e3, -⟩ := clr_L2 hk (fun μ4 => X0_clear_L23 l0 (fun μ10 => sF μ10 l0 3 (-1) fun μ11 => sF μ11 l0 4 0 fun μ12 => sF μ12 l0 5 0 fun μ13 => sF μ13 l0 6 0 fun μ14 => sF μ14 l0 7 1 fun μ15 => some (0, μ15)) FU 0 μ4) 60 FU ν (by omega) (by decide)
  obtain ⟨ν2, g1, g2, g3, -⟩ := clr_L23 hk (fun μ10 => sF μ10 l0 3 (-1) fun μ11 => sF μ11 l0 4 0 fun μ12 => sF μ12 l0 5 0 fun μ13 => sF μ13 l0 6 0 fun μ14 => sF μ14 l0 7 1 fun μ15 => some (0, μ15)) 8 FU ν1 (by omega) (by decide)
  refine ⟨_, e1.trans g1, ?_, ⟨fun j hj => ?_, ?_, fun c hc => ?_, ?_, ?_⟩, ?_, ?_, fun j hj => ?_⟩
  · intro k j hn
    unfold wK at hn
    have hne : ∀ q, (3 ≤ q ∧ q ≤ 7) → ¬ (k = l0 ∧ j = q) := fun q hq e => hn (Or.inl ⟨e.1, by omega⟩)
    unfold sM
    rw [if_neg (hne 7 (by omega)), if_neg (hne 6 (by omega)), if_neg (hne 5 (by omega)), if_neg (hne 4 (by omega)), if_neg (hne 3 (by omega)), g2 k j (by omega) (by omega), e2 k j (by omega)]
  · rw [sM_a (by omega), sM_a (by omega), sM_a (by omega), sM_a (by omega), sM_a (by omega), g2 _ _ (by omega) (by omega)]
    exact e3 j (by omega) hj
  · rw [sM_j (by decide), sM_j (by decide), sM_j (by decide), sM_j (by decide), sM_s]; rfl
  · rw [sM_a (by omega), sM_a (by omega), sM_a (by omega), sM_a (by omega), sM_a (by omega), (g3 c (by omega) hc).1]; rfl
  · rw [sM_j (by decide), sM_j (by decide), sM_s]; rfl
  · rw [sM_j (by decide), sM_s]; rfl
  · rw [sM_j (by decide), sM_j (by decide), sM_j (by decide), sM_s]
  · rw [sM_s]
  · rw [sM_a (by omega), sM_a (by omega), sM_a (by omega), sM_a (by omega), sM_a (by omega), (g3 j (by omega) hj).2]
/-! all rows -/
theorem J39_F {l0 : Nat} (hl : l0 ≠ 3) {ν : Mm} {p : Nat} {f : Int} (hf : f ≠ -1) : X0_read_J39 l0 (cr ν p f) = some (f, cr ν p f) := by
  unfold X0_read_J39
  rw [needEnd_F hf, bd_some]
  by_cases c : cr ν p f l0 3 = -1
  · rw [if_pos c, cr_1, refuse_F hf, bd_some, cr_2]
  · rw [if_neg c]
    by_cases c2 : cr ν p f l0 5 = 0
    · rw [if_pos c2, cr_1, refuse_F hf, bd_some, cr_2]
    · rw [if_neg c2, cr_2]
theorem J39_eq {t : Nat → Int} {n l0 : Nat} (hl : l0 ≠ 3) {ν : Mm} {σ : CS} (h : Tx t n ν) (hC : CelC ν l0 σ) {p : Nat} (hp : p ≤ n) : ∃ p' f, X0_read_J39 l0 (cr ν p (-1)) = some (f, cr ν p' f) ∧ if pk t n p = -1 ∧ σ.2.1 2 ≠ -1 ∧ σ.2.2.1 ≠ 0 then f = -1 else f ≠ -1 := by
  have hq : ((sk t n p : Nat) : Int) ≠ -1 := by omega
  unfold X0_read_J39
  rw [needEnd_eq h hp]
  by_cases c : pk t n p = -1
  · rw [if_pos c, bd_some, cr_c hl, hC.2.1]
    by_cases c2 : σ.2.1 2 = -1
    · rw [if_pos c2, cr_1, refuse_eq, bd_some, cr_2]
      exact ⟨_, _, rfl, by rw [if_neg (fun z => z.2.1 c2)]; exact hq⟩
    · rw [if_neg c2, cr_c hl, hC.2.2.2.1]
      by_cases c3 : σ.2.2.1 = 0
      · rw [if_pos c3, cr_1, refuse_eq, bd_some, cr_2]
        exact ⟨_, _, rfl, by rw [if_neg (fun z => z.2.2 c3)]; exact hq⟩
      · rw [if_neg c3, cr_2]
        exact ⟨_, _, rfl, by rw [if_pos ⟨c, c2, c3⟩]⟩
  · rw [if_neg c, bd_some, cr_c hl]
    refine ⟨sk t n p, ((sk t n p : Nat) : Int), ?_, by rw [if_neg (fun z => c z.1)]; exact hq⟩
    by_cases c2 : ν l0 3 = -1
    · rw [if_pos c2, cr_1, refuse_F hq, bd_some, cr_2]
    · rw [if_neg c2]
      by_cases c3 : cr ν (sk t n p) ((sk t n p : Nat) : Int) l0 5 = 0
      · rw [if_pos c3, cr_1, refuse_F hq, bd_some, cr_2]
      · rw [if_neg c3, cr_2]
theorem celC_L {t : Nat → Int} {n l0 : Nat} (hk : kD l0 = (10, 9)) : ∀ (left fuel r p p0 w : Nat) (ν : Mm) (σ : CS), r + left = 5 → left < fuel → Tx t n ν → CelC ν l0 σ → ν l0 4 = (w : Int) → w ≤ 9 → bdS σ (10 * (r + 1)) → p ≤ n → (p0 = p ∨ p0 = sk t n p) →
    ∃ ν' p' f, X0_read_L12 l0 (fun μ15 => X0_read_J39 l0 μ15) fuel ((r + 1 : Nat) : Int) (cr ν p0 (-1)) = some (f, cr ν' p' f) ∧ fD l0 ν ν' ∧ match celN t n left r p w σ with
      | none => f ≠ -1
      | some q => f = -1 ∧ CelC ν' l0 q.2.2 ∧ ν' l0 4 = (q.2.1 : Int) := by
  have hl := kCr' hk
  have hl3 : l0 ≠ 3 := by omega
  intro left
  induction left with
  | zero =>
    intro fuel r p p0 w ν σ hrl hf h hC hw hw9 hb hp hp0
    obtain ⟨f', rfl, -⟩ := lt_fuel hf
    have hpp : p0 ≤ n ∧ pk t n p0 = pk t n p := by
      rcases hp0 with rfl | rfl
      · exact ⟨hp, rfl⟩
      · exact ⟨sk_le p hp, pk_sk p⟩
    obtain ⟨p', f, e1, e2⟩ := J39_eq hl3 h hC hpp.1
    rw [X0_read_L12, if_pos (by omega), e1]
    refine ⟨ν, p', f, rfl, fw_rf, ?_⟩
    rw [hpp.2] at e2
    unfold celN
    by_cases c : pk t n p = -1 ∧ σ.2.1 2 ≠ -1 ∧ σ.2.2.1 ≠ 0
    · rw [if_pos c] at e2 ⊢
      exact ⟨e2, hC, hw⟩
    · rw [if_neg c] at e2 ⊢
      exact e2
  | succ left ih =>
    intro fuel r p p0 w ν σ hrl hf h hC hw hw9 hb hp hp0
    obtain ⟨f', rfl, hf'⟩ := lt_fuel hf
    have h160 := h.1
    have hpp : p0 ≤ n ∧ pk t n p0 = pk t n p ∧ sk t n p0 = sk t n p := by
      rcases hp0 with rfl | rfl
      · exact ⟨hp, rfl, rfl⟩
      · exact ⟨sk_le p hp, pk_sk p, sk_sk p⟩
    rw [X0_read_L12, if_neg (by omega), take_eq h hpp.1 47 (by decide), hpp.2.1, hpp.2.2]
    unfold celN
    by_cases c : pk t n p = 47
    · have hq := pk_ne (t := t) (n := n) (p := p) (by omega)
      rw [if_pos c, if_pos c, bd_some, if_neg (by decide)]
      obtain ⟨ν1, p1, f1, e1, e2, e3⟩ := readRowC hk (r := r + 1) (w := w) (by omega) hw9 h hC (Or.inr hw) hb (p := sk t n p + 1) (by omega)
      rw [e1, bd_some, iA_nat (by omega)]
      revert e3
      cases hR : rowStep t n (r + 1) w (sk t n p + 1) σ with
      | none =>
        intro e3
        have e3 : f1 ≠ -1 := e3
        obtain ⟨f'', rfl, -⟩ := lt_fuel (d := 0) (n := f') (by omega)
        have : X0_read_L12 l0 (fun μ15 => X0_read_J39 l0 μ15) (f'' + 1) ((r + 1 + 1 : Nat) : Int) (cr ν1 p1 f1) = some (f1, cr ν1 p1 f1) := by
          rw [X0_read_L12]
          by_cases c8 : (6 : Int) ≤ ((r + 1 + 1 : Nat) : Int)
          · rw [if_pos c8, J39_F hl3 e3]
          · rw [if_neg c8, take_F e3 (by decide), bd_some, if_pos rfl, J39_F hl3 e3]
        rw [this]
        exact ⟨ν1, p1, f1, rfl, e2, e3⟩
      | some q =>
        intro e3
        obtain ⟨rfl, k2, k3, k4, k5, k6, k7⟩ := e3
        dsimp only
        obtain ⟨ν2, p2, f2, g1, g2, g3⟩ := ih f' (r + 1) q.1 p1 q.2.1 ν1 q.2.2 (by omega) hf' (Tx_fD hk h e2) k4 k5 k6 k7 k3 k2
        exact ⟨ν2, p2, f2, g1, fw_tr e2 g2, g3⟩
    · rw [if_neg c, if_neg c, bd_some, if_pos rfl]
      obtain ⟨p', f, e1, e2⟩ := J39_eq hl3 h hC (p := sk t n p) (sk_le p hp)
      rw [e1]
      refine ⟨ν, p', f, rfl, fw_rf, ?_⟩
      rw [pk_sk] at e2
      by_cases c : pk t n p = -1 ∧ σ.2.1 2 ≠ -1 ∧ σ.2.2.1 ≠ 0
      · rw [if_pos c] at e2 ⊢
        exact ⟨e2, hC, hw⟩
      · rw [if_neg c] at e2 ⊢
        exact e2
theorem cellarC {t : Nat → Int} {n l0 : Nat} (hk : kD l0 = (10, 9)) {ν : Mm} (h : Tx t n ν) :
    ∃ ν' p' f, X0_read l0 (cr ν 0 (-1)) = some (f, cr ν' p' f) ∧ fw (wK l0) ν ν' ∧ ν' l0 7 = 1 ∧ (∀ j, j < 8 → ν' (l0 + 3) j = 3) ∧ match celS t n with
      | none => f ≠ -1
      | some q => f = -1 ∧ CelC ν' l0 q.2.2 ∧ ν' l0 4 = (q.2.1 : Int) := by
  have hl := kCr' hk
  have hl3 : l0 ≠ 3 := by omega
  obtain ⟨ν1, e1, e2, e3, e4, e5, e6⟩ := clearC hk (cr ν 0 (-1))
  have c1 : ν1 3 1 = ((0 : Nat) : Int) := by rw [e2 3 1 (by unfold wK; omega), cr_1]
  have c2 : ν1 3 2 = -1 := by rw [e2 3 2 (by unfold wK; omega), cr_2]
  have hs := cr_self c1 c2
  have hT1 : Tx t n ν1 := by
    obtain ⟨h1, x, h2, h3, h4, h5⟩ := h
    have hx := kTr h3
    refine ⟨h1, x, ?_, h3, ?_, fun j hj => ?_⟩
    · rw [e2 3 0 (by unfold wK; omega), cr_0]; exact h2
    · rw [e2 x 1 (by have := kCr hk; unfold wK; omega), cr_c (by omega)]; exact h4
    · rw [e2 (x + 1) j (by have := kCr hk; unfold wK; omega), cr_c (by omega)]; exact h5 j hj
  have hfr : ∀ x, fD l0 ν1 x → ∃ y, (∀ p f, cr x p f = cr y p f) ∧ fw (wK l0) ν y ∧ (∀ k j, k ≠ 3 → y k j = x k j) := by
    intro x hx
    refine ⟨fun k j => if k = 3 then ν k j else x k j, fun p f => ?_, fun k j hn => ?_, fun k j hk3 => if_neg hk3⟩
    · funext k j
      unfold cr sM
      by_cases c1 : k = 3 ∧ j = 2
      · rw [if_pos c1, if_pos c1]
      · rw [if_neg c1, if_neg c1]
        by_cases c2 : k = 3 ∧ j = 1
        · rw [if_pos c2, if_pos c2]
        · rw [if_neg c2, if_neg c2]
          show x k j = if k = 3 then ν k j else x k j
          by_cases c3 : k = 3
          · rw [if_pos c3, hx k j (by unfold wD; omega), e2 k j (by unfold wK; omega), c3]
            unfold cr sM
            rw [if_neg (by omega), if_neg (by omega)]
          · rw [if_neg c3]
    · by_cases c3 : k = 3
      · exact if_pos c3
      · show (if k = 3 then ν k j else x k j) = ν k j
        rw [if_neg c3, hx k j (by unfold wK at hn; unfold wD; omega), e2 k j hn, cr_c c3]
  have c7 : ∀ x, fD l0 ν1 x → x l0 7 = 1 ∧ ∀ j, j < 8 → x (l0 + 3) j = 3 := fun x hx => ⟨by rw [hx l0 7 (by unfold wD; omega)]; exact e5, fun j hj => by rw [hx (l0 + 3) j (by unfold wD; omega)]; exact e6 j hj⟩
  have hCel : ∀ x y σ, (∀ k j, k ≠ 3 → y k j = x k j) → CelC x l0 σ → CelC y l0 σ := by
    intro x y σ hy ⟨a1, a2, a3, a4, a5⟩
    exact ⟨fun j hj => by rw [hy _ _ (by omega)]; exact a1 j hj, by rw [hy _ _ hl3]; exact a2, fun c hc => by rw [hy _ _ (by omega)]; exact a3 c hc, by rw [hy _ _ hl3]; exact a4, by rw [hy _ _ hl3]; exact a5⟩
  unfold X0_read
  rw [e1, bd_some, ← hs]
  have hb0 : bdS σ0 (10 * 0) := ⟨by decide, by decide, by decide, by decide⟩
  obtain ⟨ν2, p2, f2, g1, g2, g3⟩ := readRowC hk (r := 0) (w := 0) (by omega) (by omega) hT1 e3 (Or.inl rfl) hb0 (p := 0) (by omega)
  have g1' : X0_readRow l0 0 (cr ν1 0 (-1)) = some (0, cr ν2 p2 f2) := g1
  rw [g1', bd_some]
  unfold celS
  revert g3
  cases hR : rowStep t n 0 0 0 σ0 with
  | none =>
    intro g3
    have g3 : f2 ≠ -1 := g3
    have : X0_read_L12 l0 (fun μ15 => X0_read_J39 l0 μ15) (999999 + 1) 1 (cr ν2 p2 f2) = some (f2, cr ν2 p2 f2) := by
      rw [X0_read_L12, if_neg (by decide), take_F g3 (by decide), bd_some, if_pos rfl, J39_F hl3 g3]
    obtain ⟨y, y1, y2, y3⟩ := hfr ν2 g2
    refine ⟨y, p2, f2, ?_, y2, by rw [y3 _ _ hl3]; exact (c7 ν2 g2).1, fun j hj => by rw [y3 _ _ (by omega)]; exact (c7 ν2 g2).2 j hj, g3⟩
    rw [← y1]; exact this
  | some q =>
    intro g3
    obtain ⟨rfl, k2, k3, k4, k5, k6, k7⟩ := g3
    dsimp only
    obtain ⟨ν3, p3, f3, i1, i2, i3⟩ := celC_L hk 5 FU 0 q.1 p2 q.2.1 ν2 q.2.2 (by omega) (by decide) (Tx_fD hk hT1 g2) k4 k5 k6 k7 k3 k2
    have hx := fw_tr g2 i2
    obtain ⟨y, y1, y2, y3⟩ := hfr ν3 hx
    refine ⟨y, p3, f3, ?_, y2, by rw [y3 _ _ hl3]; exact (c7 ν3 hx).1, fun j hj => by rw [y3 _ _ (by omega)]; exact (c7 ν3 hx).2 j hj, ?_⟩
    · rw [← y1]; exact i1
    · revert i3
      cases celN t n 5 0 q.1 q.2.1 q.2.2 with
      | none => intro i3; exact i3
      | some z => intro i3; exact ⟨i3.1, hCel ν3 y _ y3 i3.2.1, by rw [y3 _ _ hl3]; exact i3.2.2⟩
