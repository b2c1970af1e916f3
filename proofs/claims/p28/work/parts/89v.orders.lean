/-! ORDERS: digits, each once -/
theorem no_inj : ∀ (m : Nat) (f : Nat → Nat), (∀ j, j ≤ m → f j < m) → ∃ i j, i < j ∧ j ≤ m ∧ f i = f j := by
  intro m
  induction m with
  | zero => intro f h; exact absurd (h 0 (Nat.le_refl _)) (by omega)
  | succ m ih =>
    intro f h
    by_cases c : ∃ i, i ≤ m ∧ f i = f (m + 1)
    · obtain ⟨i, h1, h2⟩ := c
      exact ⟨i, m + 1, by omega, Nat.le_refl _, h2⟩
    · have hc : ∀ i, i ≤ m → f i ≠ f (m + 1) := fun i hi e => c ⟨i, hi, e⟩
      have hl := h (m + 1) (Nat.le_refl _)
      obtain ⟨i, j, h1, h2, h3⟩ := ih (fun j => if f j = m then f (m + 1) else f j) (fun j hj => by
        have h4 := h j (by omega)
        have h5 := hc j hj
        show (if f j = m then f (m + 1) else f j) < m
        split <;> omega)
      refine ⟨i, j, h1, by omega, ?_⟩
      have h3 : (if f i = m then f (m + 1) else f i) = (if f j = m then f (m + 1) else f j) := h3
      have hi := hc i (by omega)
      have hj := hc j h2
      by_cases ci : f i = m
      · rw [if_pos ci] at h3
        by_cases cj : f j = m
        · omega
        · rw [if_neg cj] at h3; exact absurd h3.symm hj
      · rw [if_neg ci] at h3
        by_cases cj : f j = m
        · rw [if_pos cj] at h3; exact absurd h3 hi
        · rw [if_neg cj] at h3; exact h3
def injN (m : Nat) (f : Nat → Nat) : Prop := ∀ i j, i < j → j < m → f i ≠ f j
def rngN (m : Nat) (f : Nat → Nat) : Prop := ∀ j, j < m → f j < m
def surN (m : Nat) (f : Nat → Nat) : Prop := ∀ d, d < m → ∃ j, j < m ∧ f j = d
theorem inj_sur {m : Nat} {f : Nat → Nat} (hr : rngN m f) (hi : injN m f) : surN m f := by
  intro d hd
  refine Classical.byContradiction (fun hn => ?_)
  have hn : ∀ j, j < m → f j ≠ d := fun j hj e => hn ⟨j, hj, e⟩
  obtain ⟨m', rfl⟩ : ∃ m', m = m' + 1 := ⟨m - 1, by omega⟩
  obtain ⟨i, j, h1, h2, h3⟩ := no_inj m' (fun j => if f j = m' then d else f j) (fun j hj => by
    have h4 := hr j (by omega)
    have h5 := hn j (by omega)
    show (if f j = m' then d else f j) < m'
    by_cases c : f j = m'
    · rw [if_pos c]; omega
    · rw [if_neg c]; omega)
  have h3 : (if f i = m' then d else f i) = (if f j = m' then d else f j) := h3
  have ni := hn i (by omega)
  have nj := hn j (by omega)
  have hij := hi i j h1 (by omega)
  by_cases ci : f i = m'
  · rw [if_pos ci] at h3
    by_cases cj : f j = m'
    · omega
    · rw [if_neg cj] at h3; omega
  · rw [if_neg ci] at h3
    by_cases cj : f j = m'
    · rw [if_pos cj] at h3; omega
    · rw [if_neg cj] at h3; omega
theorem sur_inj {m : Nat} {f : Nat → Nat} (hs : surN m f) : injN m f := by
  intro a b hab hb e
  obtain ⟨m', rfl⟩ : ∃ m', m = m' + 1 := ⟨m - 1, by omega⟩
  -- each number is told at a place other than b
  have h1 : ∀ d, d < m' + 1 → ∃ j, j < m' + 1 ∧ f j = d ∧ j ≠ b := fun d hd => by
    obtain ⟨j, j1, j2⟩ := hs d hd
    by_cases c : j = b
    · exact ⟨a, by omega, by rw [e, ← c]; exact j2, by omega⟩
    · exact ⟨j, j1, j2, c⟩
  have h2 : ∀ d : Nat, ∃ j, d < m' + 1 → j < m' + 1 ∧ f j = d ∧ j ≠ b := fun d => by
    by_cases c : d < m' + 1
    · obtain ⟨j, hj⟩ := h1 d c
      exact ⟨j, fun _ => hj⟩
    · exact ⟨0, fun z => absurd z c⟩
  obtain ⟨g, hg⟩ : ∃ g : Nat → Nat, ∀ d, d < m' + 1 → g d < m' + 1 ∧ f (g d) = d ∧ g d ≠ b := ⟨fun d => Classical.choose (h2 d), fun d => Classical.choose_spec (h2 d)⟩
  obtain ⟨i, j, k1, k2, k3⟩ := no_inj m' (fun d => if g d = m' then b else g d) (fun d hd => by
    have := hg d (by omega)
    show (if g d = m' then b else g d) < m'
    by_cases c : g d = m'
    · rw [if_pos c]; omega
    · rw [if_neg c]; omega)
  have k3 : (if g i = m' then b else g i) = (if g j = m' then b else g j) := k3
  have gi := hg i (by omega)
  have gj := hg j (by omega)
  have eg : g i = g j := by
    by_cases ci : g i = m'
    · rw [if_pos ci] at k3
      by_cases cj : g j = m'
      · omega
      · rw [if_neg cj] at k3; exact absurd k3.symm gj.2.2
    · rw [if_neg ci] at k3
      by_cases cj : g j = m'
      · rw [if_pos cj] at k3; exact absurd k3 gi.2.2
      · rw [if_neg cj] at k3; exact k3
  have : i = j := by rw [← gi.2.1, ← gj.2.1, eg]
  omega
/-- the digit k of an ORDER of m CUES, from the highest -/
def dgN (m : Nat) (o : Int) (k : Nat) : Nat := (o / 10 ^ (m - 1 - k) % 10).toNat
theorem dgN_10 {m : Nat} {o : Int} {k : Nat} : dgN m o k < 10 := by
  have h1 := Int.emod_nonneg (o / 10 ^ (m - 1 - k)) (show (10 : Int) ≠ 0 by decide)
  have h2 := Int.emod_lt_of_pos (o / 10 ^ (m - 1 - k)) (show (0 : Int) < 10 by decide)
  unfold dgN
  omega
theorem dgN_e {m : Nat} {o : Int} {k : Nat} : o / 10 ^ (m - 1 - k) % 10 = ((dgN m o k : Nat) : Int) := by
  have h1 := Int.emod_nonneg (o / 10 ^ (m - 1 - k)) (show (10 : Int) ≠ 0 by decide)
  unfold dgN
  omega
def PO (m : Nat) (o : Int) : Prop := 0 ≤ o ∧ o < 10 ^ m ∧ rngN m (dgN m o) ∧ injN m (dgN m o)
theorem nthM {m : Nat} (hm : m ≤ 8) {o : Int} (ho : 0 ≤ o ∧ o ≤ 2147483647) {k : Nat} (hk : k < m) {μ : Mm} (h37 : μ 70 37 = (m : Int)) : X11_nth o (k : Int) μ = some (((dgN m o k : Nat) : Int), μ) := by
  rw [nth_eq (by omega) (by omega), dg_eq ho, h37]
  have e : ((m : Int) - 1 - (k : Int)).toNat = m - 1 - k := by omega
  rw [e, dgN_e]
theorem o_div {o : Int} {i : Nat} : o / 10 ^ (i + 1) = o / 10 ^ i / 10 := by
  rw [p10_succ, Int.ediv_ediv_of_nonneg (by have := p10_pos i; omega)]
theorem bit_one : ∀ c, c < 10 → ∀ d, d < 10 → (bA (bR (bL 1 ((c : Nat) : Int)) ((d : Nat) : Int)) 1 = 1 ↔ d = c) := by decide +kernel
theorem bit_zero : ∀ d, d < 10 → bA (bR 0 ((d : Nat) : Int)) 1 ≠ 1 := by decide +kernel
/-- the class reads an ORDER from its last digit on -/
theorem tkO_neg {m : Int} (hm : 1 ≤ m) {K : Int → Mm → Rs} (hK : ∀ v μ, v ≠ 0 → K v μ = some (0, μ)) : ∀ (fuel : Nat) (rest s i : Int) (ν : Mm), rI rest → rest < 0 → -1 ≤ i ∧ i ≤ 7 → i + 1 < ((fuel : Nat) : Int) → ∃ ν', X5_takeOrder_L15 m K fuel rest s i ν = some (0, ν') ∧ fw (fun k _ => k = 59) ν ν' := by
  intro fuel
  induction fuel with
  | zero => intro rest s i ν _ _ _ h; exact absurd h (by omega)
  | succ fuel ih =>
    intro rest s i ν hr hn hi hf
    have h1 := iR_10 rest hr
    have hd := iD_10 rest hr
    show ∃ ν', (if i < 0 then (K rest ν) else (if 8 ≤ i then (K rest ν) else (if (iR rest 10) < 0 then (some (0, ν)) else (if m ≤ (iR rest 10) then (some (0, ν)) else (if (bA (bR s (iR rest 10)) 1) = 1 then (some (0, ν)) else (lt_ (bO s (bL 1 (iR rest 10))) fun v7 => stA ν 59 i (iR rest 10) fun μ8 => X5_takeOrder_L15 m K fuel (iD rest 10) v7 (iA i (-1)) μ8)))))) = some (0, ν') ∧ _
    by_cases c1 : i < 0
    · rw [if_pos c1, hK _ _ (by omega)]
      exact ⟨ν, rfl, fw_rf⟩
    · rw [if_neg c1, if_neg (by omega)]
      by_cases c2 : iR rest 10 < 0
      · rw [if_pos c2]; exact ⟨ν, rfl, fw_rf⟩
      · rw [if_neg c2]
        by_cases c3 : m ≤ iR rest 10
        · rw [if_pos c3]; exact ⟨ν, rfl, fw_rf⟩
        · rw [if_neg c3]
          by_cases c4 : (bA (bR s (iR rest 10)) 1) = 1
          · rw [if_pos c4]; exact ⟨ν, rfl, fw_rf⟩
          · rw [if_neg c4]
            have hneg : iD rest 10 < 0 := by
              have e1 : iD rest 10 = rest.tdiv 10 := by
                unfold iD
                have b1 : rest.tdiv 10 ≤ 0 := by
                  have := Int.tdiv_nonneg (a := -rest) (b := 10) (by omega) (by decide)
                  rw [Int.neg_tdiv] at this
                  omega
                have b2 : rest ≤ rest.tdiv 10 := by
                  have h2 := Int.ediv_le_self 10 (show 0 ≤ -rest by omega)
                  have h3 : (-rest).tdiv 10 = -rest / 10 := Int.tdiv_eq_ediv_of_nonneg (by omega)
                  rw [Int.neg_tdiv] at h3
                  omega
                have := hr.1
                exact wI_id (by omega) (by omega)
              have e2 : iR rest 10 = rest - rest.tdiv 10 * 10 := by
                unfold iR
                rw [e1]
                have h3 : (-rest).tdiv 10 = -rest / 10 := Int.tdiv_eq_ediv_of_nonneg (by omega)
                rw [Int.neg_tdiv] at h3
                have := hr.1
                exact wI_id (by omega) (by omega)
              rw [e1]
              omega
            unfold lt_ stA
            dsimp only
            rw [if_pos (by show (0 : Int) ≤ i ∧ i < 8; omega), iA_id (by omega) (by omega)]
            obtain ⟨ν', g1, g2⟩ := ih (iD rest 10) (bO s (bL 1 (iR rest 10))) (i + -1) (sM ν 59 i.toNat (iR rest 10)) ⟨hd.2.1, hd.2.2⟩ hneg (by omega) (by omega)
            exact ⟨ν', g1, fw_tr (fw_sM fw_rf rfl) g2⟩
theorem tkO_L {m : Nat} (hm : 1 ≤ m ∧ m ≤ 8) {o : Int} (ho : 0 ≤ o ∧ o ≤ 2147483647) {K : Int → Mm → Rs} (hK : ∀ v μ, K v μ = if v = 0 then some (1, μ) else some (0, μ)) : ∀ (r fuel : Nat) (s : Int) (ν : Mm), r ≤ m → r < fuel → (∀ j, r ≤ j → j < m → dgN m o j < m ∧ ν 59 j = ((dgN m o j : Nat) : Int)) → (∀ i j, r ≤ i → i < j → j < m → dgN m o i ≠ dgN m o j) → (∀ d, d < 10 → (bA (bR s ((d : Nat) : Int)) 1 = 1 ↔ ∃ j, r ≤ j ∧ j < m ∧ dgN m o j = d)) → ∃ ν', fw (fun k _ => k = 59) ν ν' ∧ (PO m o → X5_takeOrder_L15 (m : Int) K fuel (o / 10 ^ (m - r)) s ((r : Int) - 1) ν = some (1, ν') ∧ ∀ j, j < m → ν' 59 j = ((dgN m o j : Nat) : Int)) ∧ (¬ PO m o → X5_takeOrder_L15 (m : Int) K fuel (o / 10 ^ (m - r)) s ((r : Int) - 1) ν = some (0, ν')) := by
  intro r
  induction r with
  | zero =>
    intro fuel s ν hr hf hd hi hs
    obtain ⟨g, rfl, _⟩ := lt_fuel hf
    refine ⟨ν, fw_rf, fun hp => ⟨?_, fun j hj => (hd j (Nat.zero_le _) hj).2⟩, fun hn => ?_⟩
    · show (if ((0 : Nat) : Int) - 1 < 0 then _ else _) = _
      rw [if_pos (by omega), hK, Nat.sub_zero, if_pos (Int.ediv_eq_zero_of_lt hp.1 hp.2.1)]
    · show (if ((0 : Nat) : Int) - 1 < 0 then _ else _) = _
      rw [if_pos (by omega), hK, if_neg]
      intro e
      refine hn ⟨ho.1, ?_, fun j hj => (hd j (Nat.zero_le _) hj).1, fun i j hij hj => hi i j (Nat.zero_le _) hij hj⟩
      have h1 := Int.mul_ediv_add_emod o (10 ^ m)
      have h2 := Int.emod_lt_of_pos o (p10_pos m)
      have e' : o / 10 ^ m = 0 := e
      rw [e', Int.mul_zero] at h1
      omega
  | succ r ih =>
    intro fuel s ν hr hf hd hi hs
    obtain ⟨g, rfl, _⟩ := lt_fuel hf
    have hrest : 0 ≤ o / 10 ^ (m - (r + 1)) ∧ o / 10 ^ (m - (r + 1)) ≤ 2147483647 := by
      have h1 := Int.ediv_nonneg ho.1 (Int.le_of_lt (p10_pos (m - (r + 1))))
      have h2 := Int.ediv_le_self (10 ^ (m - (r + 1))) ho.1
      omega
    have e1 : iR (o / 10 ^ (m - (r + 1))) 10 = ((dgN m o r : Nat) : Int) := by
      rw [iR_id hrest.1 hrest.2 (by decide)]
      have e2 : m - (r + 1) = m - 1 - r := by omega
      rw [e2, dgN_e]
    have e3 : iD (o / 10 ^ (m - (r + 1))) 10 = o / 10 ^ (m - r) := by
      rw [iD_id hrest.1 hrest.2 (by decide)]
      have e4 : m - r = m - (r + 1) + 1 := by omega
      rw [e4, o_div]
    have h10 := dgN_10 (m := m) (o := o) (k := r)
    have e0 : X5_takeOrder_L15 (m : Int) K (g + 1) (o / 10 ^ (m - (r + 1))) s (((r + 1 : Nat) : Int) - 1) ν = if (m : Int) ≤ ((dgN m o r : Nat) : Int) then (some (0, ν)) else (if (bA (bR s ((dgN m o r : Nat) : Int)) 1) = 1 then (some (0, ν)) else (X5_takeOrder_L15 (m : Int) K g (o / 10 ^ (m - r)) (bO s (bL 1 ((dgN m o r : Nat) : Int))) ((r : Int) - 1) (sM ν 59 r ((dgN m o r : Nat) : Int)))) := by
      have ei : ((r + 1 : Nat) : Int) - 1 = (r : Int) := by omega
      rw [ei]
      show (if (r : Int) < 0 then _ else _) = _
      have st : ∀ (v : Int) (f : Mm → Rs), stA ν 59 (r : Int) v f = f (sM ν 59 r v) := fun v f => by
        unfold stA
        rw [if_pos (by show (0 : Int) ≤ (r : Int) ∧ (r : Int) < 8; omega), Int.toNat_natCast]
      rw [if_neg (by omega), if_neg (by omega), e1, if_neg (by omega), e3]
      unfold lt_
      dsimp only
      rw [st, iA_id (by omega) (by omega)]
      rfl
    rw [e0]
    by_cases c1 : (m : Int) ≤ ((dgN m o r : Nat) : Int)
    · rw [if_pos c1]
      exact ⟨ν, fw_rf, fun hp => absurd (hp.2.2.1 r (by omega)) (by omega), fun _ => rfl⟩
    · rw [if_neg c1]
      by_cases c2 : (bA (bR s ((dgN m o r : Nat) : Int)) 1) = 1
      · rw [if_pos c2]
        obtain ⟨j, j1, j2, j3⟩ := (hs _ h10).mp c2
        exact ⟨ν, fw_rf, fun hp => absurd j3.symm (hp.2.2.2 r j (by omega) j2), fun _ => rfl⟩
      · rw [if_neg c2]
        have hnew : ∀ j, r + 1 ≤ j → j < m → dgN m o j ≠ dgN m o r := fun j j1 j2 e => c2 ((hs _ h10).mpr ⟨j, j1, j2, e⟩)
        obtain ⟨ν', g1, g2, g3⟩ := ih g (bO s (bL 1 ((dgN m o r : Nat) : Int))) (sM ν 59 r ((dgN m o r : Nat) : Int)) (by omega) (by omega) (fun j j1 j2 => by
          by_cases c : j = r
          · rw [c, sM_s]; exact ⟨by omega, rfl⟩
          · rw [sM_j c]; exact hd j (by omega) j2) (fun i j i1 i2 j2 => by
          by_cases c : i = r
          · rw [c]; exact fun e => hnew j (by omega) j2 e.symm
          · exact hi i j (by omega) i2 j2) (fun d hd10 => by
          rw [bit_oR hd10, bit_one _ h10 d hd10, hs d hd10]
          constructor
          · rintro (⟨j, j1, j2, j3⟩ | e)
            · exact ⟨j, by omega, j2, j3⟩
            · exact ⟨r, Nat.le_refl _, by omega, e.symm⟩
          · rintro ⟨j, j1, j2, j3⟩
            by_cases c : j = r
            · right; rw [← j3, c]
            · left; exact ⟨j, by omega, j2, j3⟩)
        exact ⟨ν', fw_tr (fw_sM fw_rf rfl) g1, g2, g3⟩
theorem tkO {m : Nat} (hm : 1 ≤ m ∧ m ≤ 8) {o : Int} (ho : rI o) (ν : Mm) : ∃ ν', fw (fun k j => k = 59 ∨ (k = 58 ∧ j = 3)) ν ν' ∧ ν' 58 3 = (m : Int) ∧ (PO m o → X5_takeOrder o (m : Int) ν = some (1, ν') ∧ ∀ j, j < m → ν' 59 j = ((dgN m o j : Nat) : Int)) ∧ (¬ PO m o → X5_takeOrder o (m : Int) ν = some (0, ν')) := by
  have hK : ∀ (v : Int) (μ : Mm), (fun (v10 : Int) (μ11 : Mm) => if v10 = 0 then (some (1, μ11) : Rs) else (some (0, μ11))) v μ = if v = 0 then some (1, μ) else some (0, μ) := fun _ _ => rfl
  have es : iS (m : Int) 1 = (m : Int) - 1 := iS_id (by omega) (by omega)
  have e0 : X5_takeOrder o (m : Int) ν = X5_takeOrder_L15 (m : Int) (fun v10 μ11 => if v10 = 0 then (some (1, μ11)) else (some (0, μ11))) FU o 0 ((m : Int) - 1) (sM ν 58 3 (m : Int)) := by
    unfold X5_takeOrder
    rw [sF_r, es]
  clear es
  have w0 : fw (fun k j => k = 59 ∨ (k = 58 ∧ j = 3)) ν (sM ν 58 3 (m : Int)) := fw_sM fw_rf (Or.inr ⟨rfl, rfl⟩)
  by_cases c : 0 ≤ o
  · obtain ⟨ν', g1, g2, g3⟩ := tkO_L hm (o := o) ⟨c, ho.2⟩ hK m FU 0 (sM ν 58 3 (m : Int)) (Nat.le_refl _) (by show m < 1000000; omega) (fun j j1 j2 => absurd j1 (by omega)) (fun i j i1 i2 j2 => absurd i1 (by omega)) (fun d hd => ⟨fun z => absurd z (bit_zero d hd), fun z => z.elim (fun j y => absurd y.1 (by omega))⟩)
    rw [Nat.sub_self, Int.pow_zero, Int.ediv_one] at g2 g3
    exact ⟨ν', fw_tr w0 (fun k j hn => g1 k j (fun z => hn (Or.inl z))), by rw [g1 58 3 (by decide), sM_s], fun hp => by rw [e0]; exact g2 hp, fun hn => by rw [e0]; exact g3 hn⟩
  · obtain ⟨ν', g1, g2⟩ := tkO_neg (m := (m : Int)) (by omega) (K := fun v10 μ11 => if v10 = 0 then (some (1, μ11)) else (some (0, μ11))) (fun v μ hv => if_neg hv) FU o 0 ((m : Int) - 1) (sM ν 58 3 (m : Int)) ho (by omega) (by omega) (by rw [FU_v]; omega)
    exact ⟨ν', fw_tr w0 (fun k j hn => g2 k j (fun z => hn (Or.inl z))), by rw [g2 58 3 (by decide), sM_s], fun hp => absurd hp.1 c, fun _ => by rw [e0]; exact g1⟩
/-! the reference -/
theorem isO_L {m : Nat} (hm : m ≤ 8) {o : Int} (ho : 0 ≤ o ∧ o ≤ 2147483647) {K : Int → Mm → Rs} {μ : Mm} (h37 : μ 70 37 = (m : Int)) : ∀ (r k fuel : Nat) (s : Int), k + r = m → r < fuel → rI s → (∀ d, d < 32 → (gb s d = true ↔ ∃ j, j < k ∧ dgN m o j = d)) → ∃ s' : Int, X11_isOrder_L4 o K fuel s (k : Int) μ = K s' μ ∧ rI s' ∧ ∀ d, d < 32 → (gb s' d = true ↔ ∃ j, j < m ∧ dgN m o j = d) := by
  intro r
  induction r with
  | zero =>
    intro k fuel s hk hf hs hb
    obtain ⟨g, rfl, _⟩ := lt_fuel hf
    have e : k = m := by omega
    subst e
    refine ⟨s, ?_, hs, hb⟩
    show (if (μ 70 37) ≤ (k : Int) then _ else _) = _
    rw [h37, if_pos (by omega)]
  | succ r ih =>
    intro k fuel s hk hf hs hb
    obtain ⟨g, rfl, _⟩ := lt_fuel hf
    have h10 := dgN_10 (m := m) (o := o) (k := k)
    obtain ⟨s', g1, g2, g3⟩ := ih (k + 1) g (bO s (bL 1 ((dgN m o k : Nat) : Int))) (by omega) (by omega) (bO_r _ _) (fun d hd => by
      rw [gb_put h10 s hd, hb d hd]
      constructor
      · rintro (⟨j, j1, j2⟩ | z)
        · exact ⟨j, by omega, j2⟩
        · exact ⟨k, by omega, z.symm⟩
      · rintro ⟨j, j1, j2⟩
        by_cases c : j = k
        · right; rw [← j2, c]
        · left; exact ⟨j, by omega, j2⟩)
    refine ⟨s', ?_, g2, g3⟩
    rw [← g1]
    show (if (μ 70 37) ≤ (k : Int) then _ else _) = _
    rw [h37, if_neg (by omega), nthM hm ho (by omega) h37, bd_some, iA_nat (by omega)]
    rfl
theorem isOM {m : Nat} (hm : m ≤ 8) {o : Int} (ho : rI o) {μ : Mm} (hB : Bm μ) (h37 : μ 70 37 = (m : Int)) : (PO m o → X11_isOrder o μ = some (1, μ)) ∧ (¬ PO m o → X11_isOrder o μ = some (0, μ)) := by
  by_cases c : 0 ≤ o
  · obtain ⟨s, g1, g2, g3⟩ := isO_L hm (o := o) ⟨c, ho.2⟩ (K := fun v6 μ7 => bd (X11_ten (μ7 70 37) μ7) fun v8 μ9 => bd (X11_in o 0 (iS v8 1) μ9) fun v11 μ12 => if v11 = 0 then (some (0, μ12)) else (if v6 = (iS (bL 1 (μ12 70 37)) 1) then (some (1, μ12)) else (some (0, μ12)))) h37 m 0 FU 0 (by omega) (by show m < 1000000; omega) (show (-2147483648 : Int) ≤ 0 ∧ (0 : Int) ≤ 2147483647 by decide) (fun d hd => ⟨fun z => absurd z (by rw [gb_zero d hd]; decide), fun z => z.elim (fun j y => absurd y.1 (by omega))⟩)
    have e0 : X11_isOrder o μ = (bd (X11_ten (μ 70 37) μ) fun v8 μ9 => bd (X11_in o 0 (iS v8 1) μ9) fun v11 μ12 => if v11 = 0 then (some (0, μ12)) else (if s = (iS (bL 1 (μ12 70 37)) 1) then (some (1, μ12)) else (some (0, μ12)))) := g1
    have h8 : (10 : Int) ^ m ≤ 100000000 := p10_mono (b := 8) (by omega)
    have hpos := p10_pos m
    rw [h37, ten_eq (by omega), bd_some, Int.toNat_natCast, iS_id (by omega) (by omega)] at e0
    have key : (s = iS (bL 1 ((m : Nat) : Int)) 1) ↔ (rngN m (dgN m o) ∧ injN m (dgN m o)) := by
      constructor
      · intro h
        have h' : ∀ d, d < 32 → (d < m ↔ ∃ j, j < m ∧ dgN m o j = d) := fun d hd => by
          rw [← g3 d hd, h, gb_all m (by omega) d hd, decide_eq_true_iff]
        have h10 : ∀ k, dgN m o k < 32 := fun k => by
          have := dgN_10 (m := m) (o := o) (k := k)
          omega
        have hr : rngN m (dgN m o) := fun j hj => (h' _ (h10 j)).mpr ⟨j, hj, rfl⟩
        exact ⟨hr, sur_inj (fun d hd => (h' d (by omega)).mp hd)⟩
      · rintro ⟨hr, hi⟩
        refine gb_ext g2 (all_rI m (by omega)) (fun d hd => ?_)
        rw [g3 d hd, gb_all m (by omega) d hd, decide_eq_true_iff]
        exact ⟨fun z => z.elim (fun j y => by rw [← y.2]; exact hr j y.1), fun z => inj_sur hr hi d z⟩
    by_cases c2 : o < 10 ^ m
    · rw [in_rg _ (by omega), bd_some, if_neg (by decide)] at e0
      constructor
      · intro hp
        rw [e0, h37, if_pos (key.mpr ⟨hp.2.2.1, hp.2.2.2⟩)]
      · intro hn
        rw [e0, h37, if_neg (fun z => hn ⟨c, c2, (key.mp z).1, (key.mp z).2⟩)]
    · rw [in_no _ (by omega), bd_some, if_pos rfl] at e0
      exact ⟨fun hp => absurd hp.2.1 c2, fun _ => e0⟩
  · have t := t_X11_isOrder (μs := μ) ho (Sm_rf hB)
    obtain ⟨r, μ1, e1, e2, _, e3⟩ := wp_ex t
    subst e2
    refine ⟨fun hp => absurd hp.1 c, fun _ => ?_⟩
    rcases e3 with z | z
    · rw [e1, z]
    · exact absurd z.1 c
