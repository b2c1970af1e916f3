/-! THE READER OF CELLARS, the class's -/
/-- what a sign stands for: 0 a dot, 1 a POST, 2 START, 3 and more a CRANK; -1 none -/
def sg (x : Int) : Int := if x = 46 then 0 else if x = 35 then 1 else if x = 42 then 2 else if 65 ≤ x ∧ x ≤ 72 then x - 62 else -1
theorem sg_b (x : Int) : -1 ≤ sg x ∧ sg x ≤ 10 := by
  unfold sg
  split
  · omega
  · split
    · omega
    · split
      · omega
      · split <;> omega
theorem cellOf_eq (x : Int) (μ : Mm) : X0_cellOf x μ = some (sg x, μ) := by
  unfold X0_cellOf sg
  by_cases h1 : x = 35
  · rw [if_pos h1, if_neg (by omega), if_pos h1]
  · rw [if_neg h1]
    by_cases h2 : x = 42
    · rw [if_pos h2, if_neg (by omega), if_neg h1, if_pos h2]
    · rw [if_neg h2]
      by_cases h3 : x = 46
      · rw [if_pos h3, if_pos h3]
      · rw [if_neg h3, if_neg h3, if_neg h1, if_neg h2]
        by_cases h4 : x < 65
        · rw [if_pos h4, if_neg (by omega)]
        · rw [if_neg h4]
          by_cases h5 : 72 < x
          · rw [if_pos h5, if_neg (by omega)]
          · rw [if_neg h5, if_pos (by omega), iA_id (by omega) (by omega), iS_id (by omega) (by omega)]
            congr 2
            omega
/-- places; where each thing lies (-1 nowhere); how many CRANKS, POSTS -/
abbrev CS : Type := (Nat → Int) × (Nat → Int) × Int × Int
def ups (σ : CS) (pl : Nat) (v : Int) : CS := (fun j => if j = pl then v else σ.1 j, fun j => if 2 ≤ v ∧ j = v.toNat then (pl : Int) else σ.2.1 j, σ.2.2.1 + (if 3 ≤ v then 1 else 0), σ.2.2.2 + (if v = 1 then 1 else 0))
def rowS (t : Nat → Int) (n : Nat) : Nat → Nat → Nat → CS → Option (Nat × Nat × CS)
  | 0, p, pl, σ => some (p, pl, σ)
  | k + 1, p, pl, σ => if sg (pk t n p) = -1 then some (p, pl, σ) else if 2 ≤ sg (pk t n p) ∧ σ.2.1 (sg (pk t n p)).toNat ≠ -1 then none else rowS t n k (sk t n p + 1) (pl + 1) (ups σ pl (sg (pk t n p)))
def endS (σ : CS) : Prop := σ.2.1 2 ≠ -1 ∧ σ.2.2.1 ≠ 0
def CelC (ν : Mm) (l0 : Nat) (σ : CS) : Prop := (∀ j, j < 60 → ν (l0 + 1) j = σ.1 j) ∧ ν l0 3 = σ.2.1 2 ∧ (∀ c, c < 8 → ν (l0 + 2) c = σ.2.1 (3 + c)) ∧ ν l0 5 = σ.2.2.1 ∧ ν l0 6 = σ.2.2.2
def bdS (σ : CS) (pl : Nat) : Prop := 0 ≤ σ.2.2.1 ∧ σ.2.2.1 ≤ pl ∧ 0 ≤ σ.2.2.2 ∧ σ.2.2.2 ≤ pl
theorem bdS_u {σ : CS} {pl : Nat} {v : Int} (h : bdS σ pl) : bdS (ups σ pl v) (pl + 1) := by
  unfold bdS ups at *
  dsimp only
  by_cases h1 : 3 ≤ v
  · rw [if_pos h1, if_neg (by omega)]; omega
  · rw [if_neg h1]
    by_cases h2 : v = 1
    · rw [if_pos h2]; omega
    · rw [if_neg h2]; omega
def wC (l0 k j : Nat) : Prop := (k = l0 ∧ (j = 3 ∨ j = 5 ∨ j = 6)) ∨ k = l0 + 1 ∨ k = l0 + 2
def fC (l0 : Nat) (ν ν' : Mm) : Prop := fw (wC l0) ν ν'
theorem fC_s {l0 : Nat} {ν ν' : Mm} (h : fC l0 ν ν') {c j : Nat} {v : Int} (hc : wC l0 c j) : fC l0 ν (sM ν' c j v) := fw_sM h hc
theorem Tx_fC {t : Nat → Int} {n l0 : Nat} {ν ν' : Mm} (hk : kD l0 = (10, 9)) (h : Tx t n ν) (hf : fC l0 ν ν') : Tx t n ν' := by
  obtain ⟨h1, x, h2, h3, h4, h5⟩ := h
  have hp := kCr hk
  have hx := kTr h3
  refine ⟨h1, x, ?_, h3, ?_, fun j hj => ?_⟩
  · rw [hf 3 0 (by unfold wC; omega)]; exact h2
  · rw [hf x 1 (by unfold wC; omega)]; exact h4
  · rw [hf (x + 1) j (by unfold wC; omega)]; exact h5 j hj
theorem putC {t : Nat → Int} {n : Nat} {l0 : Nat} (hk : kD l0 = (10, 9)) {ν : Mm} {σ : CS} (h : Tx t n ν) (hC : CelC ν l0 σ) {pl q : Nat} (hpl : pl < 60) (hq : q < n) {v : Int} (hv : 0 ≤ v ∧ v ≤ 10) (hb : bdS σ pl) :
    ∃ ν' p' f, X0_put l0 (pl : Int) v (cr ν q (-1)) = some (0, cr ν' p' f) ∧ fC l0 ν ν' ∧ if 2 ≤ v ∧ σ.2.1 v.toNat ≠ -1 then f ≠ -1 else f = -1 ∧ p' = q + 1 ∧ CelC ν' l0 (ups σ pl v) := by
  have hl := kCr' hk
  have a1 : aN (l0 + 1) = 60 := (bA_0_1 hk (by omega) 0).2.2
  have a2 : aN (l0 + 2) = 8 := (bA_0_2 hk (by omega) 0).2.2
  have h160 := h.1
  obtain ⟨c1, c2, c3, c4, c5⟩ := hC
  obtain ⟨b1, b2, b3, b4⟩ := hb
  -- the two ways of the join
  have no : ∀ l4, X0_put_J41 l0 (pl : Int) v l4 1 (cr ν q (-1)) = some (0, cr ν q (q : Int)) := by
    intro l4
    unfold X0_put_J41
    rw [if_neg (by decide), cr_1, refuse_eq, bd_some]
  have yes : ∀ l4, l4 = v - 3 → ∃ ν', X0_put_J41 l0 (pl : Int) v l4 0 (cr ν q (-1)) = some (0, cr ν' (q + 1) (-1)) ∧ fC l0 ν ν' ∧ CelC ν' l0 (ups σ pl v) := by
    intro l4 e4
    unfold X0_put_J41 stA sF
    dsimp only
    rw [if_pos rfl, pass_eq h hq, bd_some, if_pos (by rw [a1]; omega), Int.toNat_natCast, cr_s (by omega)]
    have base : ∀ j, j < 60 → sM ν (l0 + 1) pl v (l0 + 1) j = (ups σ pl v).1 j := by
      intro j hj
      rw [sM_if]
      show _ = if j = pl then v else σ.1 j
      by_cases e : j = pl
      · rw [if_pos e, if_pos e]
      · rw [if_neg e, if_neg e]; exact c1 j hj
    have f1 : fC l0 ν (sM ν (l0 + 1) pl v) := fC_s fw_rf (by unfold wC; omega)
    by_cases v2 : v = 2
    · rw [if_pos v2, cr_s (by omega)]
      refine ⟨_, rfl, fC_s f1 (by unfold wC; omega), fun j hj => ?_, ?_, fun c hc => ?_, ?_, ?_⟩
      · rw [sM_a (by omega)]; exact base j hj
      · rw [sM_s]
        show _ = if 2 ≤ v ∧ 2 = v.toNat then (pl : Int) else σ.2.1 2
        rw [if_pos (by omega)]
      · rw [sM_a (by omega), sM_a (by omega), c3 c hc]
        show _ = if 2 ≤ v ∧ 3 + c = v.toNat then (pl : Int) else σ.2.1 (3 + c)
        rw [if_neg (by omega)]
      · rw [sM_j (by decide), sM_a (by omega), c4]
        show _ = σ.2.2.1 + (if 3 ≤ v then 1 else 0)
        rw [if_neg (by omega)]; omega
      · rw [sM_j (by decide), sM_a (by omega), c5]
        show _ = σ.2.2.2 + (if v = 1 then 1 else 0)
        rw [if_neg (by omega)]; omega
    · rw [if_neg v2]
      by_cases v1 : v = 1
      · rw [if_pos v1, cr_c (by omega), cr_s (by omega)]
        refine ⟨_, rfl, fC_s f1 (by unfold wC; omega), fun j hj => ?_, ?_, fun c hc => ?_, ?_, ?_⟩
        · rw [sM_a (by omega)]; exact base j hj
        · rw [sM_j (by decide), sM_a (by omega), c2]
          show _ = if 2 ≤ v ∧ 2 = v.toNat then (pl : Int) else σ.2.1 2
          rw [if_neg (by omega)]
        · rw [sM_a (by omega), sM_a (by omega), c3 c hc]
          show _ = if 2 ≤ v ∧ 3 + c = v.toNat then (pl : Int) else σ.2.1 (3 + c)
          rw [if_neg (by omega)]
        · rw [sM_j (by decide), sM_a (by omega), c4]
          show _ = σ.2.2.1 + (if 3 ≤ v then 1 else 0)
          rw [if_neg (by omega)]; omega
        · rw [sM_s, sM_a (by omega), c5, iA_id (by omega) (by omega)]
          show _ = σ.2.2.2 + (if v = 1 then 1 else 0)
          rw [if_pos v1]
      · rw [if_neg v1]
        by_cases v0 : l4 < 0
        · rw [if_pos v0]
          refine ⟨_, rfl, f1, base, ?_, fun c hc => ?_, ?_, ?_⟩
          · rw [sM_a (by omega), c2]
            show _ = if 2 ≤ v ∧ 2 = v.toNat then (pl : Int) else σ.2.1 2
            rw [if_neg (by omega)]
          · rw [sM_a (by omega), c3 c hc]
            show _ = if 2 ≤ v ∧ 3 + c = v.toNat then (pl : Int) else σ.2.1 (3 + c)
            rw [if_neg (by omega)]
          · rw [sM_a (by omega), c4]
            show _ = σ.2.2.1 + (if 3 ≤ v then 1 else 0)
            rw [if_neg (by omega)]; omega
          · rw [sM_a (by omega), c5]
            show _ = σ.2.2.2 + (if v = 1 then 1 else 0)
            rw [if_neg (by omega)]; omega
        · rw [if_neg v0, if_pos (by rw [a2]; omega), cr_s (by omega), cr_c (by omega), cr_s (by omega)]
          refine ⟨_, rfl, fC_s (fC_s f1 (by unfold wC; omega)) (by unfold wC; omega), fun j hj => ?_, ?_, fun c hc => ?_, ?_, ?_⟩
          · rw [sM_a (by omega), sM_a (by omega)]; exact base j hj
          · rw [sM_j (by decide), sM_a (by omega), sM_a (by omega), c2]
            show _ = if 2 ≤ v ∧ 2 = v.toNat then (pl : Int) else σ.2.1 2
            rw [if_neg (by omega)]
          · rw [sM_a (by omega), sM_if]
            show _ = if 2 ≤ v ∧ 3 + c = v.toNat then (pl : Int) else σ.2.1 (3 + c)
            by_cases e : c = l4.toNat
            · rw [if_pos e, if_pos (by omega)]
            · rw [if_neg e, if_neg (by omega), sM_a (by omega), c3 c hc]
          · rw [sM_s, sM_a (by omega), sM_a (by omega), c4, iA_id (by omega) (by omega)]
            show _ = σ.2.2.1 + (if 3 ≤ v then 1 else 0)
            rw [if_pos (by omega)]
          · rw [sM_j (by decide), sM_a (by omega), sM_a (by omega), c5]
            show _ = σ.2.2.2 + (if v = 1 then 1 else 0)
            rw [if_neg (by omega)]; omega
  have e3 : iS v 3 = v - 3 := iS_id (by omega) (by omega)
  have hq1 : (q : Int) ≠ -1 := by omega
  unfold X0_put
  rw [e3]
  by_cases v2 : v = 2
  · rw [if_pos v2, cr_c (by omega), c2]
    have e2 : v.toNat = 2 := by omega
    by_cases g : σ.2.1 2 = -1
    · rw [if_pos g]
      obtain ⟨ν', g1, g2, g3⟩ := yes (v - 3) rfl
      refine ⟨ν', q + 1, -1, g1, g2, ?_⟩
      rw [if_neg (by rw [e2]; exact fun z => z.2 g)]
      exact ⟨rfl, rfl, g3⟩
    · rw [if_neg g, no]
      refine ⟨ν, q, (q : Int), rfl, fw_rf, ?_⟩
      rw [if_pos ⟨by omega, by rw [e2]; exact g⟩]
      exact hq1
  · rw [if_neg v2]
    unfold X0_placeOf
    by_cases v3 : v - 3 < 0
    · rw [if_pos v3, bd_some, if_pos rfl]
      obtain ⟨ν', g1, g2, g3⟩ := yes (v - 3) rfl
      refine ⟨ν', q + 1, -1, g1, g2, ?_⟩
      rw [if_neg (by omega)]
      exact ⟨rfl, rfl, g3⟩
    · rw [if_neg v3, if_neg (by omega)]
      unfold ldA
      rw [if_pos (by rw [a2]; omega), cr_c (by omega), c3 _ (by omega), bd_some]
      have e5 : 3 + (v - 3).toNat = v.toNat := by omega
      rw [e5]
      by_cases g : σ.2.1 v.toNat = -1
      · rw [if_pos g]
        obtain ⟨ν', g1, g2, g3⟩ := yes (v - 3) rfl
        refine ⟨ν', q + 1, -1, g1, g2, ?_⟩
        rw [if_neg (fun z => z.2 g)]
        exact ⟨rfl, rfl, g3⟩
      · rw [if_neg g, no]
        refine ⟨ν, q, (q : Int), rfl, fw_rf, ?_⟩
        rw [if_pos ⟨by omega, g⟩]
        exact hq1
theorem rowC_F {l0 : Nat} {r m f : Int} {K : Int → Mm → Rs} (hf : f ≠ -1) {ν : Mm} {p fuel : Nat} {j : Int} : X0_readRow_L17 l0 r m K K (fuel + 1) j (cr ν p f) = K j (cr ν p f) := by
  rw [X0_readRow_L17]
  by_cases c : m ≤ j
  · rw [if_pos c]
  · rw [if_neg c, peek_F hf, bd_some, cellOf_eq, bd_some, if_pos (by decide)]
theorem rowC {t : Nat → Int} {n : Nat} {l0 : Nat} (hk : kD l0 = (10, 9)) {r m : Nat} (hr : 10 * r + m ≤ 60) (hm : m ≤ 9) {K : Int → Mm → Rs} : ∀ (k fuel j p : Nat) (ν : Mm) (σ : CS), j + k = m → k + 1 < fuel → Tx t n ν → CelC ν l0 σ → bdS σ (10 * r + j) → p ≤ n →
    ∃ ν' p' f j', X0_readRow_L17 l0 (r : Int) (m : Int) K K fuel (j : Int) (cr ν p (-1)) = K ((j' : Nat) : Int) (cr ν' p' f) ∧ j' ≤ m ∧ fC l0 ν ν' ∧ match rowS t n k p (10 * r + j) σ with
      | none => f ≠ -1
      | some q => f = -1 ∧ q.2.1 = 10 * r + j' ∧ (p' = q.1 ∨ p' = sk t n q.1) ∧ q.1 ≤ n ∧ CelC ν' l0 q.2.2 ∧ bdS q.2.2 (10 * r + j') := by
  intro k
  induction k with
  | zero =>
    intro fuel j p ν σ hj hf h hC hb hp
    obtain ⟨f', rfl, -⟩ := lt_fuel hf
    rw [X0_readRow_L17, if_pos (by omega)]
    exact ⟨ν, p, -1, j, rfl, by omega, fw_rf, rfl, rfl, Or.inl rfl, hp, hC, hb⟩
  | succ k ih =>
    intro fuel j p ν σ hj hf h hC hb hp
    obtain ⟨f', rfl, hf'⟩ := lt_fuel (d := k + 2) hf
    have h160 := h.1
    rw [X0_readRow_L17, if_neg (by omega), peek_eq h hp, bd_some, cellOf_eq, bd_some]
    unfold rowS
    by_cases c : sg (pk t n p) = -1
    · rw [if_pos c, if_pos c]
      exact ⟨ν, sk t n p, -1, j, rfl, by omega, fw_rf, rfl, rfl, Or.inr rfl, hp, hC, hb⟩
    · have hs := sg_b (pk t n p)
      have hq : sk t n p < n := by
        refine (pk_ne (t := t) (n := n) (p := p) (fun e => c ?_)).1
        rw [e]; rfl
      have epl : iA (iM 10 (r : Int)) (j : Int) = ((10 * r + j : Nat) : Int) := by
        rw [iM_id (by omega) (by omega), iA_id (by omega) (by omega)]; omega
      rw [if_neg c, if_neg c, epl]
      obtain ⟨ν1, p1, f1, e1, e2, e3⟩ := putC hk h hC (pl := 10 * r + j) (by omega) hq (v := sg (pk t n p)) (by omega) hb
      rw [e1, bd_some, iA_nat (by omega)]
      by_cases g : 2 ≤ sg (pk t n p) ∧ σ.2.1 (sg (pk t n p)).toNat ≠ -1
      · rw [if_pos g] at e3
        rw [if_pos g]
        obtain ⟨f'', rfl, -⟩ := lt_fuel (d := 0) (n := f') (by omega)
        rw [rowC_F e3]
        exact ⟨ν1, p1, f1, j + 1, rfl, by omega, e2, e3⟩
      · rw [if_neg g] at e3
        rw [if_neg g]
        obtain ⟨rfl, rfl, g3⟩ := e3
        obtain ⟨ν2, p2, f2, j2, k1, k2, k3, k4⟩ := ih f' (j + 1) (sk t n p + 1) ν1 (ups σ (10 * r + j) (sg (pk t n p))) (by omega) (by omega) (Tx_fC hk h e2) g3 (bdS_u hb) (by omega)
        exact ⟨ν2, p2, f2, j2, k1, k2, fw_tr e2 k3, k4⟩
