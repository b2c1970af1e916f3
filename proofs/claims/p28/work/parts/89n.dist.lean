/-! WAYS: how far a place is, by steps over open places -/
def adj (q p : Nat) : Prop := q + 10 = p ∨ p + 10 = q ∨ q + 1 = p ∨ p + 1 = q
def lv (O : Nat → Prop) (s : Nat) : Nat → Nat → Prop
  | 0, p => p = s
  | n + 1, p => O p ∧ ∃ q, lv O s n q ∧ adj q p
/-- f tells how far each place is from s, -1: it can't be come to -/
def ds (O : Nat → Prop) (s : Nat) (f : Nat → Int) : Prop := ∀ p, p < 60 → (f p = -1 ∧ ∀ n, ¬ lv O s n p) ∨ (∃ n : Nat, f p = (n : Int) ∧ lv O s n p ∧ ∀ m, m < n → ¬ lv O s m p)
theorem ds_u {O : Nat → Prop} {s : Nat} {f g : Nat → Int} (hf : ds O s f) (hg : ds O s g) {p : Nat} (hp : p < 60) : f p = g p := by
  rcases hf p hp with ⟨h1, h2⟩ | ⟨n, h1, h2, h3⟩
  · rcases hg p hp with ⟨k1, _⟩ | ⟨m, _, k2, _⟩
    · rw [h1, k1]
    · exact absurd k2 (h2 m)
  · rcases hg p hp with ⟨_, k2⟩ | ⟨m, k1, k2, k3⟩
    · exact absurd h2 (k2 n)
    · have h4 : n = m := by
        rcases Nat.lt_trichotomy n m with h | h | h
        · exact absurd h2 (k3 n h)
        · exact h
        · exact absurd k2 (h3 m h)
      rw [h1, k1, h4]
theorem lv_c {O O' : Nat → Prop} {s : Nat} (h : ∀ p, O p ↔ O' p) : ∀ n p, lv O s n p ↔ lv O' s n p := by
  intro n
  induction n with
  | zero => intro p; exact Iff.rfl
  | succ n ih =>
    intro p
    show (O p ∧ ∃ q, lv O s n q ∧ adj q p) ↔ (O' p ∧ ∃ q, lv O' s n q ∧ adj q p)
    rw [h p]
    exact ⟨fun z => ⟨z.1, z.2.elim (fun q y => ⟨q, (ih q).mp y.1, y.2⟩)⟩, fun z => ⟨z.1, z.2.elim (fun q y => ⟨q, (ih q).mpr y.1, y.2⟩)⟩⟩
theorem ds_c {O O' : Nat → Prop} {s : Nat} {f : Nat → Int} (h : ∀ p, O p ↔ O' p) (hd : ds O s f) : ds O' s f := by
  intro p hp
  rcases hd p hp with ⟨h1, h2⟩ | ⟨n, h1, h2, h3⟩
  · exact Or.inl ⟨h1, fun n z => h2 n ((lv_c h n p).mpr z)⟩
  · exact Or.inr ⟨n, h1, (lv_c h n p).mp h2, fun m hm z => h3 m hm ((lv_c h m p).mpr z)⟩
theorem ds_g {O : Nat → Prop} {s : Nat} {f g : Nat → Int} (h : ∀ p, p < 60 → g p = f p) (hd : ds O s f) : ds O s g := fun p hp => by rw [h p hp]; exact hd p hp
theorem ds_b {O : Nat → Prop} {s : Nat} {f : Nat → Int} (hd : ds O s f) {p : Nat} (hp : p < 60) : -1 ≤ f p := by
  rcases hd p hp with ⟨h1, _⟩ | ⟨n, h1, _⟩ <;> omega
/-- a place of the CELLAR l0 of the class, open -/
def opC (l0 : Nat) (μ : Mm) (p : Nat) : Prop := p < 60 ∧ μ (l0 + 1) p ≠ -1 ∧ μ (l0 + 1) p ≠ 1
/-- a place of the reference, open -/
def opM (μ : Mm) (p : Nat) : Prop := p < 60 ∧ isP μ p ∧ μ 82 p ≠ 1
theorem cel60 {l0 : Nat} (hk : kD l0 = (10, 9)) : aN (l0 + 1) = 60 ∧ aN (l0 + 2) = 8 ∧ aN (l0 + 3) = 8 ∧ l0 + 3 < 17 := by
  have h : ∀ l, l < 98 → kD l = (10, 9) → aN (l + 1) = 60 ∧ aN (l + 2) = 8 ∧ aN (l + 3) = 8 ∧ l + 3 < 17 := by decide +kernel
  by_cases c : l0 < 98
  · exact h l0 c hk
  · have e : kD l0 = (99, 0) := by
      unfold kD
      rw [List.getD_eq_getElem?_getD, List.getElem?_eq_none (by have : kL.length = 98 := rfl; omega)]
      rfl
    rw [e] at hk
    cases hk
theorem opC_y {l0 : Nat} (hk : kD l0 = (10, 9)) {μ : Mm} {p : Nat} (h : opC l0 μ p) : X0_isOpen l0 (p : Int) μ = some (1, μ) := by
  obtain ⟨h1, h2, h3⟩ := h
  have e : aN (l0 + 1) = 60 := (cel60 hk).1
  unfold X0_isOpen ldA
  rw [if_neg (by omega), if_neg (by omega), if_pos (by rw [e]; omega), Int.toNat_natCast]
  dsimp only
  rw [if_neg h2, if_pos (by rw [e]; omega), if_neg h3]
theorem opC_n {l0 : Nat} (hk : kD l0 = (10, 9)) {μ : Mm} {a : Int} (h : ∀ p : Nat, a = (p : Int) → ¬ opC l0 μ p) : X0_isOpen l0 a μ = some (0, μ) := by
  have e : aN (l0 + 1) = 60 := (cel60 hk).1
  unfold X0_isOpen ldA
  by_cases c1 : a < 0
  · rw [if_pos c1]
  by_cases c2 : 60 ≤ a
  · rw [if_neg c1, if_pos c2]
  rw [if_neg c1, if_neg c2, if_pos (by rw [e]; omega)]
  dsimp only
  by_cases c3 : μ (l0 + 1) a.toNat = -1
  · rw [if_pos c3]
  · rw [if_neg c3, if_pos (by rw [e]; omega)]
    by_cases c4 : μ (l0 + 1) a.toNat = 1
    · rw [if_pos c4]
    · exact absurd ⟨by omega, c3, c4⟩ (h a.toNat (by omega))
def isNo (x : Int) : Bool := decide (x = -1)
theorem isNo_y : isNo (-1) = true := by decide
theorem isNo_n {x : Int} (h : x ≠ -1) : isNo x = false := by unfold isNo; exact decide_eq_false h
theorem cnt_pos {P : Int → Bool} {f : Nat → Int} {j : Nat} (h : P (f j) = true) : ∀ n, j < n → 1 ≤ cnt P f n := by
  intro n
  induction n with
  | zero => intro hj; exact absurd hj (by omega)
  | succ n ih =>
    intro hj
    have hb := cnt_b (P := P) (f := f) n
    show 1 ≤ cnt P f n + (if P (f n) then 1 else 0)
    by_cases c : j = n
    · rw [← c, if_pos h]
      rw [← c] at hb
      omega
    · have := ih (by omega)
      split <;> omega
def fW (k j : Nat) : Prop := k = 46 ∨ k = 47 ∨ (k = 45 ∧ j = 2)
/-- the search in breadth: what has been reached stands in the row of places -/
def BI (O : Nat → Prop) (s : Nat) (ν : Mm) (n : Nat) : Prop := ν 45 2 = (n : Int) ∧ (n : Int) + cnt isNo (ν 46) 60 = 60 ∧ (∀ i, i < n → ∃ p d : Nat, p < 60 ∧ ν 47 i = (p : Int) ∧ ν 46 p = (d : Int) ∧ lv O s d p) ∧ (∀ p, p < 60 → ν 46 p ≠ -1 → ∃ i, i < n ∧ ν 47 i = (p : Int)) ∧ (∀ i j, i ≤ j → j < n → ν 46 (ν 47 i).toNat ≤ ν 46 (ν 47 j).toNat) ∧ (∀ i, i < n → ν 46 (ν 47 i).toNat ≤ (i : Int))
def UB (D : Int) (ν : Mm) (n : Nat) : Prop := ∀ i, i < n → ν 46 (ν 47 i).toNat ≤ D + 1
def Ex (ν ν' : Mm) (n n' : Nat) : Prop := n ≤ n' ∧ (∀ p, p < 60 → ν 46 p ≠ -1 → ν' 46 p = ν 46 p) ∧ (∀ i, i < n → ν' 47 i = ν 47 i) ∧ fw fW ν ν'
theorem Ex_rf {ν : Mm} {n : Nat} : Ex ν ν n n := ⟨Nat.le_refl _, fun _ _ _ => rfl, fun _ _ => rfl, fw_rf⟩
theorem Ex_tr {ν ν1 ν2 : Mm} {n n1 n2 : Nat} (h : Ex ν ν1 n n1) (h2 : Ex ν1 ν2 n1 n2) : Ex ν ν2 n n2 := by
  refine ⟨Nat.le_trans h.1 h2.1, fun p hp hn => ?_, fun i hi => ?_, fw_tr h.2.2.2 h2.2.2.2⟩
  · have e := h.2.1 p hp hn
    rw [h2.2.1 p hp (by rw [e]; exact hn), e]
  · rw [h2.2.2.1 i (Nat.lt_of_lt_of_le hi h.1), h.2.2.1 i hi]
theorem BI_add {O : Nat → Prop} {s : Nat} {ν : Mm} {n : Nat} {D d p : Nat} (hB : BI O s ν n) (hU : UB (D : Int) ν n) (hp : p < 60) (hf : ν 46 p = -1) (hl : lv O s d p) (hd : (D : Int) ≤ (d : Int) ∧ (d : Int) ≤ (D : Int) + 1) (hm : ∀ i, i < n → ν 46 (ν 47 i).toNat ≤ (d : Int)) (hdn : d ≤ n) : n < 60 ∧ BI O s (sM (sM (sM ν 46 p (d : Int)) 47 n (p : Int)) 45 2 ((n + 1 : Nat) : Int)) (n + 1) ∧ UB (D : Int) (sM (sM (sM ν 46 p (d : Int)) 47 n (p : Int)) 45 2 ((n + 1 : Nat) : Int)) (n + 1) ∧ Ex ν (sM (sM (sM ν 46 p (d : Int)) 47 n (p : Int)) 45 2 ((n + 1 : Nat) : Int)) n (n + 1) := by
  obtain ⟨b1, b2, b3, b4, b5, b6⟩ := hB
  have hc := cnt_pos (P := isNo) (f := ν 46) (j := p) (by rw [hf]; rfl) 60 hp
  have f46 : ∀ j, sM (sM (sM ν 46 p (d : Int)) 47 n (p : Int)) 45 2 ((n + 1 : Nat) : Int) 46 j = if j = p then (d : Int) else ν 46 j := fun j => by rw [sM_a (by decide), sM_a (by decide), sM_if]
  have f47 : ∀ j, sM (sM (sM ν 46 p (d : Int)) 47 n (p : Int)) 45 2 ((n + 1 : Nat) : Int) 47 j = if j = n then (p : Int) else ν 47 j := fun j => by rw [sM_a (by decide), sM_if, sM_a (by decide)]
  have v : ∀ i, i < n → ∃ p' d' : Nat, p' < 60 ∧ p' ≠ p ∧ ν 47 i = (p' : Int) ∧ ν 46 p' = (d' : Int) ∧ lv O s d' p' := fun i hi => by
    obtain ⟨p', d', h1, h2, h3, h4⟩ := b3 i hi
    exact ⟨p', d', h1, fun e => by rw [e, hf] at h3; omega, h2, h3, h4⟩
  generalize hν : sM (sM (sM ν 46 p (d : Int)) 47 n (p : Int)) 45 2 ((n + 1 : Nat) : Int) = ν' at f46 f47 ⊢
  have w : ∀ i, i < n → ν' 46 (ν' 47 i).toNat = ν 46 (ν 47 i).toNat := fun i hi => by
    obtain ⟨p', d', h1, h1', h2, h3, h4⟩ := v i hi
    rw [f47, if_neg (by omega), h2, Int.toNat_natCast, f46, if_neg h1']
  have wn : ν' 46 (ν' 47 n).toNat = (d : Int) := by rw [f47, if_pos rfl, Int.toNat_natCast, f46, if_pos rfl]
  refine ⟨by omega, ⟨by rw [← hν, sM_s], ?_, fun i hi => ?_, fun q hq hn => ?_, fun i j hij hj => ?_, fun i hi => ?_⟩, fun i hi => ?_, ⟨by omega, fun q hq hn => ?_, fun i hi => ?_, ?_⟩⟩
  · have e : cnt isNo (ν' 46) 60 = cnt isNo (fun j => if j = p then (d : Int) else ν 46 j) 60 := cnt_congr 60 (fun j _ => f46 j)
    rw [e, cnt_upd, if_pos hp, hf, isNo_y, isNo_n (by omega)]
    show ((n + 1 : Nat) : Int) + (cnt isNo (ν 46) 60 + (0 - 1)) = 60
    omega
  · by_cases c : i = n
    · exact ⟨p, d, hp, by rw [f47, if_pos c], by rw [f46, if_pos rfl], hl⟩
    · obtain ⟨p', d', h1, h1', h2, h3, h4⟩ := v i (by omega)
      exact ⟨p', d', h1, by rw [f47, if_neg c]; exact h2, by rw [f46, if_neg h1']; exact h3, h4⟩
  · rw [f46] at hn
    by_cases c : q = p
    · exact ⟨n, by omega, by rw [f47, if_pos rfl, c]⟩
    · rw [if_neg c] at hn
      obtain ⟨i, h1, h2⟩ := b4 q hq hn
      exact ⟨i, by omega, by rw [f47, if_neg (by omega)]; exact h2⟩
  · by_cases c : j = n
    · rw [c, wn]
      by_cases c2 : i = n
      · rw [c2, wn]; exact Int.le_refl _
      · rw [w i (by omega)]; exact hm i (by omega)
    · rw [w i (by omega), w j (by omega)]; exact b5 i j hij (by omega)
  · by_cases c : i = n
    · rw [c, wn]; omega
    · rw [w i (by omega)]; exact b6 i (by omega)
  · by_cases c : i = n
    · rw [c, wn]; exact hd.2
    · rw [w i (by omega)]; exact hU i (by omega)
  · rw [f46, if_neg (fun e => hn (by rw [e]; exact hf))]
  · rw [f47, if_neg (by omega)]
  · rw [← hν]
    exact fw_sM (fw_sM (fw_sM fw_rf (Or.inl rfl)) (Or.inr (Or.inl rfl))) (Or.inr (Or.inr ⟨rfl, rfl⟩))
theorem UB_all {O : Nat → Prop} {s : Nat} {ν : Mm} {n : Nat} {D : Int} (hB : BI O s ν n) (hU : UB D ν n) {p : Nat} (hp : p < 60) (hn : ν 46 p ≠ -1) : ν 46 p ≤ D + 1 := by
  obtain ⟨i, h1, h2⟩ := hB.2.2.2.1 p hp hn
  have := hU i h1
  rw [h2, Int.toNat_natCast] at this
  exact this
theorem opC_f {l0 : Nat} (hk : kD l0 = (10, 9)) {ν ν' : Mm} (h : fw fW ν ν') (p : Nat) : opC l0 ν' p ↔ opC l0 ν p := by
  have hl := (cel60 hk).2.2.2
  unfold opC
  rw [h (l0 + 1) p (by unfold fW; omega)]
/-- one place more is looked at, from a place D off -/
theorem rchC {l0 : Nat} (hk : kD l0 = (10, 9)) {O : Nat → Prop} {s : Nat} {ν : Mm} {n D v : Nat} (hO : ∀ p, opC l0 ν p ↔ O p) (hB : BI O s ν n) (hU : UB (D : Int) ν n) (hv : lv O s D v) (hDn : D + 1 ≤ n) {a : Int} (ha : ∀ p : Nat, a = (p : Int) → adj v p) :
    ∃ ν' n', X9_reach l0 a ((D + 1 : Nat) : Int) ν = some (0, ν') ∧ BI O s ν' n' ∧ UB (D : Int) ν' n' ∧ Ex ν ν' n n' ∧ ∀ p : Nat, a = (p : Int) → O p → ν' 46 p ≠ -1 ∧ ν' 46 p ≤ (D : Int) + 1 := by
  by_cases c : ∃ p : Nat, a = (p : Int) ∧ opC l0 ν p
  · obtain ⟨p, rfl, hop⟩ := c
    have hp : p < 60 := hop.1
    have e : X9_reach l0 (p : Int) ((D + 1 : Nat) : Int) ν = if ν 46 p = -1 then (if 60 ≤ (ν 45 2) then (some (0, ν)) else (stA ν 46 (p : Int) ((D + 1 : Nat) : Int) fun μ9 => stA μ9 47 (μ9 45 2) (p : Int) fun μ11 => sF μ11 45 2 (iA (μ11 45 2) 1) fun μ13 => some (0, μ13))) else some (0, ν) := by
      unfold X9_reach
      rw [opC_y hk hop, bd_some, if_neg (by decide)]
      unfold ldA
      rw [if_pos (by show (0 : Int) ≤ (p : Int) ∧ (p : Int) < 60; omega), Int.toNat_natCast]
    rw [e]
    by_cases c2 : ν 46 p = -1
    · obtain ⟨h60, g1, g2, g3⟩ := BI_add (d := D + 1) hB hU hp c2 ⟨(hO p).mp hop, v, hv, ha p rfl⟩ (by omega) (fun i hi => by have := hU i hi; omega) hDn
      refine ⟨_, n + 1, ?_, g1, g2, g3, fun p' e' _ => ?_⟩
      · rw [if_pos c2, hB.1, if_neg (by omega)]
        unfold stA sF
        rw [if_pos (by show (0 : Int) ≤ (p : Int) ∧ (p : Int) < 60; omega), Int.toNat_natCast]
        dsimp only
        rw [sM_a (by decide), hB.1, if_pos (by show (0 : Int) ≤ (n : Int) ∧ (n : Int) < 60; omega), Int.toNat_natCast, sM_a (by decide), sM_a (by decide), hB.1, iA_nat (by omega)]
      · have e2 : p' = p := by omega
        rw [e2, sM_a (by decide), sM_a (by decide), sM_s]
        exact ⟨by omega, by omega⟩
    · refine ⟨ν, n, by rw [if_neg c2], hB, hU, Ex_rf, fun p' e' _ => ?_⟩
      have e2 : p' = p := by omega
      rw [e2]
      exact ⟨c2, UB_all hB hU hp c2⟩
  · refine ⟨ν, n, ?_, hB, hU, Ex_rf, fun p e h => absurd ⟨p, e, (hO p).mpr h⟩ c⟩
    unfold X9_reach
    rw [opC_n hk (fun p e h => c ⟨p, e, h⟩), bd_some, if_pos rfl]
def PrB (O : Nat → Prop) (ν : Mm) (h : Nat) : Prop := ∀ i, i < h → ∀ p, p < 60 → O p → adj (ν 47 i).toNat p → ν 46 p ≠ -1 ∧ ν 46 p ≤ ν 46 (ν 47 i).toNat + 1
theorem stp_eq {ν : Mm} {p : Nat} (hp : p < 60) : X9_stepsTo (p : Int) ν = some (ν 46 p, ν) := by
  unfold X9_stepsTo ldA
  rw [if_neg (by omega), if_neg (by omega), if_pos (by show (0 : Int) ≤ (p : Int) ∧ (p : Int) < 60; omega), Int.toNat_natCast]
theorem stp_no {ν : Mm} {a : Int} (h : ¬ (0 ≤ a ∧ a < 60)) : X9_stepsTo a ν = some (-1, ν) := by
  unfold X9_stepsTo
  by_cases c : a < 0
  · rw [if_pos c]
  · rw [if_neg c, if_pos (by omega)]
theorem meaC_L {l0 : Nat} (hk : kD l0 = (10, 9)) {O : Nat → Prop} {s : Nat} : ∀ (r h fuel n : Nat) (ν : Mm), h + r = 60 → r < fuel → (∀ p, opC l0 ν p ↔ O p) → (∀ p, O p → p < 60) → BI O s ν n → h ≤ n → (h < n → UB (ν 46 (ν 47 h).toNat) ν n) → PrB O ν h → ∃ ν' n', X9_measure_L35 l0 fuel (h : Int) ν = some (0, ν') ∧ BI O s ν' n' ∧ PrB O ν' n' ∧ Ex ν ν' n n' := by
  intro r
  induction r with
  | zero =>
    intro h fuel n ν hr hf hO hO6 hB hh hU hP
    obtain ⟨g, rfl, _⟩ := lt_fuel hf
    have hb := cnt_b (P := isNo) (f := ν 46) 60
    have h2 := hB.2.1
    have en : n = h := by omega
    refine ⟨ν, n, ?_, hB, by rw [en]; exact hP, Ex_rf⟩
    show (if (ν 45 2) ≤ (h : Int) then _ else _) = _
    rw [hB.1, if_pos (by omega)]
  | succ r ih =>
    intro h fuel n ν hr hf hO hO6 hB hh hU hP
    obtain ⟨g, rfl, _⟩ := lt_fuel hf
    by_cases c : h = n
    · refine ⟨ν, n, ?_, hB, by rw [← c]; exact hP, Ex_rf⟩
      show (if (ν 45 2) ≤ (h : Int) then _ else _) = _
      rw [hB.1, if_pos (by omega)]
    · have hlt : h < n := by omega
      obtain ⟨v, D, hv, e47, e46, hlv⟩ := hB.2.2.1 h hlt
      have hU' : UB (D : Int) ν n := by
        have := hU hlt
        rw [e47, Int.toNat_natCast, e46] at this
        exact this
      have a1 : ∀ p : Nat, (v : Int) - 10 = (p : Int) → adj v p := fun p e => Or.inr (Or.inl (by omega))
      have a2 : ∀ p : Nat, (v : Int) - 1 = (p : Int) → adj v p := fun p e => Or.inr (Or.inr (Or.inr (by omega)))
      have a3 : ∀ p : Nat, (v : Int) + 1 = (p : Int) → adj v p := fun p e => Or.inr (Or.inr (Or.inl (by omega)))
      have a4 : ∀ p : Nat, (v : Int) + 10 = (p : Int) → adj v p := fun p e => Or.inl (by omega)
      have hDh : (D : Int) ≤ (h : Int) := by
        have := hB.2.2.2.2.2 h hlt
        rw [e47, Int.toNat_natCast, e46] at this
        exact this
      obtain ⟨ν1, n1, r1, b1, u1, x1, p1⟩ := rchC hk hO hB hU' hlv (by omega) a1
      have hO1 : ∀ p, opC l0 ν1 p ↔ O p := fun p => (opC_f hk x1.2.2.2 p).trans (hO p)
      obtain ⟨ν2, n2, r2, b2, u2, x2, p2⟩ := rchC hk hO1 b1 u1 hlv (by have := x1.1; omega) a2
      have hO2 : ∀ p, opC l0 ν2 p ↔ O p := fun p => (opC_f hk x2.2.2.2 p).trans (hO1 p)
      obtain ⟨ν3, n3, r3, b3, u3, x3, p3⟩ := rchC hk hO2 b2 u2 hlv (by have := x1.1; have := x2.1; omega) a3
      have hO3 : ∀ p, opC l0 ν3 p ↔ O p := fun p => (opC_f hk x3.2.2.2 p).trans (hO2 p)
      obtain ⟨ν4, n4, r4, b4, u4, x4, p4⟩ := rchC hk hO3 b3 u3 hlv (by have := x1.1; have := x2.1; have := x3.1; omega) a4
      have hO4 : ∀ p, opC l0 ν4 p ↔ O p := fun p => (opC_f hk x4.2.2.2 p).trans (hO3 p)
      have x34 := Ex_tr x3 x4
      have x24 := Ex_tr x2 x34
      have x14 := Ex_tr x1 x24
      have e47' : ν4 47 h = (v : Int) := (x14.2.2.1 h hlt).trans e47
      have e46' : ν4 46 v = (D : Int) := (x14.2.1 v hv (by rw [e46]; omega)).trans e46
      have up : ∀ {νa : Mm} {na : Nat} {p : Nat}, p < 60 → Ex νa ν4 na n4 → (νa 46 p ≠ -1 ∧ νa 46 p ≤ (D : Int) + 1) → ν4 46 p ≠ -1 ∧ ν4 46 p ≤ (D : Int) + 1 := fun hp x z => by
        rw [x.2.1 _ hp z.1]; exact z
      have hP4 : PrB O ν4 (h + 1) := by
        intro i hi p hp hop had
        by_cases ci : i = h
        · rw [ci, e47', Int.toNat_natCast] at had ⊢
          rw [e46']
          rcases had with k | k | k | k
          · exact p4 p (by omega) hop
          · exact up hp x24 (p1 p (by omega) hop)
          · exact up hp x4 (p3 p (by omega) hop)
          · exact up hp x34 (p2 p (by omega) hop)
        · have hi' : i < h := by omega
          have ei := x14.2.2.1 i (by omega)
          obtain ⟨v', D', hv', e47i, e46i, _⟩ := hB.2.2.1 i (by omega)
          rw [ei] at had ⊢
          have z := hP i hi' p hp hop had
          have es : ν4 46 (ν 47 i).toNat = ν 46 (ν 47 i).toNat := by
            rw [e47i, Int.toNat_natCast]
            exact x14.2.1 v' hv' (by rw [e46i]; omega)
          rw [es, x14.2.1 p hp z.1]
          exact z
      obtain ⟨ν5, n5, r5, b5, pr5, x5⟩ := ih (h + 1) g n4 ν4 (by omega) (by omega) hO4 hO6 b4 (by have := x14.1; omega) (fun hlt4 => fun i hi => by
        have z1 := u4 i hi
        have z2 := b4.2.2.2.2.1 h (h + 1) (by omega) hlt4
        rw [e47', Int.toNat_natCast, e46'] at z2
        omega) hP4
      refine ⟨ν5, n5, ?_, b5, pr5, Ex_tr x14 x5⟩
      rw [← r5]
      have hb := cnt_b (P := isNo) (f := ν 46) 60
      have h2 := hB.2.1
      have eD : iA (D : Int) 1 = ((D + 1 : Nat) : Int) := iA_nat (by omega)
      show (if (ν 45 2) ≤ (h : Int) then _ else _) = _
      rw [hB.1, if_neg (by omega), if_neg (by omega)]
      unfold ldA
      rw [if_pos (by show (0 : Int) ≤ (h : Int) ∧ (h : Int) < 60; omega), Int.toNat_natCast, e47]
      dsimp only
      rw [stp_eq hv, bd_some, e46, eD, iS_id (by omega) (by omega), r1, bd_some, iS_id (by omega) (by omega), r2, bd_some, iA_id (by omega) (by omega), r3, bd_some, iA_id (by omega) (by omega), r4, bd_some, iA_nat (by omega)]
theorem mea_2 {l0 : Nat} {a : Int} (K : Mm → Rs) : ∀ (d i fuel : Nat) (ν : Mm), i + d = 60 → d < fuel → ∃ ν', X9_measure_L2 l0 a K fuel (i : Int) ν = K ν' ∧ (∀ k j, k ≠ 46 → ν' k j = ν k j) ∧ (∀ j, j < i → ν' 46 j = ν 46 j) ∧ ∀ j, i ≤ j → j < 60 → ν' 46 j = -1 := by
  intro d
  induction d with
  | zero =>
    intro i fuel ν hi hf
    obtain ⟨g, rfl, _⟩ := lt_fuel hf
    refine ⟨ν, ?_, fun _ _ _ => rfl, fun _ _ => rfl, fun j h1 h2 => absurd h1 (by omega)⟩
    show (if 60 ≤ (i : Int) then _ else _) = _
    rw [if_pos (by omega)]
  | succ d ih =>
    intro i fuel ν hi hf
    obtain ⟨g, rfl, _⟩ := lt_fuel hf
    obtain ⟨ν', r1, r3, r4, r5⟩ := ih (i + 1) g (sM ν 46 i (-1)) (by omega) (by omega)
    refine ⟨ν', ?_, fun k j hk => by rw [r3 k j hk, sM_a hk], fun j hj => by rw [r4 j (by omega), sM_j (by omega)], fun j h1 h2 => ?_⟩
    · rw [← r1]
      show (if 60 ≤ (i : Int) then _ else _) = _
      rw [if_neg (by omega)]
      unfold stA
      rw [if_pos (by show (0 : Int) ≤ (i : Int) ∧ (i : Int) < 60; omega), Int.toNat_natCast, iA_nat (by omega)]
    · by_cases c : j = i
      · rw [c, r4 i (by omega), sM_s]
      · exact r5 j (by omega) h2
theorem BI_0 {O : Nat → Prop} {s : Nat} {ν : Mm} (h : ν 45 2 = 0) (h2 : ∀ j, j < 60 → ν 46 j = -1) : BI O s ν 0 := by
  refine ⟨h, ?_, fun i hi => absurd hi (by omega), fun p hp hn => absurd (h2 p hp) hn, fun i j _ hj => absurd hj (by omega), fun i hi => absurd hi (by omega)⟩
  have e : cnt isNo (ν 46) 60 = cnt isNo (fun _ => -1) 60 := cnt_congr 60 (fun j hj => h2 j hj)
  rw [e]
  decide
/-- WAYS from a place of the CELLAR l0: how far each is -/
theorem meaC2 {l0 : Nat} (hk : kD l0 = (10, 9)) {μ : Mm} {s : Nat} (hs : opC l0 μ s) : ∃ ν, X9_measure l0 (s : Int) μ = some (0, ν) ∧ fw fW μ ν ∧ ds (opC l0 μ) s (ν 46) ∧ ∀ p, p < 60 → ν 46 p ≤ 59 := by
  obtain ⟨ν0, e0, o0, _, m0⟩ := mea_2 (l0 := l0) (a := (s : Int)) (fun μ4 => sF μ4 45 2 0 fun μ5 => bd (X9_reach l0 (s : Int) 0 μ5) fun v6 μ7 => X9_measure_L35 l0 FU 0 μ7) 60 0 FU μ rfl (by decide)
  have hs6 := hs.1
  have hB0 : BI (opC l0 μ) s (sM ν0 45 2 0) 0 := BI_0 (sM_s _ _ _ _) (fun j hj => by rw [sM_a (by decide)]; exact m0 j (Nat.zero_le _) hj)
  have f0 : fw fW μ (sM ν0 45 2 0) := fun k j hn => by
    have : sM ν0 45 2 0 k j = ν0 k j := by unfold sM; rw [if_neg (fun z => hn (Or.inr (Or.inr z)))]
    rw [this, o0 k j (fun z => hn (Or.inl z))]
  have hO0 : ∀ p, opC l0 (sM ν0 45 2 0) p ↔ opC l0 μ p := opC_f hk f0
  have hU0 : UB ((0 : Nat) : Int) (sM ν0 45 2 0) 0 := fun i hi => absurd hi (by omega)
  obtain ⟨h60, b1, u1, x1⟩ := BI_add (d := 0) hB0 hU0 hs6 (by rw [sM_a (by decide)]; exact m0 s (Nat.zero_le _) hs6) (show lv (opC l0 μ) s 0 s from rfl) ⟨Int.le_refl _, by decide⟩ (fun i hi => absurd hi (by omega)) (Nat.le_refl _)
  have er : X9_reach l0 (s : Int) 0 (sM ν0 45 2 0) = some (0, sM (sM (sM (sM ν0 45 2 0) 46 s ((0 : Nat) : Int)) 47 0 (s : Int)) 45 2 ((0 + 1 : Nat) : Int)) := by
    unfold X9_reach
    rw [opC_y hk ((hO0 s).mpr hs), bd_some, if_neg (by decide)]
    unfold ldA stA sF
    rw [if_pos (by show (0 : Int) ≤ (s : Int) ∧ (s : Int) < 60; omega), Int.toNat_natCast]
    dsimp only
    rw [sM_a (show (46 : Nat) ≠ 45 by decide), m0 s (Nat.zero_le _) hs6, if_pos rfl, sM_s, if_neg (by decide), if_pos (by show (0 : Int) ≤ (s : Int) ∧ (s : Int) < 60; omega)]
    have q : sM (sM ν0 45 2 0) 46 s 0 45 2 = 0 := by rw [sM_a (by decide), sM_s]
    rw [q, if_pos (by decide)]
    have q2 : sM (sM (sM ν0 45 2 0) 46 s 0) 47 0 (s : Int) 45 2 = 0 := by rw [sM_a (by decide), q]
    have q3 : sM (sM (sM ν0 45 2 0) 46 s 0) 47 (0 : Int).toNat (s : Int) 45 2 = 0 := q2
    rw [q3]
    rfl
  have hO1 := fun p => (opC_f hk x1.2.2.2 p).trans (hO0 p)
  have w0 : sM (sM (sM (sM ν0 45 2 0) 46 s ((0 : Nat) : Int)) 47 0 (s : Int)) 45 2 ((0 + 1 : Nat) : Int) 47 0 = (s : Int) := by rw [sM_a (by decide), sM_s]
  have w1 : sM (sM (sM (sM ν0 45 2 0) 46 s ((0 : Nat) : Int)) 47 0 (s : Int)) 45 2 ((0 + 1 : Nat) : Int) 46 s = 0 := by rw [sM_a (by decide), sM_a (by decide), sM_s]; rfl
  obtain ⟨ν', n', r', b', p', x'⟩ := meaC_L hk (O := opC l0 μ) (s := s) 60 0 FU 1 _ rfl (by decide) hO1 (fun p h => h.1) b1 (by decide) (fun _ => by
    rw [w0, Int.toNat_natCast, w1]; exact u1) (fun i hi => absurd hi (by omega))
  refine ⟨ν', ?_, fw_tr f0 (fw_tr x1.2.2.2 x'.2.2.2), ?_, fun p hp => ?_⟩
  · unfold X9_measure
    have e0' := e0
    rw [show (((0 : Nat) : Int)) = 0 from rfl] at e0'
    rw [e0', sF_r, er, bd_some]
    exact r'
  · have hz : ∀ m p, p < 60 → lv (opC l0 μ) s m p → ν' 46 p ≠ -1 ∧ ν' 46 p ≤ (m : Int) := by
      intro m
      induction m with
      | zero =>
        intro p hp h
        have e : p = s := h
        rw [e, x'.2.1 s hs6 (by rw [w1]; decide), w1]
        exact ⟨by decide, by decide⟩
      | succ m ih =>
        intro p hp h
        obtain ⟨hop, q, hq, had⟩ := h
        have hq6 : q < 60 := by
          cases m with
          | zero => have e : q = s := hq; omega
          | succ m => exact hq.1.1
        obtain ⟨z1, z2⟩ := ih q hq6 hq
        obtain ⟨i, i1, i2⟩ := b'.2.2.2.1 q hq6 z1
        have z3 := p' i i1 p hp hop (by rw [i2, Int.toNat_natCast]; exact had)
        rw [i2, Int.toNat_natCast] at z3
        exact ⟨z3.1, by omega⟩
    intro p hp
    by_cases c : ν' 46 p = -1
    · exact Or.inl ⟨c, fun n h => (hz n p hp h).1 c⟩
    · obtain ⟨i, i1, i2⟩ := b'.2.2.2.1 p hp c
      obtain ⟨p2, d, h1, h2, h3, h4⟩ := b'.2.2.1 i i1
      have e : p2 = p := by omega
      rw [e] at h3 h4
      exact Or.inr ⟨d, h3, h4, fun m hm h => by have := (hz m p hp h).2; omega⟩
  · by_cases c : ν' 46 p = -1
    · rw [c]; decide
    · obtain ⟨i, i1, i2⟩ := b'.2.2.2.1 p hp c
      have z := b'.2.2.2.2.2 i i1
      rw [i2, Int.toNat_natCast] at z
      have z2 := b'.2.1
      have z3 := cnt_b (P := isNo) (f := ν' 46) 60
      omega
theorem meaC {l0 : Nat} (hk : kD l0 = (10, 9)) {μ : Mm} {s : Nat} (hs : opC l0 μ s) : ∃ ν, X9_measure l0 (s : Int) μ = some (0, ν) ∧ fw fW μ ν ∧ ds (opC l0 μ) s (ν 46) := by
  obtain ⟨ν, h1, h2, h3, _⟩ := meaC2 hk hs
  exact ⟨ν, h1, h2, h3⟩
theorem ds_hi {l0 : Nat} (hk : kD l0 = (10, 9)) {μ : Mm} {s : Nat} (hs : opC l0 μ s) {f : Nat → Int} (hd : ds (opC l0 μ) s f) {p : Nat} (hp : p < 60) : f p ≤ 59 := by
  obtain ⟨ν, _, _, h3, h4⟩ := meaC2 hk hs
  rw [ds_u hd h3 hp]
  exact h4 p hp
/-- from no open place there is no WAY -/
theorem meaC_no {l0 : Nat} (hk : kD l0 = (10, 9)) {μ : Mm} {a : Int} (hs : ∀ p : Nat, a = (p : Int) → ¬ opC l0 μ p) : ∃ ν, X9_measure l0 a μ = some (0, ν) ∧ fw fW μ ν ∧ ∀ p, p < 60 → ν 46 p = -1 := by
  obtain ⟨ν0, e0, o0, _, m0⟩ := mea_2 (l0 := l0) (a := a) (fun μ4 => sF μ4 45 2 0 fun μ5 => bd (X9_reach l0 a 0 μ5) fun v6 μ7 => X9_measure_L35 l0 FU 0 μ7) 60 0 FU μ rfl (by decide)
  have f0 : fw fW μ (sM ν0 45 2 0) := fun k j hn => by
    have : sM ν0 45 2 0 k j = ν0 k j := by unfold sM; rw [if_neg (fun z => hn (Or.inr (Or.inr z)))]
    rw [this, o0 k j (fun z => hn (Or.inl z))]
  have hO0 : ∀ p, opC l0 (sM ν0 45 2 0) p ↔ opC l0 μ p := opC_f hk f0
  refine ⟨sM ν0 45 2 0, ?_, f0, fun p hp => by rw [sM_a (by decide)]; exact m0 p (Nat.zero_le _) hp⟩
  unfold X9_measure
  have e0' := e0
  rw [show (((0 : Nat) : Int)) = 0 from rfl] at e0'
  have er : X9_reach l0 a 0 (sM ν0 45 2 0) = some (0, sM ν0 45 2 0) := by
    unfold X9_reach
    rw [opC_n hk (fun p e h => hs p e ((hO0 p).mp h)), bd_some, if_pos rfl]
  rw [e0', sF_r, er, bd_some]
  obtain ⟨g, eg, _⟩ := lt_fuel (n := FU) (d := 0) (by decide)
  rw [eg]
  show (if (sM ν0 45 2 0 45 2) ≤ (0 : Int) then _ else _) = _
  rw [sM_s, if_pos (by decide)]
