/-! MET, KNOT, AGE, FIRST -/
theorem gb_le : ∀ M, M < 256 → ∀ d, d < 32 → gb ((M : Nat) : Int) d = true → 2 ^ d ≤ M := by decide +kernel
theorem all_v : ∀ m, m < 9 → iS (bL 1 ((m : Nat) : Int)) 1 = ((2 ^ m - 1 : Nat) : Int) := by decide +kernel
theorem pow_256 {m : Nat} (hm : m ≤ 8) : 1 ≤ 2 ^ m ∧ 2 ^ m ≤ 256 := ⟨Nat.two_pow_pos m, Nat.pow_le_pow_right (n := 2) (by decide) hm⟩
theorem msk_of {M : Int} {m : Nat} (hm : m ≤ 8) (h : 0 ≤ M ∧ M ≤ iS (bL 1 (m : Int)) 1) : msk M m (bt M) := by
  rw [all_v m (by omega)] at h
  have h2 := pow_256 hm
  obtain ⟨N, rfl⟩ : ∃ N : Nat, M = (N : Int) := ⟨M.toNat, by omega⟩
  refine ⟨⟨by omega, by omega⟩, fun d hd => ?_⟩
  constructor
  · intro z
    have h3 := gb_le N (by omega) d hd z
    have hdm : d < m := by
      by_cases c : d < m
      · exact c
      · have := Nat.pow_le_pow_right (n := 2) (by decide) (show m ≤ d by omega)
        omega
    exact ⟨hdm, bt_iff.mpr ((bt1 (by omega) _).mpr z)⟩
  · rintro ⟨z1, z2⟩
    exact (bt1 (by omega) _).mp (bt_iff.mp z2)
noncomputable def mv (P : Prop) : Int := @ite Int P (Classical.propDecidable P) 1 0
theorem mv_y {P : Prop} (h : P) : mv P = 1 := by unfold mv; exact if_pos h
theorem mv_n {P : Prop} (h : ¬ P) : mv P = 0 := by unfold mv; exact if_neg h
theorem mv_0 {P : Prop} : mv P = 0 ↔ ¬ P := by
  by_cases h : P
  · rw [mv_y h]; exact ⟨fun z => absurd z (by decide), fun z => absurd h z⟩
  · rw [mv_n h]; exact ⟨fun _ => h, fun _ => rfl⟩
section MS
variable {m : Nat} {B : Nat → Nat → Int} {T Wd : Nat → Int} {cr : Nat → Nat} {S : Int}
theorem metC {M : Int} (hJ : JOK m B T Wd S) {ν : Mm} (hC : JobC 48 ν m B T Wd cr S) : ∃ ν', fw Wlb ν ν' ∧ X10_isMet M ν = some (mv (METp m B T Wd S (bt M)), ν') := by
  obtain ⟨ν', g1, g2, g3⟩ := lbb (M := M) hJ hC
  refine ⟨ν', g1, ?_⟩
  unfold X10_isMet
  by_cases hF : feas m B (oN (bt M) m) (cN (bt M) m)
  · rw [g2 hF, bd_some]
    by_cases c : sK (laK m B T Wd S (oN (bt M) m)) (cN (bt M) m) = 0
    · rw [if_pos c, mv_y ⟨hF, c⟩]
    · rw [if_neg c, mv_n (fun z => c z.2)]
  · rw [g3 hF, bd_some, if_neg (by decide), mv_n (fun z => hF z.1)]
theorem metM (hJ : JOK m B T Wd S) (hTm : ∀ k, k + 1 < m → T k ≤ T (k + 1)) {M : Int} (hM : 0 ≤ M ∧ M ≤ iS (bL 1 (m : Int)) 1) {ξ : Mm} (hMJ : JobM ξ m B T Wd S) {ν : Mm} (hI : Inv ν) (hS : Sm ν ξ) : ∃ v ξ', X11_leastOf 2 M ξ = some (v, ξ') ∧ JobM ξ' m B T Wd S ∧ Sm ν ξ' ∧ (v = 0 ↔ METp m B T Wd S (bt M)) := by
  have hm8 := hJ.2.1
  have h2 := pow_256 hm8
  have hv := all_v m (by omega)
  obtain ⟨ξ', g1, g2, g3⟩ := leastM (w := 2) hJ (msk_of hm8 hM) hMJ
  have t := t_X11_leastOf (μs := ν) (l1 := 2) (l2 := M) hI.2.1 (by decide) (by omega) hS
  rw [g1, wp_some] at t
  exact ⟨_, ξ', g1, JobM_se hMJ g2, t.1, met_iff hJ hTm⟩
end MS
theorem m_met : ∀ a0, rI a0 → ∀ a1, rI a1 → sI Inv Inv (X10_met a0 a1) (X11_met a0 a1) := by
  intro a ha b hb μ hI
  have t1 := t_X10_met (W := scr) (μs := μ) (hW := fun _ _ h => h) (hp_l1 := ha) (hp_l2 := hb) (St_rf hI.1)
  by_cases cr0 : μ 70 23 = 0 ∨ ¬ (0 ≤ a ∧ a < μ 70 28)
  · refine ⟨-1, μ, μ, ?_, ?_, hI⟩
    · unfold X10_met
      rw [lay_no hI cr0, bd_some, if_pos rfl]
    · unfold X11_met
      rw [rdy_no hI.2.1.1 cr0, bd_some, if_pos rfl]
  · have h23 : μ 70 23 ≠ 0 := fun z => cr0 (Or.inl z)
    have hap : 0 ≤ a ∧ a < μ 70 28 := Classical.byContradiction (fun z => cr0 (Or.inr z))
    obtain ⟨p, rfl⟩ : ∃ p : Nat, a = (p : Int) := ⟨a.toNat, by omega⟩
    obtain ⟨L, B, T, Wd, S, ν, hJ, ⟨⟨hTm, _⟩, _⟩, _, g1, g2, g3, _, g5⟩ := ready hI h23 hap.2
    have hA : X1_allCues 48 ν = some (iS (bL 1 (L.length : Int)) 1, ν) := by unfold X1_allCues; rw [g3.1]
    by_cases cb : 1 ≤ b ∧ b ≤ iS (bL 1 (L.length : Int)) 1
    · obtain ⟨ν1, w1, w2⟩ := metC (M := b) hJ g3
      have R1 : X10_met (p : Int) b μ = some (mv (METp L.length B T Wd S (bt b)), ν1) := by
        unfold X10_met
        rw [g1, bd_some, if_neg (by decide), if_neg (by omega), hA, bd_some, if_pos cb.2, w2, bd_some]
        by_cases c : METp L.length B T Wd S (bt b)
        · rw [mv_y c, if_neg (by decide)]
        · rw [mv_n c, if_pos rfl]
      rw [R1, wp_some] at t1
      have hI1 := Inv_St hI t1.1
      obtain ⟨ξ, y1, y2, y3⟩ := g5 ν1 hI1 t1.1.2
      obtain ⟨v, ξ', x1, x2, x3, x4⟩ := metM hJ hTm ⟨by omega, cb.2⟩ y3 hI1 y2
      refine ⟨_, ν1, ξ', R1, ?_, Inv_Sm hI1 x3⟩
      have hA2 : X11_all ξ = some (iS (bL 1 (L.length : Int)) 1, ξ) := by unfold X11_all; rw [y3.1]
      unfold X11_met
      rw [y1, bd_some, if_neg (by decide), hA2, bd_some, in_rg _ cb, bd_some, if_neg (by decide), x1, bd_some]
      by_cases c : METp L.length B T Wd S (bt b)
      · rw [mv_y c, if_pos (x4.mpr c)]
      · rw [mv_n c, if_neg (fun z => c (x4.mp z))]
    · have R1 : X10_met (p : Int) b μ = some (-1, ν) := by
        unfold X10_met
        rw [g1, bd_some, if_neg (by decide)]
        by_cases c1 : b ≤ 0
        · rw [if_pos c1]
        · rw [if_neg c1, hA, bd_some, if_neg (by omega)]
      rw [R1, wp_some] at t1
      have hI1 := Inv_St hI t1.1
      obtain ⟨ξ, y1, y2, y3⟩ := g5 ν hI1 t1.1.2
      have hA2 : X11_all ξ = some (iS (bL 1 (L.length : Int)) 1, ξ) := by unfold X11_all; rw [y3.1]
      refine ⟨_, ν, ξ, R1, ?_, Inv_Sm hI1 y2⟩
      unfold X11_met
      rw [y1, bd_some, if_neg (by decide), hA2, bd_some, in_no _ cb, bd_some, if_pos rfl]
/-! KNOT -/
def bc (M : Int) : Int := match J6_bitCount_0f7a4 M (fun _ _ => 0) with
  | some (v, _) => v
  | none => 0
theorem bc_eq (M : Int) (μ : Mm) : J6_bitCount_0f7a4 M μ = some (bc M, μ) := rfl
theorem bc_rg : ∀ k, k < 256 → 0 ≤ bc ((k : Nat) : Int) ∧ bc ((k : Nat) : Int) ≤ 8 := by decide +kernel
def kn (V : Nat → Int) : Nat → Int × Int
  | 0 => (-1, 9)
  | k + 1 => if (kn V k).2 ≤ bc ((k + 1 : Nat) : Int) then kn V k else if V (k + 1) = 0 then (((k + 1 : Nat) : Int), bc ((k + 1 : Nat) : Int)) else kn V k
theorem kn_iv {V : Nat → Int} : ∀ k, kn V k = (-1, 9) ∨ ∃ j : Nat, 1 ≤ j ∧ j ≤ k ∧ kn V k = ((j : Int), bc (j : Int)) := by
  intro k
  induction k with
  | zero => exact Or.inl rfl
  | succ k ih =>
    have up' : kn V k = (-1, 9) ∨ ∃ j : Nat, 1 ≤ j ∧ j ≤ k + 1 ∧ kn V k = ((j : Int), bc (j : Int)) := by
      rcases ih with h | ⟨j, h1, h2, h3⟩
      · exact Or.inl h
      · exact Or.inr ⟨j, h1, by omega, h3⟩
    by_cases c : (kn V k).2 ≤ bc ((k + 1 : Nat) : Int)
    · have e : kn V (k + 1) = kn V k := if_pos c
      rw [e]; exact up'
    · by_cases d : V (k + 1) = 0
      · have e : kn V (k + 1) = (((k + 1 : Nat) : Int), bc ((k + 1 : Nat) : Int)) := (if_neg c).trans (if_pos d)
        rw [e]; exact Or.inr ⟨k + 1, by omega, by omega, rfl⟩
      · have e : kn V (k + 1) = kn V k := (if_neg c).trans (if_neg d)
        rw [e]; exact up'
section KN
variable {m : Nat} {B : Nat → Nat → Int} {T Wd : Nat → Int} {cr : Nat → Nat} {S : Int} {V : Nat → Int}
theorem knC_L (hJ : JOK m B T Wd S) (hV : ∀ k : Nat, V k = mv (METp m B T Wd S (bt (k : Int)))) : ∀ (r k fuel : Nat) (ν : Mm), k + r = 2 ^ m - 1 → r < fuel → JobC 48 ν m B T Wd cr S → ∃ ν', X10_knot_L18 fuel (kn V k).1 (kn V k).2 ((k + 1 : Nat) : Int) ν = some ((kn V (2 ^ m - 1)).1, ν') := by
  have hm8 := hJ.2.1
  have h2 := pow_256 hm8
  have hv := all_v m (by omega)
  have hA : ∀ ν, JobC 48 ν m B T Wd cr S → X1_allCues 48 ν = some (((2 ^ m - 1 : Nat) : Int), ν) := fun ν h => by unfold X1_allCues; rw [h.1, hv]
  intro r
  induction r with
  | zero =>
    intro k fuel ν hr hf hC
    obtain ⟨g, rfl, _⟩ := lt_fuel hf
    refine ⟨ν, ?_⟩
    show (bd (X1_allCues 48 ν) fun v5 μ6 => _) = _
    have e : k = 2 ^ m - 1 := by omega
    rw [hA ν hC, bd_some, if_pos (by omega), e]
  | succ r ih =>
    intro k fuel ν hr hf hC
    obtain ⟨g, rfl, _⟩ := lt_fuel hf
    obtain ⟨ν1, w1, w2⟩ := metC (M := ((k + 1 : Nat) : Int)) hJ hC
    rw [← hV (k + 1)] at w2
    by_cases c : (kn V k).2 ≤ bc ((k + 1 : Nat) : Int)
    · have e : kn V (k + 1) = kn V k := if_pos c
      obtain ⟨ν', h⟩ := ih (k + 1) g ν (by omega) (by omega) hC
      refine ⟨ν', ?_⟩
      rw [← h, e]
      show (bd (X1_allCues 48 ν) fun v5 μ6 => _) = _
      rw [hA ν hC, bd_some, if_neg (by omega), bc_eq, bd_some, if_pos c, iA_nat (by omega)]
    · by_cases d : V (k + 1) = 0
      · have e : kn V (k + 1) = (((k + 1 : Nat) : Int), bc ((k + 1 : Nat) : Int)) := (if_neg c).trans (if_pos d)
        obtain ⟨ν', h⟩ := ih (k + 1) g ν1 (by omega) (by omega) (JobC_lb hC w1)
        refine ⟨ν', ?_⟩
        rw [← h, e]
        show (bd (X1_allCues 48 ν) fun v5 μ6 => _) = _
        rw [hA ν hC, bd_some, if_neg (by omega), bc_eq, bd_some, if_neg c, w2, bd_some, if_pos d, iA_nat (by omega)]
      · have e : kn V (k + 1) = kn V k := (if_neg c).trans (if_neg d)
        obtain ⟨ν', h⟩ := ih (k + 1) g ν1 (by omega) (by omega) (JobC_lb hC w1)
        refine ⟨ν', ?_⟩
        rw [← h, e]
        show (bd (X1_allCues 48 ν) fun v5 μ6 => _) = _
        rw [hA ν hC, bd_some, if_neg (by omega), bc_eq, bd_some, if_neg c, w2, bd_some, if_neg d, iA_nat (by omega)]
theorem knM_L (hJ : JOK m B T Wd S) (hTm : ∀ k, k + 1 < m → T k ≤ T (k + 1)) (hV : ∀ k : Nat, V k = mv (METp m B T Wd S (bt (k : Int)))) {ν : Mm} (hI : Inv ν) : ∀ (r k fuel : Nat) (ξ : Mm), k + r = 2 ^ m - 1 → r < fuel → JobM ξ m B T Wd S → Sm ν ξ → ∃ ξ', Sm ν ξ' ∧ X11_knot_L14 fuel (kn V k).1 ((k + 1 : Nat) : Int) ξ = some ((kn V (2 ^ m - 1)).1, ξ') := by
  have hm8 := hJ.2.1
  have h2 := pow_256 hm8
  have hv := all_v m (by omega)
  have hA : ∀ ξ, JobM ξ m B T Wd S → X11_all ξ = some (((2 ^ m - 1 : Nat) : Int), ξ) := fun ξ h => by unfold X11_all; rw [h.1, hv]
  intro r
  induction r with
  | zero =>
    intro k fuel ξ hr hf hM hS
    obtain ⟨g, rfl, _⟩ := lt_fuel hf
    refine ⟨ξ, hS, ?_⟩
    show (bd (X11_all ξ) fun v5 μ6 => _) = _
    have e : k = 2 ^ m - 1 := by omega
    rw [hA ξ hM, bd_some, if_pos (by omega), e]
  | succ r ih =>
    intro k fuel ξ hr hf hM hS
    obtain ⟨g, rfl, _⟩ := lt_fuel hf
    have hbc := bc_rg (k + 1) (by omega)
    obtain ⟨v, ξ1, x1, x2, x3, x4⟩ := metM hJ hTm (M := ((k + 1 : Nat) : Int)) (by rw [hv]; omega) hM hI hS
    have hd : V (k + 1) = 0 ↔ ¬ v = 0 := by rw [hV (k + 1), mv_0, x4]
    -- the set is tried
    have try1 : ¬ (kn V k).2 ≤ bc ((k + 1 : Nat) : Int) → ∃ ξ', Sm ν ξ' ∧ X11_knot_J38 (fun w2 w3 μq => X11_knot_L14 g w2 w3 μq) (kn V k).1 ((k + 1 : Nat) : Int) ξ = some ((kn V (2 ^ m - 1)).1, ξ') := by
      intro c
      obtain ⟨ξ', s1, s2⟩ := ih (k + 1) g ξ1 (by omega) (by omega) x2 x3
      refine ⟨ξ', s1, ?_⟩
      rw [← s2]
      unfold X11_knot_J38
      rw [x1, bd_some]
      by_cases d : v = 0
      · have e : kn V (k + 1) = kn V k := (if_neg c).trans (if_neg (fun z => hd.mp z d))
        rw [if_pos d, e, iA_nat (by omega)]
      · have e : kn V (k + 1) = (((k + 1 : Nat) : Int), bc ((k + 1 : Nat) : Int)) := (if_neg c).trans (if_pos (hd.mpr d))
        rw [if_neg d, e, iA_nat (by omega)]
    have e00 : X11_knot_L14 (g + 1) (kn V k).1 ((k + 1 : Nat) : Int) ξ = if (kn V k).1 = -1 then X11_knot_J38 (fun w2 w3 μq => X11_knot_L14 g w2 w3 μq) (kn V k).1 ((k + 1 : Nat) : Int) ξ else if bc (kn V k).1 ≤ bc ((k + 1 : Nat) : Int) then X11_knot_L14 g (kn V k).1 ((k + 1 + 1 : Nat) : Int) ξ else X11_knot_J38 (fun w2 w3 μq => X11_knot_L14 g w2 w3 μq) (kn V k).1 ((k + 1 : Nat) : Int) ξ := by
      show (bd (X11_all ξ) fun v5 μ6 => _) = _
      rw [hA ξ hM, bd_some, if_neg (by omega), bc_eq, bd_some, bc_eq, bd_some, iA_nat (by omega)]
    rw [e00]
    rcases kn_iv (V := V) k with h | ⟨j, j1, j2, h⟩
    · have c : ¬ (kn V k).2 ≤ bc ((k + 1 : Nat) : Int) := by
        rw [h]
        show ¬ (9 : Int) ≤ _
        omega
      have e1 : (kn V k).1 = -1 := by rw [h]
      rw [if_pos e1]
      exact try1 c
    · have e1 : ¬ (kn V k).1 = -1 := by
        rw [h]
        show ¬ (j : Int) = -1
        omega
      have e2 : bc (kn V k).1 = (kn V k).2 := by rw [h]
      rw [if_neg e1, e2]
      by_cases c : (kn V k).2 ≤ bc ((k + 1 : Nat) : Int)
      · have e : kn V (k + 1) = kn V k := if_pos c
        rw [if_pos c]
        obtain ⟨ξ', s1, s2⟩ := ih (k + 1) g ξ (by omega) (by omega) hM hS
        rw [e] at s2
        exact ⟨ξ', s1, s2⟩
      · rw [if_neg c]
        exact try1 c
end KN
theorem m_knot : ∀ a0, rI a0 → sI Inv Inv (X10_knot a0) (X11_knot a0) := by
  intro a ha μ hI
  have t1 := t_X10_knot (W := scr) (μs := μ) (hW := fun _ _ h => h) (hp_l1 := ha) (St_rf hI.1)
  by_cases cr0 : μ 70 23 = 0 ∨ ¬ (0 ≤ a ∧ a < μ 70 28)
  · refine ⟨-1, μ, μ, ?_, ?_, hI⟩
    · unfold X10_knot
      rw [lay_no hI cr0, bd_some, if_pos rfl]
    · unfold X11_knot
      rw [rdy_no hI.2.1.1 cr0, bd_some, if_pos rfl]
  · have h23 : μ 70 23 ≠ 0 := fun z => cr0 (Or.inl z)
    have hap : 0 ≤ a ∧ a < μ 70 28 := Classical.byContradiction (fun z => cr0 (Or.inr z))
    obtain ⟨p, rfl⟩ : ∃ p : Nat, a = (p : Int) := ⟨a.toNat, by omega⟩
    obtain ⟨L, B, T, Wd, S, ν, hJ, ⟨⟨hTm, _⟩, _⟩, _, g1, g2, g3, _, g5⟩ := ready hI h23 hap.2
    have h2 := pow_256 hJ.2.1
    obtain ⟨V, hV⟩ : ∃ V : Nat → Int, ∀ k : Nat, V k = mv (METp L.length B T Wd S (bt (k : Int))) := ⟨fun k => mv (METp L.length B T Wd S (bt (k : Int))), fun _ => rfl⟩
    obtain ⟨ν1, w1⟩ := knC_L (cr := lets L) hJ hV (2 ^ L.length - 1) 0 FU ν (by omega) (by show 2 ^ L.length - 1 < 1000000; omega) g3
    have w1 : X10_knot_L18 FU (-1) 9 1 ν = some ((kn V (2 ^ L.length - 1)).1, ν1) := w1
    have R1 : X10_knot (p : Int) μ = some ((kn V (2 ^ L.length - 1)).1, ν1) := by
      unfold X10_knot
      rw [g1, bd_some, if_neg (by decide), w1]
    rw [R1, wp_some] at t1
    have hI1 := Inv_St hI t1.1
    obtain ⟨ξ, y1, y2, y3⟩ := g5 ν1 hI1 t1.1.2
    obtain ⟨ξ', s1, s2⟩ := knM_L hJ hTm hV hI1 (2 ^ L.length - 1) 0 FU ξ (by omega) (by show 2 ^ L.length - 1 < 1000000; omega) y3 y2
    have s2 : X11_knot_L14 FU (-1) 1 ξ = some ((kn V (2 ^ L.length - 1)).1, ξ') := s2
    refine ⟨_, ν1, ξ', R1, ?_, Inv_Sm hI1 s1⟩
    unfold X11_knot
    rw [y1, bd_some, if_neg (by decide), s2]
/-! AGE -/
def agL (V : Nat → Int) : Nat → Int
  | 0 => 0
  | k + 1 => if V (k + 1) = 0 then agL V k else ((k + 1 : Nat) : Int)
theorem agL_rg {V : Nat → Int} : ∀ k, 0 ≤ agL V k ∧ agL V k ≤ (k : Int) := by
  intro k
  induction k with
  | zero => exact ⟨Int.le_refl _, Int.le_refl _⟩
  | succ k ih =>
    by_cases c : V (k + 1) = 0
    · have e : agL V (k + 1) = agL V k := if_pos c
      rw [e]; omega
    · have e : agL V (k + 1) = ((k + 1 : Nat) : Int) := if_neg c
      rw [e]; omega
theorem JOK_S {m : Nat} {B : Nat → Nat → Int} {T Wd : Nat → Int} {S S' : Int} (h : JOK m B T Wd S) (h' : 1 ≤ S' ∧ S' ≤ 9) : JOK m B T Wd S' := ⟨h.1, h.2.1, h', h.2.2.2⟩
section AG
variable {m : Nat} {B : Nat → Nat → Int} {T Wd : Nat → Int} {cr : Nat → Nat} {V : Nat → Int}
theorem JobC_S {ν : Mm} {S v : Int} (hC : JobC 48 ν m B T Wd cr S) : JobC 48 (sM ν 48 6 v) m B T Wd cr v :=
  ⟨by rw [sM_j (by decide)]; exact hC.1, by rw [sM_s], fun k hk => by rw [sM_a (by decide), sM_a (by decide), sM_a (by decide)]; exact hC.2.2.1 k hk, fun a b ha hb => by rw [sM_a (by decide)]; exact hC.2.2.2.1 a b ha hb, fun b hb => by rw [sM_a (by decide)]; exact hC.2.2.2.2 b hb⟩
theorem agC_L {S0 : Int} (hJ : JOK m B T Wd S0) (hV : ∀ s : Nat, V s = mv (METp m B T Wd (s : Int) (bt (iS (bL 1 (m : Int)) 1)))) : ∀ (k fuel : Nat) (S : Int) (ν : Mm), k ≤ 9 → k < fuel → JobC 48 ν m B T Wd cr S → ∃ ν', X10_ageOfJob_L3 fuel (k : Int) ν = some (agL V k, ν') := by
  intro k
  induction k with
  | zero =>
    intro fuel S ν _ hf _
    obtain ⟨g, rfl, _⟩ := lt_fuel hf
    exact ⟨ν, if_pos (Int.le_refl _)⟩
  | succ k ih =>
    intro fuel S ν hk hf hC
    obtain ⟨g, rfl, _⟩ := lt_fuel hf
    have hC1 := JobC_S (v := ((k + 1 : Nat) : Int)) hC
    obtain ⟨ν1, w1, w2⟩ := metC (M := iS (bL 1 (m : Int)) 1) (JOK_S hJ (S' := ((k + 1 : Nat) : Int)) (by omega)) hC1
    have hA : X1_allCues 48 (sM ν 48 6 ((k + 1 : Nat) : Int)) = some (iS (bL 1 (m : Int)) 1, sM ν 48 6 ((k + 1 : Nat) : Int)) := by unfold X1_allCues; rw [hC1.1]
    rw [← hV (k + 1)] at w2
    have e0 : X10_ageOfJob_L3 (g + 1) ((k + 1 : Nat) : Int) ν = if V (k + 1) = 0 then X10_ageOfJob_L3 g (k : Int) ν1 else some (((k + 1 : Nat) : Int), ν1) := by
      show (if ((k + 1 : Nat) : Int) ≤ 0 then _ else _) = _
      have e1 : iA ((k + 1 : Nat) : Int) (-1) = (k : Int) := by rw [iA_id (by omega) (by omega)]; omega
      rw [if_neg (by omega), sF_r, hA, bd_some, w2, bd_some, e1]
    rw [e0]
    by_cases c : V (k + 1) = 0
    · have e : agL V (k + 1) = agL V k := if_pos c
      rw [if_pos c, e]
      exact ih g _ ν1 (by omega) (by omega) (JobC_lb hC1 w1)
    · have e : agL V (k + 1) = ((k + 1 : Nat) : Int) := if_neg c
      rw [if_neg c, e]
      exact ⟨ν1, rfl⟩
theorem agM_L {S0 : Int} (hJ : JOK m B T Wd S0) (hTm : ∀ k, k + 1 < m → T k ≤ T (k + 1)) {μ : Mm} {p : Nat} (hR : RLY μ p m B T Wd) {ν : Mm} (hI : Inv ν) (hs : ∀ k j, ¬ scr k j → ¬ scrM k j → ν k j = μ k j) (hV : ∀ s : Nat, V s = mv (METp m B T Wd (s : Int) (bt (iS (bL 1 (m : Int)) 1)))) : ∀ (k fuel : Nat) (S : Int) (ξ : Mm), k ≤ 9 → k < fuel → Sm ν ξ → JobM ξ m B T Wd S → ∃ ξ', Sm ν ξ' ∧ X11_ageOf_L3 (p : Int) fuel (k : Int) ξ = some (agL V k, ξ') := by
  have hm8 := hJ.2.1
  have h2 := pow_256 hm8
  have hv := all_v m (by omega)
  intro k
  induction k with
  | zero =>
    intro fuel S ξ _ hf hS _
    obtain ⟨g, rfl, _⟩ := lt_fuel hf
    exact ⟨ξ, hS, if_pos (Int.le_refl _)⟩
  | succ k ih =>
    intro fuel S ξ hk hf hS hM
    obtain ⟨g, rfl, _⟩ := lt_fuel hf
    obtain ⟨v, ξ1, q1, q2, q3, q4⟩ := hR ν hI hs ξ S hS hM ((k + 1 : Nat) : Int) (by omega)
    have hA : X11_all ξ1 = some (iS (bL 1 (m : Int)) 1, ξ1) := by unfold X11_all; rw [q4.1]
    obtain ⟨u, ξ2, x1, x2, x3, x4⟩ := metM (JOK_S hJ (S' := ((k + 1 : Nat) : Int)) (by omega)) hTm (M := iS (bL 1 (m : Int)) 1) ⟨by rw [hv]; omega, Int.le_refl _⟩ q4 hI q3
    have hd : V (k + 1) = 0 ↔ ¬ u = 0 := by rw [hV (k + 1), mv_0, x4]
    have e0 : X11_ageOf_L3 (p : Int) (g + 1) ((k + 1 : Nat) : Int) ξ = if u = 0 then some (((k + 1 : Nat) : Int), ξ2) else X11_ageOf_L3 (p : Int) g (k : Int) ξ2 := by
      show (if ((k + 1 : Nat) : Int) ≤ 0 then _ else _) = _
      have e1 : iA ((k + 1 : Nat) : Int) (-1) = (k : Int) := by rw [iA_id (by omega) (by omega)]; omega
      rw [if_neg (by omega), q1, bd_some, q2, bd_some, hA, bd_some, x1, bd_some, e1]
    rw [e0]
    by_cases c : u = 0
    · have e : agL V (k + 1) = ((k + 1 : Nat) : Int) := if_neg (fun z => hd.mp z c)
      rw [if_pos c, e]
      exact ⟨ξ2, x3, rfl⟩
    · have e : agL V (k + 1) = agL V k := if_pos (hd.mpr c)
      rw [if_neg c, e]
      exact ih g _ ξ2 (by omega) (by omega) x3 x2
end AG
/-- the AGE of a PLAY: both alike -/
theorem age_2 {μ : Mm} (hI : Inv μ) (h23 : μ 70 23 ≠ 0) {p : Nat} (hp : (p : Int) < μ 70 28) : ∃ (v : Int) (ν ν1 : Mm), (0 ≤ v ∧ v ≤ 9) ∧ X10_lay (p : Int) μ = some (1, ν) ∧ St scr μ ν ∧ X10_ageOfJob ν = some (v, ν1) ∧ ∀ ν', Inv ν' → (∀ k j, ¬ scr k j → ¬ scrM k j → ν' k j = μ k j) → ∃ ξ ξ', X11_isReady (p : Int) ν' = some (1, ξ) ∧ Sm ν' ξ ∧ X11_ageOf (p : Int) ξ = some (v, ξ') ∧ Sm ν' ξ' := by
  obtain ⟨L, B, T, Wd, S, ν, hJ, ⟨⟨hTm, _, hR⟩, _⟩, _, g1, g2, g3, _, g5⟩ := readyW hI h23 hp
  obtain ⟨V, hV⟩ : ∃ V : Nat → Int, ∀ s : Nat, V s = mv (METp L.length B T Wd (s : Int) (bt (iS (bL 1 (L.length : Int)) 1))) := ⟨fun s => mv (METp L.length B T Wd (s : Int) (bt (iS (bL 1 (L.length : Int)) 1))), fun _ => rfl⟩
  obtain ⟨ν1, w1⟩ := agC_L (cr := lets L) hJ hV 9 FU S ν (by omega) (by decide) g3
  have w1 : X10_ageOfJob_L3 FU 9 ν = some (agL V 9, ν1) := w1
  have hr := agL_rg (V := V) 9
  refine ⟨agL V 9, ν, ν1, ⟨hr.1, hr.2⟩, g1, g2, w1, fun ν' hI' e => ?_⟩
  obtain ⟨ξ, y1, y2, y3⟩ := g5 ν' hI' e
  obtain ⟨ξ', s1, s2⟩ := agM_L hJ hTm hR hI' e hV 9 FU S ξ (by omega) (by decide) y2 y3
  exact ⟨ξ, ξ', y1, y2, s2, s1⟩
theorem m_age : ∀ a0, rI a0 → sI Inv Inv (X10_age a0) (X11_age a0) := by
  intro a ha μ hI
  have t1 := t_X10_age (W := scr) (μs := μ) (hW := fun _ _ h => h) (hp_l1 := ha) (St_rf hI.1)
  by_cases cr0 : μ 70 23 = 0 ∨ ¬ (0 ≤ a ∧ a < μ 70 28)
  · refine ⟨-1, μ, μ, ?_, ?_, hI⟩
    · unfold X10_age
      rw [lay_no hI cr0, bd_some, if_pos rfl]
    · unfold X11_age
      rw [rdy_no hI.2.1.1 cr0, bd_some, if_pos rfl]
  · have h23 : μ 70 23 ≠ 0 := fun z => cr0 (Or.inl z)
    have hap : 0 ≤ a ∧ a < μ 70 28 := Classical.byContradiction (fun z => cr0 (Or.inr z))
    obtain ⟨p, rfl⟩ : ∃ p : Nat, a = (p : Int) := ⟨a.toNat, by omega⟩
    obtain ⟨v, ν, ν1, hv, g1, _, g2, g3⟩ := age_2 hI h23 hap.2
    have R1 : X10_age (p : Int) μ = some (v, ν1) := by
      unfold X10_age
      rw [g1, bd_some, if_neg (by decide), g2, bd_some]
    rw [R1, wp_some] at t1
    have hI1 := Inv_St hI t1.1
    obtain ⟨ξ, ξ', y1, y2, y3, y4⟩ := g3 ν1 hI1 (fun k j h _ => t1.1.2 k j h)
    refine ⟨_, ν1, ξ', R1, ?_, Inv_Sm hI1 y4⟩
    unfold X11_age
    rw [y1, bd_some, if_neg (by decide), y3, bd_some]
/-! FIRST -/
def fsL (V : Nat → Int) : Nat → Int × Int
  | 0 => (-1, 10)
  | k + 1 => if (fsL V k).2 ≤ V k then fsL V k else ((k : Int), V k)
theorem fsL_iv {V : Nat → Int} (hV : ∀ k, 0 ≤ V k ∧ V k ≤ 9) : ∀ k, 1 ≤ k → 0 ≤ (fsL V k).1 := by
  intro k
  induction k with
  | zero => intro h; exact absurd h (by decide)
  | succ k ih =>
    intro _
    by_cases c : (fsL V k).2 ≤ V k
    · have e : fsL V (k + 1) = fsL V k := if_pos c
      rw [e]
      by_cases z : k = 0
      · subst z
        have := hV 0
        have c : (10 : Int) ≤ V 0 := c
        omega
      · exact ih (by omega)
    · have e : fsL V (k + 1) = ((k : Int), V k) := if_neg c
      rw [e]
      show (0 : Int) ≤ (k : Int)
      omega
theorem m_first : sI Inv Inv X10_first X11_first := by
  intro μ hI
  have t1 := t_X10_first (W := scr) (μs := μ) (hW := fun _ _ h => h) (St_rf hI.1)
  obtain ⟨N, hN5, h15, h28, _⟩ := hI.2.2.2.1
  by_cases h23 : μ 70 23 = 0
  · -- no CELLAR: none
    have hC : ∀ (r k fuel : Nat), k + r = N → r < fuel → X10_first_L7 fuel (-1) 10 (k : Int) μ = some (-1, μ) := by
      intro r
      induction r with
      | zero =>
        intro k fuel hk hf
        obtain ⟨g, rfl, _⟩ := lt_fuel hf
        show (if (μ 0 15) ≤ (k : Int) then _ else _) = _
        rw [h15, if_pos (by omega)]
      | succ r ih =>
        intro k fuel hk hf
        obtain ⟨g, rfl, _⟩ := lt_fuel hf
        show (if (μ 0 15) ≤ (k : Int) then _ else _) = _
        rw [h15, if_neg (by omega), lay_no hI (Or.inl h23), bd_some, if_pos rfl]
        unfold X10_first_J31
        rw [if_pos rfl, iA_nat (by omega)]
        exact ih (k + 1) g (by omega) (by omega)
    refine ⟨-1, μ, μ, hC N 0 FU (by omega) (by show N < 1000000; omega), ?_, hI⟩
    obtain ⟨g, hg⟩ : ∃ g, FU = g + 1 := ⟨999999, rfl⟩
    unfold X11_first
    rw [hg]
    show (if (μ 70 28) ≤ 0 then _ else _) = _
    by_cases c : μ 70 28 ≤ 0
    · rw [if_pos c]
    · rw [if_neg c, h23, if_pos (Int.le_refl _)]
  · have hb23 : 0 ≤ μ 70 23 := (hI.2.1.1 70 23 (by decide)).1
    have hage : ∀ k, ∃ v, (0 ≤ v ∧ v ≤ 9) ∧ (k < N → ∀ ν, Inv ν → St scr μ ν → (∃ ν1 ν2, X10_lay (k : Int) ν = some (1, ν1) ∧ X10_ageOfJob ν1 = some (v, ν2) ∧ St scr μ ν2) ∧ (∀ ξ0, Sm ν ξ0 → ∃ ξ ξ', X11_isReady (k : Int) ξ0 = some (1, ξ) ∧ X11_ageOf (k : Int) ξ = some (v, ξ') ∧ Sm ν ξ')) := by
      intro k
      by_cases hk : k < N
      · obtain ⟨v, ν0, ν1, hv, g1, g2, g3, g4⟩ := age_2 hI h23 (p := k) (by omega)
        refine ⟨v, hv, fun _ ν hIν hSν => ⟨?_, fun ξ0 hξ => ?_⟩⟩
        · have q := hSν.2
          obtain ⟨v', a0, a1, hv', b1, b2, b3, b4⟩ := age_2 hIν (by rw [q 70 23 (by unfold scr; omega)]; exact h23) (p := k) (by rw [q 70 28 (by unfold scr; omega)]; omega)
          -- the same AGE
          obtain ⟨ξ, ξ', y1, y2, y3, y4⟩ := g4 ν hIν (fun i j h _ => q i j h)
          obtain ⟨ζ, ζ', z1, z2, z3, z4⟩ := b4 ν hIν (fun _ _ _ _ => rfl)
          rw [y1] at z1
          have e1 : ξ = ζ := congrArg (fun q : Int × Mm => q.2) (Option.some.inj z1)
          rw [← e1, y3] at z3
          have e2 : v = v' := congrArg (fun q : Int × Mm => q.1) (Option.some.inj z3)
          have t := t_X10_ageOfJob (W := scr) (μs := ν) (hW := fun _ _ h => h) b2
          rw [b3, wp_some] at t
          exact ⟨a0, a1, b1, by rw [e2]; exact b3, t.1.1, fun i j h => by rw [t.1.2 i j h, q i j h]⟩
        · have hI0 := Inv_Sm hIν hξ
          obtain ⟨ξ, ξ', y1, y2, y3, y4⟩ := g4 ξ0 hI0 (fun i j hn hm => by rw [hξ.2 i j hm, hSν.2 i j hn])
          exact ⟨ξ, ξ', y1, y3, y4.1, fun i j hn => by rw [y4.2 i j hn, hξ.2 i j hn]⟩
      · exact ⟨0, by decide, fun z => absurd z hk⟩
    obtain ⟨V, hV⟩ : ∃ V : Nat → Int, ∀ k, (0 ≤ V k ∧ V k ≤ 9) ∧ (k < N → ∀ ν, Inv ν → St scr μ ν → (∃ ν1 ν2, X10_lay (k : Int) ν = some (1, ν1) ∧ X10_ageOfJob ν1 = some (V k, ν2) ∧ St scr μ ν2) ∧ (∀ ξ0, Sm ν ξ0 → ∃ ξ ξ', X11_isReady (k : Int) ξ0 = some (1, ξ) ∧ X11_ageOf (k : Int) ξ = some (V k, ξ') ∧ Sm ν ξ')) := ⟨fun k => Classical.choose (hage k), fun k => Classical.choose_spec (hage k)⟩
    have hV9 : ∀ k, 0 ≤ V k ∧ V k ≤ 9 := fun k => (hV k).1
    have hC : ∀ (r k fuel : Nat) (ν : Mm), k + r = N → r < fuel → St scr μ ν → ∃ ν', St scr μ ν' ∧ X10_first_L7 fuel (fsL V k).1 (fsL V k).2 (k : Int) ν = some ((fsL V N).1, ν') := by
      intro r
      induction r with
      | zero =>
        intro k fuel ν hk hf hS
        obtain ⟨g, rfl, _⟩ := lt_fuel hf
        have e : k = N := by omega
        refine ⟨ν, hS, ?_⟩
        show (if (ν 0 15) ≤ (k : Int) then _ else _) = _
        rw [hS.2 0 15 (by unfold scr; omega), h15, if_pos (by omega), e]
      | succ r ih =>
        intro k fuel ν hk hf hS
        obtain ⟨g, rfl, _⟩ := lt_fuel hf
        obtain ⟨⟨ν1, ν2, a1, a2, a3⟩, _⟩ := (hV k).2 (by omega) ν (Inv_St hI hS) hS
        obtain ⟨ν', s1, s2⟩ := ih (k + 1) g ν2 (by omega) (by omega) a3
        refine ⟨ν', s1, ?_⟩
        rw [← s2]
        have hv := hV9 k
        show (if (ν 0 15) ≤ (k : Int) then _ else _) = _
        rw [hS.2 0 15 (by unfold scr; omega), h15, if_neg (by omega), a1, bd_some, if_neg (by decide), a2, bd_some]
        unfold X10_first_J31
        rw [if_neg (by omega)]
        by_cases c : (fsL V k).2 ≤ V k
        · have e : fsL V (k + 1) = fsL V k := if_pos c
          rw [if_pos c, e, iA_nat (by omega)]
        · have e : fsL V (k + 1) = ((k : Int), V k) := if_neg c
          rw [if_neg c, e, iA_nat (by omega)]
    obtain ⟨ν, s1, s2⟩ := hC N 0 FU μ (by omega) (by show N < 1000000; omega) (St_rf hI.1)
    have s2 : X10_first μ = some ((fsL V N).1, ν) := s2
    have hI1 := Inv_St hI s1
    have hM : ∀ (r k fuel : Nat) (ξ : Mm) (x y : Int), k + r = N → r < fuel → Sm ν ξ → ((k = 0 ∧ x = -1) ∨ (1 ≤ k ∧ x = (fsL V k).1 ∧ y = (fsL V k).2)) → ∃ ξ', Sm ν ξ' ∧ X11_first_L6 fuel x y (k : Int) ξ = some ((fsL V N).1, ξ') := by
      intro r
      induction r with
      | zero =>
        intro k fuel ξ x y hk hf hS hx
        obtain ⟨g, rfl, _⟩ := lt_fuel hf
        have e : k = N := by omega
        refine ⟨ξ, hS, ?_⟩
        have ex : x = (fsL V N).1 := by
          rcases hx with ⟨z1, z2⟩ | ⟨_, z, _⟩
          · rw [← e, z1]; exact z2
          · rw [z, e]
        show (if (ξ 70 28) ≤ (k : Int) then _ else _) = _
        rw [hS.2 70 28 (by unfold scrM; omega), s1.2 70 28 (by unfold scr; omega), h28, if_pos (by omega), ex]
      | succ r ih =>
        intro k fuel ξ x y hk hf hS hx
        obtain ⟨g, rfl, _⟩ := lt_fuel hf
        obtain ⟨_, hq⟩ := (hV k).2 (by omega) ν hI1 s1
        obtain ⟨ξ1, ξ2, a1, a2, a3⟩ := hq ξ hS
        obtain ⟨ξ', u1, u2⟩ := ih (k + 1) g ξ2 (fsL V (k + 1)).1 (fsL V (k + 1)).2 (by omega) (by omega) a3 (Or.inr ⟨by omega, rfl, rfl⟩)
        refine ⟨ξ', u1, ?_⟩
        rw [← u2]
        have hv := hV9 k
        show (if (ξ 70 28) ≤ (k : Int) then _ else _) = _
        rw [hS.2 70 28 (by unfold scrM; omega), s1.2 70 28 (by unfold scr; omega), h28, if_neg (by omega), hS.2 70 23 (by unfold scrM; omega), s1.2 70 23 (by unfold scr; omega), if_neg (by omega), a1, bd_some, a2, bd_some]
        rcases hx with ⟨z1, z2⟩ | ⟨z0, z1, z2⟩
        · have c : ¬ (fsL V k).2 ≤ V k := by
            rw [z1]
            have := hV9 0
            show ¬ (10 : Int) ≤ V 0
            omega
          have e : fsL V (k + 1) = ((k : Int), V k) := if_neg c
          rw [if_pos z2, e, iA_nat (by omega)]
        · have hp := fsL_iv hV9 k z0
          rw [z1, z2, if_neg (by omega)]
          by_cases c : (fsL V k).2 ≤ V k
          · have e : fsL V (k + 1) = fsL V k := if_pos c
            rw [if_pos c, e, iA_nat (by omega)]
          · have e : fsL V (k + 1) = ((k : Int), V k) := if_neg c
            rw [if_neg c, e, iA_nat (by omega)]
    obtain ⟨ξ, u1, u2⟩ := hM N 0 FU ν (-1) 0 (by omega) (by show N < 1000000; omega) (Sm_rf hI1.2.1.1) (Or.inl ⟨rfl, rfl⟩)
    exact ⟨_, ν, ξ, s2, u2, Inv_Sm hI1 u1⟩
