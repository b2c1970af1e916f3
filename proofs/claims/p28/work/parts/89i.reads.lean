/-! READINGS that keep what is kept: the reference's into a free place, the class's into its drafts -/
def WR (mp ml k j : Nat) : Prop := (k = 70 ∧ (j = 3 ∨ j = 4 ∨ j = 5 ∨ j = 14 ∨ (18 ≤ j ∧ j ≤ 21))) ∨ k = 74 ∨ k = 81 ∨ ((k = 83 ∨ k = 84) ∧ 8 * mp ≤ j) ∨ (k = 85 ∧ mp ≤ j) ∨ ((k = 72 ∨ k = 73) ∧ 340 * ml ≤ j) ∨ (k = 75 ∧ ml ≤ j) ∨ (76 ≤ k ∧ k ≤ 78 ∧ 90 * ml ≤ j)
theorem agr_WR {μ ν : Mm} {mp ml : Nat} (hf : fw (WR mp ml) μ ν) {q : Int} (h0 : 0 ≤ q) (h1 : q < (ml : Int)) : agr q ν μ := by
  refine ⟨fun j j1 j2 => ⟨hf 72 j (by unfold WR; omega), hf 73 j (by unfold WR; omega)⟩, hf 75 _ (by unfold WR; omega), fun j j1 j2 => ⟨hf 76 j (by unfold WR; omega), hf 77 j (by unfold WR; omega), hf 78 j (by unfold WR; omega)⟩⟩
theorem Pl_fine {μ ν : Mm} (h : Pl μ) (e1 : ν 0 15 = μ 0 15) (e2 : ∀ k j, 18 ≤ k → k ≤ 32 → ν k j = μ k j) (e3 : ν 70 28 = μ 70 28) {m : Nat} (hm : μ 70 28 ≤ (m : Int)) (e4 : ∀ j, j < 8 * m → ν 83 j = μ 83 j ∧ ν 84 j = μ 84 j) (e5 : ∀ j, j < m → ν 85 j = μ 85 j) : Pl ν := by
  obtain ⟨k, h1, h2, h3, h4⟩ := h
  refine ⟨k, h1, by rw [e1]; exact h2, by rw [e3]; exact h3, fun p hp => ?_⟩
  obtain ⟨L, l1, l2, l3, l4⟩ := h4 p hp
  refine ⟨L, l1, l2, ⟨by rw [e2 _ _ (by omega) (by omega)]; exact l3.1, fun i hi => ?_⟩, ⟨by rw [e5 _ (by omega)]; exact l4.1, fun i hi => ?_⟩⟩
  · rw [e2 _ _ (by omega) (by omega), e2 _ _ (by omega) (by omega)]; exact l3.2 i hi
  · rw [(e4 _ (by omega)).1, (e4 _ (by omega)).2]; exact l4.2 i hi
theorem Lw_fine {μ ν : Mm} (h : Lw μ) (e0 : ν 0 16 = μ 0 16) (e4 : ν 70 13 = μ 70 13) (e5 : ∀ k j, 37 ≤ k → k ≤ 44 → ν k j = μ k j) {m : Nat} (hm : μ 70 13 ≤ (m : Int)) (ea : ∀ q : Int, 0 ≤ q → q < (m : Int) → agr q ν μ) : Lw ν := by
  obtain ⟨k, h1, h2, h3, h4⟩ := h
  refine ⟨k, h1, by rw [e0]; exact h2, by rw [e4]; exact h3, fun q hq => ?_⟩
  obtain ⟨n, L, l1, l2, l3, l4, l5⟩ := h4 q hq
  have eb : ∀ j, ν (38 + 2 * q) j = μ (38 + 2 * q) j := fun j => e5 _ j (by omega) (by omega)
  exact ⟨n, L, l1, by rw [e5 _ _ (by omega) (by omega)]; exact l2, fun j hj => by rw [eb]; exact l3 j hj, by rw [lawS_congr eb]; exact l4, rows_agr (ea (q : Int) (by omega) (by omega)) _ _ _ l5⟩
theorem Ir_gen {μ ν : Mm} (hI : Ir μ) (hB : Bm ν) (hp : ∀ p k : Nat, (p : Int) < ν 70 28 → (k : Int) < ν 85 p → 0 ≤ ν 83 (8 * p + k) ∧ ν 83 (8 * p + k) ≤ 7) (s23 : ν 70 23 = μ 70 23) (s24 : ν 70 24 = μ 70 24) (s53 : ν 70 53 = μ 70 53) (s32 : ν 70 32 = μ 70 32) (h13 : μ 70 13 ≤ ν 70 13) (e82 : ∀ j, ν 82 j = μ 82 j) (e96 : ∀ j, ν 96 j = μ 96 j) (hl : ∀ q : Int, 0 ≤ q → q < ν 70 13 → LawOK ν q) : Ir ν := by
  obtain ⟨_, h2, h3, h4, h5, h6, h7, h8⟩ := hI
  refine ⟨hB, hp, fun h => ?_, fun h => ?_, ?_, hl, UQ_congr h7 s23 s24 e82, fun h => ?_⟩
  · rw [s23] at h
    obtain ⟨p, hp, ip, hp2⟩ := h3 h
    exact ⟨p, hp, (isP_congr s23 s24 p).mpr ip, by rw [e82]; exact hp2⟩
  · rw [s53] at h
    obtain ⟨p, hp, ip, hp2⟩ := h4 h
    exact ⟨p, hp, (isP_congr s23 s24 p).mpr ip, by rw [e96]; exact hp2⟩
  · rw [s32]; omega
  · rw [s53] at h
    exact UQ_congr (h8 h) s23 s24 e96
theorem Inv_WR {μ ν : Mm} (hI : Inv μ) {mp ml : Nat} (hp : μ 70 28 ≤ (mp : Int)) (hl : μ 70 13 ≤ (ml : Int)) (hB : Bm ν) (hf : fw (WR mp ml) μ ν) : Inv ν := by
  have s : ∀ j, ¬ (j = 3 ∨ j = 4 ∨ j = 5 ∨ j = 14 ∨ (18 ≤ j ∧ j ≤ 21)) → ν 70 j = μ 70 j := fun j h => hf 70 j (by unfold WR; omega)
  have hIr : Ir ν := by
    refine Ir_gen hI.2.1 hB (fun p k h1 h2 => ?_) (s 23 (by decide)) (s 24 (by decide)) (s 53 (by decide)) (s 32 (by decide)) (by rw [s 13 (by decide)]; exact Int.le_refl _) (fun j => hf 82 j (by unfold WR; omega)) (fun j => hf 96 j (by unfold WR; omega)) (fun q q1 q2 => ?_)
    · rw [s 28 (by decide)] at h1
      have hp' : p < mp := by omega
      rw [hf 85 p (by unfold WR; omega)] at h2
      have hk : μ 85 p ≤ 8 := (hI.2.1.1 85 p (by decide)).2
      rw [hf 83 _ (by unfold WR; omega)]
      exact hI.2.1.2.1 p k h1 h2
    · rw [s 13 (by decide)] at q2
      exact LawOK_congr (hI.2.1.2.2.2.2.2.1 q q1 q2) (agr_WR hf q1 (by omega))
  refine Inv_W hI (Bx_congr hI.1 (fun k j h => hf k j (by unfold WR; omega))) hIr hf (Or.inl ?_) (Or.inr ?_) (Or.inr ?_) (Or.inl ?_) (Or.inl ?_) (Or.inl ?_) (Or.inl ?_)
  · intro k j h; unfold kT at h; unfold WR; omega
  · exact Pl_fine hI.2.2.2.1 (hf 0 15 (by unfold WR; omega)) (fun k j h1 h2 => hf k j (by unfold WR; omega)) (s 28 (by decide)) hp (fun j hj => ⟨hf 83 j (by unfold WR; omega), hf 84 j (by unfold WR; omega)⟩) (fun j hj => hf 85 j (by unfold WR; omega))
  · exact Lw_fine hI.2.2.2.2.1 (hf 0 16 (by unfold WR; omega)) (s 13 (by decide)) (fun k j h1 h2 => hf k j (by unfold WR; omega)) hl (fun q q1 q2 => agr_WR hf q1 q2)
  · intro k j h; unfold kCl at h; unfold WR; omega
  · intro k j h; unfold kH at h; unfold WR; omega
  · intro k j h; unfold kI at h; unfold WR; omega
  · intro k j h; unfold kU at h; unfold WR; omega
/-- the TAPE is t, n long, to both -/
def Ta (t : Nat → Int) (n : Nat) (μ : Mm) : Prop := n ≤ 160 ∧ μ 1 1 = (n : Int) ∧ μ 70 2 = (n : Int) ∧ (∀ j, j < n → μ 2 j = t j) ∧ (∀ j, j < n → μ 71 j = t j) ∧ ∀ j, j < n → 1 ≤ t j ∧ t j ≤ 255
theorem Ta_Tm {t : Nat → Int} {n : Nat} {μ : Mm} (h : Ta t n μ) : Tm t n μ := ⟨h.1, h.2.2.1, h.2.2.2.2.1⟩
theorem Ta_Tx {t : Nat → Int} {n : Nat} {μ : Mm} (h : Ta t n μ) : Tx t n (sM μ 3 0 1) :=
  ⟨h.1, 1, sM_s _ _ _ _, by decide, by rw [sM_a (by decide)]; exact h.2.1, fun j hj => by rw [sM_a (by decide)]; exact h.2.2.2.1 j hj⟩
theorem Ta_c {t : Nat → Int} {n : Nat} {μ ν : Mm} (h : Ta t n μ) (e1 : ν 1 1 = μ 1 1) (e2 : ∀ j, ν 2 j = μ 2 j) (e3 : ν 70 2 = μ 70 2) (e4 : ∀ j, ν 71 j = μ 71 j) : Ta t n ν :=
  ⟨h.1, e1.trans h.2.1, e3.trans h.2.2.1, fun j hj => (e2 j).trans (h.2.2.2.1 j hj), fun j hj => (e4 j).trans (h.2.2.2.2.1 j hj), h.2.2.2.2.2⟩
theorem open_eq (μ : Mm) : X4_open 1 μ = some (0, cr (sM μ 3 0 1) 0 (-1)) := rfl
theorem Bm_ma {μ : Mm} (h : Bm μ) {a : Nat} (ha : a ≤ 1000) : Bm (ma μ a) := Bm_sM h (show (0 : Int) ≤ (a : Int) ∧ (a : Int) ≤ 1000 by omega)
theorem CelM_ma {μ : Mm} {σ : CS} (h : CelM μ σ) {a : Nat} : CelM (ma μ a) σ := by
  obtain ⟨h1, h2, h3, h4, h5⟩ := h
  refine ⟨fun q hq z => by rw [ma_c (by decide)]; exact h1 q hq z, by rw [ma_j (by decide)]; exact h2, by rw [ma_j (by decide)]; exact h3, fun c hc => by rw [ma_j (by decide)]; exact h4 c hc, by rw [ma_j (by decide)]; exact h5⟩
/-! the reference -/
theorem m_rd0 {t : Nat → Int} {n : Nat} {μ : Mm} (hB : Bm μ) (h : Ta t n μ) : ∃ f ν, X11_readCellar μ = some (f, ν) ∧ Bm ν ∧ (∀ mp ml, fw (WR mp ml) μ ν) ∧ fw (fun k j => wR k j) μ ν ∧ match celS t n with
      | none => f ≠ -1
      | some q => f = -1 ∧ CelM ν q.2.2 ∧ ν 70 18 = (q.1 : Int) ∧ ν 70 19 = (q.2.1 : Int) := by
  obtain ⟨f, μ', a, e, ha, hf, h4, hm⟩ := cellarM h.2.2.2.2.2 hB (Ta_Tm h)
  have h160 := h.1
  refine ⟨f, ma μ' a, e, Bm_ma hf.1 (by omega), fun mp ml => ?_, ?_, ?_⟩
  · exact fw_sM (fun k j hn => hf.2 k j (fun z => hn (by unfold wR at z; unfold WR; omega))) (by unfold WR; omega)
  · exact fw_sM hf.2 (by unfold wR; omega)
  · revert hm
    cases celS t n with
    | none => exact id
    | some q => exact fun hm => ⟨hm.1, CelM_ma hm.2.1, by rw [ma_j (by decide)]; exact hm.2.2.1, by rw [ma_j (by decide)]; exact hm.2.2.2⟩
theorem m_rd1 {t : Nat → Int} {n l : Nat} {μ : Mm} (hB : Bm μ) (h : Ta t n μ) (hl : l ≤ 5) : ∃ f ν, X11_readPlay (l : Int) μ = some (f, ν) ∧ Bm ν ∧ (∀ ml, fw (WR l ml) μ ν) ∧ fw (fun k j => wPl l k j) μ ν ∧ match plS t n with
      | none => f ≠ -1
      | some L => f = -1 ∧ hasM ν l 0 L := by
  obtain ⟨f, μ', a, e, ha, hf, h4, hm⟩ := playM h.2.2.2.2.2 hl hB (Ta_Tm h)
  have h160 := h.1
  refine ⟨f, ma μ' a, e, Bm_ma hf.1 (by omega), fun ml => ?_, ?_, ?_⟩
  · exact fw_sM (fun k j hn => hf.2 k j (fun z => hn (by unfold wPl at z; unfold WR; omega))) (by unfold WR; omega)
  · exact fw_sM hf.2 (by unfold wPl; omega)
  · revert hm
    cases plS t n with
    | none => exact id
    | some L => exact fun hm => ⟨hm.1, by rw [ma_c (by decide)]; exact hm.2.1, fun i hi => by rw [ma_c (by decide), ma_c (by decide)]; exact hm.2.2 i hi⟩
def wLq (q k j : Nat) : Prop := wF2 q 0 0 k j ∨ (k = 70 ∧ j = 14)
theorem rows_ma {μ : Mm} {q a : Nat} {L : List (Cd × Cd)} {g i : Nat} (h : rowsAt μ q g i L) : rowsAt (ma μ a) q g i L :=
  rows_agr (agr_of _ (fun k j h1 h2 => ma_c (by omega) j)) _ _ _ h
theorem m_rd2 {t : Nat → Int} {n q : Nat} {μ : Mm} (hB : Bm μ) (h : Ta t n μ) (hq : q ≤ 4) : ∃ f ν, X11_readLaw (q : Int) μ = some (f, ν) ∧ Bm ν ∧ (∀ mp, fw (WR mp q) μ ν) ∧ fw (wLq q) μ ν ∧ match lawS t n with
      | none => f ≠ -1
      | some L => f = -1 ∧ rowsAt ν q 0 0 L := by
  have hm := rdLawM h.2.2.2.2.2 hq hB (Ta_Tm h)
  have h160 := h.1
  have w1 : ∀ {μ' : Mm} {a : Nat}, fw (wF2 q 0 0) (sM μ 70 14 (q : Int)) μ' → (∀ mp, fw (WR mp q) μ (ma μ' a)) ∧ fw (wLq q) μ (ma μ' a) := by
    intro μ' a hf
    constructor
    · intro mp
      refine fw_sM (fun k j hn => ?_) (by unfold WR; omega)
      rw [hf k j (fun z => hn (by unfold wF2 wKd at z; unfold WR; omega))]
      unfold sM
      rw [if_neg (fun z => hn (by unfold WR; omega))]
    · refine fw_sM (fun k j hn => ?_) (by unfold wLq wF2; omega)
      rw [hf k j (fun z => hn (Or.inl z))]
      unfold sM
      rw [if_neg (fun z => hn (Or.inr z))]
  revert hm
  cases lawS t n with
  | none =>
    rintro ⟨f, μ', a, e, b1, b2, b3, b4⟩
    exact ⟨f, ma μ' a, e, Bm_ma b1 (by omega), (w1 b2).1, (w1 b2).2, b3⟩
  | some L =>
    rintro ⟨μ', a, e, b1, b2, b3, b4⟩
    exact ⟨-1, ma μ' a, e, Bm_ma b1 (by omega), (w1 b2).1, (w1 b2).2, rfl, rows_ma b4⟩
/-! the class -/
theorem fot_S {s f : Int} {μ ν : Mm} (hs : rI s) (hB : Bx μ) (e : X10_faultOfTape s μ = some (f, ν)) : St scr μ ν := by
  have t1 := t_X10_faultOfTape (W := scr) (μs := μ) (hW := fun _ _ h => h) (hp_l1 := hs) (St_rf hB)
  rw [e, wp_some] at t1
  exact t1.1
theorem c_f0 {t : Nat → Int} {n : Nat} {μ : Mm} (h : Ta t n μ) : ∃ f ν, X10_faultOfTape 0 μ = some (f, ν) ∧ (f = -1 ↔ celS t n ≠ none) := by
  obtain ⟨ν', p', f, e, _, _, _, hm⟩ := cellarC (l0 := 13) (by decide) (Ta_Tx h)
  refine ⟨f, cr ν' p' f, ?_, ?_⟩
  · unfold X10_faultOfTape
    rw [open_eq, bd_some, if_pos rfl, e, bd_some]
  · revert hm
    cases celS t n with
    | none => exact fun hm => ⟨fun z => absurd z hm, fun z => absurd rfl z⟩
    | some q => exact fun hm => ⟨fun _ => by simp, fun _ => hm.1⟩
theorem c_f1 {t : Nat → Int} {n : Nat} {μ : Mm} (h : Ta t n μ) : ∃ f ν, X10_faultOfTape 1 μ = some (f, ν) ∧ (f = -1 ↔ plS t n ≠ none) := by
  obtain ⟨ν', p', f, e, _, hm⟩ := playC (l0 := 33) h.2.2.2.2.2 (by decide) (Ta_Tx h)
  refine ⟨f, cr ν' p' f, ?_, ?_⟩
  · unfold X10_faultOfTape
    rw [open_eq, bd_some, if_neg (by decide), if_pos rfl, e, bd_some]
  · revert hm
    cases plS t n with
    | none => exact fun hm => ⟨fun z => absurd z hm, fun z => absurd rfl z⟩
    | some q => exact fun hm => ⟨fun _ => by simp, fun _ => hm.1⟩
theorem envOK {μ : Mm} (h : Bx μ) : eOK (envC (sM μ 3 0 1)) := fun i hi => by
  show -2147483648 ≤ sM μ 3 0 1 4 (i + 1) ∧ sM μ 3 0 1 4 (i + 1) ≤ 2147483647
  rw [sM_a (by decide)]
  have hb := h.1 4 (i + 1) (by decide)
  have hi' : i = 0 ∨ i = 1 ∨ i = 2 ∨ i = 3 ∨ i = 4 := by omega
  rcases hi' with rfl | rfl | rfl | rfl | rfl <;> exact hb
theorem c_f2 {t : Nat → Int} {n : Nat} {μ : Mm} (hB : Bx μ) (h : Ta t n μ) {s : Int} (h0 : s ≠ 0) (h1 : s ≠ 1) : ∃ f ν, X10_faultOfTape s μ = some (f, ν) ∧ (f = -1 ↔ lawS t n ≠ none) := by
  obtain ⟨p', f, e, hm⟩ := checkC (Ta_Tx h) h.2.2.2.2.2 (envOK hB)
  refine ⟨f, cr (sM μ 3 0 1) p' f, ?_, hm⟩
  unfold X10_faultOfTape
  rw [open_eq, bd_some, if_neg h0, if_neg h1, e, bd_some]
theorem Ta_of {μ : Mm} (hI : Inv μ) {t : Nat → Int} {n : Nat} (h1 : μ 1 1 = (n : Int)) (h : ∀ j, j < n → μ 2 j = t j) : Ta t n μ := by
  obtain ⟨k, k1, k2, k3, k4⟩ := hI.2.2.1
  have e : k = n := by omega
  subst e
  exact ⟨k1, k2, k3, h, fun j hj => by rw [← (k4 j hj).1]; exact h j hj, fun j hj => by rw [← h j hj, (k4 j hj).1]; exact (k4 j hj).2⟩
theorem Ta_scr {t : Nat → Int} {n : Nat} {μ ν : Mm} (h : Ta t n μ) (g : St scr μ ν) : Ta t n ν :=
  Ta_c h (g.2 1 1 (by unfold scr; omega)) (fun j => g.2 2 j (by unfold scr; omega)) (g.2 70 2 (by unfold scr; omega)) (fun j => g.2 71 j (by unfold scr; omega))
theorem no_srt {s : Int} {μ : Mm} (h : ¬ (0 ≤ s ∧ s ≤ 2)) : X10_isSort s μ = some (0, μ) := by
  unfold X10_isSort
  by_cases c : s < 0
  · rw [if_pos c]
  · rw [if_neg c, if_pos (by omega)]
theorem is_srt {s : Int} {μ : Mm} (h : 0 ≤ s ∧ s ≤ 2) : X10_isSort s μ = some (1, μ) := by
  unfold X10_isSort
  rw [if_neg (by omega), if_neg (by omega)]
/-- FAULT: both tell something, and what is kept stays -/
theorem d_fault : ∀ a0, rI a0 → sD Inv Inv (X10_fault a0) (X11_fault a0) := by
  intro s hs μ hI
  obtain ⟨n, n1, n2, n3, n4⟩ := id hI.2.2.1
  have hT : Ta (μ 2) n μ := Ta_of hI n2 (fun j _ => rfl)
  have h5 : μ 70 28 ≤ ((5 : Nat) : Int) := (hI.2.1.1 70 28 (by decide)).2
  have h4 : μ 70 13 ≤ ((4 : Nat) : Int) := (hI.2.1.1 70 13 (by decide)).2
  by_cases c : 0 ≤ s ∧ s ≤ 2
  · have step : ∀ f ν, X10_faultOfTape s μ = some (f, ν) → (∃ f2 ξ, X11_fault s ν = some (f2, ξ) ∧ Inv ξ) → ∃ r μ1 r2 μ2, X10_fault s μ = some (r, μ1) ∧ X11_fault s μ1 = some (r2, μ2) ∧ Inv μ2 := by
      rintro f ν e ⟨f2, ξ, e2, h2⟩
      refine ⟨f, ν, f2, ξ, ?_, e2, h2⟩
      unfold X10_fault
      rw [is_srt c, bd_some, if_neg (by decide), e, bd_some]
    by_cases c0 : s = 0
    · obtain ⟨f, ν, e, _⟩ := c_f0 hT
      subst c0
      have g := fot_S hs hI.1 e
      have hI1 := Inv_St hI g
      obtain ⟨f2, ξ, e2, b1, b2, _⟩ := m_rd0 hI1.2.1.1 (Ta_scr hT g)
      refine step f ν e ⟨f2, ξ, ?_, Inv_WR (mp := 5) (ml := 4) hI1 (hI1.2.1.1 70 28 (by decide)).2 (hI1.2.1.1 70 13 (by decide)).2 b1 (b2 5 4)⟩
      unfold X11_fault
      rw [if_pos rfl, e2, bd_some]
    · by_cases c1 : s = 1
      · obtain ⟨f, ν, e, _⟩ := c_f1 hT
        subst c1
        have g := fot_S hs hI.1 e
        have hI1 := Inv_St hI g
        obtain ⟨f2, ξ, e2, b1, b2, _⟩ := m_rd1 hI1.2.1.1 (Ta_scr hT g) (l := 5) (by decide)
        refine step f ν e ⟨f2, ξ, ?_, Inv_WR (mp := 5) (ml := 4) hI1 (hI1.2.1.1 70 28 (by decide)).2 (hI1.2.1.1 70 13 (by decide)).2 b1 (b2 4)⟩
        unfold X11_fault
        have e2' : X11_readPlay 5 ν = some (f2, ξ) := e2
        rw [if_neg (by decide), if_pos rfl, e2', bd_some]
      · obtain ⟨f, ν, e, _⟩ := c_f2 hI.1 hT c0 c1
        have c2 : s = 2 := by omega
        subst c2
        have g := fot_S hs hI.1 e
        have hI1 := Inv_St hI g
        obtain ⟨f2, ξ, e2, b1, b2, _⟩ := m_rd2 hI1.2.1.1 (Ta_scr hT g) (q := 4) (by decide)
        refine step f ν e ⟨f2, ξ, ?_, Inv_WR (mp := 5) (ml := 4) hI1 (hI1.2.1.1 70 28 (by decide)).2 (hI1.2.1.1 70 13 (by decide)).2 b1 (b2 5)⟩
        unfold X11_fault
        have e2' : X11_readLaw 4 ν = some (f2, ξ) := e2
        rw [if_neg (by decide), if_neg (by decide), if_pos rfl, e2', bd_some]
  · have e1 : X10_fault s μ = some (-2, μ) := by
      unfold X10_fault
      rw [no_srt c, bd_some, if_pos rfl]
    have e2 : X11_fault s μ = some (-2, μ) := by
      unfold X11_fault
      rw [if_neg (by omega), if_neg (by omega), if_neg (by omega)]
    exact ⟨_, _, _, _, e1, e2, hI⟩
