/-! WAY, OUT, DEAD -/
/-- the CELLAR l0 of the class is the reference's, place by place -/
def Cp (l0 : Nat) (μ : Mm) : Prop := ∀ p, p < 60 → (isP μ p → μ (l0 + 1) p = μ 82 p) ∧ (¬ isP μ p → μ (l0 + 1) p = -1)
theorem Cp_op {l0 : Nat} {μ : Mm} (hB : Bm μ) (h : Cp l0 μ) (p : Nat) : opC l0 μ p ↔ opM μ p := by
  unfold opC opM
  by_cases hp : p < 60
  · have k := h p hp
    have b : 0 ≤ μ 82 p ∧ μ 82 p ≤ 10 := hB 82 p (by decide)
    by_cases ip : isP μ p
    · rw [k.1 ip]
      exact ⟨fun z => ⟨z.1, ip, z.2.2⟩, fun z => ⟨z.1, by omega, z.2.2⟩⟩
    · rw [k.2 ip]
      exact ⟨fun z => absurd rfl z.2.1, fun z => absurd z.2.1 ip⟩
  · exact ⟨fun z => absurd z.1 hp, fun z => absurd z.1 hp⟩
theorem Kc_Cp {μ : Mm} {s g : Nat} (h : Kc μ 5 82 86 s g) : Cp 5 μ := h.1
theorem Cp_c {l0 : Nat} {μ ν : Mm} (h : Cp l0 μ) (e1 : ∀ j, ν (l0 + 1) j = μ (l0 + 1) j) (e2 : ∀ j, ν 82 j = μ 82 j) (e3 : ν 70 23 = μ 70 23) (e4 : ν 70 24 = μ 70 24) : Cp l0 ν := fun p hp => by
  rw [isP_congr e3 e4 p, e1, e2]; exact h p hp
theorem isO_y {μ : Mm} {p : Nat} (h : opM μ p) : X11_isOpen (p : Int) μ = some (1, μ) := by
  obtain ⟨hp, ip, h1⟩ := h
  unfold X11_isOpen
  rw [isPl_y hp ip, bd_some, if_neg (by decide)]
  unfold ldA
  rw [if_pos (by show (0 : Int) ≤ (p : Int) ∧ (p : Int) < 60; omega), Int.toNat_natCast]
  dsimp only
  rw [if_neg h1]
theorem isO_n {μ : Mm} (hB : Bm μ) {a : Int} (ha : rI a) (h : ∀ p : Nat, a = (p : Int) → ¬ opM μ p) : X11_isOpen a μ = some (0, μ) := by
  unfold X11_isOpen
  by_cases c : ∃ p : Nat, a = (p : Int) ∧ p < 60 ∧ isP μ p
  · obtain ⟨p, rfl, hp, ip⟩ := c
    rw [isPl_y hp ip, bd_some, if_neg (by decide)]
    unfold ldA
    rw [if_pos (by show (0 : Int) ≤ (p : Int) ∧ (p : Int) < 60; omega), Int.toNat_natCast]
    dsimp only
    by_cases c1 : μ 82 p = 1
    · rw [if_pos c1]
    · exact absurd ⟨hp, ip, c1⟩ (h p rfl)
  · rw [isPl_n2 (hB 70 23 (by decide)).2 ha (fun p e z => c ⟨p, e, z.1, z.2⟩), bd_some, if_pos rfl]
theorem fW_scr : ∀ k j, fW k j → scr k j := fun k j h => by unfold fW at h; unfold scr; omega
/-- both measure from the same place: the same number of steps to each -/
theorem both {l0 : Nat} (hk : kD l0 = (10, 9)) {μ : Mm} (hB : Bm μ) (hC : Cp l0 μ) {s : Nat} (hs : opM μ s) {ν0 : Mm} (e : ∀ k j, 70 ≤ k → k ≠ 87 → ν0 k j = μ k j) (hB0 : Bm ν0) : ∃ ν r ξ, X9_measure l0 (s : Int) μ = some (0, ν) ∧ fw fW μ ν ∧ X11_spread (s : Int) ν0 = some (r, ξ) ∧ (∀ c, c ≠ 87 → ξ c = ν0 c) ∧ (∀ j, rI (ξ 87 j)) ∧ ds (opM μ) s (ν 46) ∧ ds (opM μ) s (ξ 87) := by
  obtain ⟨ν, e1, f1, d1⟩ := meaC hk ((Cp_op hB hC s).mpr hs)
  have hs0 : opM ν0 s := by
    unfold opM isP at hs ⊢
    rw [e 70 23 (by decide) (by decide), e 70 24 (by decide) (by decide), e 82 s (by decide) (by decide)]
    exact hs
  obtain ⟨r, ξ, e2, f2, g2, d2⟩ := sprM hB0 hs0
  refine ⟨ν, r, ξ, e1, f1, e2, f2, g2, ds_c (Cp_op hB hC) d1, ds_c (fun p => ?_) d2⟩
  unfold opM isP
  rw [e 70 23 (by decide) (by decide), e 70 24 (by decide) (by decide), e 82 p (by decide) (by decide)]
theorem Bm_fw {μ ν : Mm} (h : Bm μ) (hf : fw fW μ ν) : Bm ν := fun k j hk => by rw [hf k j (by unfold fW; omega)]; exact h k j hk
theorem ds_no {O : Nat → Prop} {s : Nat} (hs : s < 60) {f : Nat → Int} (hd : ds O s f) {p : Nat} (hp : p < 60) (h : f p ≠ -1) : p = s ∨ O p := by
  rcases hd p hp with ⟨h1, _⟩ | ⟨n, _, h2, _⟩
  · exact absurd h1 h
  · cases n with
    | zero => exact Or.inl h2
    | succ n => exact Or.inr h2.1
theorem Sm_87 {ν ξ : Mm} (hB : Bm ν) (f : ∀ c, c ≠ 87 → ξ c = ν c) (g : ∀ j, rI (ξ 87 j)) : Sm ν ξ := by
  refine ⟨fun k j hk => ?_, fun k j hn => by rw [f k (fun z => hn (by unfold scrM; omega))]⟩
  by_cases ck : k = 87
  · rw [ck]; exact g j
  · rw [f k ck]; exact hB k j hk
theorem m_way : ∀ a0, rI a0 → ∀ a1, rI a1 → sI Inv Inv (X10_way a0 a1) (X11_way a0 a1) := by
  intro a ha b hb μ hI
  have hC := Kc_Cp hI.2.2.2.2.2.1
  have hB := hI.2.1.1
  have k5 : kD 5 = (10, 9) := by decide
  by_cases ca : ∃ p : Nat, a = (p : Int) ∧ opM μ p
  · obtain ⟨p, rfl, hop⟩ := ca
    obtain ⟨ν, e1, f1, d1⟩ := meaC k5 ((Cp_op hB hC p).mpr hop)
    have d1 := ds_c (Cp_op hB hC) d1
    have t1 := t_X10_way (W := scr) (μs := μ) (hW := fun _ _ h => h) (hp_l1 := ha) (hp_l2 := hb) (St_rf hI.1)
    by_cases cb : 0 ≤ b ∧ b < 60
    · obtain ⟨q, rfl⟩ : ∃ q : Nat, b = (q : Int) := ⟨b.toNat, by omega⟩
      have hq : q < 60 := by omega
      have r1 : X10_way (p : Int) (q : Int) μ = some (ν 46 q, ν) := by
        unfold X10_way
        rw [e1, bd_some, stp_eq hq, bd_some]
      rw [r1, wp_some] at t1
      have hI1 := Inv_St hI t1.1
      have o : ∀ x, opM ν x ↔ opM μ x := fun x => by
        unfold opM isP
        rw [f1 70 23 (by unfold fW; omega), f1 70 24 (by unfold fW; omega), f1 82 x (by unfold fW; omega)]
      by_cases cq : opM μ q
      · obtain ⟨r, ξ, e2, f2, g2, d2⟩ := sprM hI1.2.1.1 ((o p).mpr hop)
        have d2 := ds_c o d2
        have r2 : X11_way (p : Int) (q : Int) ν = some (ξ 87 q, ξ) := by
          unfold X11_way
          rw [isO_y ((o p).mpr hop), bd_some, if_neg (by decide), isO_y ((o q).mpr cq), bd_some, if_neg (by decide), e2, bd_some]
          unfold ldA
          rw [if_pos (by show (0 : Int) ≤ (q : Int) ∧ (q : Int) < 60; omega), Int.toNat_natCast]
        exact ⟨_, _, _, r1, by rw [r2, ds_u d1 d2 hq], Inv_Sm hI1 (Sm_87 hI1.2.1.1 f2 g2)⟩
      · have nq : ∀ x : Nat, (q : Int) = (x : Int) → ¬ opM ν x := fun x e h => by
          have e2 : x = q := by omega
          rw [e2] at h
          exact cq ((o q).mp h)
        have r2 : X11_way (p : Int) (q : Int) ν = some (-1, ν) := by
          unfold X11_way
          rw [isO_y ((o p).mpr hop), bd_some, if_neg (by decide), isO_n hI1.2.1.1 hb nq, bd_some, if_pos rfl]
        have z : ν 46 q = -1 := Classical.byContradiction (fun n => by
          rcases ds_no hop.1 d1 hq n with h | h
          · rw [h] at cq; exact cq hop
          · exact cq h)
        exact ⟨_, _, _, r1, by rw [r2, z], hI1⟩
    · have r1 : X10_way (p : Int) b μ = some (-1, ν) := by
        unfold X10_way
        rw [e1, bd_some, stp_no cb, bd_some]
      rw [r1, wp_some] at t1
      have hI1 := Inv_St hI t1.1
      have o : ∀ x, opM ν x ↔ opM μ x := fun x => by
        unfold opM isP
        rw [f1 70 23 (by unfold fW; omega), f1 70 24 (by unfold fW; omega), f1 82 x (by unfold fW; omega)]
      have r2 : X11_way (p : Int) b ν = some (-1, ν) := by
        unfold X11_way
        rw [isO_y ((o p).mpr hop), bd_some, if_neg (by decide), isO_n hI1.2.1.1 hb (fun x e h => cb (by have := h.1; omega)), bd_some, if_pos rfl]
      exact ⟨_, _, _, r1, r2, hI1⟩
  · obtain ⟨ν, e1, f1, n1⟩ := meaC_no k5 (a := a) (fun p e h => ca ⟨p, e, (Cp_op hB hC p).mp h⟩)
    have t1 := t_X10_way (W := scr) (μs := μ) (hW := fun _ _ h => h) (hp_l1 := ha) (hp_l2 := hb) (St_rf hI.1)
    have r1 : X10_way a b μ = some (-1, ν) := by
      unfold X10_way
      rw [e1, bd_some]
      by_cases cb : 0 ≤ b ∧ b < 60
      · obtain ⟨q, rfl⟩ : ∃ q : Nat, b = (q : Int) := ⟨b.toNat, by omega⟩
        rw [stp_eq (by omega), bd_some, n1 q (by omega)]
      · rw [stp_no cb, bd_some]
    rw [r1, wp_some] at t1
    have hI1 := Inv_St hI t1.1
    have r2 : X11_way a b ν = some (-1, ν) := by
      unfold X11_way
      rw [isO_n hI1.2.1.1 ha (fun p e h => ca ⟨p, e, by
        unfold opM isP at h ⊢
        rw [f1 70 23 (by unfold fW; omega), f1 70 24 (by unfold fW; omega), f1 82 p (by unfold fW; omega)] at h
        exact h⟩), bd_some, if_pos rfl]
    exact ⟨_, _, _, r1, r2, hI1⟩
theorem opM_fw {μ ν : Mm} (f1 : fw fW μ ν) (x : Nat) : opM ν x ↔ opM μ x := by
  unfold opM isP
  rw [f1 70 23 (by unfold fW; omega), f1 70 24 (by unfold fW; omega), f1 82 x (by unfold fW; omega)]
/-- where START is, to both -/
theorem strt {μ : Mm} (hI : Inv μ) (h : μ 70 23 ≠ 0) : ∃ s : Nat, s < 60 ∧ isP μ s ∧ μ 82 s = 2 ∧ μ 5 3 = (s : Int) := by
  obtain ⟨s, h1, h2, h3⟩ := hI.2.1.2.2.1 h
  exact ⟨s, h1, h2, h3, (hI.2.2.2.2.2.1.2.1 s h1).mp ⟨h2, h3⟩⟩
theorem m_out : ∀ a0, rI a0 → sI Inv Inv (X10_out a0) (X11_out a0) := by
  intro a ha μ hI
  have hC := Kc_Cp hI.2.2.2.2.2.1
  have hB := hI.2.1.1
  have k5 : kD 5 = (10, 9) := by decide
  have t1 := t_X10_out (W := scr) (μs := μ) (hW := fun _ _ h => h) (hp_l1 := ha) (St_rf hI.1)
  obtain ⟨w, e0, hw⟩ := crk hI ha
  rcases hw with ⟨hw1, hw2⟩ | ⟨ha0, ha7, p, hp, ip, ep, ew, _⟩
  · obtain ⟨ν, e1, f1, n1⟩ := meaC_no k5 (μ := μ) (a := -1) (fun p e => absurd e (by omega))
    have r1 : X10_out a μ = some (-1, ν) := by
      unfold X10_out
      rw [e0, hw1, bd_some, e1, bd_some]
      by_cases cb : 0 ≤ ν 5 3 ∧ ν 5 3 < 60
      · obtain ⟨q, hq⟩ : ∃ q : Nat, ν 5 3 = (q : Int) := ⟨(ν 5 3).toNat, by omega⟩
        rw [hq, stp_eq (by omega), bd_some, n1 q (by omega)]
      · rw [stp_no cb, bd_some]
    rw [r1, wp_some] at t1
    have hI1 := Inv_St hI t1.1
    have r2 : X11_out a ν = some (-1, ν) := by
      unfold X11_out
      have hc := crk_m (μ := μ) (ν := ν) (fun k j hk => f1 k j (by unfold fW; omega)) ha (Or.inl ⟨hw1, hw2⟩)
      rw [hc, bd_some, if_pos (by rw [if_pos hw1])]
    exact ⟨_, _, _, r1, r2, hI1⟩
  · have hop : opM μ p := ⟨hp, ip, by omega⟩
    obtain ⟨ν, e1, f1, d1⟩ := meaC k5 ((Cp_op hB hC p).mpr hop)
    have d1 := ds_c (Cp_op hB hC) d1
    obtain ⟨s, s1, s2, s3, s4⟩ := strt hI (by have := ip.1; omega)
    have r1 : X10_out a μ = some (ν 46 s, ν) := by
      unfold X10_out
      rw [e0, ew, bd_some, e1, bd_some, f1 5 3 (by unfold fW; omega), s4, stp_eq s1, bd_some]
    rw [r1, wp_some] at t1
    have hI1 := Inv_St hI t1.1
    obtain ⟨r, ξ, e2, f2, g2, d2⟩ := sprM hI1.2.1.1 ((opM_fw f1 p).mpr hop)
    have d2 := ds_c (opM_fw f1) d2
    have i : ∀ x, isP ν x ↔ isP μ x := isP_congr (f1 70 23 (by unfold fW; omega)) (f1 70 24 (by unfold fW; omega))
    have u82 : ∀ x, ν 82 x = μ 82 x := fun x => f1 82 x (by unfold fW; omega)
    have hc := crk_m (μ := μ) (ν := ν) (fun k j hk => f1 k j (by unfold fW; omega)) ha (Or.inr ⟨ha0, ha7, p, hp, ip, ep, ew, by
      have := (hI.2.2.2.2.2.1.2.2.1 a.toNat (by omega) p hp).mp ⟨ip, by rw [ep]; omega⟩
      exact this⟩)
    have hU2 : UQ ξ 82 := UQ_congr hI1.2.1.2.2.2.2.2.2.1 (by rw [f2 70 (by decide)]) (by rw [f2 70 (by decide)]) (fun x => by rw [f2 82 (by decide)])
    have r2 : X11_out a ν = some (ξ 87 s, ξ) := by
      unfold X11_out
      rw [hc, bd_some, if_neg (by rw [if_neg (by omega)]; decide), iA_id (by omega) (by omega), plc_at hI1.2.1.2.2.2.2.2.2.1 hp ((i p).mpr ip) (by rw [u82]; exact ep) (by omega), bd_some, e2, bd_some, plc_at hU2 s1 ((isP_congr (by rw [f2 70 (by decide)]) (by rw [f2 70 (by decide)]) s).mpr ((i s).mpr s2)) (by rw [f2 82 (by decide), u82]; exact s3) (by decide), bd_some]
      unfold ldA
      rw [if_pos (by show (0 : Int) ≤ (s : Int) ∧ (s : Int) < 60; omega), Int.toNat_natCast]
    exact ⟨_, _, _, r1, by rw [r2, ds_u d1 d2 s1], Inv_Sm hI1 (Sm_87 hI1.2.1.1 f2 g2)⟩
/-- how many open places ahead of k can't be come to -/
def dc (c f : Nat → Int) : Nat → Int
  | 0 => 0
  | k + 1 => dc c f k + (if c k = -1 then 0 else if c k = 1 then 0 else if f k = -1 then 1 else 0)
theorem dc_b {c f : Nat → Int} : ∀ k : Nat, 0 ≤ dc c f k ∧ dc c f k ≤ (k : Int) := by
  intro k
  induction k with
  | zero => exact ⟨Int.le_refl _, Int.le_refl _⟩
  | succ k ih =>
    show 0 ≤ dc c f k + (if c k = -1 then 0 else if c k = 1 then 0 else if f k = -1 then 1 else 0) ∧ dc c f k + (if c k = -1 then 0 else if c k = 1 then 0 else if f k = -1 then 1 else 0) ≤ ((k + 1 : Nat) : Int)
    split
    · omega
    · split
      · omega
      · split <;> omega
theorem deadC_L {ν : Mm} : ∀ (d i fuel : Nat), i + d = 60 → d < fuel → X10_dead_L34 fuel (dc (ν 6) (ν 46) i) (i : Int) ν = some (dc (ν 6) (ν 46) 60, ν) := by
  intro d
  induction d with
  | zero =>
    intro i fuel hi hf
    obtain ⟨g, rfl, _⟩ := lt_fuel hf
    show (if 60 ≤ (i : Int) then _ else _) = _
    rw [if_pos (by omega)]
    have : i = 60 := by omega
    rw [this]
  | succ d ih =>
    intro i fuel hi hf
    obtain ⟨g, rfl, _⟩ := lt_fuel hf
    have hb := dc_b (c := ν 6) (f := ν 46) i
    have e1 : iA (dc (ν 6) (ν 46) i) 1 = dc (ν 6) (ν 46) i + 1 := iA_id (by omega) (by omega)
    have hn := ih (i + 1) g (by omega) (by omega)
    have es : dc (ν 6) (ν 46) (i + 1) = dc (ν 6) (ν 46) i + (if ν 6 i = -1 then 0 else if ν 6 i = 1 then 0 else if ν 46 i = -1 then 1 else 0) := rfl
    rw [es] at hn
    have z : dc (ν 6) (ν 46) i + 0 = dc (ν 6) (ν 46) i := by omega
    show (if 60 ≤ (i : Int) then _ else _) = _
    rw [if_neg (by omega)]
    by_cases c : opC 5 ν i
    · have c6 : ν 6 i ≠ -1 := c.2.1
      have c7 : ν 6 i ≠ 1 := c.2.2
      rw [opC_y (by decide) c, bd_some, if_neg (by decide), stp_eq (by omega), bd_some, iA_nat (by omega)]
      rw [if_neg c6, if_neg c7] at hn
      by_cases c8 : ν 46 i = -1
      · rw [if_pos c8] at hn ⊢
        rw [e1]; exact hn
      · rw [if_neg c8] at hn ⊢
        rw [z] at hn; exact hn
    · have nc : ∀ p : Nat, (i : Int) = (p : Int) → ¬ opC 5 ν p := fun p e h => by
        have e2 : p = i := by omega
        rw [e2] at h
        exact c h
      rw [opC_n (by decide) nc, bd_some, if_pos rfl, iA_nat (by omega)]
      by_cases c6 : ν 6 i = -1
      · rw [if_pos c6, z] at hn; exact hn
      · rw [if_neg c6] at hn
        by_cases c7 : ν 6 i = 1
        · rw [if_pos c7, z] at hn; exact hn
        · exact absurd ⟨by omega, c6, c7⟩ c
theorem deadM_L {ξ : Mm} (hB : Bm ξ) {c f : Nat → Int} (hC : ∀ p, p < 60 → (isP ξ p → c p = ξ 82 p) ∧ (¬ isP ξ p → c p = -1)) (hf' : ∀ p, p < 60 → f p = ξ 87 p) : ∀ (d i fuel : Nat), i + d = 60 → d < fuel → X11_dead_L22 fuel (dc c f i) (i : Int) ξ = some (dc c f 60, ξ) := by
  intro d
  induction d with
  | zero =>
    intro i fuel hi hf
    obtain ⟨g, rfl, _⟩ := lt_fuel hf
    show (if 60 ≤ (i : Int) then _ else _) = _
    rw [if_pos (by omega)]
    have : i = 60 := by omega
    rw [this]
  | succ d ih =>
    intro i fuel hi hf
    obtain ⟨g, rfl, _⟩ := lt_fuel hf
    have hb := dc_b (c := c) (f := f) i
    have e0 : iA (dc c f i) 0 = dc c f i := by rw [iA_id (by omega) (by omega)]; omega
    have e1 : iA (dc c f i) 1 = dc c f i + 1 := iA_id (by omega) (by omega)
    have hn := ih (i + 1) g (by omega) (by omega)
    have es : dc c f (i + 1) = dc c f i + (if c i = -1 then 0 else if c i = 1 then 0 else if f i = -1 then 1 else 0) := rfl
    rw [es] at hn
    have z : dc c f i + 0 = dc c f i := by omega
    have hi6 : i < 60 := by omega
    have k := hC i hi6
    have b82 : 0 ≤ ξ 82 i ∧ ξ 82 i ≤ 10 := hB 82 i (by decide)
    show (if 60 ≤ (i : Int) then _ else _) = _
    rw [if_neg (by omega)]
    by_cases co : opM ξ i
    · rw [isO_y co, bd_some, if_neg (by decide)]
      unfold ldA
      rw [if_pos (by show (0 : Int) ≤ (i : Int) ∧ (i : Int) < 60; omega), Int.toNat_natCast]
      dsimp only
      rw [iA_nat (by omega), e0, e1, ← hf' i hi6]
      rw [k.1 co.2.1, if_neg (by omega), if_neg co.2.2] at hn
      by_cases c8 : f i = -1
      · rw [if_pos c8] at hn ⊢; exact hn
      · rw [if_neg c8] at hn ⊢; rw [z] at hn; exact hn
    · have nc : ∀ p : Nat, (i : Int) = (p : Int) → ¬ opM ξ p := fun p e h => by
        have e2 : p = i := by omega
        rw [e2] at h
        exact co h
      rw [isO_n hB ⟨by omega, by omega⟩ nc, bd_some, if_pos rfl, iA_nat (by omega), e0]
      by_cases ip : isP ξ i
      · rw [k.1 ip, if_neg (by omega)] at hn
        by_cases c7 : ξ 82 i = 1
        · rw [if_pos c7, z] at hn; exact hn
        · exact absurd ⟨hi6, ip, c7⟩ co
      · rw [k.2 ip, if_pos rfl, z] at hn; exact hn
theorem m_dead : sI Inv Inv X10_dead X11_dead := by
  intro μ hI
  have hC := Kc_Cp hI.2.2.2.2.2.1
  have hB := hI.2.1.1
  have k5 : kD 5 = (10, 9) := by decide
  have t1 := t_X10_dead (W := scr) (μs := μ) (hW := fun _ _ h => h) (St_rf hI.1)
  have hs := stands_5 hI
  by_cases c : μ 70 23 = 0
  · rw [if_pos c] at hs
    have e1 : X10_dead μ = some (-1, μ) := by
      unfold X10_dead
      rw [hs, bd_some, if_pos rfl]
    have e2 : X11_dead μ = some (-1, μ) := by
      unfold X11_dead
      rw [if_pos c]
    exact ⟨_, _, _, e1, e2, hI⟩
  · rw [if_neg c] at hs
    obtain ⟨s, s1, s2, s3, s4⟩ := strt hI c
    have hop : opM μ s := ⟨s1, s2, by omega⟩
    obtain ⟨ν, e1, f1, d1⟩ := meaC k5 ((Cp_op hB hC s).mpr hop)
    have d1 := ds_c (Cp_op hB hC) d1
    have r1 : X10_dead μ = some (dc (ν 6) (ν 46) 60, ν) := by
      unfold X10_dead
      rw [hs, bd_some, if_neg (by decide), s4, e1, bd_some]
      exact deadC_L 60 0 FU rfl (by decide)
    rw [r1, wp_some] at t1
    have hI1 := Inv_St hI t1.1
    obtain ⟨r, ξ, e2, f2, g2, d2⟩ := sprM hI1.2.1.1 ((opM_fw f1 s).mpr hop)
    have d2 := ds_c (opM_fw f1) d2
    have i : ∀ x, isP ν x ↔ isP μ x := isP_congr (f1 70 23 (by unfold fW; omega)) (f1 70 24 (by unfold fW; omega))
    have hBx : Bm ξ := fun k j hk => by
      by_cases ck : k = 87
      · rw [ck]; exact g2 j
      · rw [f2 k ck]; exact hI1.2.1.1 k j hk
    have r2 : X11_dead ν = some (dc (ν 6) (ν 46) 60, ξ) := by
      unfold X11_dead
      rw [if_neg (by rw [f1 70 23 (by unfold fW; omega)]; exact c), plc_at hI1.2.1.2.2.2.2.2.2.1 s1 ((i s).mpr s2) (by rw [f1 82 s (by unfold fW; omega)]; exact s3) (by decide), bd_some, e2, bd_some]
      refine deadM_L hBx (fun p hp => ?_) (fun p hp => ds_u d1 d2 hp) 60 0 FU rfl (by decide)
      rw [isP_congr (by rw [f2 70 (by decide)]) (by rw [f2 70 (by decide)]) p, f2 82 (by decide)]
      exact (Cp_c hC (fun j => f1 6 j (by unfold fW; omega)) (fun j => f1 82 j (by unfold fW; omega)) (f1 70 23 (by unfold fW; omega)) (f1 70 24 (by unfold fW; omega))) p hp
    exact ⟨_, _, _, r1, r2, Inv_Sm hI1 (Sm_87 hI1.2.1.1 f2 g2)⟩
