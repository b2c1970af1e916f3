/-! an IMAGE, and BACK to it -/
theorem cA_o {μ : Mm} {a b : Nat} {n : Int} {k : Nat} (h : k ≠ b) (j : Nat) : cA_ μ a b n k j = μ k j := by
  unfold cA_; rw [if_neg (fun c => h c.1)]
theorem cA_i {μ : Mm} {a b : Nat} {n : Int} {j : Nat} (h : (j : Int) < n) : cA_ μ a b n b j = μ a j := by
  unfold cA_; rw [if_pos ⟨rfl, h⟩]
theorem cA_e {μ : Mm} {a b : Nat} {n : Int} {j : Nat} (h : ¬ (j : Int) < n) : cA_ μ a b n b j = μ b j := by
  unfold cA_; rw [if_neg (fun c => h c.2)]
theorem cA_0 (μ : Mm) (a b : Nat) : cA_ μ a b 0 = μ := by
  funext k j
  unfold cA_
  rw [if_neg (by omega)]
theorem cA_s {μ : Mm} {a b i : Nat} (h : a ≠ b) : sM (cA_ μ a b (i : Int)) b i (cA_ μ a b (i : Int) a i) = cA_ μ a b ((i + 1 : Nat) : Int) := by
  funext k j
  rw [cA_o h]
  unfold sM cA_
  by_cases c1 : k = b
  · by_cases c2 : j = i
    · rw [if_pos ⟨c1, c2⟩, if_pos ⟨c1, by omega⟩, c2]
    · rw [if_neg (fun z => c2 z.2)]
      by_cases c3 : j < i
      · rw [if_pos ⟨c1, by omega⟩, if_pos ⟨c1, by omega⟩]
      · rw [if_neg (by omega), if_neg (by omega)]
  · rw [if_neg (fun z => c1 z.1), if_neg (fun z => c1 z.1), if_neg (fun z => c1 z.1)]
/-- a loop that copies one array into another -/
theorem cp_L {a b N : Nat} {K : Mm → Rs} {L : Nat → Int → Mm → Rs} (hab : a ≠ b) (ha : N ≤ aN a) (hb : N ≤ aN b) (hN : N ≤ 1000) (hL : ∀ n l μ, L (n + 1) l μ = if (N : Int) ≤ l then K μ else (ldA μ a l fun v => stA μ b l v fun μ' => L n (iA l 1) μ')) (μ : Mm) : ∀ (d i fuel : Nat), i + d = N → d < fuel → L fuel (i : Int) (cA_ μ a b (i : Int)) = K (cA_ μ a b (N : Int)) := by
  intro d
  induction d with
  | zero =>
    intro i fuel hi hf
    obtain ⟨f, rfl, _⟩ := lt_fuel hf
    rw [hL, if_pos (by omega)]
    have : i = N := by omega
    rw [this]
  | succ d ih =>
    intro i fuel hi hf
    obtain ⟨f, rfl, _⟩ := lt_fuel hf
    rw [hL, if_neg (by omega)]
    unfold ldA stA
    rw [if_pos (by omega)]
    dsimp only
    rw [if_pos (by omega), Int.toNat_natCast, cA_s hab, iA_nat (by omega)]
    exact ih (i + 1) f (by omega) (by omega)
theorem img60 (K : Mm → Rs) (μ : Mm) : X11_image_L11 K FU 0 μ = K (cA_ μ 82 96 60) := by
  have h := cp_L (a := 82) (b := 96) (N := 60) (K := K) (L := X11_image_L11 K) (by decide) (by decide) (by decide) (by decide) (fun n l μ => rfl) μ 60 0 FU rfl (by decide)
  have h0 : cA_ μ 82 96 ((0 : Nat) : Int) = μ := cA_0 μ 82 96
  rw [h0] at h
  exact h
theorem img8 (K : Mm → Rs) (μ : Mm) : X11_image_L37 K FU 0 μ = K (cA_ μ 86 97 8) := by
  have h := cp_L (a := 86) (b := 97) (N := 8) (K := K) (L := X11_image_L37 K) (by decide) (by decide) (by decide) (by decide) (fun n l μ => rfl) μ 8 0 FU rfl (by decide)
  have h0 : cA_ μ 86 97 ((0 : Nat) : Int) = μ := cA_0 μ 86 97
  rw [h0] at h
  exact h
theorem bck60 (K : Mm → Rs) (μ : Mm) : X11_back_L11 K FU 0 μ = K (cA_ μ 96 82 60) := by
  have h := cp_L (a := 96) (b := 82) (N := 60) (K := K) (L := X11_back_L11 K) (by decide) (by decide) (by decide) (by decide) (fun n l μ => rfl) μ 60 0 FU rfl (by decide)
  have h0 : cA_ μ 96 82 ((0 : Nat) : Int) = μ := cA_0 μ 96 82
  rw [h0] at h
  exact h
theorem bck8 (K : Mm → Rs) (μ : Mm) : X11_back_L37 K FU 0 μ = K (cA_ μ 97 86 8) := by
  have h := cp_L (a := 97) (b := 86) (N := 8) (K := K) (L := X11_back_L37 K) (by decide) (by decide) (by decide) (by decide) (fun n l μ => rfl) μ 8 0 FU rfl (by decide)
  have h0 : cA_ μ 97 86 ((0 : Nat) : Int) = μ := cA_0 μ 97 86
  rw [h0] at h
  exact h
/-- POSTS counted -/
theorem posts_L {μ : Mm} {f : Nat → Int} (h : ∀ p, p < 60 → (isP μ p → f p = μ 82 p) ∧ (¬ isP μ p → f p = -1)) : ∀ (d i fuel : Nat), i + d = 60 → d < fuel → X11_posts_L4 fuel (cnt is1 f i) (i : Int) μ = some (cnt is1 f 60, μ) := by
  intro d
  induction d with
  | zero =>
    intro i fuel hi hf
    obtain ⟨g, rfl, _⟩ := lt_fuel hf
    show (if 60 ≤ (i : Int) then _ else _) = _
    rw [if_pos (by omega)]
    have : i = 60 := by omega
    rw [this]
  | succ d ih =>
    intro i fuel hi hf
    obtain ⟨g, rfl, _⟩ := lt_fuel hf
    have hb := cnt_b (P := is1) (f := f) i
    have e0 : iA (cnt is1 f i) 0 = cnt is1 f i := by rw [iA_id (by omega) (by omega)]; omega
    have e1 : iA (cnt is1 f i) 1 = cnt is1 f i + 1 := iA_id (by omega) (by omega)
    have es : cnt is1 f (i + 1) = cnt is1 f i + (if is1 (f i) then 1 else 0) := rfl
    have hn := ih (i + 1) g (by omega) (by omega)
    rw [es] at hn
    show (if 60 ≤ (i : Int) then _ else _) = _
    rw [if_neg (by omega)]
    by_cases ip : isP μ i
    · rw [isPl_y (by omega) ip, bd_some, if_neg (by decide)]
      unfold ldA
      rw [if_pos (by show (0 : Int) ≤ (i : Int) ∧ (i : Int) < 60; omega), Int.toNat_natCast, iA_nat (by omega), e0, e1]
      have hf := (h i (by omega)).1 ip
      rw [hf] at hn
      dsimp only
      by_cases c : μ 82 i = 1
      · rw [if_pos c]
        rw [c, if_pos (by decide)] at hn
        exact hn
      · rw [if_neg c]
        rw [is1_n c, if_neg (by decide)] at hn
        have z : cnt is1 f i + 0 = cnt is1 f i := by omega
        rw [z] at hn
        exact hn
    · rw [isPl_n (by omega) ip, bd_some, if_pos rfl, e0, iA_nat (by omega)]
      have hf := (h i (by omega)).2 ip
      rw [hf, if_neg (by decide)] at hn
      have z : cnt is1 f i + 0 = cnt is1 f i := by omega
      rw [z] at hn
      exact hn
theorem posts_eq {μ : Mm} {f : Nat → Int} (h : ∀ p, p < 60 → (isP μ p → f p = μ 82 p) ∧ (¬ isP μ p → f p = -1)) : X11_posts μ = some (cnt is1 f 60, μ) :=
  posts_L h 60 0 FU rfl (by decide)
/-- a CELLAR of one place told in another -/
theorem Kc_mv {μ ν : Mm} {l0 A W s g l1 A1 W1 s1 g1 : Nat} (h : Kc μ l0 A W s g) (e0 : ∀ j, 3 ≤ j → j ≤ 8 → ν l1 j = μ l0 j) (e1 : ∀ j, j < 60 → ν (l1 + 1) j = μ (l0 + 1) j) (e2 : ∀ j, j < 8 → ν (l1 + 2) j = μ (l0 + 2) j) (e3 : ∀ j, j < 8 → ν (l1 + 3) j = μ (l0 + 3) j) (eA : ∀ j, j < 60 → ν A1 j = μ A j) (eW : ∀ j, j < 8 → ν W1 j = μ W j) (es : ν 70 s1 = μ 70 s) (eg : ν 70 g1 = μ 70 g) (e23 : ν 70 23 = μ 70 23) (e24 : ν 70 24 = μ 70 24) : Kc ν l1 A1 W1 s1 g1 := by
  obtain ⟨h1, h2, h3, h4, h5, h6, h7, h8, h9, h10⟩ := h
  have i : ∀ p, isP ν p ↔ isP μ p := isP_congr e23 e24
  refine ⟨fun p hp => ?_, fun p hp => ?_, fun c hc p hp => ?_, fun c hc => by rw [e2 c hc]; exact h4 c hc, by rw [e0 4 (by decide) (by decide), e23]; exact h5, ?_, ?_, by rw [e0 7 (by decide) (by decide), es]; exact h8, by rw [e0 8 (by decide) (by decide), eg]; exact h9, fun z c hc => by rw [e3 c hc, eW c hc]; rw [e23] at z; exact h10 z c hc⟩
  · rw [i p, e1 p hp, eA p hp]; exact h1 p hp
  · rw [i p, eA p hp, e0 3 (by decide) (by decide)]; exact h2 p hp
  · rw [i p, eA p hp, e2 c hc]; exact h3 c hc p hp
  · rw [e0 5 (by decide) (by decide), h6]; exact (cnt_congr 8 (fun j hj => e2 j hj)).symm
  · rw [e0 6 (by decide) (by decide), h7]; exact (cnt_congr 60 (fun j hj => e1 j hj)).symm
theorem Ir_img {μ ν : Mm} (hI : Ir μ) (hB : Bm ν) (e : ∀ k j, perI k j → k ≠ 96 → ¬ (k = 70 ∧ j = 53) → ν k j = μ k j) (hU : UQ ν 96) (hS : ∃ p, p < 60 ∧ isP ν p ∧ ν 96 p = 2) : Ir ν := by
  have s : ∀ j, (j = 13 ∨ j = 23 ∨ j = 24 ∨ j = 28 ∨ j = 32) → ν 70 j = μ 70 j := fun j hj => e 70 j (by unfold perI; omega) (by decide) (by omega)
  have e23 := s 23 (by decide)
  have e24 := s 24 (by decide)
  obtain ⟨_, h2, h3, h4, h5, h6, h7, h8⟩ := hI
  refine ⟨hB, fun p k hp hk => ?_, fun h => ?_, fun _ => hS, ?_, fun q hq1 hq2 => ?_, UQ_congr h7 e23 e24 (fun p => e 82 p (by unfold perI; omega) (by decide) (by omega)), fun _ => hU⟩
  · rw [s 28 (by decide)] at hp
    rw [e 85 p (by unfold perI; omega) (by decide) (by omega)] at hk
    rw [e 83 _ (by unfold perI; omega) (by decide) (by omega)]
    exact h2 p k hp hk
  · rw [e23] at h
    obtain ⟨p, hp, ip, hp2⟩ := h3 h
    exact ⟨p, hp, (isP_congr e23 e24 p).mpr ip, by rw [e 82 p (by unfold perI; omega) (by decide) (by omega)]; exact hp2⟩
  · rw [s 32 (by decide), s 13 (by decide)]; exact h5
  · rw [s 13 (by decide)] at hq2
    exact LawOK_congr (h6 q hq1 hq2) (agr_of q (fun k j h1 h2 => e k j (by unfold perI; omega) (by omega) (by omega)))
theorem UQ_mv {μ ν : Mm} {c d : Nat} (h : UQ μ c) (h1 : ν 70 23 = μ 70 23) (h2 : ν 70 24 = μ 70 24) (hc : ∀ p, p < 60 → ν d p = μ c p) : UQ ν d := by
  intro p q hp hq ip iq e2 e3
  rw [hc p hp, hc q hq] at e2
  rw [hc p hp] at e3
  exact h p q hp hq ((isP_congr h1 h2 p).mp ip) ((isP_congr h1 h2 q).mp iq) e2 e3
/-- the class's copy of a CELLAR -/
def cpC (l0 l1 : Nat) (μ : Mm) : Mm := sM (sM (sM (sM (sM (sM (cA_ (cA_ (cA_ μ (l1 + 1) (l0 + 1) 60) (l1 + 2) (l0 + 2) 8) (l1 + 3) (l0 + 3) 8) l0 3 (μ l1 3)) l0 4 (μ l1 4)) l0 5 (μ l1 5)) l0 6 (μ l1 6)) l0 7 (μ l1 7)) l0 8 (μ l1 8)
theorem cpC_eq (μ : Mm) : X0_copy 9 5 μ = some (0, cpC 9 5 μ) ∧ X0_copy 5 9 μ = some (0, cpC 5 9 μ) := by
  constructor
  · unfold X0_copy cpC cpA sF
    rw [if_pos (by decide)]
    dsimp only
    rw [if_pos (by decide)]
    rw [if_pos (by decide)]
    simp only [sM_a (show (5 : Nat) ≠ 9 by decide), cA_o (show (5 : Nat) ≠ 12 by decide), cA_o (show (5 : Nat) ≠ 11 by decide), cA_o (show (5 : Nat) ≠ 10 by decide)]
  · unfold X0_copy cpC cpA sF
    rw [if_pos (by decide)]
    dsimp only
    rw [if_pos (by decide)]
    rw [if_pos (by decide)]
    simp only [sM_a (show (9 : Nat) ≠ 5 by decide), cA_o (show (9 : Nat) ≠ 8 by decide), cA_o (show (9 : Nat) ≠ 7 by decide), cA_o (show (9 : Nat) ≠ 6 by decide)]
theorem cpC_o {l0 l1 : Nat} {μ : Mm} {k : Nat} (h : k < l0 ∨ l0 + 3 < k) (j : Nat) : cpC l0 l1 μ k j = μ k j := by
  unfold cpC
  rw [sM_a (by omega), sM_a (by omega), sM_a (by omega), sM_a (by omega), sM_a (by omega), sM_a (by omega), cA_o (by omega), cA_o (by omega), cA_o (by omega)]
theorem cpC_h {l0 l1 : Nat} {μ : Mm} (hl : l0 + 3 < l1 ∨ l1 + 3 < l0) : (∀ j, 3 ≤ j → j ≤ 8 → cpC l0 l1 μ l0 j = μ l1 j) ∧ (∀ j, j < 60 → cpC l0 l1 μ (l0 + 1) j = μ (l1 + 1) j) ∧ (∀ j, j < 8 → cpC l0 l1 μ (l0 + 2) j = μ (l1 + 2) j) ∧ (∀ j, j < 8 → cpC l0 l1 μ (l0 + 3) j = μ (l1 + 3) j) := by
  refine ⟨fun j h1 h2 => ?_, fun j h => ?_, fun j h => ?_, fun j h => ?_⟩
  · unfold cpC
    have hj : j = 3 ∨ j = 4 ∨ j = 5 ∨ j = 6 ∨ j = 7 ∨ j = 8 := by omega
    rcases hj with rfl | rfl | rfl | rfl | rfl | rfl
    · rw [sM_j (by decide), sM_j (by decide), sM_j (by decide), sM_j (by decide), sM_j (by decide), sM_s]
    · rw [sM_j (by decide), sM_j (by decide), sM_j (by decide), sM_j (by decide), sM_s]
    · rw [sM_j (by decide), sM_j (by decide), sM_j (by decide), sM_s]
    · rw [sM_j (by decide), sM_j (by decide), sM_s]
    · rw [sM_j (by decide), sM_s]
    · rw [sM_s]
  · unfold cpC
    rw [sM_a (by omega), sM_a (by omega), sM_a (by omega), sM_a (by omega), sM_a (by omega), sM_a (by omega), cA_o (by omega), cA_o (by omega), cA_i (by omega)]
  · unfold cpC
    rw [sM_a (by omega), sM_a (by omega), sM_a (by omega), sM_a (by omega), sM_a (by omega), sM_a (by omega), cA_o (by omega), cA_i (by omega), cA_o (by omega)]
  · unfold cpC
    rw [sM_a (by omega), sM_a (by omega), sM_a (by omega), sM_a (by omega), sM_a (by omega), sM_a (by omega), cA_i (by omega), cA_o (by omega), cA_o (by omega)]
def WI (k j : Nat) : Prop := (9 ≤ k ∧ k ≤ 12) ∨ k = 96 ∨ k = 97 ∨ (k = 70 ∧ (j = 51 ∨ j = 52 ∨ j = 53))
/-- the reference's IMAGE -/
def imM (μ : Mm) : Mm := sM (sM (sM (cA_ (cA_ μ 82 96 60) 86 97 8) 70 51 (μ 70 30)) 70 52 (μ 70 31)) 70 53 1
theorem imM_o {μ : Mm} {k j : Nat} (h : k ≠ 96) (h2 : k ≠ 97) (h3 : ¬ (k = 70 ∧ (j = 51 ∨ j = 52 ∨ j = 53))) : imM μ k j = μ k j := by
  unfold imM
  by_cases c : k = 70
  · subst c
    rw [sM_j (by omega), sM_j (by omega), sM_j (by omega), cA_o (by decide), cA_o (by decide)]
  · rw [sM_a c, sM_a c, sM_a c, cA_o h2, cA_o h]
theorem imM_h {μ : Mm} : imM μ 70 51 = μ 70 30 ∧ imM μ 70 52 = μ 70 31 ∧ imM μ 70 53 = 1 ∧ (∀ j, j < 60 → imM μ 96 j = μ 82 j) ∧ (∀ j, j < 8 → imM μ 97 j = μ 86 j) := by
  unfold imM
  refine ⟨?_, ?_, ?_, fun j h => ?_, fun j h => ?_⟩
  · rw [sM_j (by decide), sM_j (by decide), sM_s]
  · rw [sM_j (by decide), sM_s]
  · rw [sM_s]
  · rw [sM_a (by decide), sM_a (by decide), sM_a (by decide), cA_o (by decide), cA_i (by omega)]
  · rw [sM_a (by decide), sM_a (by decide), sM_a (by decide), cA_i (by omega), cA_o (by decide)]
theorem Bm_cA {μ : Mm} (h : Bm μ) {a b : Nat} {n : Int} (ha : 70 ≤ a) (hab : ∀ j, bm a j = bm b j) : Bm (cA_ μ a b n) := fun k j hk => by
  unfold cA_
  by_cases c : k = b ∧ (j : Int) < n
  · rw [if_pos c, c.1, ← hab]; exact h a j ha
  · rw [if_neg c]; exact h k j hk
theorem imM_B {μ : Mm} (h : Bm μ) : Bm (imM μ) := by
  unfold imM
  have h1 : Bm (cA_ (cA_ μ 82 96 60) 86 97 8) := Bm_cA (a := 86) (b := 97) (Bm_cA (a := 82) (b := 96) h (by decide) (fun j => rfl)) (by decide) (fun j => rfl)
  have h30 : 1 ≤ μ 70 30 ∧ μ 70 30 ≤ 9 := h 70 30 (by decide)
  exact Bm_sM (Bm_sM (Bm_sM h1 (show (0 : Int) ≤ μ 70 30 ∧ μ 70 30 ≤ 9 by omega)) (show (0 : Int) ≤ μ 70 31 ∧ μ 70 31 ≤ 99 from h 70 31 (by decide))) (show (0 : Int) ≤ 1 ∧ (1 : Int) ≤ 1 by decide)
theorem imM_eq {μ : Mm} (h0 : μ 70 23 ≠ 0) {r : Int} (hp : X11_posts (imM μ) = some (r, imM μ)) : X11_image μ = some (r, imM μ) := by
  unfold X11_image
  rw [if_neg h0, img60, img8]
  unfold sF sZ
  dsimp only
  rw [if_pos (Or.inr rfl)]
  have e : sM (sM (sM (cA_ (cA_ μ 82 96 60) 86 97 8) 70 51 (cA_ (cA_ μ 82 96 60) 86 97 8 70 30)) 70 52 (sM (cA_ (cA_ μ 82 96 60) 86 97 8) 70 51 (cA_ (cA_ μ 82 96 60) 86 97 8 70 30) 70 31)) 70 53 1 = imM μ := by
    unfold imM
    rw [sM_j (by decide), cA_o (by decide), cA_o (by decide), cA_o (by decide), cA_o (by decide)]
  rw [e, hp, bd_some]
theorem m_image : sI Inv Inv X10_image X11_image := by
  intro μ hI
  have t1 := t_X10_image (W := W70) (μs := μ) scr_70 (fun k j h => h) (St_rf hI.1)
  have hs := stands_5 hI
  by_cases c : μ 70 23 = 0
  · rw [if_pos c] at hs
    have e1 : X10_image μ = some (-1, μ) := by
      unfold X10_image
      rw [hs, bd_some, if_pos rfl]
    have e2 : X11_image μ = some (-1, μ) := by
      unfold X11_image
      rw [if_pos c]
    exact ⟨_, _, _, e1, e2, hI⟩
  · rw [if_neg c] at hs
    have hK := hI.2.2.2.2.2.1
    have e1 : X10_image μ = some (μ 5 6, cpC 9 5 μ) := by
      unfold X10_image
      rw [hs, bd_some, if_neg (by decide), (cpC_eq μ).1, bd_some, cpC_o (by decide)]
    have o1 : ∀ k j, k < 9 ∨ 12 < k → cpC 9 5 μ k j = μ k j := fun k j h => cpC_o (by omega) j
    have hc := cpC_h (μ := μ) (l0 := 9) (l1 := 5) (by decide)
    have o2 : ∀ k j, ¬ WI k j → imM (cpC 9 5 μ) k j = μ k j := fun k j h => by
      unfold WI at h
      rw [imM_o (by omega) (by omega) (by omega), o1 k j (by omega)]
    have i2 : ∀ p, isP (imM (cpC 9 5 μ)) p ↔ isP μ p := isP_congr (o2 70 23 (by unfold WI; omega)) (o2 70 24 (by unfold WI; omega))
    have hp : X11_posts (imM (cpC 9 5 μ)) = some (cnt is1 (μ 6) 60, imM (cpC 9 5 μ)) := posts_eq (fun p hp => by
      rw [i2 p, o2 82 p (by unfold WI; omega)]
      exact hK.1 p hp)
    have e2 := imM_eq (μ := cpC 9 5 μ) (by rw [o1 70 23 (by decide)]; exact c) hp
    have h6 : μ 5 6 = cnt is1 (μ 6) 60 := hK.2.2.2.2.2.2.1
    rw [← h6] at e2
    have hh := imM_h (μ := cpC 9 5 μ)
    have hM1 : Bm (cpC 9 5 μ) := fun k j hk => by rw [o1 k j (by omega)]; exact hI.2.1.1 k j hk
    have hM2 := imM_B hM1
    have e96 : ∀ j, j < 60 → imM (cpC 9 5 μ) 96 j = μ 82 j := fun j hj => by rw [hh.2.2.2.1 j hj, o1 82 j (by decide)]
    have e97 : ∀ j, j < 8 → imM (cpC 9 5 μ) 97 j = μ 86 j := fun j hj => by rw [hh.2.2.2.2 j hj, o1 86 j (by decide)]
    have f23 := o2 70 23 (by unfold WI; omega)
    have f24 := o2 70 24 (by unfold WI; omega)
    have hIr : Ir (imM (cpC 9 5 μ)) := Ir_img hI.2.1 hM2 (fun k j h h2 h3 => o2 k j (by unfold perI at h; unfold WI; omega)) (UQ_mv hI.2.1.2.2.2.2.2.2.1 f23 f24 e96) (by
      obtain ⟨p, hp, ip, hp2⟩ := hI.2.1.2.2.1 c
      exact ⟨p, hp, (i2 p).mpr ip, by rw [e96 p hp]; exact hp2⟩)
    have o9 : ∀ k j, 9 ≤ k → k ≤ 12 → imM (cpC 9 5 μ) k j = cpC 9 5 μ k j := fun k j h1 h2 => imM_o (by omega) (by omega) (by omega)
    have hIm : Im (imM (cpC 9 5 μ)) := by
      have h94 : imM (cpC 9 5 μ) 9 4 = μ 5 4 := by rw [o9 9 4 (by decide) (by decide)]; exact hc.1 4 (by decide) (by decide)
      have h54 : imM (cpC 9 5 μ) 5 4 = μ 5 4 := o2 5 4 (by unfold WI; omega)
      have h4 : ¬ μ 5 4 ≤ 0 := fun z => c (hK.2.2.2.2.1.mp z)
      refine ⟨?_, fun _ => ⟨?_, by rw [h94, h54]⟩⟩
      · rw [h94, hh.2.2.1]
        exact ⟨fun z => absurd z h4, fun z => absurd z (by decide)⟩
      · refine Kc_mv hK (fun j h1 h2 => ?_) (fun j h => ?_) (fun j h => ?_) (fun j h => ?_) e96 e97 ?_ ?_ f23 f24
        · rw [o9 9 j (by decide) (by decide)]; exact hc.1 j h1 h2
        · rw [o9 10 j (by decide) (by decide)]; exact hc.2.1 j h
        · rw [o9 11 j (by decide) (by decide)]; exact hc.2.2.1 j h
        · rw [o9 12 j (by decide) (by decide)]; exact hc.2.2.2 j h
        · rw [hh.1, o1 70 30 (by decide)]
        · rw [hh.2.1, o1 70 31 (by decide)]
    refine ⟨_, _, _, e1, e2, Inv_W hI (Bx_congr (Bx_t t1 e1) (fun k j hk => imM_o (by omega) (by omega) (by omega))) hIr o2 (Or.inl ?_) (Or.inl ?_) (Or.inl ?_) (Or.inl ?_) (Or.inl ?_) (Or.inr hIm) (Or.inl ?_)⟩
    · intro k j h; unfold kT at h; unfold WI; omega
    · intro k j h; unfold kP at h; unfold WI; omega
    · intro k j h; unfold kLw at h; unfold WI; omega
    · intro k j h; unfold kCl at h; unfold WI; omega
    · intro k j h; unfold kH at h; unfold WI; omega
    · intro k j h; unfold kU at h; unfold WI; omega
/-- the reference's way BACK -/
def bkM (μ : Mm) : Mm := sM (sM (cA_ (cA_ μ 96 82 60) 97 86 8) 70 30 (μ 70 51)) 70 31 (μ 70 52)
def WB (k j : Nat) : Prop := (5 ≤ k ∧ k ≤ 8) ∨ k = 82 ∨ k = 86 ∨ (k = 70 ∧ (j = 30 ∨ j = 31))
theorem bkM_o {μ : Mm} {k j : Nat} (h : k ≠ 82) (h2 : k ≠ 86) (h3 : ¬ (k = 70 ∧ (j = 30 ∨ j = 31))) : bkM μ k j = μ k j := by
  unfold bkM
  by_cases c : k = 70
  · subst c
    rw [sM_j (by omega), sM_j (by omega), cA_o (by decide), cA_o (by decide)]
  · rw [sM_a c, sM_a c, cA_o h2, cA_o h]
theorem bkM_h {μ : Mm} : bkM μ 70 30 = μ 70 51 ∧ bkM μ 70 31 = μ 70 52 ∧ (∀ j, j < 60 → bkM μ 82 j = μ 96 j) ∧ (∀ j, j < 8 → bkM μ 86 j = μ 97 j) := by
  unfold bkM
  refine ⟨?_, ?_, fun j h => ?_, fun j h => ?_⟩
  · rw [sM_j (by decide), sM_s]
  · rw [sM_s]
  · rw [sM_a (by decide), sM_a (by decide), cA_o (by decide), cA_i (by omega)]
  · rw [sM_a (by decide), sM_a (by decide), cA_i (by omega), cA_o (by decide)]
theorem bkM_B {μ : Mm} (h : Bm μ) (h51 : 1 ≤ μ 70 51 ∧ μ 70 51 ≤ 9) : Bm (bkM μ) := by
  unfold bkM
  have h1 : Bm (cA_ (cA_ μ 96 82 60) 97 86 8) := Bm_cA (a := 97) (b := 86) (Bm_cA (a := 96) (b := 82) h (by decide) (fun j => rfl)) (by decide) (fun j => rfl)
  exact Bm_sM (Bm_sM h1 (show (1 : Int) ≤ μ 70 51 ∧ μ 70 51 ≤ 9 from h51)) (show (0 : Int) ≤ μ 70 52 ∧ μ 70 52 ≤ 99 from h 70 52 (by decide))
theorem bkM_eq {μ : Mm} (h0 : μ 70 53 ≠ 0) {r : Int} (hp : X11_posts (bkM μ) = some (r, bkM μ)) : X11_back μ = some (r, bkM μ) := by
  unfold X11_back
  rw [if_neg h0, bck60, bck8]
  unfold sF
  have e : sM (sM (cA_ (cA_ μ 96 82 60) 97 86 8) 70 30 (cA_ (cA_ μ 96 82 60) 97 86 8 70 51)) 70 31 (sM (cA_ (cA_ μ 96 82 60) 97 86 8) 70 30 (cA_ (cA_ μ 96 82 60) 97 86 8 70 51) 70 52) = bkM μ := by
    unfold bkM
    rw [sM_j (by decide), cA_o (by decide), cA_o (by decide), cA_o (by decide), cA_o (by decide)]
  dsimp only
  rw [e, hp, bd_some]
theorem m_back : sI Inv Inv X10_back X11_back := by
  intro μ hI
  have t1 := t_X10_back (W := W70) (μs := μ) scr_70 (fun k j h => h) (St_rf hI.1)
  have hm := hI.2.2.2.2.2.2.2.1
  by_cases c : μ 70 53 = 0
  · have e1 : X10_back μ = some (-1, μ) := by
      unfold X10_back X0_stands
      rw [if_pos (hm.1.mpr c), bd_some, if_pos rfl]
    have e2 : X11_back μ = some (-1, μ) := by
      unfold X11_back
      rw [if_pos c]
    exact ⟨_, _, _, e1, e2, hI⟩
  · obtain ⟨hK, h94⟩ := hm.2 c
    have hc := cpC_h (μ := μ) (l0 := 5) (l1 := 9) (by decide)
    have e1 : X10_back μ = some (μ 9 6, cpC 5 9 μ) := by
      unfold X10_back X0_stands
      rw [if_neg (fun z => c (hm.1.mp z)), bd_some, if_neg (by decide), (cpC_eq μ).2, bd_some, hc.1 6 (by decide) (by decide)]
    have o1 : ∀ k j, k < 5 ∨ 8 < k → cpC 5 9 μ k j = μ k j := fun k j h => cpC_o (by omega) j
    have o2 : ∀ k j, ¬ WB k j → bkM (cpC 5 9 μ) k j = μ k j := fun k j h => by
      unfold WB at h
      rw [bkM_o (by omega) (by omega) (by omega), o1 k j (by omega)]
    have f23 := o2 70 23 (by unfold WB; omega)
    have f24 := o2 70 24 (by unfold WB; omega)
    have i2 : ∀ p, isP (bkM (cpC 5 9 μ)) p ↔ isP μ p := isP_congr f23 f24
    have hh := bkM_h (μ := cpC 5 9 μ)
    have e82 : ∀ j, j < 60 → bkM (cpC 5 9 μ) 82 j = μ 96 j := fun j hj => by rw [hh.2.2.1 j hj, o1 96 j (by decide)]
    have e86 : ∀ j, j < 8 → bkM (cpC 5 9 μ) 86 j = μ 97 j := fun j hj => by rw [hh.2.2.2 j hj, o1 97 j (by decide)]
    have hp : X11_posts (bkM (cpC 5 9 μ)) = some (cnt is1 (μ 10) 60, bkM (cpC 5 9 μ)) := posts_eq (fun p hp => by
      rw [i2 p, e82 p hp]
      exact hK.1 p hp)
    have e2 := bkM_eq (μ := cpC 5 9 μ) (by rw [o1 70 53 (by decide)]; exact c) hp
    have h6 : μ 9 6 = cnt is1 (μ 10) 60 := hK.2.2.2.2.2.2.1
    rw [← h6] at e2
    have hM1 : Bm (cpC 5 9 μ) := fun k j hk => by rw [o1 k j (by omega)]; exact hI.2.1.1 k j hk
    have h97 : μ 9 7 = μ 70 51 := hK.2.2.2.2.2.2.2.1
    have hb97 : 1 ≤ μ 9 7 ∧ μ 9 7 ≤ 9 := hI.1.1 9 7 (by decide)
    have hM2 := bkM_B hM1 (by rw [o1 70 51 (by decide)]; omega)
    have hIr : Ir (bkM (cpC 5 9 μ)) := Ir_now hI.2.1 hM2 (fun k j h h2 => o2 k j (by unfold perI at h; unfold WB; omega)) (UQ_mv (hI.2.1.2.2.2.2.2.2.2 c) f23 f24 e82) (fun _ => by
      obtain ⟨p, hp, ip, hp2⟩ := hI.2.1.2.2.2.1 c
      exact ⟨p, hp, ip, by rw [e82 p hp]; exact hp2⟩)
    have o5 : ∀ k j, 5 ≤ k → k ≤ 8 → bkM (cpC 5 9 μ) k j = cpC 5 9 μ k j := fun k j h1 h2 => bkM_o (by omega) (by omega) (by omega)
    have h54 : bkM (cpC 5 9 μ) 5 4 = μ 5 4 := by rw [o5 5 4 (by decide) (by decide), hc.1 4 (by decide) (by decide), h94]
    have hKn : Kc (bkM (cpC 5 9 μ)) 5 82 86 30 31 := by
      refine Kc_mv hK (fun j h1 h2 => ?_) (fun j h => ?_) (fun j h => ?_) (fun j h => ?_) e82 e86 ?_ ?_ f23 f24
      · rw [o5 5 j (by decide) (by decide)]; exact hc.1 j h1 h2
      · rw [o5 6 j (by decide) (by decide)]; exact hc.2.1 j h
      · rw [o5 7 j (by decide) (by decide)]; exact hc.2.2.1 j h
      · rw [o5 8 j (by decide) (by decide)]; exact hc.2.2.2 j h
      · rw [hh.1, o1 70 51 (by decide)]
      · rw [hh.2.1, o1 70 52 (by decide)]
    have hIm : Im (bkM (cpC 5 9 μ)) := Im_congr hm (fun k j h1 h2 => o2 k j (by unfold WB; omega)) h54 (fun j => o2 96 j (by unfold WB; omega)) (fun j => o2 97 j (by unfold WB; omega)) (o2 70 51 (by unfold WB; omega)) (o2 70 52 (by unfold WB; omega)) (o2 70 53 (by unfold WB; omega)) f23 f24
    refine ⟨_, _, _, e1, e2, Inv_W hI (Bx_congr (Bx_t t1 e1) (fun k j hk => bkM_o (by omega) (by omega) (by omega))) hIr o2 (Or.inl ?_) (Or.inl ?_) (Or.inl ?_) (Or.inr hKn) (Or.inl ?_) (Or.inr hIm) (Or.inl ?_)⟩
    · intro k j h; unfold kT at h; unfold WB; omega
    · intro k j h; unfold kP at h; unfold WB; omega
    · intro k j h; unfold kLw at h; unfold WB; omega
    · intro k j h; unfold kH at h; unfold WB; omega
    · intro k j h; unfold kU at h; unfold WB; omega
