/-! WHAT ALTERS what is kept -/
def kT (k j : Nat) : Prop := (k = 1 ∧ j = 1) ∨ k = 2 ∨ (k = 70 ∧ j = 2) ∨ k = 71
def kP (k j : Nat) : Prop := (k = 0 ∧ j = 15) ∨ (18 ≤ k ∧ k ≤ 32) ∨ (k = 70 ∧ j = 28) ∨ ((k = 83 ∨ k = 84) ∧ j < 40) ∨ (k = 85 ∧ j < 5)
def kLw (k j : Nat) : Prop := (k = 0 ∧ j = 16) ∨ (37 ≤ k ∧ k ≤ 44) ∨ (k = 70 ∧ j = 13) ∨ ((k = 72 ∨ k = 73) ∧ j < 1360) ∨ (k = 75 ∧ j < 4) ∨ (76 ≤ k ∧ k ≤ 78 ∧ j < 360)
def kCl (k j : Nat) : Prop := (5 ≤ k ∧ k ≤ 8) ∨ k = 82 ∨ k = 86 ∨ (k = 70 ∧ (j = 23 ∨ j = 24 ∨ j = 30 ∨ j = 31))
def kH (k j : Nat) : Prop := (k = 0 ∧ j = 17) ∨ (k = 70 ∧ j = 32)
def kI (k j : Nat) : Prop := (9 ≤ k ∧ k ≤ 12) ∨ (k = 5 ∧ j = 4) ∨ k = 96 ∨ k = 97 ∨ (k = 70 ∧ (j = 23 ∨ j = 24 ∨ j = 51 ∨ j = 52 ∨ j = 53))
def kU (k j : Nat) : Prop := (k = 67 ∧ j = 2) ∨ k = 68 ∨ k = 69 ∨ (k = 70 ∧ j = 45) ∨ k = 93 ∨ k = 94
theorem Inv_W {μ ν : Mm} {W : Nat → Nat → Prop} (hI : Inv μ) (hB : Bx ν) (hM : Ir ν) (hf : fw W μ ν) (T : (∀ k j, kT k j → ¬ W k j) ∨ Tp ν) (P : (∀ k j, kP k j → ¬ W k j) ∨ Pl ν) (L : (∀ k j, kLw k j → ¬ W k j) ∨ Lw ν) (C : (∀ k j, kCl k j → ¬ W k j) ∨ Kc ν 5 82 86 30 31) (H : (∀ k j, kH k j → ¬ W k j) ∨ ν 0 17 = ν 70 32) (I : (∀ k j, kI k j → ¬ W k j) ∨ Im ν) (U : (∀ k j, kU k j → ¬ W k j) ∨ Th ν) : Inv ν := by
  obtain ⟨_, _, h3, h4, h5, h6, h7, h8, h9⟩ := hI
  refine ⟨hB, hM, T.elim (fun n => ?_) id, P.elim (fun n => ?_) id, L.elim (fun n => ?_) id, C.elim (fun n => ?_) id, H.elim (fun n => ?_) id, I.elim (fun n => ?_) id, U.elim (fun n => ?_) id⟩
  · have e : ∀ k j, kT k j → ν k j = μ k j := fun k j h => hf k j (n k j h)
    exact Tp_congr h3 (e 1 1 (by unfold kT; omega)) (fun j => e 2 j (by unfold kT; omega)) (e 70 2 (by unfold kT; omega)) (fun j => e 71 j (by unfold kT; omega))
  · have e : ∀ k j, kP k j → ν k j = μ k j := fun k j h => hf k j (n k j h)
    exact Pl_congr h4 (e 0 15 (by unfold kP; omega)) (fun k j h1 h2 => e k j (by unfold kP; omega)) (e 70 28 (by unfold kP; omega)) (fun j hj => ⟨e 83 j (by unfold kP; omega), e 84 j (by unfold kP; omega)⟩) (fun j hj => e 85 j (by unfold kP; omega))
  · have e : ∀ k j, kLw k j → ν k j = μ k j := fun k j h => hf k j (n k j h)
    exact Lw_congr h5 (e 0 16 (by unfold kLw; omega)) (e 70 13 (by unfold kLw; omega)) (fun k j h1 h2 => e k j (by unfold kLw; omega)) (fun j hj => ⟨e 72 j (by unfold kLw; omega), e 73 j (by unfold kLw; omega)⟩) (fun j hj => e 75 j (by unfold kLw; omega)) (fun j hj => ⟨e 76 j (by unfold kLw; omega), e 77 j (by unfold kLw; omega), e 78 j (by unfold kLw; omega)⟩)
  · have e : ∀ k j, kCl k j → ν k j = μ k j := fun k j h => hf k j (n k j h)
    exact Kc_congr h6 (fun j _ _ => e 5 j (by unfold kCl; omega)) (fun j => e 6 j (by unfold kCl; omega)) (fun j => e 7 j (by unfold kCl; omega)) (fun j => e 8 j (by unfold kCl; omega)) (fun j => e 82 j (by unfold kCl; omega)) (fun j => e 86 j (by unfold kCl; omega)) (e 70 30 (by unfold kCl; omega)) (e 70 31 (by unfold kCl; omega)) (e 70 23 (by unfold kCl; omega)) (e 70 24 (by unfold kCl; omega))
  · have e : ∀ k j, kH k j → ν k j = μ k j := fun k j h => hf k j (n k j h)
    rw [e 0 17 (by unfold kH; omega), e 70 32 (by unfold kH; omega)]; exact h7
  · have e : ∀ k j, kI k j → ν k j = μ k j := fun k j h => hf k j (n k j h)
    exact Im_congr h8 (fun k j h1 h2 => e k j (by unfold kI; omega)) (e 5 4 (by unfold kI; omega)) (fun j => e 96 j (by unfold kI; omega)) (fun j => e 97 j (by unfold kI; omega)) (e 70 51 (by unfold kI; omega)) (e 70 52 (by unfold kI; omega)) (e 70 53 (by unfold kI; omega)) (e 70 23 (by unfold kI; omega)) (e 70 24 (by unfold kI; omega))
  · have e : ∀ k j, kU k j → ν k j = μ k j := fun k j h => hf k j (n k j h)
    exact Th_congr h9 (e 67 2 (by unfold kU; omega)) (e 70 45 (by unfold kU; omega)) (fun j => ⟨e 68 j (by unfold kU; omega), e 69 j (by unfold kU; omega), e 93 j (by unfold kU; omega), e 94 j (by unfold kU; omega)⟩)
theorem sD_I {Inv Inv' : Mm → Prop} {f g : Mm → Rs} (h : sI Inv Inv' f g) : sD Inv Inv' f g := fun μ hI => by
  obtain ⟨r, μ1, μ2, e1, e2, h2⟩ := h μ hI
  exact ⟨r, μ1, r, μ2, e1, e2, h2⟩
def W70 (k _ : Nat) : Prop := k < 70
theorem scr_70 : ∀ k j, scr k j → W70 k j := fun k j h => by unfold scr at h; unfold W70; omega
/-! feed -/
theorem put_T {n : Nat} {l : List Int} (hl : ∀ b, b ∈ l → 0 ≤ b ∧ b ≤ 255) : ∀ (μ ν : Mm) (n : Nat), μ 1 1 = (n : Int) → ν 70 2 = (n : Int) → (∀ j, j < n → μ 2 j = ν 71 j ∧ 1 ≤ ν 71 j ∧ ν 71 j ≤ 255) → ∃ m : Nat, (m : Int) = (n : Int) + nzc l ∧ (l.foldl (putB 1 1 2) μ) 1 1 = (m : Int) ∧ (l.foldl (putB 70 2 71) ν) 70 2 = (m : Int) ∧ ∀ j, j < m → (l.foldl (putB 1 1 2) μ) 2 j = (l.foldl (putB 70 2 71) ν) 71 j ∧ 1 ≤ (l.foldl (putB 70 2 71) ν) 71 j ∧ (l.foldl (putB 70 2 71) ν) 71 j ≤ 255 := by
  induction l with
  | nil => intro μ ν n h1 h2 h3; exact ⟨n, by show (n : Int) = n + 0; omega, h1, h2, h3⟩
  | cons b l ih =>
    intro μ ν n h1 h2 h3
    have hb := hl b (List.mem_cons_self ..)
    have hl' : ∀ b, b ∈ l → 0 ≤ b ∧ b ≤ 255 := fun x hx => hl x (List.mem_cons_of_mem _ hx)
    rw [List.foldl_cons, List.foldl_cons]
    have en : nzc (b :: l) = (if b = 0 then 0 else 1) + nzc l := rfl
    by_cases c : b = 0
    · have e1 : putB 1 1 2 μ b = μ := by unfold putB; rw [if_pos c]
      have e2 : putB 70 2 71 ν b = ν := by unfold putB; rw [if_pos c]
      rw [e1, e2]
      obtain ⟨m, k1, k2⟩ := ih hl' μ ν n h1 h2 h3
      exact ⟨m, by rw [en, if_pos c]; omega, k2⟩
    · have e1 : putB 1 1 2 μ b = sM (sM μ 2 n b) 1 1 ((n + 1 : Nat) : Int) := by unfold putB; rw [if_neg c, h1, Int.toNat_natCast]; rfl
      have e2 : putB 70 2 71 ν b = sM (sM ν 71 n b) 70 2 ((n + 1 : Nat) : Int) := by unfold putB; rw [if_neg c, h2, Int.toNat_natCast]; rfl
      rw [e1, e2]
      obtain ⟨m, k1, k2⟩ := ih hl' (sM (sM μ 2 n b) 1 1 ((n + 1 : Nat) : Int)) (sM (sM ν 71 n b) 70 2 ((n + 1 : Nat) : Int)) (n + 1) (by rw [sM_s]) (by rw [sM_s]) (fun j hj => by
        rw [sM_a (a := 1) (b := 2) (by decide), sM_a (a := 70) (b := 71) (by decide), sM_if, sM_if]
        by_cases d : j = n
        · rw [if_pos d, if_pos d]; exact ⟨rfl, by omega, hb.2⟩
        · rw [if_neg d, if_neg d]; exact h3 j (by omega))
      exact ⟨m, by rw [en, if_neg c]; omega, k2⟩
theorem put_fw {o s a : Nat} (l : List Int) : ∀ μ : Mm, fw (fun k j => (k = o ∧ j = s) ∨ k = a) μ (l.foldl (putB o s a) μ) := by
  induction l with
  | nil => intro μ; exact fw_rf
  | cons b l ih =>
    intro μ
    rw [List.foldl_cons]
    refine fw_tr ?_ (ih _)
    unfold putB
    split
    · exact fw_rf
    · exact fw_sM (fw_sM fw_rf (Or.inr rfl)) (Or.inl ⟨rfl, rfl⟩)
theorem four_b (x : Int) : ∀ b, b ∈ four x → 0 ≤ b ∧ b ≤ 255 := by
  intro b hb
  unfold four at hb
  simp only [List.mem_cons, List.not_mem_nil, or_false] at hb
  rcases hb with h | h | h | h <;> rw [h] <;> exact byt_b _ _
theorem LB_b (a b c d e : Int) : ∀ x, x ∈ LB a b c d e → 0 ≤ x ∧ x ≤ 255 := by
  intro x hx
  unfold LB at hx
  simp only [List.mem_append] at hx
  rcases hx with h | h | h | h | h <;> exact four_b _ x h
theorem put_Bm {l : List Int} (hl : ∀ b, b ∈ l → 0 ≤ b ∧ b ≤ 255) : ∀ μ : Mm, Bm μ → 0 ≤ μ 70 2 → μ 70 2 + nzc l ≤ 160 → Bm (l.foldl (putB 70 2 71) μ) := by
  induction l with
  | nil => intro μ h _ _; exact h
  | cons b l ih =>
    intro μ h h0 h1
    have hb := hl b (List.mem_cons_self ..)
    have hl' : ∀ b, b ∈ l → 0 ≤ b ∧ b ≤ 255 := fun x hx => hl x (List.mem_cons_of_mem _ hx)
    have en : nzc (b :: l) = (if b = 0 then 0 else 1) + nzc l := rfl
    have hz := (nzc_b l).1
    rw [en] at h1
    rw [List.foldl_cons]
    by_cases c : b = 0
    · rw [if_pos c] at h1
      have e2 : putB 70 2 71 μ b = μ := by unfold putB; rw [if_pos c]
      rw [e2]
      exact ih hl' μ h h0 (by omega)
    · rw [if_neg c] at h1
      have e2 : putB 70 2 71 μ b = sM (sM μ 71 (μ 70 2).toNat b) 70 2 (μ 70 2 + 1) := by unfold putB; rw [if_neg c]
      rw [e2]
      refine ih hl' _ (Bm_sM (Bm_sM h (show (-2147483648 : Int) ≤ b ∧ b ≤ 2147483647 by omega)) (show (0 : Int) ≤ μ 70 2 + 1 ∧ μ 70 2 + 1 ≤ 160 by omega)) (by rw [sM_s]; omega) (by rw [sM_s]; omega)
def Wtp (k j : Nat) : Prop := (k = 1 ∧ j = 1) ∨ k = 2 ∨ (k = 70 ∧ j = 2) ∨ k = 71
theorem m_feed : ∀ a0, rI a0 → ∀ a1, rI a1 → ∀ a2, rI a2 → ∀ a3, rI a3 → ∀ a4, rI a4 → sI Inv Inv (X10_feed a0 a1 a2 a3 a4) (X11_feed a0 a1 a2 a3 a4) := by
  intro a h0 b h1 c h2 d h3 e h4 μ hI
  obtain ⟨n, n1, n2, n3, n4⟩ := id hI.2.2.1
  have t1 := t_X10_feed (W := W70) (μs := μ) scr_70 (fun k j h => h) (hp_l1 := h0) (hp_l2 := h1) (hp_l3 := h2) (hp_l4 := h3) (hp_l5 := h4) (St_rf hI.1)
  have e1 := feed_eq a b c d e μ (by omega) (by omega)
  have hLB : four a ++ (four b ++ (four c ++ (four d ++ four e))) = LB a b c d e := rfl
  rw [hLB] at e1
  by_cases g : μ 1 1 + nzc (LB a b c d e) ≤ 160
  · rw [if_pos g] at e1
    rw [e1, wp_some] at t1
    have hB1 := t1.1.1
    have hf1 := put_fw (o := 1) (s := 1) (a := 2) (LB a b c d e) μ
    have e70 : ∀ k j, 70 ≤ k → (LB a b c d e).foldl (putB 1 1 2) μ k j = μ k j := fun k j hk => hf1 k j (by omega)
    have hM1 : Bm ((LB a b c d e).foldl (putB 1 1 2) μ) := fun k j h => by rw [e70 k j h]; exact hI.2.1.1 k j h
    have e2 := mfeed_eq a b c d e ((LB a b c d e).foldl (putB 1 1 2) μ) (by rw [e70 70 2 (by decide)]; omega) (by rw [e70 70 2 (by decide)]; omega)
    rw [e70 70 2 (by decide), if_pos (by omega)] at e2
    have hf2 := put_fw (o := 70) (s := 2) (a := 71) (LB a b c d e) ((LB a b c d e).foldl (putB 1 1 2) μ)
    have hM2 := put_Bm (LB_b a b c d e) _ hM1 (by rw [e70 70 2 (by decide)]; omega) (by rw [e70 70 2 (by decide)]; omega)
    have hf : fw Wtp μ ((LB a b c d e).foldl (putB 70 2 71) ((LB a b c d e).foldl (putB 1 1 2) μ)) := fun k j hn => by
      rw [hf2 k j (by unfold Wtp at hn; omega), hf1 k j (by unfold Wtp at hn; omega)]
    have hT := put_T (n := n) (LB_b a b c d e) μ ((LB a b c d e).foldl (putB 1 1 2) μ) n n2 (by rw [e70 70 2 (by decide)]; exact n3) (fun j hj => by rw [e70 71 j (by decide)]; exact n4 j hj)
    obtain ⟨m, k1, k2, k3, k4⟩ := hT
    have hTp : Tp ((LB a b c d e).foldl (putB 70 2 71) ((LB a b c d e).foldl (putB 1 1 2) μ)) := by
      refine ⟨m, by omega, ?_, k3, fun j hj => ?_⟩
      · rw [hf2 1 1 (by omega)]; exact k2
      · rw [hf2 2 j (by omega)]; exact k4 j hj
    refine ⟨_, _, _, e1, (show _ = some (μ 1 1 + nzc (LB a b c d e), _) by rw [n2, ← n3]; exact e2), ?_⟩
    refine Inv_W hI (Bx_congr hB1 (fun k j hk => hf2 k j (by omega))) (Ir_congr hI.2.1 hM2 (fun k j h => hf k j (by unfold perI at h; unfold Wtp; omega))) hf (Or.inr hTp) (Or.inl ?_) (Or.inl ?_) (Or.inl ?_) (Or.inl ?_) (Or.inl ?_) (Or.inl ?_)
    · intro k j h; unfold kP at h; unfold Wtp; omega
    · intro k j h; unfold kLw at h; unfold Wtp; omega
    · intro k j h; unfold kCl at h; unfold Wtp; omega
    · intro k j h; unfold kH at h; unfold Wtp; omega
    · intro k j h; unfold kI at h; unfold Wtp; omega
    · intro k j h; unfold kU at h; unfold Wtp; omega
  · rw [if_neg g] at e1
    have e2 := mfeed_eq a b c d e μ (by omega) (by omega)
    rw [if_neg (by omega)] at e2
    exact ⟨_, _, _, e1, e2, hI⟩
/-! end -/
theorem m_end : ∀ a0, rI a0 → sI Inv Inv (X10_end a0) (X11_end a0) := by
  intro a h μ hI
  obtain ⟨n, n1, n2, n3, n4⟩ := id hI.2.2.1
  have t1 := t_X10_end (W := W70) (μs := μ) scr_70 (fun k j h => h) (hp_l1 := h) (St_rf hI.1)
  by_cases c1 : a < 0
  · have e1 : X10_end a μ = some (0, μ) := by
      unfold X10_end X7_cut
      rw [if_pos c1, bd_some, rZ_b (Or.inl rfl)]
    have e2 : X11_end a μ = some (0, μ) := by
      unfold X11_end
      rw [if_pos c1]
    exact ⟨_, _, _, e1, e2, hI⟩
  · by_cases c2 : a ≤ μ 1 1
    · have e1 : X10_end a μ = some (1, sM μ 1 1 a) := by
        unfold X10_end X7_cut sF
        rw [if_neg c1, if_pos c2]
        dsimp only
        rw [bd_some, rZ_b (Or.inr rfl)]
      have e2 : X11_end a (sM μ 1 1 a) = some (1, sM (sM μ 1 1 a) 70 2 a) := by
        unfold X11_end sF
        rw [if_neg c1, sM_a (by decide), if_pos (by omega)]
      rw [e1, wp_some] at t1
      have hB1 := t1.1.1
      refine ⟨_, _, _, e1, e2, ?_⟩
      have hf : fw Wtp μ (sM (sM μ 1 1 a) 70 2 a) := fw_sM (fw_sM fw_rf (by unfold Wtp; omega)) (by unfold Wtp; omega)
      have hM2 : Bm (sM (sM μ 1 1 a) 70 2 a) := Bm_sM (fun k j hk => by rw [sM_a (by omega)]; exact hI.2.1.1 k j hk) (show (0 : Int) ≤ a ∧ a ≤ 160 by omega)
      refine Inv_W hI (Bx_congr hB1 (fun k j hk => sM_a (by omega))) (Ir_congr hI.2.1 hM2 (fun k j h => hf k j (by unfold perI at h; unfold Wtp; omega))) hf (Or.inr ?_) (Or.inl ?_) (Or.inl ?_) (Or.inl ?_) (Or.inl ?_) (Or.inl ?_) (Or.inl ?_)
      · refine ⟨a.toNat, by omega, ?_, ?_, fun j hj => ?_⟩
        · rw [sM_a (by decide), sM_s]; omega
        · rw [sM_s]; omega
        · rw [sM_a (by decide), sM_a (by decide), sM_a (by decide), sM_a (by decide)]; exact n4 j (by omega)
      · intro k j h; unfold kP at h; unfold Wtp; omega
      · intro k j h; unfold kLw at h; unfold Wtp; omega
      · intro k j h; unfold kCl at h; unfold Wtp; omega
      · intro k j h; unfold kH at h; unfold Wtp; omega
      · intro k j h; unfold kI at h; unfold Wtp; omega
      · intro k j h; unfold kU at h; unfold Wtp; omega
    · have e1 : X10_end a μ = some (0, μ) := by
        unfold X10_end X7_cut
        rw [if_neg c1, if_neg c2, bd_some, rZ_b (Or.inl rfl)]
      have e2 : X11_end a μ = some (0, μ) := by
        unfold X11_end
        rw [if_neg c1, if_neg (by omega)]
      exact ⟨_, _, _, e1, e2, hI⟩
