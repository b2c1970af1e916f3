/-! THE START: the memory that the two constructors leave -/
def mB : Mm := mN_70 (mN_0 (fun _ _ => 0))
def μ0 : Mm := fun k j => if 10 ≤ (kD k).1 ∧ (rF ((kD k).1 - 10) j).1 = 3 ∧ j < aN k then mB k j - 1 else mB k j
def chkB (k : Nat) : Bool := match kD k with
  | (0, _) => true
  | (1, n) => (List.range n).all (fun j => decide (mB k j = ((aE k j + 1 : Nat) : Int)))
  | (2, n) => (List.range n).all (fun j => decide (mB k j = ((aE k j + 1 : Nat) : Int)))
  | (c, n) => decide (10 ≤ c) && (List.range n).all (fun j => decide (gV mB k j = fV μ0 k j) && decide (0 ≤ mB k j ∨ (rF ((kD k).1 - 10) j).1 ≠ 3))
theorem chk_all : (List.range 98).all chkB = true := by decide +kernel
theorem chk_at {k : Nat} (h : k < 98) : chkB k = true := List.all_eq_true.mp chk_all k (List.mem_range.mpr h)
theorem chk_p {k n : Nat} (h : k < 98) (hk : kD k = (1, n) ∨ kD k = (2, n)) : ∀ j, j < n → mB k j = ((aE k j + 1 : Nat) : Int) := by
  intro j hj
  have h1 := chk_at h
  unfold chkB at h1
  rcases hk with hk | hk
  · rw [hk] at h1
    exact of_decide_eq_true (List.all_eq_true.mp h1 j (List.mem_range.mpr hj))
  · rw [hk] at h1
    exact of_decide_eq_true (List.all_eq_true.mp h1 j (List.mem_range.mpr hj))
theorem arrV_eq {cI : ClassId} {N : Nat} {f g : Nat → Value} (h : ∀ j, j < N → f j = g j) : arrV cI N f = arrV cI N g := by
  unfold arrV
  congr 2
  funext j
  exact h j.val j.isLt
theorem kD_ge {k : Nat} (h : k < 98) : (kD k).1 = 0 ∨ (kD k).1 = 1 ∨ (kD k).1 = 2 ∨ 10 ≤ (kD k).1 :=
  (by decide +kernel : ∀ k, k < 98 → (kD k).1 = 0 ∨ (kD k).1 = 1 ∨ (kD k).1 = 2 ∨ 10 ≤ (kD k).1) k h
theorem chk_o {k ci n : Nat} (h : k < 98) (hk : kD k = (ci + 10, n)) : ∀ j, j < n → gV mB k j = fV μ0 k j ∧ (0 ≤ mB k j ∨ (rF ((kD k).1 - 10) j).1 ≠ 3) := by
  intro j hj
  have h1 := chk_at h
  unfold chkB at h1
  rw [hk] at h1
  simp only [Bool.and_eq_true, List.all_eq_true, decide_eq_true_eq] at h1
  have h2 := h1.2 j (List.mem_range.mpr hj)
  exact ⟨h2.1, by rw [hk]; exact h2.2⟩
theorem oM_0 (h : oM mB) : oM μ0 := by
  intro k j
  unfold μ0
  by_cases c : 10 ≤ (kD k).1 ∧ (rF ((kD k).1 - 10) j).1 = 3 ∧ j < aN k
  · rw [if_pos c]
    have h1 := h k j
    by_cases h98 : k < 98
    · obtain ⟨ci, hci⟩ : ∃ ci, (kD k).1 = ci + 10 := ⟨(kD k).1 - 10, by have := c.1; omega⟩
      have h2 := (chk_o h98 (ci := ci) (n := aN k) (by rw [← hci]; rfl) j c.2.2).2
      rcases h2 with h2 | h2
      · unfold rI at h1 ⊢; omega
      · exact absurd c.2.1 h2
    · have h3 : aN k = 0 := by
        unfold aN kD
        rw [List.getD_eq_getElem?_getD, List.getElem?_eq_none (by have : kL.length = 98 := rfl; omega)]
        rfl
      have := c.2.2
      omega
  · rw [if_neg c]; exact h k j
theorem μ0_i {k n : Nat} (hk : kD k = (0, n)) (j : Nat) : μ0 k j = mB k j := by
  unfold μ0
  rw [if_neg (by rw [hk]; intro h; exact absurd (show 10 ≤ 0 from h.1) (by decide))]
theorem hN_hO {dC : Nat → ClassId} {dI : Nat → Nat → Nat} {D : ClassId × ClassId × ClassId} {base : Nat} {H : Heap} (h : hN dC dI D base mB 98 H) : hO dC dI D (bs base) μ0 H := by
  refine ⟨fun k q hk => ?_, oM_0 h.2.1⟩
  obtain ⟨hl, rfl⟩ := wO_get hk
  have h98 : k < 98 := hl
  have h1 := h.1 k _ (wN_at D (bs base) mB h98)
  rcases hkd : kD k with ⟨c, n⟩
  have hge := kD_ge h98
  rw [hkd] at hge
  simp only at hge
  rcases hge with rfl | rfl | rfl | hge
  · rw [eD_i hkd] at h1
    rw [eN_i hkd]
    simp only [μ0_i hkd]
    exact h1
  · rw [eD_p hkd] at h1
    rw [eN_p hkd]
    refine Eq.trans (b := some (vp_cell D.2.1 (n, .inr (.inr (.inr (.inr (fun j => if mB k j = 0 then none else some (bs base (mB k j - 1).toNat)))))))) h1 ?_
    refine congrArg some (show arrV D.2.1 n (fun j => va_rf (if mB k j = 0 then none else some (bs base (mB k j - 1).toNat))) = arrV D.2.1 n (fun j => va_rf (some (bs base (aE k j)))) from arrV_eq (fun j hj => ?_))
    have h2 := chk_p h98 (Or.inl hkd) j hj
    rw [h2, if_neg (by omega)]
    congr 3
    omega
  · rw [eD_t hkd] at h1
    rw [eN_t hkd]
    refine Eq.trans (b := some (vp_cell D.2.2 (n, .inr (.inr (.inr (.inr (fun j => if mB k j = 0 then none else some (bs base (mB k j - 1).toNat)))))))) h1 ?_
    refine congrArg some (show arrV D.2.2 n (fun j => va_rf (if mB k j = 0 then none else some (bs base (mB k j - 1).toNat))) = arrV D.2.2 n (fun j => va_rf (some (bs base (aE k j)))) from arrV_eq (fun j hj => ?_))
    have h2 := chk_p h98 (Or.inr hkd) j hj
    rw [h2, if_neg (by omega)]
    congr 3
    omega
  · obtain ⟨ci, rfl⟩ : ∃ ci, c = ci + 10 := ⟨c - 10, by omega⟩
    rw [eD_o hkd] at h1
    rw [eN_o hkd]
    have e1 : (List.range n).map (fun j => cV (bs base) (gV mB k j)) = (List.range n).map (fun j => cV (bs base) (fV μ0 k j)) := by
      refine List.map_congr_left (fun j hj => ?_)
      rw [(chk_o h98 hkd j (List.mem_range.mp hj)).1]
    rw [e1] at h1
    exact h1
theorem bs_P (base : Nat) : aP (bs base) := fun i j _ _ h => by
  simp only [bs] at h
  omega
