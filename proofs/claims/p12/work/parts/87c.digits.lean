/-! ORDERS as digits -/
theorem p10_pos (d : Nat) : (0 : Int) < 10 ^ d := Int.pow_pos (by decide)
theorem p10_succ (d : Nat) : (10 : Int) ^ (d + 1) = 10 ^ d * 10 := Int.pow_succ 10 d
theorem p10_mono {a b : Nat} (h : a ≤ b) : (10 : Int) ^ a ≤ 10 ^ b := by
  induction h with
  | refl => exact Int.le_refl _
  | step _ ih => rw [p10_succ]; have := p10_pos a; omega
theorem tenL {m : Int} (hm : m ≤ 8) {μ : Mm} : ∀ (d n : Nat) (a b : Int), m - b = d → 0 ≤ b → 0 < a → a * 10 ^ d ≤ 100000000 → d < n → X11_ten_L4 m n a b μ = some (a * 10 ^ d, μ) := by
  intro d
  induction d with
  | zero =>
    intro n a b h1 h2 h4 h5 h6
    obtain ⟨n', rfl, -⟩ := lt_fuel h6
    show (if m ≤ b then _ else _) = _
    rw [if_pos (by omega), Int.pow_zero, Int.mul_one]
  | succ d ih =>
    intro n a b h1 h2 h4 h5 h6
    obtain ⟨n', rfl, h7⟩ := lt_fuel h6
    show (if m ≤ b then _ else _) = _
    have h8 : a * 10 * 10 ^ d = a * 10 ^ (d + 1) := by
      rw [p10_succ, Int.mul_assoc, Int.mul_comm (10 : Int) (10 ^ d)]
    have h9 : a * 10 * 1 ≤ a * 10 * 10 ^ d := Int.mul_le_mul_of_nonneg_left (by have := p10_pos d; omega) (by omega)
    rw [if_neg (by omega), iM_id (by omega) (by omega), iA_id (by omega) (by omega), ih n' (a * 10) (b + 1) (by omega) (by omega) (by omega) (by omega) (by omega), h8]
theorem ten_eq {m : Int} (hm : m ≤ 8) (μ : Mm) : X11_ten m μ = some (10 ^ m.toNat, μ) := by
  have h8 : (10 : Int) ^ m.toNat ≤ 100000000 := p10_mono (b := 8) (by omega)
  by_cases h : 0 ≤ m
  · have h1 := tenL hm (μ := μ) m.toNat FU 1 0 (by omega) (by decide) (by decide) (by omega) (by show _ < 1000000; omega)
    rw [Int.one_mul] at h1
    exact h1
  · have e : m.toNat = 0 := by omega
    rw [e]
    show (if m ≤ 0 then _ else _) = _
    rw [if_pos (by omega)]
    rfl
/-- the digits of an ORDER of m CUES are CUES -/
def OD (o m : Int) : Prop := 0 ≤ o ∧ o ≤ 2147483647 ∧ o % 10 ≤ 7 ∧ ∀ k : Nat, (k : Int) < m → o / 10 ^ (m - 1 - k).toNat % 10 < m
/-- o has c digits, CUES of m -/
def OV (o m c : Int) : Prop := 0 ≤ o ∧ o < 10 ^ c.toNat ∧ ∀ i : Nat, (i : Int) < c → o / 10 ^ i % 10 < m
theorem OV_0 (m : Int) : OV 0 m 0 := ⟨by decide, by decide, fun i hi => absurd hi (by omega)⟩
theorem OV_s {o m c d : Int} (hc : 0 ≤ c) (h : OV o m c) (hd : 0 ≤ d ∧ d < m) (hm : m ≤ 8) : OV (10 * o + d) m (c + 1) := by
  obtain ⟨h1, h2, h3⟩ := h
  have e : (c + 1).toNat = c.toNat + 1 := by omega
  refine ⟨by omega, ?_, fun i hi => ?_⟩
  · rw [e, p10_succ]; omega
  · cases i with
    | zero =>
      rw [Int.pow_zero, Int.ediv_one]
      omega
    | succ i =>
      have e2 : (10 * o + d) / 10 ^ (i + 1) = o / 10 ^ i := by
        rw [p10_succ, Int.mul_comm (10 ^ i) 10, ← Int.ediv_ediv_of_nonneg (show (0 : Int) ≤ 10 by decide)]
        congr 1
        omega
      rw [e2]
      exact h3 i (by omega)
theorem OV_le {o m c : Int} (h : OV o m c) (hc : c ≤ 8) : o ≤ 99999999 := by
  have h8 : (10 : Int) ^ c.toNat ≤ 10 ^ 8 := p10_mono (by omega)
  have h9 : (10 : Int) ^ 8 = 100000000 := by decide
  have := h.2.1
  omega
theorem OV_D {o m : Int} (hm : 0 ≤ m ∧ m ≤ 8) (h : OV o m m) : OD o m := by
  have h1 := OV_le h hm.2
  refine ⟨h.1, by omega, ?_, fun k hk => h.2.2 _ (by omega)⟩
  by_cases h0 : m = 0
  · subst h0
    have h2 := h.2.1
    have h3 : (10 : Int) ^ (0 : Int).toNat = 1 := rfl
    rw [h3] at h2
    have := h.1
    omega
  · have h2 := h.2.2 0 (by omega)
    rw [Int.pow_zero, Int.ediv_one] at h2
    omega
theorem nth_eq {o k : Int} {μ : Mm} (hk : 0 ≤ k ∧ k < μ 70 37) (hm : μ 70 37 ≤ 8) : X11_nth o k μ = some (iR (iD o (10 ^ (μ 70 37 - 1 - k).toNat)) 10, μ) := by
  unfold X11_nth
  have e1 : iS (iS (μ 70 37) 1) k = μ 70 37 - 1 - k := by
    rw [iS_id (a := μ 70 37) (by omega) (by omega), iS_id (by omega) (by omega)]
  rw [e1, ten_eq (by omega), bd_some]
  unfold dZ
  rw [if_neg (by have := p10_pos (μ 70 37 - 1 - k).toNat; omega)]
theorem dg_eq {o : Int} (ho : 0 ≤ o ∧ o ≤ 2147483647) (i : Nat) : iR (iD o (10 ^ i)) 10 = o / 10 ^ i % 10 := by
  have h1 := p10_pos i
  have h2 := Int.ediv_nonneg ho.1 (Int.le_of_lt h1)
  have h3 := Int.ediv_le_self (10 ^ i) ho.1
  rw [iD_id ho.1 ho.2 h1, iR_id h2 (by omega) (by decide)]
theorem t_X11_nth {μs : Mm} {l1 l2 : Int} (hp_l1 : -2147483648 ≤ l1 ∧ l1 ≤ 2147483647) (_hp_l2 : -2147483648 ≤ l2 ∧ l2 ≤ 2147483647) {μ : Mm} (hS : Sm μs μ) (hq : 0 ≤ l2 ∧ l2 < μ 70 37) : wp (X11_nth l1 l2 μ) (fun r μ' => μ' = μ ∧ (-9 ≤ r ∧ r ≤ 9) ∧ (OD l1 (μ 70 37) → 0 ≤ r ∧ r < μ 70 37)) := by
  have hb := gO_11_37 hS
  rw [nth_eq hq hb.2, wp_some]
  have h1 := iR_10 (iD l1 (10 ^ (μ 70 37 - 1 - l2).toNat)) (iD_r _ _)
  refine ⟨rfl, ⟨h1.1, h1.2.1⟩, fun h => ?_⟩
  rw [dg_eq ⟨h.1, h.2.1⟩]
  have h2 := h.2.2.2 l2.toNat (by omega)
  have e : (μ 70 37 - 1 - ((l2.toNat : Nat) : Int)).toNat = (μ 70 37 - 1 - l2).toNat := by omega
  rw [e] at h2
  omega
/-! bits -/
theorem and1 (x : BitVec 32) : (x &&& 1#32).toInt = 1 ↔ x.getLsbD 0 = true := by
  by_cases h : x.getLsbD 0 = true
  · have e : x &&& 1#32 = 1#32 := by
      apply BitVec.eq_of_getLsbD_eq
      intro i hi
      rw [BitVec.getLsbD_and, BitVec.getLsbD_one]
      by_cases h0 : i = 0
      · subst h0; rw [h]; rfl
      · rw [show (decide (i = 0)) = false from decide_eq_false h0]; simp
    rw [e]
    exact ⟨fun _ => h, fun _ => by decide⟩
  · have e : x &&& 1#32 = 0#32 := by
      apply BitVec.eq_of_getLsbD_eq
      intro i hi
      rw [BitVec.getLsbD_and, BitVec.getLsbD_one]
      by_cases h0 : i = 0
      · subst h0
        rw [Bool.not_eq_true] at h
        rw [h]; simp
      · rw [show (decide (i = 0)) = false from decide_eq_false h0]; simp
    rw [e]
    exact ⟨fun z => absurd z (by decide), fun z => absurd z h⟩
theorem bit_iff {d : Nat} (hd : d < 10) (s : Int) : bA (bR s ((d : Nat) : Int)) 1 = 1 ↔ (Int32.ofInt s).toBitVec.getLsbD d = true := by
  have h0 : (bA (bR s ((d : Nat) : Int)) 1) = ((Int32.ofInt (bR s ((d : Nat) : Int))).toBitVec &&& 1#32).toInt := rfl
  have h1 : (Int32.ofInt (bR s ((d : Nat) : Int))).toBitVec = (Int32.ofInt s).toBitVec.sshiftRight d := by
    unfold bR
    rw [o32_self]
    have hc : d = 0 ∨ d = 1 ∨ d = 2 ∨ d = 3 ∨ d = 4 ∨ d = 5 ∨ d = 6 ∨ d = 7 ∨ d = 8 ∨ d = 9 := by omega
    rcases hc with rfl | rfl | rfl | rfl | rfl | rfl | rfl | rfl | rfl | rfl <;> rfl
  rw [h0, h1, and1, BitVec.getLsbD_sshiftRight]
  simp [show ¬ 32 ≤ 0 by omega, show d < 32 by omega]
theorem bO_bits (a b : Int) : (Int32.ofInt (bO a b)).toBitVec = (Int32.ofInt a).toBitVec ||| (Int32.ofInt b).toBitVec := by
  unfold bO
  rw [o32_self]
  rfl
theorem bit_or1 {d : Nat} (hd : d < 10) {s x : Int} (h : bA (bR s ((d : Nat) : Int)) 1 = 1) : bA (bR (bO s x) ((d : Nat) : Int)) 1 = 1 := by
  rw [bit_iff hd] at h ⊢
  rw [bO_bits, BitVec.getLsbD_or, h]; rfl
theorem bit_or2 {d : Nat} (hd : d < 10) {s x : Int} (h : bA (bR x ((d : Nat) : Int)) 1 = 1) : bA (bR (bO s x) ((d : Nat) : Int)) 1 = 1 := by
  rw [bit_iff hd] at h ⊢
  rw [bO_bits, BitVec.getLsbD_or, h, Bool.or_true]
theorem bit_self : ∀ d, d < 10 → bA (bR (bL 1 ((d : Nat) : Int)) ((d : Nat) : Int)) 1 = 1 := by decide +kernel
theorem bit_all : ∀ m, m < 9 → ∀ d, d < 10 → bA (bR (iS (bL 1 ((m : Nat) : Int)) 1) ((d : Nat) : Int)) 1 = 1 → d < m := by decide +kernel
theorem pc_all : ∀ m, m < 9 → pc (iS (bL 1 ((m : Nat) : Int)) 1) = ((m : Nat) : Int) := by decide +kernel
theorem isO_L4 {o : Int} (ho : -2147483648 ≤ o ∧ o ≤ 2147483647) {μ : Mm} (hm : 0 ≤ μ 70 37 ∧ μ 70 37 ≤ 8) {K : Int → Mm → Rs} {Q : Int → Mm → Prop} (hK : ∀ s, (0 ≤ o → ∀ j : Nat, (j : Int) < μ 70 37 → bA (bR s (o / 10 ^ (μ 70 37 - 1 - j).toNat % 10)) 1 = 1) → wp (K s μ) Q) : ∀ (n : Nat) (s k : Int), 0 ≤ k ∧ k ≤ μ 70 37 → μ 70 37 - k + 1 ≤ ((n : Nat) : Int) → (0 ≤ o → ∀ j : Nat, (j : Int) < k → bA (bR s (o / 10 ^ (μ 70 37 - 1 - j).toNat % 10)) 1 = 1) → wp (X11_isOrder_L4 o K n s k μ) Q := by
  intro n
  induction n with
  | zero => intro s k hk h; exact absurd h (by have : ((0 : Nat) : Int) = 0 := rfl; omega)
  | succ n ih =>
    intro s k hk hn hi
    have hn1 : ((n + 1 : Nat) : Int) = ((n : Nat) : Int) + 1 := rfl
    show wp (if μ 70 37 ≤ k then _ else _) Q
    refine wp_if (fun c => ?_) (fun c => ?_)
    · exact hK s (fun h0 j hj => hi h0 j (by omega))
    · rw [nth_eq (by omega) hm.2, bd_some]
      refine wp_ltv (fun v hv => ?_)
      have e1 : iA k 1 = k + 1 := iA_id (by omega) (by omega)
      rw [e1]
      refine ih v (k + 1) (by omega) (by omega) (fun h0 j hj => ?_)
      rw [hv]
      have hd : ∀ i : Nat, 0 ≤ o / 10 ^ i % 10 ∧ o / 10 ^ i % 10 < 10 := fun i => ⟨Int.emod_nonneg _ (by decide), Int.emod_lt_of_pos _ (by decide)⟩
      have hcast : ∀ x : Int, 0 ≤ x → x = ((x.toNat : Nat) : Int) := fun x hx => by omega
      by_cases hjk : (j : Int) < k
      · have h2 := hi h0 j hjk
        rw [hcast _ (hd _).1] at h2 ⊢
        exact bit_or1 (by have := hd (μ 70 37 - 1 - j).toNat; omega) h2
      · have e2 : (j : Int) = k := by omega
        rw [dg_eq ⟨h0, ho.2⟩, e2]
        rw [hcast _ (hd (μ 70 37 - 1 - k).toNat).1]
        exact bit_or2 (by have := hd (μ 70 37 - 1 - k).toNat; omega) (bit_self _ (by have := hd (μ 70 37 - 1 - k).toNat; omega))
theorem t_X11_isOrder {μs : Mm} {l1 : Int} (hp_l1 : -2147483648 ≤ l1 ∧ l1 ≤ 2147483647) {μ : Mm} (hS : Sm μs μ) : wp (X11_isOrder l1 μ) (fun r μ' => μ' = μ ∧ (0 ≤ r ∧ r ≤ 1) ∧ (r = 0 ∨ OD l1 (μ 70 37))) := by
  have hb := gO_11_37 hS
  unfold X11_isOrder
  refine isO_L4 hp_l1 hb (fun s hs => ?_) FU 0 0 (by omega) (by rw [FU_v]; omega) (fun _ j hj => absurd hj (by omega))
  rw [ten_eq hb.2, bd_some]
  have h8 : (10 : Int) ^ (μ 70 37).toNat ≤ 10 ^ 8 := p10_mono (by omega)
  have h9 : (10 : Int) ^ 8 = 100000000 := by decide
  have h10 := p10_pos (μ 70 37).toNat
  have e1 : iS (10 ^ (μ 70 37).toNat) 1 = 10 ^ (μ 70 37).toNat - 1 := iS_id (by omega) (by omega)
  rw [e1]
  unfold X11_in
  by_cases c1 : l1 < 0
  · rw [if_pos c1, bd_some, if_pos rfl]
    exact ⟨rfl, by omega, Or.inl rfl⟩
  rw [if_neg c1]
  by_cases c2 : 10 ^ (μ 70 37).toNat - 1 < l1
  · rw [if_pos c2, bd_some, if_pos rfl]
    exact ⟨rfl, by omega, Or.inl rfl⟩
  rw [if_neg c2, bd_some, if_neg (by decide)]
  refine wp_if (fun c3 => ?_) (fun c3 => ?_)
  · refine ⟨rfl, by omega, Or.inr ?_⟩
    have hdig : ∀ k : Nat, (k : Int) < μ 70 37 → l1 / 10 ^ (μ 70 37 - 1 - k).toNat % 10 < μ 70 37 := by
      intro k hk
      have h1 := hs (by omega) k hk
      have h2 : 0 ≤ l1 / 10 ^ (μ 70 37 - 1 - k).toNat % 10 := Int.emod_nonneg _ (by decide)
      have h3 : l1 / 10 ^ (μ 70 37 - 1 - k).toNat % 10 < 10 := Int.emod_lt_of_pos _ (by decide)
      have h4 : l1 / 10 ^ (μ 70 37 - 1 - k).toNat % 10 = (((l1 / 10 ^ (μ 70 37 - 1 - k).toNat % 10).toNat : Nat) : Int) := by omega
      have h5 : μ 70 37 = (((μ 70 37).toNat : Nat) : Int) := by omega
      rw [c3, h4, h5] at h1
      have h6 := bit_all (μ 70 37).toNat (by omega) (l1 / 10 ^ (μ 70 37 - 1 - k).toNat % 10).toNat (by omega) (by rw [← h5] at h1 ⊢; exact h1)
      omega
    refine ⟨by omega, hp_l1.2, ?_, hdig⟩
    by_cases h0 : μ 70 37 = 0
    · rw [h0] at c2
      have : (10 : Int) ^ (0 : Int).toNat = 1 := rfl
      rw [this] at c2
      omega
    · have h1 := hdig ((μ 70 37).toNat - 1) (by omega)
      have e : (μ 70 37 - 1 - (((μ 70 37).toNat - 1 : Nat) : Int)).toNat = 0 := by omega
      rw [e, Int.pow_zero, Int.ediv_one] at h1
      omega
  · exact ⟨rfl, by omega, Or.inl rfl⟩
