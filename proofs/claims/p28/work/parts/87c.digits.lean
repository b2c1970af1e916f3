/-! ORDERS as digits -/
theorem p10_pos (d : Nat) : (0 : Int) < 10 ^ d := Int.pow_pos (by decide)
theorem p10_succ (d : Nat) : (10 : Int) ^ (d + 1) = 10 ^ d * 10 := Int.pow_succ 10 d
theorem p10_mono {a b : Nat} (h : a ≤ b) : (10 : Int) ^ a ≤ 10 ^ b := by
  induction h with
  | refl => exact Int.le_refl _
  | step _ ih => rw [p10_succ]; have := p10_pos a; omega
theorem tenL {m : Int} (hm : m ≤ 8) {μ : Mm} : ∀ (d n : Nat) (a b : Int), m - b = d → 0 ≤ b → 0 < a → a * 10 ^ d ≤ 100000000 → d < n → X11_ten_L4 m n a b μ = some (a * 10 ^ d, μ) := by
  intro d
  induction d with
  | zero =>
    intro n a b h1 h2 h4 h5 h6
    obtain ⟨n', rfl, -⟩ := lt_fuel h6
    show (if m ≤ b then _ else _) = _
    rw [if_pos (by omega), Int.pow_zero, Int.mul_one]
  | succ d ih =>
    intro n a b h1 h2 h4 h5 h6
    obtain ⟨n', rfl, h7⟩ := lt_fuel h6
    show (if m ≤ b then _ else _) = _
    have h8 : a * 10 * 10 ^ d = a * 10 ^ (d + 1) := by
      rw [p10_succ, Int.mul_assoc, Int.mul_comm (10 : Int) (10 ^ d)]
    have h9 : a * 10 * 1 ≤ a * 10 * 10 ^ d := Int.mul_le_mul_of_nonneg_left (by have := p10_pos d; omega) (by omega)
    rw [if_neg (by omega), iM_id (by omega) (by omega), iA_id (by omega) (by omega), ih n' (a * 10) (b + 1) (by omega) (by omega) (by omega) (by omega) (by omega), h8]
theorem ten_eq {m : Int} (hm : m ≤ 8) (μ : Mm) : X11_ten m μ = some (10 ^ m.toNat, μ) := by
  have h8 : (10 : Int) ^ m.toNat ≤ 100000000 := p10_mono (b := 8) (by omega)
  by_cases h : 0 ≤ m
  · have h1 := tenL hm (μ := μ) m.toNat FU 1 0 (by omega) (by decide) (by decide) (by omega) (by show _ < 1000000; omega)
    rw [Int.one_mul] at h1
    exact h1
  · have e : m.toNat = 0 := by omega
    rw [e]
    show (if m ≤ 0 then _ else _) = _
    rw [if_pos (by omega)]
    rfl
/-- the digits of an ORDER of m CUES are CUES -/
def OD (o m : Int) : Prop := 0 ≤ o ∧ o ≤ 2147483647 ∧ o % 10 ≤ 7 ∧ ∀ k : Nat, (k : Int) < m → o / 10 ^ (m - 1 - k).toNat % 10 < m
/-- o has c digits, CUES of m -/
def OV (o m c : Int) : Prop := 0 ≤ o ∧ o < 10 ^ c.toNat ∧ ∀ i : Nat, (i : Int) < c → o / 10 ^ i % 10 < m
theorem OV_0 (m : Int) : OV 0 m 0 := ⟨by decide, by decide, fun i hi => absurd hi (by omega)⟩
theorem OV_s {o m c d : Int} (hc : 0 ≤ c) (h : OV o m c) (hd : 0 ≤ d ∧ d < m) (hm : m ≤ 8) : OV (10 * o + d) m (c + 1) := by
  obtain ⟨h1, h2, h3⟩ := h
  have e : (c + 1).toNat = c.toNat + 1 := by omega
  refine ⟨by omega, ?_, fun i hi => ?_⟩
  · rw [e, p10_succ]; omega
  · cases i with
    | zero =>
      rw [Int.pow_zero, Int.ediv_one]
      omega
    | succ i =>
      have e2 : (10 * o + d) / 10 ^ (i + 1) = o / 10 ^ i := by
        rw [p10_succ, Int.mul_comm (10 ^ i) 10, ← Int.ediv_ediv_of_nonneg (show (0 : Int) ≤ 10 by decide)]
        congr 1
        omega
      rw [e2]
      exact h3 i (by omega)
theorem OV_le {o m c : Int} (h : OV o m c) (hc : c ≤ 8) : o ≤ 99999999 := by
  have h8 : (10 : Int) ^ c.toNat ≤ 10 ^ 8 := p10_mono (by omega)
  have h9 : (10 : Int) ^ 8 = 100000000 := by decide
  have := h.2.1
  omega
theorem OV_D {o m : Int} (hm : 0 ≤ m ∧ m ≤ 8) (h : OV o m m) : OD o m := by
  have h1 := OV_le h hm.2
  refine ⟨h.1, by omega, ?_, fun k hk => h.2.2 _ (by omega)⟩
  by_cases h0 : m = 0
  · subst h0
    have h2 := h.2.1
    have h3 : (10 : Int) ^ (0 : Int).toNat = 1 := rfl
    rw [h3] at h2
    have := h.1
    omega
  · have h2 := h.2.2 0 (by omega)
    rw [Int.pow_zero, Int.ediv_one] at h2
    omega
theorem nth_eq {o k : Int} {μ : Mm} (hk : 0 ≤ k ∧ k < μ 70 37) (hm : μ 70 37 ≤ 8) : X11_nth o k μ = some (iR (iD o (10 ^ (μ 70 37 - 1 - k).toNat)) 10, μ) := by
  unfold X11_nth
  have e1 : iS (iS (μ 70 37) 1) k = μ 70 37 - 1 - k := by
    rw [iS_id (a := μ 70 37) (by omega) (by omega), iS_id (by omega) (by omega)]
  rw [e1, ten_eq (by omega), bd_some]
  unfold dZ
  rw [if_neg (by have := p10_pos (μ 70 37 - 1 - k).toNat; omega)]
theorem dg_eq {o : Int} (ho : 0 ≤ o ∧ o ≤ 2147483647) (i : Nat) : iR (iD o (10 ^ i)) 10 = o / 10 ^ i % 10 := by
  have h1 := p10_pos i
  have h2 := Int.ediv_nonneg ho.1 (Int.le_of_lt h1)
  have h3 := Int.ediv_le_self (10 ^ i) ho.1
  rw [iD_id ho.1 ho.2 h1, iR_id h2 (by omega) (by decide)]
theorem t_X11_nth {μs : Mm} {l1 l2 : Int} (hp_l1 : -2147483648 ≤ l1 ∧ l1 ≤ 2147483647) (_hp_l2 : -2147483648 ≤ l2 ∧ l2 ≤ 2147483647) {μ : Mm} (hS : Sm μs μ) (hq : 0 ≤ l2 ∧ l2 < μ 70 37) : wp (X11_nth l1 l2 μ) (fun r μ' => μ' = μ ∧ (-9 ≤ r ∧ r ≤ 9) ∧ (OD l1 (μ 70 37) → 0 ≤ r ∧ r < μ 70 37)) := by
  have hb := gO_11_37 hS
  rw [nth_eq hq hb.2, wp_some]
  have h1 := iR_10 (iD l1 (10 ^ (μ 70 37 - 1 - l2).toNat)) (iD_r _ _)
  refine ⟨rfl, ⟨h1.1, h1.2.1⟩, fun h => ?_⟩
  rw [dg_eq ⟨h.1, h.2.1⟩]
  have h2 := h.2.2.2 l2.toNat (by omega)
  have e : (μ 70 37 - 1 - ((l2.toNat : Nat) : Int)).toNat = (μ 70 37 - 1 - l2).toNat := by omega
  rw [e] at h2
  omega
/-! bits -/
theorem and1 (x : BitVec 32) : (x &&& 1#32).toInt = 1 ↔ x.getLsbD 0 = true := by
  by_cases h : x.getLsbD 0 = true
  · have e : x &&& 1#32 = 1#32 := by
      apply BitVec.eq_of_getLsbD_eq
      intro i hi
      rw [BitVec.getLsbD_and, BitVec.getLsbD_one]
      by_cases h0 : i = 0
      · subst h0; rw [h]; rfl
      · rw [show (decide (i = 0)) = false from decide_eq_false h0]; simp
    rw [e]
    exact ⟨fun _ => h, fun _ => by decide⟩
  · have e : x &&& 1#32 = 0#32 := by
      apply BitVec.eq_of_getLsbD_eq
      intro i hi
      rw [BitVec.getLsbD_and, BitVec.getLsbD_one]
      by_cases h0 : i = 0
      · subst h0
        rw [Bool.not_eq_true] at h
        rw [h]; simp
      · rw [show (decide (i = 0)) = false from decide_eq_false h0]; simp
    rw [e]
    exact ⟨fun z => absurd z (by decide), fun z => absurd z h⟩
theorem bit_iff {d : Nat} (hd : d < 10) (s : Int) : bA (bR s ((d : Nat) : Int)) 1 = 1 ↔ (Int32.ofInt s).toBitVec.getLsbD d = true := by
  have h0 : (bA (bR s ((d : Nat) : Int)) 1) = ((Int32.ofInt (bR s ((d : Nat) : Int))).toBitVec &&& 1#32).toInt := rfl
  have h1 : (Int32.ofInt (bR s ((d : Nat) : Int))).toBitVec = (Int32.ofInt s).toBitVec.sshiftRight d := by
    unfold bR
    rw [o32_self]
    have hc : d = 0 ∨ d = 1 ∨ d = 2 ∨ d = 3 ∨ d = 4 ∨ d = 5 ∨ d = 6 ∨ d = 7 ∨ d = 8 ∨ d = 9 := by omega
    rcases hc with rfl | rfl | rfl | rfl | rfl | rfl | rfl | rfl | rfl | rfl <;> rfl
  rw [h0, h1, and1, BitVec.getLsbD_sshiftRight]
  simp [show ¬ 32 ≤ 0 by omega, show d < 32 by omega]
theorem bO_bits (a b : Int) : (Int32.ofInt (bO a b)).toBitVec = (Int32.ofInt a).toBitVec ||| (Int32.ofInt b).toBitVec := by
  unfold bO
  rw [o32_self]
  rfl
theorem bit_or1 {d : Nat} (hd : d < 10) {s x : Int} (h : bA (bR s ((d : Nat) : Int)) 1 = 1) : bA (bR (bO s x) ((d : Nat) : Int)) 1 = 1 := by
  rw [bit_iff hd] at h ⊢
  rw [bO_bits, BitVec.getLsbD_or, h]; rfl
theorem bit_or2 {d : Nat} (hd : d < 10) {s x : Int} (h : bA (bR x ((d : Nat) : Int)) 1 = 1) : bA (bR (bO s x) ((d : Nat) : Int)) 1 = 1 := by
  rw [bit_iff hd] at h ⊢
  rw [bO_bits, BitVec.getLsbD_or, h, Bool.or_true]
theorem bit_self : ∀ d, d < 10 → bA (bR (bL 1 ((d : Nat) : Int)) ((d : Nat) : Int)) 1 = 1 := by decide +kernel
theorem bit_all : ∀ m, m < 9 → ∀ d, d < 10 → bA (bR (iS (bL 1 ((m : Nat) : Int)) 1) ((d : Nat) : Int)) 1 = 1 → d < m := by decide +kernel
theorem pc_all : ∀ m, m < 9 → pc (iS (bL 1 ((m : Nat) : Int)) 1) = ((m : Nat) : Int) := by decide +kernel
theorem isO_L4 {o : Int} (ho : -2147483648 ≤ o ∧ o ≤ 2147483647) {μ : Mm} (hm : 0 ≤ μ 70 37 ∧ μ 70 37 ≤ 8) {K : Int → Mm → Rs} {Q : Int → Mm → Prop} (hK : ∀ s, (0 ≤ o → ∀ j : Nat, (j : Int) < μ 70 37 → bA (bR s (o / 10 ^ (μ 70 37 - 1 - j).toNat % 10)) 1 = 1) → wp (K s μ) Q) : ∀ (n : Nat) (s k : Int), 0 ≤ k ∧ k ≤ μ 70 37 → μ 70 37 - k + 1 ≤ ((n : Nat) : Int) → (0 ≤ o → ∀ j : Nat, (j : Int) < k → bA (bR s (o / 10 ^ (μ 70 37 - 1 - j).toNat % 10)) 1 = 1) → wp (X11_isOrder_L4 o K n s k μ) Q := by
  intro n
  induction n with
  | zero => intro s k hk h; exact absurd h (by have : ((0 : Nat) : Int) = 0 := rfl; omega)
  | succ n ih =>
    intro s k hk hn hi
    have hn1 : ((n + 1 : Nat) : Int) = ((n : Nat) : Int) + 1 := rfl
    show wp (if μ 70 37 ≤ k then _ else _) Q
    refine wp_if (fun c => ?_) (fun c => ?_)
    · exact hK s (fun h0 j hj => hi h0 j (by omega))
    · rw [nth_eq (by omega) hm.2, bd_some]
      refine wp_ltv (fun v hv => ?_)
      have e1 : iA k 1 = k + 1 := iA_id (by omega) (by omega)
      rw [e1]
      refine ih v (k + 1) (by omega) (by omega) (fun h0 j hj => ?_)
      rw [hv]
      have hd : ∀ i : Nat, 0 ≤ o / 10 ^ i % 10 ∧ o / 10 ^ i % 10 < 10 := fun i => ⟨Int.emod_nonneg _ (by decide), Int.emod_lt_of_pos _ (by decide)⟩
      have hcast : ∀ x : Int, 0 ≤ x → x = ((x.toNat : Nat) : Int) := fun x hx => by omega
      by_cases hjk : (j : Int) < k
      · have h2 := hi h0 j hjk
        rw [hcast _ (hd _).1] at h2 ⊢
        exact bit_or1 (by have := hd (μ 70 37 - 1 - j).toNat; omega) h2
      · have e2 : (j : Int) = k := by omega
        rw [dg_eq ⟨h0, ho.2⟩, e2]
        rw [hcast _ (hd (μ 70 37 - 1 - k).toNat).1]
        exact bit_or2 (by have := hd (μ 70 37 - 1 - k).toNat; omega) (bit_self _ (by have := hd (μ 70 37 - 1 - k).toNat; omega))
theorem t_X11_isOrder {μs : Mm} {l1 : Int} (hp_l1 : -2147483648 ≤ l1 ∧ l1 ≤ 2147483647) {μ : Mm} (hS : Sm μs μ) : wp (X11_isOrder l1 μ) (fun r μ' => μ' = μ ∧ (0 ≤ r ∧ r ≤ 1) ∧ (r = 0 ∨ OD l1 (μ 70 37))) := by
  have hb := gO_11_37 hS
  unfold X11_isOrder
  refine isO_L4 hp_l1 hb (fun s hs => ?_) FU 0 0 (by omega) (by rw [FU_v]; omega) (fun _ j hj => absurd hj (by omega))
  rw [ten_eq hb.2, bd_some]
  have h8 : (10 : Int) ^ (μ 70 37).toNat ≤ 10 ^ 8 := p10_mono (by omega)
  have h9 : (10 : Int) ^ 8 = 100000000 := by decide
  have h10 := p10_pos (μ 70 37).toNat
  have e1 : iS (10 ^ (μ 70 37).toNat) 1 = 10 ^ (μ 70 37).toNat - 1 := iS_id (by omega) (by omega)
  rw [e1]
  unfold X11_in
  by_cases c1 : l1 < 0
  · rw [if_pos c1, bd_some, if_pos rfl]
    exact ⟨rfl, by omega, Or.inl rfl⟩
  rw [if_neg c1]
  by_cases c2 : 10 ^ (μ 70 37).toNat - 1 < l1
  · rw [if_pos c2, bd_some, if_pos rfl]
    exact ⟨rfl, by omega, Or.inl rfl⟩
  rw [if_neg c2, bd_some, if_neg (by decide)]
  refine wp_if (fun c3 => ?_) (fun c3 => ?_)
  · refine ⟨rfl, by omega, Or.inr ?_⟩
    have hdig : ∀ k : Nat, (k : Int) < μ 70 37 → l1 / 10 ^ (μ 70 37 - 1 - k).toNat % 10 < μ 70 37 := by
      intro k hk
      have h1 := hs (by omega) k hk
      have h2 : 0 ≤ l1 / 10 ^ (μ 70 37 - 1 - k).toNat % 10 := Int.emod_nonneg _ (by decide)
      have h3 : l1 / 10 ^ (μ 70 37 - 1 - k).toNat % 10 < 10 := Int.emod_lt_of_pos _ (by decide)
      have h4 : l1 / 10 ^ (μ 70 37 - 1 - k).toNat % 10 = (((l1 / 10 ^ (μ 70 37 - 1 - k).toNat % 10).toNat : Nat) : Int) := by omega
      have h5 : μ 70 37 = (((μ 70 37).toNat : Nat) : Int) := by omega
      rw [c3, h4, h5] at h1
      have h6 := bit_all (μ 70 37).toNat (by omega) (l1 / 10 ^ (μ 70 37 - 1 - k).toNat % 10).toNat (by omega) (by rw [← h5] at h1 ⊢; exact h1)
      omega
    refine ⟨by omega, hp_l1.2, ?_, hdig⟩
    by_cases h0 : μ 70 37 = 0
    · rw [h0] at c2
      have : (10 : Int) ^ (0 : Int).toNat = 1 := rfl
      rw [this] at c2
      omega
    · have h1 := hdig ((μ 70 37).toNat - 1) (by omega)
      have e : (μ 70 37 - 1 - (((μ 70 37).toNat - 1 : Nat) : Int)).toNat = 0 := by omega
      rw [e, Int.pow_zero, Int.ediv_one] at h1
      omega
  · exact ⟨rfl, by omega, Or.inl rfl⟩
/-! BOOK, FIT, and what is altered for a while -/
theorem book_L {μ : Mm} (hm : 0 ≤ μ 70 37 ∧ μ 70 37 ≤ 8) : ∀ (n : Nat) (v c : Int), 0 ≤ c ∧ c ≤ μ 70 37 → OV v (μ 70 37) c → μ 70 37 - c + 1 ≤ ((n : Nat) : Int) → wp (X11_book_L4 n v c μ) (fun r m => m = μ ∧ OV r (μ 70 37) (μ 70 37)) := by
  intro n
  induction n with
  | zero => intro v c hc hv h; exact absurd h (by have : ((0 : Nat) : Int) = 0 := rfl; omega)
  | succ n ih =>
    intro v c hc hv hn
    have hn1 : ((n + 1 : Nat) : Int) = ((n : Nat) : Int) + 1 := rfl
    show wp (if μ 70 37 ≤ c then _ else _) _
    refine wp_if (fun g => ?_) (fun g => ?_)
    · have e : c = μ 70 37 := by omega
      rw [e] at hv
      exact ⟨rfl, hv⟩
    · refine wp_ltv (fun x hx => ?_)
      have h9 := OV_le hv (by omega)
      have h0 := hv.1
      rw [iM_id (by omega) (by omega), iA_id (by omega) (by omega)] at hx
      rw [iA_id (by omega) (by omega), hx]
      exact ih _ _ (by omega) (OV_s hc.1 hv (by omega) hm.2) (by omega)
theorem t_X11_book {μs μ : Mm} (hS : Sm μs μ) : wp (X11_book μ) (fun r m => m = μ ∧ (-2147483648 ≤ r ∧ r ≤ 2147483647) ∧ OD r (μ 70 37)) := by
  have hb := gO_11_37 hS
  unfold X11_book
  refine wp_mono (book_L hb FU 0 0 (by omega) (OV_0 _) (by rw [FU_v]; omega)) (fun r m h => ?_)
  have h1 := OV_le h.2 hb.2
  have h0 := h.2.1
  exact ⟨h.1, by omega, OV_D hb h.2⟩
/-! TOTALITY of the reference, by program (wip/gen/totm.py) -/
set_option maxHeartbeats 4000000 in
set_option maxRecDepth 100000 in
theorem t_X11_way {μs : Mm} {l1 : Int} {l2 : Int} (hI : Ir μs)  (hp_l1 : -2147483648 ≤ l1 ∧ l1 ≤ 2147483647) (hp_l2 : -2147483648 ≤ l2 ∧ l2 ≤ 2147483647) {μ : Mm} (hS : Sm μs μ) : wp (X11_way l1 l2 μ) (fun r μ' => Sm μs μ' ∧ (-2147483648 ≤ r ∧ r ≤ 2147483647) ∧ True) := by
  have hFU := FU_v
  unfold X11_way
  refine wp_calls (t_X11_isOpen (l1 := l1)  (by omega) hS) (fun v8 hh => ?_)
  obtain ⟨hr9, hp9⟩ := hh
  refine wp_if (fun g15 => ?_) (fun g15 => ?_)
  · exact ⟨hS, (by omega), trivial⟩
  · refine wp_calls (t_X11_isOpen (l1 := l2)  (by omega) hS) (fun v16 hh => ?_)
    obtain ⟨hr17, hp17⟩ := hh
    refine wp_if (fun g21 => ?_) (fun g21 => ?_)
    · exact ⟨hS, (by omega), trivial⟩
    · refine wp_call (t_X11_spread (l1 := l1) hI (by omega) hS) (fun v22 m23 hh => ?_)
      obtain ⟨h23, hr23, hp23⟩ := hh
      refine wp_ldv (by have na0 : ((aN 87 : Nat) : Int) = 60 := rfl; omega) (fun v25 q26 => ?_)
      have hrv25 := gA_11_17 h23 (l2).toNat
      replace hrv25 : -2147483648 ≤ v25 ∧ v25 ≤ 2147483647 := by rw [q26]; exact hrv25
      exact ⟨h23, (by omega), trivial⟩
set_option maxHeartbeats 4000000 in
set_option maxRecDepth 100000 in
theorem t_X11_layTimes_L2 {μs : Mm} {l1 : Int} {l2 : Int} (hI : Ir μs)  (hp_l1 : 0 ≤ l1 ∧ l1 ≤ 4) (hp_l2 : -2147483648 ≤ l2 ∧ l2 ≤ 2147483647) {mm : Int} {Q : Int → Mm → Prop} (hQ : ∀ r μ, Sm μs μ → (-2147483648 ≤ r ∧ r ≤ 2147483647) → μ 70 37 = mm → Q r μ) : ∀ (n : Nat) {l3 : Int} {μ : Mm}, Sm μs μ → (0 ≤ l3 ∧ l3 ≤ 8) → μ 70 37 = mm → 8 - l3 + 1 ≤ ((n : Nat) : Int) → wp (X11_layTimes_L2 l1 l2 n l3 μ) Q := by
  have hFU := FU_v
  intro n
  induction n with
  | zero => intro l3 μ hS hv_l3 hi hm; exact absurd hm (by  have : ((0 : Nat) : Int) = 0 := rfl; omega)
  | succ n ih =>
    intro l3 μ hS hv_l3 hi hm
    have hn1 : ((n + 1 : Nat) : Int) = ((n : Nat) : Int) + 1 := rfl
    rw [X11_layTimes_L2]
    refine wp_ldv (by have := gO_11_37 hS; have na1 : ((aN 85 : Nat) : Int) = 6 := rfl; have := hI.2.2.2.2.1; omega) (fun v33 q34 => ?_)
    have hrv33 := gA_11_15 hS (l1).toNat
    have pev33 := eqS hS (k := 85) (j := (l1).toNat) (by unfold scrM; omega)
    rw [← q34] at pev33
    replace hrv33 : 0 ≤ v33 ∧ v33 ≤ 8 := by rw [q34]; exact hrv33
    refine wp_if (fun g50 => ?_) (fun g50 => ?_)
    · exact hQ _ _ hS (by have := gO_11_37 hS; have := hI.2.2.2.2.1; omega) (by show μ 70 37 = mm; exact (by have := gO_11_37 hS; have := hI.2.2.2.2.1; omega))
    · refine wp_ldv (by have := gO_11_37 hS; have := iM_c 8 l1; have := iA_c (iM 8 l1) l3; have na3 : ((aN 84 : Nat) : Int) = 48 := rfl; have := hI.2.2.2.2.1; omega) (fun v51 q52 => ?_)
      have hrv51 := gA_11_14 hS ((iA (iM 8 l1) l3)).toNat
      replace hrv51 : -2147483648 ≤ v51 ∧ v51 ≤ 2147483647 := by rw [q52]; exact hrv51
      refine wp_if (fun g67 => ?_) (fun g67 => ?_)
      · unfold X11_layTimes_J107
        try dsimp only
        refine wp_if (fun g71 => ?_) (fun g71 => ?_)
        · refine wp_stv (P := Sm μs) (by have := gO_11_37 hS; have := gO_11_32 hS; have := eqS hS (j := 32) (k := 70) (by unfold scrM; omega); have na3 : ((aN 88 : Nat) : Int) = 8 := rfl; have := hI.2.2.2.2.1; omega) (pA_11_18  hS (by unfold scrM; omega) (by have := gO_11_37 hS; have := gO_11_32 hS; have := eqS hS (j := 32) (k := 70) (by unfold scrM; omega); have := mX_c 0 v51; have := hI.2.2.2.2.1; omega)) (fun m72 h72 he72 => ?_)
          exact ih h72 (by have := gO_11_37 hS; have := gO_11_32 hS; have := eqS hS (j := 32) (k := 70) (by unfold scrM; omega); have := iA_c l3 1; have := hI.2.2.2.2.1; omega) (by have := gO_11_37 hS; have := gO_11_32 hS; have := eqS hS (j := 32) (k := 70) (by unfold scrM; omega); have := iA_c l3 1; have := gO_11_37 h72; have : m72 70 37 = μ 70 37 := (by rw [he72, sM_a (by decide)]); have := hI.2.2.2.2.1; omega) (by have := gO_11_37 hS; have := gO_11_32 hS; have := eqS hS (j := 32) (k := 70) (by unfold scrM; omega); have := iA_c l3 1; have := hI.2.2.2.2.1; omega)
        · refine wp_ldv (by have := gO_11_37 hS; have := gO_11_32 hS; have := eqS hS (j := 32) (k := 70) (by unfold scrM; omega); have := iS_c l3 1; have na4 : ((aN 88 : Nat) : Int) = 8 := rfl; have := hI.2.2.2.2.1; omega) (fun v73 q74 => ?_)
          have hrv73 := gA_11_18 hS ((iS l3 1)).toNat
          replace hrv73 : -2147483648 ≤ v73 ∧ v73 ≤ 2147483647 := by rw [q74]; exact hrv73
          refine wp_stv (P := Sm μs) (by have := gO_11_37 hS; have := gO_11_32 hS; have := eqS hS (j := 32) (k := 70) (by unfold scrM; omega); have na3 : ((aN 88 : Nat) : Int) = 8 := rfl; have := hI.2.2.2.2.1; omega) (pA_11_18  hS (by unfold scrM; omega) (by have := gO_11_37 hS; have := gO_11_32 hS; have := eqS hS (j := 32) (k := 70) (by unfold scrM; omega); have := mX_c v73 v51; have := hI.2.2.2.2.1; omega)) (fun m76 h76 he76 => ?_)
          exact ih h76 (by have := gO_11_37 hS; have := gO_11_32 hS; have := eqS hS (j := 32) (k := 70) (by unfold scrM; omega); have := iA_c l3 1; have := hI.2.2.2.2.1; omega) (by have := gO_11_37 hS; have := gO_11_32 hS; have := eqS hS (j := 32) (k := 70) (by unfold scrM; omega); have := iA_c l3 1; have := gO_11_37 h76; have : m76 70 37 = μ 70 37 := (by rw [he76, sM_a (by decide)]); have := hI.2.2.2.2.1; omega) (by have := gO_11_37 hS; have := gO_11_32 hS; have := eqS hS (j := 32) (k := 70) (by unfold scrM; omega); have := iA_c l3 1; have := hI.2.2.2.2.1; omega)
      · refine wp_stv (P := Sm μs) (by have := gO_11_37 hS; have := gO_11_32 hS; have := eqS hS (j := 32) (k := 70) (by unfold scrM; omega); have na3 : ((aN 79 : Nat) : Int) = 5 := rfl; have := hI.2.2.2.2.1; omega) (pA_11_9  hS (by unfold scrM; omega) (by have := gO_11_37 hS; have := gO_11_32 hS; have := eqS hS (j := 32) (k := 70) (by unfold scrM; omega); have := hI.2.2.2.2.1; omega)) (fun m77 h77 he77 => ?_)
        refine wp_stv (P := Sm μs) (by have := gO_11_37 hS; have := gO_11_32 hS; have := eqS hS (j := 32) (k := 70) (by unfold scrM; omega); have na3 : ((aN 79 : Nat) : Int) = 5 := rfl; have := hI.2.2.2.2.1; omega) (pA_11_9  h77 (by unfold scrM; omega) (by have := gO_11_37 hS; have := gO_11_32 hS; have := eqS hS (j := 32) (k := 70) (by unfold scrM; omega); have := hI.2.2.2.2.1; omega)) (fun m89 h89 he89 => ?_)
        refine wp_stv (P := Sm μs) (by have := gO_11_37 hS; have := gO_11_32 hS; have := eqS hS (j := 32) (k := 70) (by unfold scrM; omega); have na3 : ((aN 79 : Nat) : Int) = 5 := rfl; have := hI.2.2.2.2.1; omega) (pA_11_9  h89 (by unfold scrM; omega) (by have := gO_11_37 hS; have := gO_11_32 hS; have := eqS hS (j := 32) (k := 70) (by unfold scrM; omega); have := hI.2.2.2.2.1; omega)) (fun m100 h100 he100 => ?_)
        refine wp_ldv (by have := gO_11_37 hS; have := gO_11_32 hS; have := eqS hS (j := 32) (k := 70) (by unfold scrM; omega); have := iM_c 8 l1; have := iA_c (iM 8 l1) l3; have na5 : ((aN 83 : Nat) : Int) = 48 := rfl; have := hI.2.2.2.2.1; omega) (fun v110 q111 => ?_)
        have hrv110 := gA_11_13 h100 ((iA (iM 8 l1) l3)).toNat
        replace hrv110 : -2147483648 ≤ v110 ∧ v110 ≤ 2147483647 := by rw [q111]; exact hrv110
        refine wp_stv (P := Sm μs) (by have := gO_11_37 hS; have := gO_11_32 hS; have := eqS hS (j := 32) (k := 70) (by unfold scrM; omega); have na3 : ((aN 79 : Nat) : Int) = 5 := rfl; have := hI.2.2.2.2.1; omega) (pA_11_9  h100 (by unfold scrM; omega) (by have := gO_11_37 hS; have := gO_11_32 hS; have := eqS hS (j := 32) (k := 70) (by unfold scrM; omega); have := hI.2.2.2.2.1; omega)) (fun m120 h120 he120 => ?_)
        refine wp_ldv (by have := gO_11_37 hS; have := gO_11_32 hS; have := eqS hS (j := 32) (k := 70) (by unfold scrM; omega); have na3 : ((aN 85 : Nat) : Int) = 6 := rfl; have := hI.2.2.2.2.1; omega) (fun v128 q129 => ?_)
        have hrv128 := gA_11_15 h120 (l1).toNat
        have pev128 := eqS h120 (k := 85) (j := (l1).toNat) (by unfold scrM; omega)
        rw [← q129] at pev128
        replace hrv128 : 0 ≤ v128 ∧ v128 ≤ 8 := by rw [q129]; exact hrv128
        refine wp_stv (P := Sm μs) (by have := gO_11_37 hS; have := gO_11_32 hS; have := eqS hS (j := 32) (k := 70) (by unfold scrM; omega); have na3 : ((aN 79 : Nat) : Int) = 5 := rfl; have := hI.2.2.2.2.1; omega) (pA_11_9  h120 (by unfold scrM; omega) (by have := gO_11_37 hS; have := gO_11_32 hS; have := eqS hS (j := 32) (k := 70) (by unfold scrM; omega); have := hI.2.2.2.2.1; omega)) (fun m136 h136 he136 => ?_)
        refine wp_call (t_X11_worthOf (l1 := (m136 70 32)) hI (by have := gO_11_37 hS; have := gO_11_32 hS; have := eqS hS (j := 32) (k := 70) (by unfold scrM; omega); have := gO_11_32 h136; have := eqS h136 (j := 32) (k := 70) (by unfold scrM; omega); have : m136 70 32 = m120 70 32 := (by rw [he136, sM_a (by decide)]); have := gO_11_32 h120; have := eqS h120 (j := 32) (k := 70) (by unfold scrM; omega); have : m120 70 32 = m100 70 32 := (by rw [he120, sM_a (by decide)]); have := gO_11_32 h100; have := eqS h100 (j := 32) (k := 70) (by unfold scrM; omega); have : m100 70 32 = m89 70 32 := (by rw [he100, sM_a (by decide)]); have := gO_11_32 h89; have := eqS h89 (j := 32) (k := 70) (by unfold scrM; omega); have : m89 70 32 = m77 70 32 := (by rw [he89, sM_a (by decide)]); have := gO_11_32 h77; have := eqS h77 (j := 32) (k := 70) (by unfold scrM; omega); have : m77 70 32 = μ 70 32 := (by rw [he77, sM_a (by decide)]); have := hI.2.2.2.2.1; omega) h136 (by have := gO_11_37 hS; have := gO_11_32 hS; have := eqS hS (j := 32) (k := 70) (by unfold scrM; omega); have := gO_11_32 h136; have := eqS h136 (j := 32) (k := 70) (by unfold scrM; omega); have : m136 70 32 = m120 70 32 := (by rw [he136, sM_a (by decide)]); have := gO_11_32 h120; have := eqS h120 (j := 32) (k := 70) (by unfold scrM; omega); have : m120 70 32 = m100 70 32 := (by rw [he120, sM_a (by decide)]); have := gO_11_32 h100; have := eqS h100 (j := 32) (k := 70) (by unfold scrM; omega); have : m100 70 32 = m89 70 32 := (by rw [he100, sM_a (by decide)]); have := gO_11_32 h89; have := eqS h89 (j := 32) (k := 70) (by unfold scrM; omega); have : m89 70 32 = m77 70 32 := (by rw [he89, sM_a (by decide)]); have := gO_11_32 h77; have := eqS h77 (j := 32) (k := 70) (by unfold scrM; omega); have : m77 70 32 = μ 70 32 := (by rw [he77, sM_a (by decide)]); have := hI.2.2.2.2.1; omega)) (fun v142 m143 hh => ?_)
        obtain ⟨h143, hr143, hp143⟩ := hh
        refine wp_ltv (fun v147 q148 => ?_)
        unfold X11_layTimes_J107
        try dsimp only
        refine wp_if (fun g154 => ?_) (fun g154 => ?_)
        · refine wp_stv (P := Sm μs) (by have := gO_11_37 hS; have := gO_11_32 hS; have := eqS hS (j := 32) (k := 70) (by unfold scrM; omega); have na3 : ((aN 88 : Nat) : Int) = 8 := rfl; have := hI.2.2.2.2.1; omega) (pA_11_18  h143 (by unfold scrM; omega) (by have := gO_11_37 hS; have := gO_11_32 hS; have := eqS hS (j := 32) (k := 70) (by unfold scrM; omega); have := mX_c 0 v147; have := mN_c 99 v142; have := mX_c (-99) (mN 99 v142); have := iA_c v51 (mX (-99) (mN 99 v142)); have := hI.2.2.2.2.1; omega)) (fun m155 h155 he155 => ?_)
          exact ih h155 (by have := gO_11_37 hS; have := gO_11_32 hS; have := eqS hS (j := 32) (k := 70) (by unfold scrM; omega); have := iA_c l3 1; have := hI.2.2.2.2.1; omega) (by have := gO_11_37 hS; have := gO_11_32 hS; have := eqS hS (j := 32) (k := 70) (by unfold scrM; omega); have := iA_c l3 1; have := gO_11_37 h155; have : m155 70 37 = m143 70 37 := (by rw [he155, sM_a (by decide)]); have := gO_11_37 h143; have := gO_11_37 h136; have : m136 70 37 = m120 70 37 := (by rw [he136, sM_a (by decide)]); have := gO_11_37 h120; have : m120 70 37 = m100 70 37 := (by rw [he120, sM_a (by decide)]); have := gO_11_37 h100; have : m100 70 37 = m89 70 37 := (by rw [he100, sM_a (by decide)]); have := gO_11_37 h89; have : m89 70 37 = m77 70 37 := (by rw [he89, sM_a (by decide)]); have := gO_11_37 h77; have : m77 70 37 = μ 70 37 := (by rw [he77, sM_a (by decide)]); have := hI.2.2.2.2.1; omega) (by have := gO_11_37 hS; have := gO_11_32 hS; have := eqS hS (j := 32) (k := 70) (by unfold scrM; omega); have := iA_c l3 1; have := hI.2.2.2.2.1; omega)
        · refine wp_ldv (by have := gO_11_37 hS; have := gO_11_32 hS; have := eqS hS (j := 32) (k := 70) (by unfold scrM; omega); have := iS_c l3 1; have na4 : ((aN 88 : Nat) : Int) = 8 := rfl; have := hI.2.2.2.2.1; omega) (fun v156 q157 => ?_)
          have hrv156 := gA_11_18 h143 ((iS l3 1)).toNat
          replace hrv156 : -2147483648 ≤ v156 ∧ v156 ≤ 2147483647 := by rw [q157]; exact hrv156
          refine wp_stv (P := Sm μs) (by have := gO_11_37 hS; have := gO_11_32 hS; have := eqS hS (j := 32) (k := 70) (by unfold scrM; omega); have na3 : ((aN 88 : Nat) : Int) = 8 := rfl; have := hI.2.2.2.2.1; omega) (pA_11_18  h143 (by unfold scrM; omega) (by have := gO_11_37 hS; have := gO_11_32 hS; have := eqS hS (j := 32) (k := 70) (by unfold scrM; omega); have := mX_c v156 v147; have := mN_c 99 v142; have := mX_c (-99) (mN 99 v142); have := iA_c v51 (mX (-99) (mN 99 v142)); have := hI.2.2.2.2.1; omega)) (fun m159 h159 he159 => ?_)
          exact ih h159 (by have := gO_11_37 hS; have := gO_11_32 hS; have := eqS hS (j := 32) (k := 70) (by unfold scrM; omega); have := iA_c l3 1; have := hI.2.2.2.2.1; omega) (by have := gO_11_37 hS; have := gO_11_32 hS; have := eqS hS (j := 32) (k := 70) (by unfold scrM; omega); have := iA_c l3 1; have := gO_11_37 h159; have : m159 70 37 = m143 70 37 := (by rw [he159, sM_a (by decide)]); have := gO_11_37 h143; have := gO_11_37 h136; have : m136 70 37 = m120 70 37 := (by rw [he136, sM_a (by decide)]); have := gO_11_37 h120; have : m120 70 37 = m100 70 37 := (by rw [he120, sM_a (by decide)]); have := gO_11_37 h100; have : m100 70 37 = m89 70 37 := (by rw [he100, sM_a (by decide)]); have := gO_11_37 h89; have : m89 70 37 = m77 70 37 := (by rw [he89, sM_a (by decide)]); have := gO_11_37 h77; have : m77 70 37 = μ 70 37 := (by rw [he77, sM_a (by decide)]); have := hI.2.2.2.2.1; omega) (by have := gO_11_37 hS; have := gO_11_32 hS; have := eqS hS (j := 32) (k := 70) (by unfold scrM; omega); have := iA_c l3 1; have := hI.2.2.2.2.1; omega)
set_option maxHeartbeats 4000000 in
set_option maxRecDepth 100000 in
theorem t_X11_layTimes {μs : Mm} {l1 : Int} {l2 : Int} (hI : Ir μs)  (hp_l1 : 0 ≤ l1 ∧ l1 ≤ 4) (hp_l2 : -2147483648 ≤ l2 ∧ l2 ≤ 2147483647) {μ : Mm} (hS : Sm μs μ) : wp (X11_layTimes l1 l2 μ) (fun r μ' => Sm μs μ' ∧ (-2147483648 ≤ r ∧ r ≤ 2147483647) ∧ μ' 70 37 = μ 70 37) := by
  have hFU := FU_v
  unfold X11_layTimes
  exact t_X11_layTimes_L2 (l1 := l1) (l2 := l2) (l3 := 0) (mm := μ 70 37) hI (by omega) (by omega) (fun r_ m_ h_ hr_ hp_ => by exact ⟨h_, (by omega), (by show m_ 70 37 = μ 70 37; exact (by have := gO_11_37 h_; have := gO_11_37 hS; omega))⟩) FU hS (by omega) (by have := gO_11_37 hS; omega) (by omega)
set_option maxHeartbeats 4000000 in
set_option maxRecDepth 100000 in
theorem t_X11_lay_L63 {μs : Mm} {l1 : Int} {l2 : Int} {l4 : Int} {l5 : Int} (hI : Ir μs)  (hp_l1 : 0 ≤ l1 ∧ l1 ≤ 4) (hp_l2 : -2147483648 ≤ l2 ∧ l2 ≤ 2147483647) (hp_l4 : 0 ≤ l4 ∧ l4 ≤ 8) (hp_l5 : -2147483648 ≤ l5 ∧ l5 ≤ 2147483647) {mm : Int} {k92 : Mm → Rs} {Q : Int → Mm → Prop} (hk_k92 : ∀ (μ : Mm), Sm μs μ → μ 70 37 = mm → wp (k92 μ) Q) : ∀ (n : Nat) {l6 : Int} {μ : Mm}, Sm μs μ → (0 ≤ l6 ∧ l6 ≤ 8) → μ 70 37 = mm → 8 - l6 + 1 ≤ ((n : Nat) : Int) → wp (X11_lay_L63 l1 l2 l4 l5 k92 n l6 μ) Q := by
  have hFU := FU_v
  intro n
  induction n with
  | zero => intro l6 μ hS hv_l6 hi hm; exact absurd hm (by  have : ((0 : Nat) : Int) = 0 := rfl; omega)
  | succ n ih =>
    intro l6 μ hS hv_l6 hi hm
    have hn1 : ((n + 1 : Nat) : Int) = ((n : Nat) : Int) + 1 := rfl
    rw [X11_lay_L63]
    refine wp_if (fun g3 => ?_) (fun g3 => ?_)
    · exact hk_k92  μ hS  (by have := gO_11_37 hS; omega)
    · refine wp_stv (P := Sm μs) (by have := gO_11_37 hS; have := iM_c 8 l4; have := iA_c (iM 8 l4) l6; have na3 : ((aN 89 : Nat) : Int) = 72 := rfl; omega) (pA_11_19  hS (by unfold scrM; omega) (by have := gO_11_37 hS; omega)) (fun m4 h4 he4 => ?_)
      exact ih h4 (by have := gO_11_37 hS; have := iA_c l6 1; omega) (by have := gO_11_37 hS; have := iA_c l6 1; have := gO_11_37 h4; have : m4 70 37 = μ 70 37 := (by rw [he4, sM_a (by decide)]); omega) (by have := gO_11_37 hS; have := iA_c l6 1; omega)
set_option maxHeartbeats 4000000 in
set_option maxRecDepth 100000 in
theorem t_X11_lay_L107 {μs : Mm} {l1 : Int} {l2 : Int} {l4 : Int} (hI : Ir μs)  (hp_l1 : 0 ≤ l1 ∧ l1 ≤ 4) (hp_l2 : -2147483648 ≤ l2 ∧ l2 ≤ 2147483647) (hp_l4 : 0 ≤ l4 ∧ l4 ≤ 8) {mm : Int} {k172 : Mm → Rs} {Q : Int → Mm → Prop} (hk_k172 : ∀ (μ : Mm), Sm μs μ → μ 70 37 = mm → wp (k172 μ) Q) : ∀ (n : Nat) {l6 : Int} {μ : Mm}, Sm μs μ → (0 ≤ l6 ∧ l6 ≤ 8) → μ 70 37 = mm → 8 - l6 + 1 ≤ ((n : Nat) : Int) → wp (X11_lay_L107 l1 l2 l4 k172 n l6 μ) Q := by
  have hFU := FU_v
  intro n
  induction n with
  | zero => intro l6 μ hS hv_l6 hi hm; exact absurd hm (by  have : ((0 : Nat) : Int) = 0 := rfl; omega)
  | succ n ih =>
    intro l6 μ hS hv_l6 hi hm
    have hn1 : ((n + 1 : Nat) : Int) = ((n : Nat) : Int) + 1 := rfl
    rw [X11_lay_L107]
    refine wp_if (fun g13 => ?_) (fun g13 => ?_)
    · exact hk_k172  μ hS  (by have := gO_11_37 hS; omega)
    · refine wp_ldv (by have := gO_11_37 hS; have := iM_c 8 l1; have := iA_c (iM 8 l1) l6; have na3 : ((aN 83 : Nat) : Int) = 48 := rfl; omega) (fun v14 q15 => ?_)
      have hrv14 := gA_11_13 hS ((iA (iM 8 l1) l6)).toNat
      replace hrv14 : -2147483648 ≤ v14 ∧ v14 ≤ 2147483647 := by rw [q15]; exact hrv14
      refine wp_calls (t_X11_placeOf (l1 := (iA 3 v14))  (by have := gO_11_37 hS; have := iA_c 3 v14; omega) hS) (fun v21 hh => ?_)
      obtain ⟨hr22, hp22⟩ := hh
      refine wp_if (fun g26 => ?_) (fun g26 => ?_)
      · refine wp_stv (P := Sm μs) (by have := gO_11_37 hS; have := iM_c 8 l4; have := iA_c (iM 8 l4) l6; have na3 : ((aN 89 : Nat) : Int) = 72 := rfl; omega) (pA_11_19  hS (by unfold scrM; omega) (by have := gO_11_37 hS; omega)) (fun m27 h27 he27 => ?_)
        exact ih h27 (by have := gO_11_37 hS; have := iA_c l6 1; omega) (by have := gO_11_37 hS; have := iA_c l6 1; have := gO_11_37 h27; have : m27 70 37 = μ 70 37 := (by rw [he27, sM_a (by decide)]); omega) (by have := gO_11_37 hS; have := iA_c l6 1; omega)
      · refine wp_ldv (by have := gO_11_37 hS; have na1 : ((aN 87 : Nat) : Int) = 60 := rfl; omega) (fun v28 q29 => ?_)
        have hrv28 := gA_11_17 hS (v21).toNat
        replace hrv28 : -2147483648 ≤ v28 ∧ v28 ≤ 2147483647 := by rw [q29]; exact hrv28
        refine wp_stv (P := Sm μs) (by have := gO_11_37 hS; have := iM_c 8 l4; have := iA_c (iM 8 l4) l6; have na3 : ((aN 89 : Nat) : Int) = 72 := rfl; omega) (pA_11_19  hS (by unfold scrM; omega) (by have := gO_11_37 hS; omega)) (fun m31 h31 he31 => ?_)
        exact ih h31 (by have := gO_11_37 hS; have := iA_c l6 1; omega) (by have := gO_11_37 hS; have := iA_c l6 1; have := gO_11_37 h31; have : m31 70 37 = μ 70 37 := (by rw [he31, sM_a (by decide)]); omega) (by have := gO_11_37 hS; have := iA_c l6 1; omega)
set_option maxHeartbeats 4000000 in
set_option maxRecDepth 100000 in
theorem t_X11_lay_L18 {μs : Mm} {l1 : Int} {l2 : Int} (hI : Ir μs)  (hp_l1 : 0 ≤ l1 ∧ l1 ≤ 4) (hp_l2 : -1 ≤ l2 ∧ l2 ≤ 59) {mm : Int} {k178 : Mm → Rs} {Q : Int → Mm → Prop} (hk_k178 : ∀ (μ : Mm), Sm μs μ → μ 70 37 = mm → wp (k178 μ) Q) (hQ : ∀ r μ, Sm μs μ → (-2147483648 ≤ r ∧ r ≤ 2147483647) → μ 70 37 = mm → Q r μ) : ∀ (n : Nat) {l4 : Int} {μ : Mm}, Sm μs μ → (0 ≤ l4 ∧ l4 ≤ 9) → μ 70 37 = mm → 9 - l4 + 1 ≤ ((n : Nat) : Int) → wp (X11_lay_L18 l1 l2 k178 n l4 μ) Q := by
  have hFU := FU_v
  intro n
  induction n with
  | zero => intro l4 μ hS hv_l4 hi hm; exact absurd hm (by  have : ((0 : Nat) : Int) = 0 := rfl; omega)
  | succ n ih =>
    intro l4 μ hS hv_l4 hi hm
    have hn1 : ((n + 1 : Nat) : Int) = ((n : Nat) : Int) + 1 := rfl
    rw [X11_lay_L18]
    refine wp_if (fun g19 => ?_) (fun g19 => ?_)
    · exact hk_k178  μ hS  (by have := gO_11_37 hS; omega)
    · refine wp_if (fun g20 => ?_) (fun g20 => ?_)
      · unfold X11_lay_J58
        try dsimp only
        refine t_X11_lay_L63 (l1 := l1) (l2 := l2) (l4 := l4) (l5 := l2) (l6 := 0) (mm := μ 70 37) hI (by have := gO_11_37 hS; omega) (by have := gO_11_37 hS; omega) (by have := gO_11_37 hS; omega) (by have := gO_11_37 hS; omega) (fun m25 h25  hp25 => ?_) FU hS (by have := gO_11_37 hS; omega) (by have := gO_11_37 hS; omega) (by have := gO_11_37 hS; omega)
        refine wp_if (fun g29 => ?_) (fun g29 => ?_)
        · exact ih h25 (by have := gO_11_37 hS; have := iA_c l4 1; omega) (by have := gO_11_37 hS; have := iA_c l4 1; have := gO_11_37 h25; omega) (by have := gO_11_37 hS; have := iA_c l4 1; omega)
        · refine wp_call (t_X11_spread (l1 := l2) hI (by have := gO_11_37 hS; omega) h25) (fun v30 m31 hh => ?_)
          obtain ⟨h31, hr31, hp31⟩ := hh
          refine t_X11_lay_L107 (l1 := l1) (l2 := l2) (l4 := l4) (l6 := 0) (mm := m31 70 37) hI (by have := gO_11_37 hS; omega) (by have := gO_11_37 hS; omega) (by have := gO_11_37 hS; omega) (fun m33 h33  hp33 => ?_) FU h31 (by have := gO_11_37 hS; omega) (by have := gO_11_37 hS; have := gO_11_37 h31; have := gO_11_37 h25; omega) (by have := gO_11_37 hS; omega)
          exact ih h33 (by have := gO_11_37 hS; have := iA_c l4 1; omega) (by have := gO_11_37 hS; have := iA_c l4 1; have := gO_11_37 h33; have := gO_11_37 h31; have := gO_11_37 h25; omega) (by have := gO_11_37 hS; have := iA_c l4 1; omega)
      · refine wp_ldv (by have := gO_11_37 hS; have := iM_c 8 l1; have := iA_c (iM 8 l1) l4; have na3 : ((aN 83 : Nat) : Int) = 48 := rfl; omega) (fun v34 q35 => ?_)
        have hrv34 := gA_11_13 hS ((iA (iM 8 l1) l4)).toNat
        replace hrv34 : -2147483648 ≤ v34 ∧ v34 ≤ 2147483647 := by rw [q35]; exact hrv34
        refine wp_calls (t_X11_placeOf (l1 := (iA 3 v34))  (by have := gO_11_37 hS; have := iA_c 3 v34; omega) hS) (fun v40 hh => ?_)
        obtain ⟨hr41, hp41⟩ := hh
        unfold X11_lay_J58
        try dsimp only
        refine t_X11_lay_L63 (l1 := l1) (l2 := l2) (l4 := l4) (l5 := v40) (l6 := 0) (mm := μ 70 37) hI (by have := gO_11_37 hS; omega) (by have := gO_11_37 hS; omega) (by have := gO_11_37 hS; omega) (by have := gO_11_37 hS; omega) (fun m48 h48  hp48 => ?_) FU hS (by have := gO_11_37 hS; omega) (by have := gO_11_37 hS; omega) (by have := gO_11_37 hS; omega)
        refine wp_if (fun g52 => ?_) (fun g52 => ?_)
        · exact ih h48 (by have := gO_11_37 hS; have := iA_c l4 1; omega) (by have := gO_11_37 hS; have := iA_c l4 1; have := gO_11_37 h48; omega) (by have := gO_11_37 hS; have := iA_c l4 1; omega)
        · refine wp_call (t_X11_spread (l1 := v40) hI (by have := gO_11_37 hS; omega) h48) (fun v53 m54 hh => ?_)
          obtain ⟨h54, hr54, hp54⟩ := hh
          refine t_X11_lay_L107 (l1 := l1) (l2 := l2) (l4 := l4) (l6 := 0) (mm := m54 70 37) hI (by have := gO_11_37 hS; omega) (by have := gO_11_37 hS; omega) (by have := gO_11_37 hS; omega) (fun m56 h56  hp56 => ?_) FU h54 (by have := gO_11_37 hS; omega) (by have := gO_11_37 hS; have := gO_11_37 h54; have := gO_11_37 h48; omega) (by have := gO_11_37 hS; omega)
          exact ih h56 (by have := gO_11_37 hS; have := iA_c l4 1; omega) (by have := gO_11_37 hS; have := iA_c l4 1; have := gO_11_37 h56; have := gO_11_37 h54; have := gO_11_37 h48; omega) (by have := gO_11_37 hS; have := iA_c l4 1; omega)
set_option maxHeartbeats 4000000 in
set_option maxRecDepth 100000 in
theorem t_X11_lay_L181 {μs : Mm} {l1 : Int} (hI : Ir μs)  (hp_l1 : 0 ≤ l1 ∧ l1 ≤ 4) {mm : Int} (hl2 : mm = μs 85 l1.toNat ∧ 0 ≤ l1 ∧ l1 < μs 70 28) {Q : Int → Mm → Prop} (hQ : ∀ r μ, Sm μs μ → (-2147483648 ≤ r ∧ r ≤ 2147483647) → μ 70 37 = mm → Q r μ) : ∀ (n : Nat) {l4 : Int} {μ : Mm}, Sm μs μ → (0 ≤ l4 ∧ l4 ≤ 8) → μ 70 37 = mm → 8 - l4 + 1 ≤ ((n : Nat) : Int) → wp (X11_lay_L181 l1 n l4 μ) Q := by
  have hFU := FU_v
  intro n
  induction n with
  | zero => intro l4 μ hS hv_l4 hi hm; exact absurd hm (by  have : ((0 : Nat) : Int) = 0 := rfl; omega)
  | succ n ih =>
    intro l4 μ hS hv_l4 hi hm
    have hn1 : ((n + 1 : Nat) : Int) = ((n : Nat) : Int) + 1 := rfl
    rw [X11_lay_L181]
    refine wp_if (fun g7 => ?_) (fun g7 => ?_)
    · exact hQ _ _ hS (by have := gO_11_37 hS; omega) (by show μ 70 37 = mm; exact (by have := gO_11_37 hS; omega))
    · refine wp_ldv (by have := gO_11_37 hS; have := iM_c 8 l1; have := iA_c (iM 8 l1) l4; have na3 : ((aN 83 : Nat) : Int) = 48 := rfl; omega) (fun v8 q9 => ?_)
      have hrv8 := gA_11_13 hS ((iA (iM 8 l1) l4)).toNat
      have pvv8 : 0 ≤ v8 ∧ v8 ≤ 7 := by rw [q9]; exact PV_at hI hS (p := l1) (k := l4) (by have := gO_11_37 hS; omega) (by have := gO_11_37 hS; omega) (by have := gO_11_37 hS; have := iM_c 8 l1; have := iA_c (iM 8 l1) l4; omega)
      replace hrv8 : -2147483648 ≤ v8 ∧ v8 ≤ 2147483647 := by rw [q9]; exact hrv8
      refine wp_ldv (by have := gO_11_37 hS; have na1 : ((aN 86 : Nat) : Int) = 8 := rfl; omega) (fun v12 q13 => ?_)
      have hrv12 := gA_11_16 hS (v8).toNat
      replace hrv12 : 0 ≤ v12 ∧ v12 ≤ 30 := by rw [q13]; exact hrv12
      refine wp_stv (P := Sm μs) (by have := gO_11_37 hS; have na1 : ((aN 90 : Nat) : Int) = 8 := rfl; omega) (pA_11_20  hS (by unfold scrM; omega) (by have := gO_11_37 hS; omega)) (fun m15 h15 he15 => ?_)
      exact ih h15 (by have := gO_11_37 hS; have := iA_c l4 1; omega) (by have := gO_11_37 hS; have := iA_c l4 1; have := gO_11_37 h15; have : m15 70 37 = μ 70 37 := (by rw [he15, sM_a (by decide)]); omega) (by have := gO_11_37 hS; have := iA_c l4 1; omega)
set_option maxHeartbeats 4000000 in
set_option maxRecDepth 100000 in
theorem t_X11_lay {μs : Mm} {l1 : Int} {l2 : Int} {l3 : Int} (hI : Ir μs)  (hp_l1 : 0 ≤ l1 ∧ l1 ≤ 4) (hp_l2 : -1 ≤ l2 ∧ l2 ≤ 59) (hp_l3 : -2147483648 ≤ l3 ∧ l3 ≤ 2147483647) {μ : Mm} (hS : Sm μs μ) (hq : 0 ≤ l1 ∧ l1 < μs 70 28) : wp (X11_lay l1 l2 l3 μ) (fun r μ' => Sm μs μ' ∧ (-2147483648 ≤ r ∧ r ≤ 2147483647) ∧ True) := by
  have hFU := FU_v
  unfold X11_lay
  refine wp_ldv (by have na0 : ((aN 85 : Nat) : Int) = 6 := rfl; omega) (fun v5 q6 => ?_)
  have hrv5 := gA_11_15 hS (l1).toNat
  have pev5 := eqS hS (k := 85) (j := (l1).toNat) (by unfold scrM; omega)
  rw [← q6] at pev5
  replace hrv5 : 0 ≤ v5 ∧ v5 ≤ 8 := by rw [q6]; exact hrv5
  refine wp_sFv (P := Sm μs) (pO_11_37  hS (by unfold scrM; omega) (by omega)) (fun m10 h10 he10 => ?_)
  refine wp_sFv (P := Sm μs) (pO_11_38  h10 (by unfold scrM; omega) (by omega)) (fun m13 h13 he13 => ?_)
  refine t_X11_lay_L18 (l1 := l1) (l2 := l2) (l4 := 0) (mm := m13 70 37) hI (by omega) (by omega) (fun m15 h15  hp15 => ?_) (fun r_ m_ h_ hr_ hp_ => by exact ⟨h_, (by omega), trivial⟩) FU h13 (by omega) (by have := gO_11_37 h13; have : m13 70 37 = m10 70 37 := (by rw [he13, sM_j (by decide)]); have := gO_11_37 h10; have : m10 70 37 = v5 := (by rw [he10, sM_s]); omega) (by omega)
  exact t_X11_lay_L181 (l1 := l1) (l4 := 0) (mm := m15 70 37) hI (by omega) (by have := gO_11_37 h15; have := gO_11_37 h13; have : m13 70 37 = m10 70 37 := (by rw [he13, sM_j (by decide)]); have := gO_11_37 h10; have : m10 70 37 = v5 := (by rw [he10, sM_s]); omega) (fun r_ m_ h_ hr_ hp_ => by exact ⟨h_, (by omega), trivial⟩) FU h15 (by omega) (by have := gO_11_37 h15; have := gO_11_37 h13; have : m13 70 37 = m10 70 37 := (by rw [he13, sM_j (by decide)]); have := gO_11_37 h10; have : m10 70 37 = v5 := (by rw [he10, sM_s]); omega) (by omega)
set_option maxHeartbeats 4000000 in
set_option maxRecDepth 100000 in
theorem t_X11_isReady {μs : Mm} {l1 : Int} (hI : Ir μs)  (hp_l1 : -2147483648 ≤ l1 ∧ l1 ≤ 2147483647) {μ : Mm} (hS : Sm μs μ) : wp (X11_isReady l1 μ) (fun r μ' => Sm μs μ' ∧ (0 ≤ r ∧ r ≤ 1) ∧ (r = 0 ∨ (0 ≤ l1 ∧ l1 ≤ 4 ∧ l1 < μs 70 28))) := by
  have hFU := FU_v
  unfold X11_isReady
  refine wp_if (fun g9 => ?_) (fun g9 => ?_)
  · exact ⟨hS, (by have := gO_11_23 hS; have := eqS hS (j := 23) (k := 70) (by unfold scrM; omega); omega), (by show (0 = 0 ∨ (0 ≤ l1 ∧ l1 ≤ 4 ∧ l1 < μs 70 28)); exact (by have := gO_11_23 hS; have := eqS hS (j := 23) (k := 70) (by unfold scrM; omega); omega))⟩
  · refine wp_calls (t_X11_isPlay (l1 := l1)  (by have := gO_11_23 hS; have := eqS hS (j := 23) (k := 70) (by unfold scrM; omega); omega) hS) (fun v10 hh => ?_)
    obtain ⟨hr11, hp11⟩ := hh
    refine wp_if (fun g18 => ?_) (fun g18 => ?_)
    · exact ⟨hS, (by have := gO_11_23 hS; have := eqS hS (j := 23) (k := 70) (by unfold scrM; omega); omega), (by show (0 = 0 ∨ (0 ≤ l1 ∧ l1 ≤ 4 ∧ l1 < μs 70 28)); exact (by have := gO_11_23 hS; have := eqS hS (j := 23) (k := 70) (by unfold scrM; omega); omega))⟩
    · refine wp_call (t_X11_layTimes (l1 := l1) (l2 := (μ 70 31)) hI (by have := gO_11_23 hS; have := eqS hS (j := 23) (k := 70) (by unfold scrM; omega); omega) (by have := gO_11_23 hS; have := eqS hS (j := 23) (k := 70) (by unfold scrM; omega); have := gO_11_31 hS; have := eqS hS (j := 31) (k := 70) (by unfold scrM; omega); omega) hS) (fun v19 m20 hh => ?_)
      obtain ⟨h20, hr20, hp20⟩ := hh
      refine wp_calls (t_X11_placeOf (l1 := 2)  (by have := gO_11_23 hS; have := eqS hS (j := 23) (k := 70) (by unfold scrM; omega); omega) h20) (fun v25 hh => ?_)
      obtain ⟨hr26, hp26⟩ := hh
      refine wp_call (t_X11_lay (l1 := l1) (l2 := v25) (l3 := (m20 70 30)) hI (by have := gO_11_23 hS; have := eqS hS (j := 23) (k := 70) (by unfold scrM; omega); omega) (by have := gO_11_23 hS; have := eqS hS (j := 23) (k := 70) (by unfold scrM; omega); omega) (by have := gO_11_23 hS; have := eqS hS (j := 23) (k := 70) (by unfold scrM; omega); have := gO_11_30 h20; have := eqS h20 (j := 30) (k := 70) (by unfold scrM; omega); omega) h20 (by have := gO_11_23 hS; have := eqS hS (j := 23) (k := 70) (by unfold scrM; omega); have := gO_11_30 h20; have := eqS h20 (j := 30) (k := 70) (by unfold scrM; omega); omega)) (fun v29 m30 hh => ?_)
      obtain ⟨h30, hr30, hp30⟩ := hh
      exact ⟨h30, (by have := gO_11_23 hS; have := eqS hS (j := 23) (k := 70) (by unfold scrM; omega); omega), (by show (1 = 0 ∨ (0 ≤ l1 ∧ l1 ≤ 4 ∧ l1 < μs 70 28)); exact (by have := gO_11_23 hS; have := eqS hS (j := 23) (k := 70) (by unfold scrM; omega); omega))⟩
set_option maxHeartbeats 4000000 in
set_option maxRecDepth 100000 in
theorem t_X11_late {μs : Mm} {l1 : Int}  (hp_l1 : 0 ≤ l1 ∧ l1 ≤ 7) {μ : Mm} (hS : Sm μs μ) : wp (X11_late l1 μ) (fun r μ' => μ' = μ ∧ (-2147483648 ≤ r ∧ r ≤ 2147483647) ∧ True) := by
  have hFU := FU_v
  unfold X11_late
  refine wp_ldv (by have na0 : ((aN 92 : Nat) : Int) = 8 := rfl; omega) (fun v3 q4 => ?_)
  have hrv3 := gA_11_22 hS (l1).toNat
  replace hrv3 : -2147483648 ≤ v3 ∧ v3 ≤ 2147483647 := by rw [q4]; exact hrv3
  refine wp_ldv (by have na0 : ((aN 88 : Nat) : Int) = 8 := rfl; omega) (fun v6 q7 => ?_)
  have hrv6 := gA_11_18 hS (l1).toNat
  replace hrv6 : -2147483648 ≤ v6 ∧ v6 ≤ 2147483647 := by rw [q7]; exact hrv6
  exact ⟨rfl, (by have := iS_c v3 v6; have := mX_c 0 (iS v3 v6); omega), trivial⟩
/-! TOTALITY of the reference, by program (wip/gen/totm.py) -/
set_option maxHeartbeats 4000000 in
set_option maxRecDepth 100000 in
theorem t_X11_tellOf_L11 {μs : Mm} {l1 : Int} {l2 : Int}  (hp_l1 : -2147483648 ≤ l1 ∧ l1 ≤ 2147483647) (hp_l2 : -2147483648 ≤ l2 ∧ l2 ≤ 2147483647) {μ : Mm} (hS : Sm μs μ) {k67 : Int → Int → Int → Mm → Rs} {Q : Int → Mm → Prop} (hk_k67 : ∀ (a0 a1 a2 : Int), (-2147483648 ≤ a0 ∧ a0 ≤ 2147483647) → (-2147483648 ≤ a1 ∧ a1 ≤ 2147483647) → (-2147483648 ≤ a2 ∧ a2 ≤ 2147483647) → True → wp (k67 a0 a1 a2 μ) Q) : ∀ (n : Nat) {l3 l4 l5 l6 : Int} , (-2147483648 ≤ l3 ∧ l3 ≤ 2147483647) → (-2147483648 ≤ l4 ∧ l4 ≤ 2147483647) → (-2147483648 ≤ l5 ∧ l5 ≤ 2147483647) → (0 ≤ l6 ∧ l6 ≤ 8) → True → 8 - l6 + 1 ≤ ((n : Nat) : Int) → wp (X11_tellOf_L11 l1 l2 k67 n l3 l4 l5 l6 μ) Q := by
  have hFU := FU_v
  intro n
  induction n with
  | zero => intro l3 l4 l5 l6 hv_l3 hv_l4 hv_l5 hv_l6 hi hm; exact absurd hm (by  have : ((0 : Nat) : Int) = 0 := rfl; omega)
  | succ n ih =>
    intro l3 l4 l5 l6 hv_l3 hv_l4 hv_l5 hv_l6 hi hm
    have hn1 : ((n + 1 : Nat) : Int) = ((n : Nat) : Int) + 1 := rfl
    rw [X11_tellOf_L11]
    refine wp_if (fun g13 => ?_) (fun g13 => ?_)
    · exact hk_k67 l3 l4 l5  (by have := gO_11_37 hS; omega) (by have := gO_11_37 hS; omega) (by have := gO_11_37 hS; omega) trivial
    · refine wp_calls (t_X11_late (l1 := l6)  (by have := gO_11_37 hS; omega) hS) (fun v14 hh => ?_)
      obtain ⟨hr15, hp15⟩ := hh
      refine wp_calls (t_X11_late (l1 := l6)  (by have := gO_11_37 hS; omega) hS) (fun v20 hh => ?_)
      obtain ⟨hr21, hp21⟩ := hh
      refine wp_calls (t_X11_late (l1 := l6)  (by have := gO_11_37 hS; omega) hS) (fun v24 hh => ?_)
      obtain ⟨hr25, hp25⟩ := hh
      refine wp_if (fun g26 => ?_) (fun g26 => ?_)
      · exact ih  (by have := gO_11_37 hS; have := iA_c l3 v14; omega) (by have := gO_11_37 hS; have := mX_c l4 v20; omega) (by have := gO_11_37 hS; have := iA_c l5 0; omega) (by have := gO_11_37 hS; have := iA_c l6 1; omega) trivial (by have := gO_11_37 hS; have := iA_c l3 v14; have := mX_c l4 v20; have := iA_c l5 0; have := iA_c l6 1; omega)
      · exact ih  (by have := gO_11_37 hS; have := iA_c l3 v14; omega) (by have := gO_11_37 hS; have := mX_c l4 v20; omega) (by have := gO_11_37 hS; have := iA_c l5 1; omega) (by have := gO_11_37 hS; have := iA_c l6 1; omega) trivial (by have := gO_11_37 hS; have := iA_c l3 v14; have := mX_c l4 v20; have := iA_c l5 1; have := iA_c l6 1; omega)
set_option maxHeartbeats 4000000 in
set_option maxRecDepth 100000 in
theorem t_X11_tellOf {μs : Mm} {l1 : Int} {l2 : Int}  (hp_l1 : -2147483648 ≤ l1 ∧ l1 ≤ 2147483647) (hp_l2 : -2147483648 ≤ l2 ∧ l2 ≤ 2147483647) {μ : Mm} (hS : Sm μs μ) (hO : OD l1 (μ 70 37)) : wp (X11_tellOf l1 l2 μ) (fun r μ' => μ' = μ ∧ (-2147483648 ≤ r ∧ r ≤ 2147483647) ∧ True) := by
  have hFU := FU_v
  unfold X11_tellOf
  refine t_X11_tellOf_L11 (l1 := l1) (l2 := l2) (l3 := 0) (l4 := 0) (l5 := 0) (l6 := 0)  (by omega) (by omega) hS (fun v6 v7 v8 hrv6 hrv7 hrv8 hp9 => ?_) FU  (by omega) (by omega) (by omega) (by omega) trivial (by omega)
  refine wp_if (fun g11 => ?_) (fun g11 => ?_)
  · exact ⟨rfl, (by omega), trivial⟩
  · refine wp_if (fun g12 => ?_) (fun g12 => ?_)
    · exact ⟨rfl, (by omega), trivial⟩
    · refine wp_if (fun g13 => ?_) (fun g13 => ?_)
      · exact ⟨rfl, (by omega), trivial⟩
      · refine wp_ldv (by have := (hO).1; have := (hO).2.2.1; have := iR_10 l1 (by omega); have na3 : ((aN 92 : Nat) : Int) = 8 := rfl; omega) (fun v14 q15 => ?_)
        have hrv14 := gA_11_22 hS ((iR l1 10)).toNat
        replace hrv14 : -2147483648 ≤ v14 ∧ v14 ≤ 2147483647 := by rw [q15]; exact hrv14
        exact ⟨rfl, (by omega), trivial⟩
set_option maxHeartbeats 4000000 in
set_option maxRecDepth 100000 in
theorem t_X11_go_L10 {μs : Mm} {l1 : Int} (hI : Ir μs)  (hp_l1 : -2147483648 ≤ l1 ∧ l1 ≤ 2147483647) {mm : Int} (hO : OD l1 mm) {Q : Int → Mm → Prop} (hQ : ∀ r μ, Sm μs μ → (0 ≤ r ∧ r ≤ 1) → μ 70 37 = mm → Q r μ) : ∀ (n : Nat) {l2 l3 l4 : Int} {μ : Mm}, Sm μs μ → (0 ≤ l2 ∧ l2 ≤ 8) → (-2147483648 ≤ l3 ∧ l3 ≤ 2147483647) → (0 ≤ l4 ∧ l4 ≤ 8) → μ 70 37 = mm → 8 - l4 + 1 ≤ ((n : Nat) : Int) → wp (X11_go_L10 l1 n l2 l3 l4 μ) Q := by
  have hFU := FU_v
  intro n
  induction n with
  | zero => intro l2 l3 l4 μ hS hv_l2 hv_l3 hv_l4 hi hm; exact absurd hm (by  have : ((0 : Nat) : Int) = 0 := rfl; omega)
  | succ n ih =>
    intro l2 l3 l4 μ hS hv_l2 hv_l3 hv_l4 hi hm
    have hn1 : ((n + 1 : Nat) : Int) = ((n : Nat) : Int) + 1 := rfl
    rw [X11_go_L10]
    refine wp_if (fun g21 => ?_) (fun g21 => ?_)
    · exact hQ _ _ hS (by have := gO_11_37 hS; omega) (by show μ 70 37 = mm; exact (by have := gO_11_37 hS; omega))
    · refine wp_calls (t_X11_nth (l1 := l1) (l2 := l4)  (by have := gO_11_37 hS; omega) (by have := gO_11_37 hS; omega) hS (by have := gO_11_37 hS; omega)) (fun v22 hh => ?_)
      obtain ⟨hr23, hp23⟩ := hh
      have hodv22 := hp23 (by have e_ : μ 70 37 = mm := (by have := gO_11_37 hS; omega); rw [e_]; exact hO)
      refine wp_ldv (by have := gO_11_37 hS; have := iM_c 8 l2; have := iA_c (iM 8 l2) v22; have na3 : ((aN 89 : Nat) : Int) = 72 := rfl; omega) (fun v32 q33 => ?_)
      have hrv32 := gA_11_19 hS ((iA (iM 8 l2) v22)).toNat
      replace hrv32 : -2147483648 ≤ v32 ∧ v32 ≤ 2147483647 := by rw [q33]; exact hrv32
      refine wp_if (fun g41 => ?_) (fun g41 => ?_)
      · exact hQ _ _ hS (by have := gO_11_37 hS; omega) (by show μ 70 37 = mm; exact (by have := gO_11_37 hS; omega))
      · refine wp_ldv (by have := gO_11_37 hS; have := iM_c 8 l2; have := iA_c (iM 8 l2) v22; have na3 : ((aN 89 : Nat) : Int) = 72 := rfl; omega) (fun v42 q43 => ?_)
        have hrv42 := gA_11_19 hS ((iA (iM 8 l2) v22)).toNat
        replace hrv42 : -2147483648 ≤ v42 ∧ v42 ≤ 2147483647 := by rw [q43]; exact hrv42
        refine wp_stv (P := Sm μs) (by have := gO_11_37 hS; have na1 : ((aN 91 : Nat) : Int) = 8 := rfl; omega) (pA_11_21  hS (by unfold scrM; omega) (by have := gO_11_37 hS; have := gO_11_38 hS; have := iM_r v42 (μ 70 38); have := iA_c l3 (iM v42 (μ 70 38)); omega)) (fun m50 h50 he50 => ?_)
        refine wp_ldv (by have := gO_11_37 hS; have na1 : ((aN 91 : Nat) : Int) = 8 := rfl; omega) (fun v56 q57 => ?_)
        have hrv56 := gA_11_21 h50 (v22).toNat
        replace hrv56 : -2147483648 ≤ v56 ∧ v56 ≤ 2147483647 := by rw [q57]; exact hrv56
        refine wp_ldv (by have := gO_11_37 hS; have na1 : ((aN 90 : Nat) : Int) = 8 := rfl; omega) (fun v62 q63 => ?_)
        have hrv62 := gA_11_20 h50 (v22).toNat
        replace hrv62 : -2147483648 ≤ v62 ∧ v62 ≤ 2147483647 := by rw [q63]; exact hrv62
        refine wp_ldv (by have := gO_11_37 hS; have na1 : ((aN 88 : Nat) : Int) = 8 := rfl; omega) (fun v67 q68 => ?_)
        have hrv67 := gA_11_18 h50 (v22).toNat
        replace hrv67 : -2147483648 ≤ v67 ∧ v67 ≤ 2147483647 := by rw [q68]; exact hrv67
        refine wp_ltv (fun v71 q72 => ?_)
        refine wp_stv (P := Sm μs) (by have := gO_11_37 hS; have na1 : ((aN 92 : Nat) : Int) = 8 := rfl; omega) (pA_11_22  h50 (by unfold scrM; omega) (by have := gO_11_37 hS; have := iA_c v56 v62; have := mX_c (iA v56 v62) v67; omega)) (fun m74 h74 he74 => ?_)
        exact ih h74 (by have := gO_11_37 hS; omega) (by have := gO_11_37 hS; have := iA_c v56 v62; have := mX_c (iA v56 v62) v67; omega) (by have := gO_11_37 hS; have := iA_c l4 1; omega) (by have := gO_11_37 hS; have := iA_c l4 1; have := gO_11_37 h74; have : m74 70 37 = m50 70 37 := (by rw [he74, sM_a (by decide)]); have := gO_11_37 h50; have : m50 70 37 = μ 70 37 := (by rw [he50, sM_a (by decide)]); have := iA_c v56 v62; have := mX_c (iA v56 v62) v67; omega) (by have := gO_11_37 hS; have := iA_c l4 1; have := iA_c v56 v62; have := mX_c (iA v56 v62) v67; omega)
set_option maxHeartbeats 4000000 in
set_option maxRecDepth 100000 in
theorem t_X11_go {μs : Mm} {l1 : Int} (hI : Ir μs)  (hp_l1 : -2147483648 ≤ l1 ∧ l1 ≤ 2147483647) {μ : Mm} (hS : Sm μs μ) (hO : OD l1 (μ 70 37)) : wp (X11_go l1 μ) (fun r μ' => Sm μs μ' ∧ (0 ≤ r ∧ r ≤ 1) ∧ μ' 70 37 = μ 70 37) := by
  have hFU := FU_v
  unfold X11_go
  exact t_X11_go_L10 (l1 := l1) (l2 := (μ 70 37)) (l3 := 0) (l4 := 0) (mm := μ 70 37) hI (by omega) hO (fun r_ m_ h_ hr_ hp_ => by exact ⟨h_, (by omega), (by show m_ 70 37 = μ 70 37; exact (by have := gO_11_37 h_; have := gO_11_37 hS; omega))⟩) FU hS (by have := gO_11_37 hS; omega) (by omega) (by omega) (by have := gO_11_37 hS; omega) (by have := gO_11_37 hS; omega)
set_option maxHeartbeats 4000000 in
set_option maxRecDepth 100000 in
theorem t_X11_order {μs : Mm} {l1 : Int} {l2 : Int} {l3 : Int} (hI : Ir μs)  (hp_l1 : -2147483648 ≤ l1 ∧ l1 ≤ 2147483647) (hp_l2 : -2147483648 ≤ l2 ∧ l2 ≤ 2147483647) (hp_l3 : -2147483648 ≤ l3 ∧ l3 ≤ 2147483647) {μ : Mm} (hS : Sm μs μ) : wp (X11_order l1 l2 l3 μ) (fun r μ' => Sm μs μ' ∧ (-2147483648 ≤ r ∧ r ≤ 2147483647) ∧ True) := by
  have hFU := FU_v
  unfold X11_order
  refine wp_call (t_X11_isReady (l1 := l1) hI (by omega) hS) (fun v11 m12 hh => ?_)
  obtain ⟨h12, hr12, hp12⟩ := hh
  refine wp_if (fun g21 => ?_) (fun g21 => ?_)
  · exact ⟨h12, (by omega), trivial⟩
  · refine wp_calls (t_X11_isOrder (l1 := l2)  (by omega) h12) (fun v22 hh => ?_)
    obtain ⟨hr23, hp23⟩ := hh
    refine wp_if (fun g30 => ?_) (fun g30 => ?_)
    · exact ⟨h12, (by omega), trivial⟩
    · refine wp_calls (t_X11_in (l0 := l3) (l1 := 0) (l2 := 3)  (by omega) (by omega) (by omega) h12) (fun v31 hh => ?_)
      obtain ⟨hr32, hp32⟩ := hh
      refine wp_if (fun g37 => ?_) (fun g37 => ?_)
      · exact ⟨h12, (by omega), trivial⟩
      · refine wp_call (t_X11_go (l1 := l2) hI (by omega) h12 (hp23.resolve_left g30)) (fun v38 m39 hh => ?_)
        obtain ⟨h39, hr39, hp39⟩ := hh
        refine wp_if (fun g42 => ?_) (fun g42 => ?_)
        · exact ⟨h39, (by omega), trivial⟩
        · refine wp_calls (t_X11_tellOf (l1 := l2) (l2 := l3)  (by omega) (by omega) h39 (by have e_ : m39 70 37 = m12 70 37 := (by have := gO_11_37 h39; have := gO_11_37 h12; omega); rw [e_]; exact (hp23.resolve_left g30))) (fun v43 hh => ?_)
          obtain ⟨hr44, hp44⟩ := hh
          exact ⟨h39, (by omega), trivial⟩
set_option maxHeartbeats 4000000 in
set_option maxRecDepth 100000 in
theorem t_X11_done {μs : Mm} {l1 : Int} {l2 : Int} {l3 : Int} {l4 : Int} (hI : Ir μs)  (hp_l1 : -2147483648 ≤ l1 ∧ l1 ≤ 2147483647) (hp_l2 : -2147483648 ≤ l2 ∧ l2 ≤ 2147483647) (hp_l3 : -2147483648 ≤ l3 ∧ l3 ≤ 2147483647) (hp_l4 : -2147483648 ≤ l4 ∧ l4 ≤ 2147483647) {μ : Mm} (hS : Sm μs μ) : wp (X11_done l1 l2 l3 l4 μ) (fun r μ' => Sm μs μ' ∧ (-2147483648 ≤ r ∧ r ≤ 2147483647) ∧ True) := by
  have hFU := FU_v
  unfold X11_done
  refine wp_call (t_X11_isReady (l1 := l1) hI (by omega) hS) (fun v15 m16 hh => ?_)
  obtain ⟨h16, hr16, hp16⟩ := hh
  refine wp_if (fun g29 => ?_) (fun g29 => ?_)
  · exact ⟨h16, (by omega), trivial⟩
  · refine wp_calls (t_X11_isOrder (l1 := l2)  (by omega) h16) (fun v30 hh => ?_)
    obtain ⟨hr31, hp31⟩ := hh
    refine wp_if (fun g42 => ?_) (fun g42 => ?_)
    · exact ⟨h16, (by omega), trivial⟩
    · refine wp_calls (t_X11_in (l0 := l3) (l1 := 0) (l2 := (iS (m16 70 37) 1))  (by omega) (by omega) (by have := gO_11_37 h16; have := iS_c (m16 70 37) 1; omega) h16) (fun v43 hh => ?_)
      obtain ⟨hr44, hp44⟩ := hh
      refine wp_if (fun g53 => ?_) (fun g53 => ?_)
      · exact ⟨h16, (by have := gO_11_37 h16; have := iS_c (m16 70 37) 1; omega), trivial⟩
      · refine wp_calls (t_X11_in (l0 := l4) (l1 := 0) (l2 := 2)  (by have := gO_11_37 h16; have := iS_c (m16 70 37) 1; omega) (by have := gO_11_37 h16; have := iS_c (m16 70 37) 1; omega) (by have := gO_11_37 h16; have := iS_c (m16 70 37) 1; omega) h16) (fun v54 hh => ?_)
        obtain ⟨hr55, hp55⟩ := hh
        refine wp_if (fun g62 => ?_) (fun g62 => ?_)
        · exact ⟨h16, (by have := gO_11_37 h16; have := iS_c (m16 70 37) 1; omega), trivial⟩
        · refine wp_call (t_X11_go (l1 := l2) hI (by have := gO_11_37 h16; have := iS_c (m16 70 37) 1; omega) h16 (hp31.resolve_left g42)) (fun v63 m64 hh => ?_)
          obtain ⟨h64, hr64, hp64⟩ := hh
          refine wp_if (fun g69 => ?_) (fun g69 => ?_)
          · exact ⟨h64, (by have := gO_11_37 h16; have := iS_c (m16 70 37) 1; omega), trivial⟩
          · refine wp_if (fun g70 => ?_) (fun g70 => ?_)
            · refine wp_ldv (by have := gO_11_37 h16; have na1 : ((aN 92 : Nat) : Int) = 8 := rfl; have := iS_c (m16 70 37) 1; omega) (fun v71 q72 => ?_)
              have hrv71 := gA_11_22 h64 (l3).toNat
              replace hrv71 : -2147483648 ≤ v71 ∧ v71 ≤ 2147483647 := by rw [q72]; exact hrv71
              exact ⟨h64, (by have := gO_11_37 h16; have := iS_c (m16 70 37) 1; omega), trivial⟩
            · refine wp_if (fun g73 => ?_) (fun g73 => ?_)
              · refine wp_calls (t_X11_late (l1 := l3)  (by have := gO_11_37 h16; have := iS_c (m16 70 37) 1; omega) h64) (fun v74 hh => ?_)
                obtain ⟨hr75, hp75⟩ := hh
                exact ⟨h64, (by have := gO_11_37 h16; have := iS_c (m16 70 37) 1; omega), trivial⟩
              · refine wp_ldv (by have := gO_11_37 h16; have na1 : ((aN 91 : Nat) : Int) = 8 := rfl; have := iS_c (m16 70 37) 1; omega) (fun v76 q77 => ?_)
                have hrv76 := gA_11_21 h64 (l3).toNat
                replace hrv76 : -2147483648 ≤ v76 ∧ v76 ≤ 2147483647 := by rw [q77]; exact hrv76
                exact ⟨h64, (by have := gO_11_37 h16; have := iS_c (m16 70 37) 1; omega), trivial⟩
set_option maxHeartbeats 4000000 in
set_option maxRecDepth 100000 in
theorem t_X11_where_L33 {μs : Mm} {l1 : Int} {l2 : Int} {l3 : Int}  (hp_l1 : 0 ≤ l1 ∧ l1 ≤ 4) (hp_l2 : -2147483648 ≤ l2 ∧ l2 ≤ 2147483647) (hp_l3 : -2147483648 ≤ l3 ∧ l3 ≤ 2147483647) {μ : Mm} (hS : Sm μs μ) (hO : OD l2 (μ 70 37)) {k91 : Mm → Rs} {k72 : Int → Mm → Rs} {Q : Int → Mm → Prop} (hk_k91 : True → wp (k91 μ) Q) (hk_k72 : ∀ (a0 : Int), (0 ≤ a0 ∧ a0 ≤ 7) → True → wp (k72 a0 μ) Q) : ∀ (n : Nat) {l4 : Int} , (0 ≤ l4 ∧ l4 ≤ 8) → True → 8 - l4 + 1 ≤ ((n : Nat) : Int) → wp (X11_where_L33 l1 l2 l3 k91 k72 n l4 μ) Q := by
  have hFU := FU_v
  intro n
  induction n with
  | zero => intro l4 hv_l4 hi hm; exact absurd hm (by  have : ((0 : Nat) : Int) = 0 := rfl; omega)
  | succ n ih =>
    intro l4 hv_l4 hi hm
    have hn1 : ((n + 1 : Nat) : Int) = ((n : Nat) : Int) + 1 := rfl
    rw [X11_where_L33]
    refine wp_if (fun g13 => ?_) (fun g13 => ?_)
    · exact hk_k91    trivial
    · refine wp_calls (t_X11_nth (l1 := l2) (l2 := l4)  (by have := gO_11_37 hS; omega) (by have := gO_11_37 hS; omega) hS (by have := gO_11_37 hS; omega)) (fun v14 hh => ?_)
      obtain ⟨hr15, hp15⟩ := hh
      have hodv14 := hp15 hO
      refine wp_ldv (by have := gO_11_37 hS; have na1 : ((aN 91 : Nat) : Int) = 8 := rfl; omega) (fun v20 q21 => ?_)
      have hrv20 := gA_11_21 hS (v14).toNat
      replace hrv20 : -2147483648 ≤ v20 ∧ v20 ≤ 2147483647 := by rw [q21]; exact hrv20
      refine wp_ldv (by have := gO_11_37 hS; have na1 : ((aN 92 : Nat) : Int) = 8 := rfl; omega) (fun v25 q26 => ?_)
      have hrv25 := gA_11_22 hS (v14).toNat
      replace hrv25 : -2147483648 ≤ v25 ∧ v25 ≤ 2147483647 := by rw [q26]; exact hrv25
      refine wp_calls (t_X11_in (l0 := l3) (l1 := v20) (l2 := v25)  (by have := gO_11_37 hS; omega) (by have := gO_11_37 hS; omega) (by have := gO_11_37 hS; omega) hS) (fun v29 hh => ?_)
      obtain ⟨hr30, hp30⟩ := hh
      refine wp_if (fun g31 => ?_) (fun g31 => ?_)
      · exact ih  (by have := gO_11_37 hS; have := iA_c l4 1; omega) trivial (by have := gO_11_37 hS; have := iA_c l4 1; omega)
      · exact hk_k72 v14  (by have := gO_11_37 hS; omega) trivial
set_option maxHeartbeats 4000000 in
set_option maxRecDepth 100000 in
theorem t_X11_where {μs : Mm} {l1 : Int} {l2 : Int} {l3 : Int} (hI : Ir μs)  (hp_l1 : -2147483648 ≤ l1 ∧ l1 ≤ 2147483647) (hp_l2 : -2147483648 ≤ l2 ∧ l2 ≤ 2147483647) (hp_l3 : -2147483648 ≤ l3 ∧ l3 ≤ 2147483647) {μ : Mm} (hS : Sm μs μ) : wp (X11_where l1 l2 l3 μ) (fun r μ' => Sm μs μ' ∧ (-2147483648 ≤ r ∧ r ≤ 2147483647) ∧ True) := by
  have hFU := FU_v
  unfold X11_where
  refine wp_call (t_X11_isReady (l1 := l1) hI (by omega) hS) (fun v12 m13 hh => ?_)
  obtain ⟨h13, hr13, hp13⟩ := hh
  refine wp_if (fun g23 => ?_) (fun g23 => ?_)
  · exact ⟨h13, (by omega), trivial⟩
  · refine wp_calls (t_X11_isOrder (l1 := l2)  (by omega) h13) (fun v24 hh => ?_)
    obtain ⟨hr25, hp25⟩ := hh
    refine wp_if (fun g33 => ?_) (fun g33 => ?_)
    · exact ⟨h13, (by omega), trivial⟩
    · refine wp_if (fun g34 => ?_) (fun g34 => ?_)
      · exact ⟨h13, (by omega), trivial⟩
      · refine wp_call (t_X11_go (l1 := l2) hI (by omega) h13 (hp25.resolve_left g33)) (fun v35 m36 hh => ?_)
        obtain ⟨h36, hr36, hp36⟩ := hh
        refine wp_if (fun g42 => ?_) (fun g42 => ?_)
        · exact ⟨h36, (by omega), trivial⟩
        · refine t_X11_where_L33 (l1 := l1) (l2 := l2) (l3 := l3) (l4 := 0)  (by omega) (by omega) (by omega) h36 (by have e_ : m36 70 37 = m13 70 37 := (by have := gO_11_37 h36; have := gO_11_37 h13; omega); rw [e_]; exact (hp25.resolve_left g33)) (fun hp43 => ?_) (fun v45 hrv45 hp46 => ?_) FU  (by omega) trivial (by omega)
          · refine wp_ldv (by have := ((hp25.resolve_left g33)).1; have := ((hp25.resolve_left g33)).2.2.1; have := iR_10 l2 (by omega); have na3 : ((aN 92 : Nat) : Int) = 8 := rfl; omega) (fun v48 q49 => ?_)
            have hrv48 := gA_11_22 h36 ((iR l2 10)).toNat
            replace hrv48 : -2147483648 ≤ v48 ∧ v48 ≤ 2147483647 := by rw [q49]; exact hrv48
            refine wp_if (fun g50 => ?_) (fun g50 => ?_)
            · exact ⟨h36, (by omega), trivial⟩
            · exact ⟨h36, (by omega), trivial⟩
          · refine wp_ldv (by have := iM_c 8 l1; have := iA_c (iM 8 l1) v45; have na2 : ((aN 83 : Nat) : Int) = 48 := rfl; omega) (fun v51 q52 => ?_)
            have hrv51 := gA_11_13 h36 ((iA (iM 8 l1) v45)).toNat
            replace hrv51 : -2147483648 ≤ v51 ∧ v51 ≤ 2147483647 := by rw [q52]; exact hrv51
            exact ⟨h36, (by omega), trivial⟩
set_option maxHeartbeats 4000000 in
set_option maxRecDepth 100000 in
theorem t_X11_search_L38 {μs : Mm} {l1 : Int} {l2 : Int} {l3 : Int} {l4 : Int} {l5 : Int} {l6 : Int} (hI : Ir μs) {N : Int} {rec : Int → Int → Int → Int → Int → Int → Mm → Rs} (hrec : ∀ (l1 : Int) (l2 : Int) (l3 : Int) (l4 : Int) (l5 : Int) (l6 : Int) (μ : Mm), Sm μs μ → (-2147483648 ≤ l1 ∧ l1 ≤ 2147483647) → (0 ≤ l2 ∧ l2 ≤ 255) → (0 ≤ l3 ∧ l3 ≤ 8) → (-2147483648 ≤ l4 ∧ l4 ≤ 2147483647) → (-2147483648 ≤ l5 ∧ l5 ≤ 2147483647) → (-2147483648 ≤ l6 ∧ l6 ≤ 2147483647) → pc l2 + 1 ≤ N → wp (rec l1 l2 l3 l4 l5 l6 μ) (fun r μ' => Sm μs μ' ∧ (-2147483648 ≤ r ∧ r ≤ 2147483647) ∧ μ' 70 37 = μ 70 37))  (hp_l1 : -2147483648 ≤ l1 ∧ l1 ≤ 2147483647) (hp_l2 : 0 ≤ l2 ∧ l2 ≤ 255) (hp_l3 : 0 ≤ l3 ∧ l3 ≤ 8) (hp_l4 : -2147483648 ≤ l4 ∧ l4 ≤ 2147483647) (hp_l5 : -2147483648 ≤ l5 ∧ l5 ≤ 2147483647) (hp_l6 : -2147483648 ≤ l6 ∧ l6 ≤ 2147483647) (hl : pc l2 ≤ N) {mm : Int} {Q : Int → Mm → Prop} (hQ : ∀ r μ, Sm μs μ → (-2147483648 ≤ r ∧ r ≤ 2147483647) → μ 70 37 = mm → Q r μ) : ∀ (n : Nat) {l7 : Int} {μ : Mm}, Sm μs μ → (0 ≤ l7 ∧ l7 ≤ 8) → μ 70 37 = mm → 8 - l7 + 1 ≤ ((n : Nat) : Int) → wp (X11_search_L38 rec l1 l2 l3 l4 l5 l6 n l7 μ) Q := by
  have hFU := FU_v
  intro n
  induction n with
  | zero => intro l7 μ hS hv_l7 hi hm; exact absurd hm (by  have : ((0 : Nat) : Int) = 0 := rfl; omega)
  | succ n ih =>
    intro l7 μ hS hv_l7 hi hm
    have hn1 : ((n + 1 : Nat) : Int) = ((n : Nat) : Int) + 1 := rfl
    rw [X11_search_L38]
    refine wp_if (fun g15 => ?_) (fun g15 => ?_)
    · exact hQ _ _ hS (by have := gO_11_37 hS; omega) (by show μ 70 37 = mm; exact (by have := gO_11_37 hS; omega))
    · refine wp_calls (t_X11_has (l0 := l2) (l1 := l7)  (by have := gO_11_37 hS; omega) (by have := gO_11_37 hS; omega) hS) (fun v16 hh => ?_)
      obtain ⟨hr17, hp17⟩ := hh
      refine wp_if (fun g23 => ?_) (fun g23 => ?_)
      · unfold X11_search_J72
        try dsimp only
        refine wp_if (fun g36 => ?_) (fun g36 => ?_)
        · exact ih hS (by have := gO_11_37 hS; have := iA_c l7 1; omega) (by have := gO_11_37 hS; have := iA_c l7 1; omega) (by have := gO_11_37 hS; have := iA_c l7 1; omega)
        · refine wp_ldv (by have := gO_11_37 hS; have na1 : ((aN 90 : Nat) : Int) = 8 := rfl; omega) (fun v37 q38 => ?_)
          have hrv37 := gA_11_20 hS (l7).toNat
          replace hrv37 : -2147483648 ≤ v37 ∧ v37 ≤ 2147483647 := by rw [q38]; exact hrv37
          refine wp_ldv (by have := gO_11_37 hS; have na1 : ((aN 88 : Nat) : Int) = 8 := rfl; omega) (fun v50 q51 => ?_)
          have hrv50 := gA_11_18 hS (l7).toNat
          replace hrv50 : -2147483648 ≤ v50 ∧ v50 ≤ 2147483647 := by rw [q51]; exact hrv50
          refine wp_ltv (fun v62 q63 => ?_)
          refine wp_ldv (by have := gO_11_37 hS; have na1 : ((aN 88 : Nat) : Int) = 8 := rfl; omega) (fun v73 q74 => ?_)
          have hrv73 := gA_11_18 hS (l7).toNat
          replace hrv73 : -2147483648 ≤ v73 ∧ v73 ≤ 2147483647 := by rw [q74]; exact hrv73
          refine wp_if (fun g83 => ?_) (fun g83 => ?_)
          · unfold X11_search_J162
            try dsimp only
            refine wp_call (hrec l1 (bA l2 (bX (bL 1 l7) (-1))) l7 v62 (iA l5 (iS v62 v73)) (iA (iM 10 l6) l7) μ hS (by have := gO_11_37 hS; omega) (by have := gO_11_37 hS; have := bL_r 1 l7; have := bX_r (bL 1 l7) (-1); have := pcl (x := l2) (c := l7) (by omega) (by omega); omega) (by have := gO_11_37 hS; omega) (by have := gO_11_37 hS; have := gO_11_38 hS; have := iM_c (-1) (μ 70 38); have := iA_c l4 (iM (-1) (μ 70 38)); have := iA_c (iA l4 (iM (-1) (μ 70 38))) v37; have := mX_c (iA (iA l4 (iM (-1) (μ 70 38))) v37) v50; omega) (by have := gO_11_37 hS; have := gO_11_38 hS; have := iS_c v62 v73; have := iA_c l5 (iS v62 v73); have := iM_c (-1) (μ 70 38); have := iA_c l4 (iM (-1) (μ 70 38)); have := iA_c (iA l4 (iM (-1) (μ 70 38))) v37; have := mX_c (iA (iA l4 (iM (-1) (μ 70 38))) v37) v50; omega) (by have := gO_11_37 hS; have := iM_c 10 l6; have := iA_c (iM 10 l6) l7; omega) (by have := gO_11_37 hS; have := pcl (x := l2) (c := l7) (by omega) (by omega); omega)) (fun v86 m87 hh => ?_)
            obtain ⟨h87, hr87, hp87⟩ := hh
            exact ih h87 (by have := gO_11_37 hS; have := iA_c l7 1; omega) (by have := gO_11_37 hS; have := iA_c l7 1; have := gO_11_37 h87; omega) (by have := gO_11_37 hS; have := iA_c l7 1; omega)
          · refine wp_if (fun g88 => ?_) (fun g88 => ?_)
            · unfold X11_search_J162
              try dsimp only
              refine wp_call (hrec l1 (bA l2 (bX (bL 1 l7) (-1))) l7 v62 (mX l5 (iS v62 v73)) (iA (iM 10 l6) l7) μ hS (by have := gO_11_37 hS; omega) (by have := gO_11_37 hS; have := bL_r 1 l7; have := bX_r (bL 1 l7) (-1); have := pcl (x := l2) (c := l7) (by omega) (by omega); omega) (by have := gO_11_37 hS; omega) (by have := gO_11_37 hS; have := gO_11_38 hS; have := iM_c (-1) (μ 70 38); have := iA_c l4 (iM (-1) (μ 70 38)); have := iA_c (iA l4 (iM (-1) (μ 70 38))) v37; have := mX_c (iA (iA l4 (iM (-1) (μ 70 38))) v37) v50; omega) (by have := gO_11_37 hS; have := gO_11_38 hS; have := iS_c v62 v73; have := mX_c l5 (iS v62 v73); have := iM_c (-1) (μ 70 38); have := iA_c l4 (iM (-1) (μ 70 38)); have := iA_c (iA l4 (iM (-1) (μ 70 38))) v37; have := mX_c (iA (iA l4 (iM (-1) (μ 70 38))) v37) v50; omega) (by have := gO_11_37 hS; have := iM_c 10 l6; have := iA_c (iM 10 l6) l7; omega) (by have := gO_11_37 hS; have := pcl (x := l2) (c := l7) (by omega) (by omega); omega)) (fun v91 m92 hh => ?_)
              obtain ⟨h92, hr92, hp92⟩ := hh
              exact ih h92 (by have := gO_11_37 hS; have := iA_c l7 1; omega) (by have := gO_11_37 hS; have := iA_c l7 1; have := gO_11_37 h92; omega) (by have := gO_11_37 hS; have := iA_c l7 1; omega)
            · refine wp_if (fun g93 => ?_) (fun g93 => ?_)
              · unfold X11_search_J161
                try dsimp only
                unfold X11_search_J162
                try dsimp only
                refine wp_call (hrec l1 (bA l2 (bX (bL 1 l7) (-1))) l7 v62 (iA l5 0) (iA (iM 10 l6) l7) μ hS (by have := gO_11_37 hS; have := iS_c v62 v73; omega) (by have := gO_11_37 hS; have := bL_r 1 l7; have := bX_r (bL 1 l7) (-1); have := pcl (x := l2) (c := l7) (by omega) (by omega); have := iS_c v62 v73; omega) (by have := gO_11_37 hS; have := iS_c v62 v73; omega) (by have := gO_11_37 hS; have := gO_11_38 hS; have := iM_c (-1) (μ 70 38); have := iA_c l4 (iM (-1) (μ 70 38)); have := iA_c (iA l4 (iM (-1) (μ 70 38))) v37; have := mX_c (iA (iA l4 (iM (-1) (μ 70 38))) v37) v50; have := iS_c v62 v73; omega) (by have := gO_11_37 hS; have := iA_c l5 0; have := iS_c v62 v73; omega) (by have := gO_11_37 hS; have := iM_c 10 l6; have := iA_c (iM 10 l6) l7; have := iS_c v62 v73; omega) (by have := gO_11_37 hS; have := pcl (x := l2) (c := l7) (by omega) (by omega); omega)) (fun v98 m99 hh => ?_)
                obtain ⟨h99, hr99, hp99⟩ := hh
                exact ih h99 (by have := gO_11_37 hS; have := iA_c l7 1; have := iS_c v62 v73; omega) (by have := gO_11_37 hS; have := iA_c l7 1; have := gO_11_37 h99; have := iS_c v62 v73; omega) (by have := gO_11_37 hS; have := iA_c l7 1; have := iS_c v62 v73; omega)
              · unfold X11_search_J161
                try dsimp only
                unfold X11_search_J162
                try dsimp only
                refine wp_call (hrec l1 (bA l2 (bX (bL 1 l7) (-1))) l7 v62 (iA l5 1) (iA (iM 10 l6) l7) μ hS (by have := gO_11_37 hS; have := iS_c v62 v73; omega) (by have := gO_11_37 hS; have := bL_r 1 l7; have := bX_r (bL 1 l7) (-1); have := pcl (x := l2) (c := l7) (by omega) (by omega); have := iS_c v62 v73; omega) (by have := gO_11_37 hS; have := iS_c v62 v73; omega) (by have := gO_11_37 hS; have := gO_11_38 hS; have := iM_c (-1) (μ 70 38); have := iA_c l4 (iM (-1) (μ 70 38)); have := iA_c (iA l4 (iM (-1) (μ 70 38))) v37; have := mX_c (iA (iA l4 (iM (-1) (μ 70 38))) v37) v50; have := iS_c v62 v73; omega) (by have := gO_11_37 hS; have := iA_c l5 1; have := iS_c v62 v73; omega) (by have := gO_11_37 hS; have := iM_c 10 l6; have := iA_c (iM 10 l6) l7; have := iS_c v62 v73; omega) (by have := gO_11_37 hS; have := pcl (x := l2) (c := l7) (by omega) (by omega); omega)) (fun v104 m105 hh => ?_)
                obtain ⟨h105, hr105, hp105⟩ := hh
                exact ih h105 (by have := gO_11_37 hS; have := iA_c l7 1; have := iS_c v62 v73; omega) (by have := gO_11_37 hS; have := iA_c l7 1; have := gO_11_37 h105; have := iS_c v62 v73; omega) (by have := gO_11_37 hS; have := iA_c l7 1; have := iS_c v62 v73; omega)
      · refine wp_ldv (by have := gO_11_37 hS; have := iM_c 8 l3; have := iA_c (iM 8 l3) l7; have na3 : ((aN 89 : Nat) : Int) = 72 := rfl; omega) (fun v106 q107 => ?_)
        have hrv106 := gA_11_19 hS ((iA (iM 8 l3) l7)).toNat
        replace hrv106 : -2147483648 ≤ v106 ∧ v106 ≤ 2147483647 := by rw [q107]; exact hrv106
        unfold X11_search_J72
        try dsimp only
        refine wp_if (fun g122 => ?_) (fun g122 => ?_)
        · exact ih hS (by have := gO_11_37 hS; have := iA_c l7 1; omega) (by have := gO_11_37 hS; have := iA_c l7 1; omega) (by have := gO_11_37 hS; have := iA_c l7 1; omega)
        · refine wp_ldv (by have := gO_11_37 hS; have na1 : ((aN 90 : Nat) : Int) = 8 := rfl; omega) (fun v123 q124 => ?_)
          have hrv123 := gA_11_20 hS (l7).toNat
          replace hrv123 : -2147483648 ≤ v123 ∧ v123 ≤ 2147483647 := by rw [q124]; exact hrv123
          refine wp_ldv (by have := gO_11_37 hS; have na1 : ((aN 88 : Nat) : Int) = 8 := rfl; omega) (fun v136 q137 => ?_)
          have hrv136 := gA_11_18 hS (l7).toNat
          replace hrv136 : -2147483648 ≤ v136 ∧ v136 ≤ 2147483647 := by rw [q137]; exact hrv136
          refine wp_ltv (fun v148 q149 => ?_)
          refine wp_ldv (by have := gO_11_37 hS; have na1 : ((aN 88 : Nat) : Int) = 8 := rfl; omega) (fun v159 q160 => ?_)
          have hrv159 := gA_11_18 hS (l7).toNat
          replace hrv159 : -2147483648 ≤ v159 ∧ v159 ≤ 2147483647 := by rw [q160]; exact hrv159
          refine wp_if (fun g169 => ?_) (fun g169 => ?_)
          · unfold X11_search_J162
            try dsimp only
            refine wp_call (hrec l1 (bA l2 (bX (bL 1 l7) (-1))) l7 v148 (iA l5 (iS v148 v159)) (iA (iM 10 l6) l7) μ hS (by have := gO_11_37 hS; omega) (by have := gO_11_37 hS; have := bL_r 1 l7; have := bX_r (bL 1 l7) (-1); have := pcl (x := l2) (c := l7) (by omega) (by omega); omega) (by have := gO_11_37 hS; omega) (by have := gO_11_37 hS; have := gO_11_38 hS; have := iM_r v106 (μ 70 38); have := iA_c l4 (iM v106 (μ 70 38)); have := iA_c (iA l4 (iM v106 (μ 70 38))) v123; have := mX_c (iA (iA l4 (iM v106 (μ 70 38))) v123) v136; omega) (by have := gO_11_37 hS; have := gO_11_38 hS; have := iS_c v148 v159; have := iA_c l5 (iS v148 v159); have := iM_r v106 (μ 70 38); have := iA_c l4 (iM v106 (μ 70 38)); have := iA_c (iA l4 (iM v106 (μ 70 38))) v123; have := mX_c (iA (iA l4 (iM v106 (μ 70 38))) v123) v136; omega) (by have := gO_11_37 hS; have := iM_c 10 l6; have := iA_c (iM 10 l6) l7; omega) (by have := gO_11_37 hS; have := pcl (x := l2) (c := l7) (by omega) (by omega); omega)) (fun v172 m173 hh => ?_)
            obtain ⟨h173, hr173, hp173⟩ := hh
            exact ih h173 (by have := gO_11_37 hS; have := iA_c l7 1; omega) (by have := gO_11_37 hS; have := iA_c l7 1; have := gO_11_37 h173; omega) (by have := gO_11_37 hS; have := iA_c l7 1; omega)
          · refine wp_if (fun g174 => ?_) (fun g174 => ?_)
            · unfold X11_search_J162
              try dsimp only
              refine wp_call (hrec l1 (bA l2 (bX (bL 1 l7) (-1))) l7 v148 (mX l5 (iS v148 v159)) (iA (iM 10 l6) l7) μ hS (by have := gO_11_37 hS; omega) (by have := gO_11_37 hS; have := bL_r 1 l7; have := bX_r (bL 1 l7) (-1); have := pcl (x := l2) (c := l7) (by omega) (by omega); omega) (by have := gO_11_37 hS; omega) (by have := gO_11_37 hS; have := gO_11_38 hS; have := iM_r v106 (μ 70 38); have := iA_c l4 (iM v106 (μ 70 38)); have := iA_c (iA l4 (iM v106 (μ 70 38))) v123; have := mX_c (iA (iA l4 (iM v106 (μ 70 38))) v123) v136; omega) (by have := gO_11_37 hS; have := gO_11_38 hS; have := iS_c v148 v159; have := mX_c l5 (iS v148 v159); have := iM_r v106 (μ 70 38); have := iA_c l4 (iM v106 (μ 70 38)); have := iA_c (iA l4 (iM v106 (μ 70 38))) v123; have := mX_c (iA (iA l4 (iM v106 (μ 70 38))) v123) v136; omega) (by have := gO_11_37 hS; have := iM_c 10 l6; have := iA_c (iM 10 l6) l7; omega) (by have := gO_11_37 hS; have := pcl (x := l2) (c := l7) (by omega) (by omega); omega)) (fun v177 m178 hh => ?_)
              obtain ⟨h178, hr178, hp178⟩ := hh
              exact ih h178 (by have := gO_11_37 hS; have := iA_c l7 1; omega) (by have := gO_11_37 hS; have := iA_c l7 1; have := gO_11_37 h178; omega) (by have := gO_11_37 hS; have := iA_c l7 1; omega)
            · refine wp_if (fun g179 => ?_) (fun g179 => ?_)
              · unfold X11_search_J161
                try dsimp only
                unfold X11_search_J162
                try dsimp only
                refine wp_call (hrec l1 (bA l2 (bX (bL 1 l7) (-1))) l7 v148 (iA l5 0) (iA (iM 10 l6) l7) μ hS (by have := gO_11_37 hS; have := iS_c v148 v159; omega) (by have := gO_11_37 hS; have := bL_r 1 l7; have := bX_r (bL 1 l7) (-1); have := pcl (x := l2) (c := l7) (by omega) (by omega); have := iS_c v148 v159; omega) (by have := gO_11_37 hS; have := iS_c v148 v159; omega) (by have := gO_11_37 hS; have := gO_11_38 hS; have := iM_r v106 (μ 70 38); have := iA_c l4 (iM v106 (μ 70 38)); have := iA_c (iA l4 (iM v106 (μ 70 38))) v123; have := mX_c (iA (iA l4 (iM v106 (μ 70 38))) v123) v136; have := iS_c v148 v159; omega) (by have := gO_11_37 hS; have := iA_c l5 0; have := iS_c v148 v159; omega) (by have := gO_11_37 hS; have := iM_c 10 l6; have := iA_c (iM 10 l6) l7; have := iS_c v148 v159; omega) (by have := gO_11_37 hS; have := pcl (x := l2) (c := l7) (by omega) (by omega); omega)) (fun v184 m185 hh => ?_)
                obtain ⟨h185, hr185, hp185⟩ := hh
                exact ih h185 (by have := gO_11_37 hS; have := iA_c l7 1; have := iS_c v148 v159; omega) (by have := gO_11_37 hS; have := iA_c l7 1; have := gO_11_37 h185; have := iS_c v148 v159; omega) (by have := gO_11_37 hS; have := iA_c l7 1; have := iS_c v148 v159; omega)
              · unfold X11_search_J161
                try dsimp only
                unfold X11_search_J162
                try dsimp only
                refine wp_call (hrec l1 (bA l2 (bX (bL 1 l7) (-1))) l7 v148 (iA l5 1) (iA (iM 10 l6) l7) μ hS (by have := gO_11_37 hS; have := iS_c v148 v159; omega) (by have := gO_11_37 hS; have := bL_r 1 l7; have := bX_r (bL 1 l7) (-1); have := pcl (x := l2) (c := l7) (by omega) (by omega); have := iS_c v148 v159; omega) (by have := gO_11_37 hS; have := iS_c v148 v159; omega) (by have := gO_11_37 hS; have := gO_11_38 hS; have := iM_r v106 (μ 70 38); have := iA_c l4 (iM v106 (μ 70 38)); have := iA_c (iA l4 (iM v106 (μ 70 38))) v123; have := mX_c (iA (iA l4 (iM v106 (μ 70 38))) v123) v136; have := iS_c v148 v159; omega) (by have := gO_11_37 hS; have := iA_c l5 1; have := iS_c v148 v159; omega) (by have := gO_11_37 hS; have := iM_c 10 l6; have := iA_c (iM 10 l6) l7; have := iS_c v148 v159; omega) (by have := gO_11_37 hS; have := pcl (x := l2) (c := l7) (by omega) (by omega); omega)) (fun v190 m191 hh => ?_)
                obtain ⟨h191, hr191, hp191⟩ := hh
                exact ih h191 (by have := gO_11_37 hS; have := iA_c l7 1; have := iS_c v148 v159; omega) (by have := gO_11_37 hS; have := iA_c l7 1; have := gO_11_37 h191; have := iS_c v148 v159; omega) (by have := gO_11_37 hS; have := iA_c l7 1; have := iS_c v148 v159; omega)
/-! TOTALITY of the reference, by program (wip/gen/totm.py) -/
set_option maxHeartbeats 4000000 in
set_option maxRecDepth 100000 in
theorem t_X11_search {μs : Mm} (hI : Ir μs) : ∀ (n : Nat) {l1 l2 l3 l4 l5 l6 : Int} {μ : Mm}, Sm μs μ → (-2147483648 ≤ l1 ∧ l1 ≤ 2147483647) → (0 ≤ l2 ∧ l2 ≤ 255) → (0 ≤ l3 ∧ l3 ≤ 8) → (-2147483648 ≤ l4 ∧ l4 ≤ 2147483647) → (-2147483648 ≤ l5 ∧ l5 ≤ 2147483647) → (-2147483648 ≤ l6 ∧ l6 ≤ 2147483647) → pc l2 + 1 ≤ ((n : Nat) : Int) → wp (X11_search n l1 l2 l3 l4 l5 l6 μ) (fun r μ' => Sm μs μ' ∧ (-2147483648 ≤ r ∧ r ≤ 2147483647) ∧ μ' 70 37 = μ 70 37) := by
  have hFU := FU_v
  intro n
  induction n with
  | zero => intro l1 l2 l3 l4 l5 l6 μ hS hv_l1 hv_l2 hv_l3 hv_l4 hv_l5 hv_l6 hl; exact absurd hl (by have : ((0 : Nat) : Int) = 0 := rfl; have := pc_r hv_l2; omega)
  | succ n ih =>
    intro l1 l2 l3 l4 l5 l6 μ hS hv_l1 hv_l2 hv_l3 hv_l4 hv_l5 hv_l6 hl
    have hn1 : ((n + 1 : Nat) : Int) = ((n : Nat) : Int) + 1 := rfl
    have hrec : ∀ (l1 : Int) (l2 : Int) (l3 : Int) (l4 : Int) (l5 : Int) (l6 : Int) (μ : Mm), Sm μs μ → (-2147483648 ≤ l1 ∧ l1 ≤ 2147483647) → (0 ≤ l2 ∧ l2 ≤ 255) → (0 ≤ l3 ∧ l3 ≤ 8) → (-2147483648 ≤ l4 ∧ l4 ≤ 2147483647) → (-2147483648 ≤ l5 ∧ l5 ≤ 2147483647) → (-2147483648 ≤ l6 ∧ l6 ≤ 2147483647) → pc l2 + 1 ≤ ((n : Nat) : Int) → wp (X11_search n l1 l2 l3 l4 l5 l6 μ) (fun r μ' => Sm μs μ' ∧ (-2147483648 ≤ r ∧ r ≤ 2147483647) ∧ μ' 70 37 = μ 70 37) := fun l1 l2 l3 l4 l5 l6 μ hS hv_l1 hv_l2 hv_l3 hv_l4 hv_l5 hv_l6 hl => ih hS hv_l1 hv_l2 hv_l3 hv_l4 hv_l5 hv_l6 (by omega)
    rw [X11_search]
    refine wp_if (fun g15 => ?_) (fun g15 => ?_)
    · unfold X11_search_J18
      try dsimp only
      refine wp_if (fun g18 => ?_) (fun g18 => ?_)
      · refine wp_sFv (P := Sm μs) (pO_11_41  hS (by unfold scrM; omega) (by have := gO_11_41 hS; omega)) (fun m19 h19 he19 => ?_)
        refine wp_sFv (P := Sm μs) (pO_11_42  h19 (by unfold scrM; omega) (by have := gO_11_41 hS; omega)) (fun m21 h21 he21 => ?_)
        exact ⟨h21, (by have := gO_11_41 hS; omega), (by show m21 70 37 = μ 70 37; exact (by have := gO_11_41 hS; have := gO_11_37 h21; have : m21 70 37 = m19 70 37 := (by rw [he21, sM_j (by decide)]); have := gO_11_37 h19; have : m19 70 37 = μ 70 37 := (by rw [he19, sM_j (by decide)]); have := gO_11_37 hS; omega))⟩
      · exact t_X11_search_L38 (l1 := l1) (l2 := l2) (l3 := l3) (l4 := l4) (l5 := l5) (l6 := l6) (l7 := 0) (mm := μ 70 37) hI hrec (by have := gO_11_41 hS; omega) (by have := gO_11_41 hS; omega) (by have := gO_11_41 hS; omega) (by have := gO_11_41 hS; omega) (by have := gO_11_41 hS; omega) (by have := gO_11_41 hS; omega) (by have := gO_11_41 hS; omega) (fun r_ m_ h_ hr_ hp_ => by exact ⟨h_, (by have := gO_11_41 hS; omega), (by show m_ 70 37 = μ 70 37; exact (by have := gO_11_41 hS; have := gO_11_37 h_; have := gO_11_37 hS; omega))⟩) FU hS (by have := gO_11_41 hS; omega) (by have := gO_11_41 hS; have := gO_11_37 hS; omega) (by have := gO_11_41 hS; omega)
    · refine wp_if (fun g22 => ?_) (fun g22 => ?_)
      · unfold X11_search_J18
        try dsimp only
        refine wp_if (fun g25 => ?_) (fun g25 => ?_)
        · refine wp_sFv (P := Sm μs) (pO_11_41  hS (by unfold scrM; omega) (by have := gO_11_41 hS; have := gO_11_42 hS; omega)) (fun m26 h26 he26 => ?_)
          refine wp_sFv (P := Sm μs) (pO_11_42  h26 (by unfold scrM; omega) (by have := gO_11_41 hS; have := gO_11_42 hS; omega)) (fun m28 h28 he28 => ?_)
          exact ⟨h28, (by have := gO_11_41 hS; have := gO_11_42 hS; omega), (by show m28 70 37 = μ 70 37; exact (by have := gO_11_41 hS; have := gO_11_42 hS; have := gO_11_37 h28; have : m28 70 37 = m26 70 37 := (by rw [he28, sM_j (by decide)]); have := gO_11_37 h26; have : m26 70 37 = μ 70 37 := (by rw [he26, sM_j (by decide)]); have := gO_11_37 hS; omega))⟩
        · exact t_X11_search_L38 (l1 := l1) (l2 := l2) (l3 := l3) (l4 := l4) (l5 := l5) (l6 := l6) (l7 := 0) (mm := μ 70 37) hI hrec (by have := gO_11_41 hS; have := gO_11_42 hS; omega) (by have := gO_11_41 hS; have := gO_11_42 hS; omega) (by have := gO_11_41 hS; have := gO_11_42 hS; omega) (by have := gO_11_41 hS; have := gO_11_42 hS; omega) (by have := gO_11_41 hS; have := gO_11_42 hS; omega) (by have := gO_11_41 hS; have := gO_11_42 hS; omega) (by have := gO_11_41 hS; have := gO_11_42 hS; omega) (fun r_ m_ h_ hr_ hp_ => by exact ⟨h_, (by have := gO_11_41 hS; have := gO_11_42 hS; omega), (by show m_ 70 37 = μ 70 37; exact (by have := gO_11_41 hS; have := gO_11_42 hS; have := gO_11_37 h_; have := gO_11_37 hS; omega))⟩) FU hS (by have := gO_11_41 hS; have := gO_11_42 hS; omega) (by have := gO_11_41 hS; have := gO_11_42 hS; have := gO_11_37 hS; omega) (by have := gO_11_41 hS; have := gO_11_42 hS; omega)
      · exact ⟨hS, (by have := gO_11_41 hS; have := gO_11_42 hS; omega), (by show μ 70 37 = μ 70 37; exact (by have := gO_11_41 hS; have := gO_11_42 hS; have := gO_11_37 hS; omega))⟩
set_option maxHeartbeats 4000000 in
set_option maxRecDepth 100000 in
theorem t_X11_all {μs : Mm}    {μ : Mm} (hS : Sm μs μ) : wp (X11_all μ) (fun r μ' => μ' = μ ∧ (0 ≤ r ∧ r ≤ 255) ∧ True) := by
  have hFU := FU_v
  unfold X11_all
  exact ⟨rfl, (by have := gO_11_37 hS; have := bL_r 1 (μ 70 37); have := bL_1 (s := (μ 70 37)) (by omega); have := iS_c (bL 1 (μ 70 37)) 1; omega), trivial⟩
set_option maxHeartbeats 4000000 in
set_option maxRecDepth 100000 in
theorem t_X11_leastOf {μs : Mm} {l1 : Int} {l2 : Int} (hI : Ir μs)  (hp_l1 : -2147483648 ≤ l1 ∧ l1 ≤ 2147483647) (hp_l2 : 0 ≤ l2 ∧ l2 ≤ 255) {μ : Mm} (hS : Sm μs μ) : wp (X11_leastOf l1 l2 μ) (fun r μ' => Sm μs μ' ∧ (-2147483648 ≤ r ∧ r ≤ 2147483647) ∧ μ' 70 37 = μ 70 37) := by
  have hFU := FU_v
  unfold X11_leastOf
  refine wp_sFv (P := Sm μs) (pO_11_41  hS (by unfold scrM; omega) (by omega)) (fun m5 h5 he5 => ?_)
  refine wp_sFv (P := Sm μs) (pO_11_42  h5 (by unfold scrM; omega) (by omega)) (fun m9 h9 he9 => ?_)
  refine wp_call (t_X11_search hI RD h9 (by omega) (by omega) (by have := gO_11_37 h9; have : m9 70 37 = m5 70 37 := (by rw [he9, sM_j (by decide)]); have := gO_11_37 h5; have : m5 70 37 = μ 70 37 := (by rw [he5, sM_j (by decide)]); have := gO_11_37 hS; omega) (by omega) (by omega) (by omega) (by rw [RD_v]; have := pc_r (x := l2) (by omega); omega)) (fun v12 m13 hh => ?_)
  obtain ⟨h13, hr13, hp13⟩ := hh
  exact ⟨h13, (by have := gO_11_42 h13; omega), (by show m13 70 37 = μ 70 37; exact (by have := gO_11_42 h13; have := gO_11_37 h13; have := gO_11_37 h9; have : m9 70 37 = m5 70 37 := (by rw [he9, sM_j (by decide)]); have := gO_11_37 h5; have : m5 70 37 = μ 70 37 := (by rw [he5, sM_j (by decide)]); have := gO_11_37 hS; omega))⟩
set_option maxHeartbeats 4000000 in
set_option maxRecDepth 100000 in
theorem t_X11_best {μs : Mm} {l1 : Int} {l2 : Int} {l3 : Int} (hI : Ir μs)  (hp_l1 : -2147483648 ≤ l1 ∧ l1 ≤ 2147483647) (hp_l2 : -2147483648 ≤ l2 ∧ l2 ≤ 2147483647) (hp_l3 : -2147483648 ≤ l3 ∧ l3 ≤ 2147483647) {μ : Mm} (hS : Sm μs μ) : wp (X11_best l1 l2 l3 μ) (fun r μ' => Sm μs μ' ∧ (-2147483648 ≤ r ∧ r ≤ 2147483647) ∧ True) := by
  have hFU := FU_v
  unfold X11_best
  refine wp_call (t_X11_isReady (l1 := l1) hI (by omega) hS) (fun v11 m12 hh => ?_)
  obtain ⟨h12, hr12, hp12⟩ := hh
  refine wp_if (fun g21 => ?_) (fun g21 => ?_)
  · exact ⟨h12, (by omega), trivial⟩
  · refine wp_calls (t_X11_in (l0 := l2) (l1 := 0) (l2 := 2)  (by omega) (by omega) (by omega) h12) (fun v22 hh => ?_)
    obtain ⟨hr23, hp23⟩ := hh
    refine wp_if (fun g30 => ?_) (fun g30 => ?_)
    · exact ⟨h12, (by omega), trivial⟩
    · refine wp_calls (t_X11_in (l0 := l3) (l1 := 0) (l2 := 1)  (by omega) (by omega) (by omega) h12) (fun v31 hh => ?_)
      obtain ⟨hr32, hp32⟩ := hh
      refine wp_if (fun g37 => ?_) (fun g37 => ?_)
      · exact ⟨h12, (by omega), trivial⟩
      · refine wp_calls (t_X11_all   h12) (fun v38 hh => ?_)
        obtain ⟨hr39, hp39⟩ := hh
        refine wp_call (t_X11_leastOf (l1 := l2) (l2 := v38) hI (by omega) (by omega) h12) (fun v42 m43 hh => ?_)
        obtain ⟨h43, hr43, hp43⟩ := hh
        refine wp_if (fun g44 => ?_) (fun g44 => ?_)
        · exact ⟨h43, (by have := gO_11_41 h43; omega), trivial⟩
        · exact ⟨h43, (by have := gO_11_42 h43; omega), trivial⟩
set_option maxHeartbeats 4000000 in
set_option maxRecDepth 100000 in
theorem t_X11_met {μs : Mm} {l1 : Int} {l2 : Int} (hI : Ir μs)  (hp_l1 : -2147483648 ≤ l1 ∧ l1 ≤ 2147483647) (hp_l2 : -2147483648 ≤ l2 ∧ l2 ≤ 2147483647) {μ : Mm} (hS : Sm μs μ) : wp (X11_met l1 l2 μ) (fun r μ' => Sm μs μ' ∧ (-2147483648 ≤ r ∧ r ≤ 2147483647) ∧ True) := by
  have hFU := FU_v
  unfold X11_met
  refine wp_call (t_X11_isReady (l1 := l1) hI (by omega) hS) (fun v9 m10 hh => ?_)
  obtain ⟨h10, hr10, hp10⟩ := hh
  refine wp_if (fun g17 => ?_) (fun g17 => ?_)
  · exact ⟨h10, (by omega), trivial⟩
  · refine wp_calls (t_X11_all   h10) (fun v18 hh => ?_)
    obtain ⟨hr19, hp19⟩ := hh
    refine wp_calls (t_X11_in (l0 := l2) (l1 := 1) (l2 := v18)  (by omega) (by omega) (by omega) h10) (fun v24 hh => ?_)
    obtain ⟨hr25, hp25⟩ := hh
    refine wp_if (fun g28 => ?_) (fun g28 => ?_)
    · exact ⟨h10, (by omega), trivial⟩
    · refine wp_call (t_X11_leastOf (l1 := 2) (l2 := l2) hI (by omega) (by omega) h10) (fun v29 m30 hh => ?_)
      obtain ⟨h30, hr30, hp30⟩ := hh
      refine wp_if (fun g31 => ?_) (fun g31 => ?_)
      · exact ⟨h30, (by omega), trivial⟩
      · exact ⟨h30, (by omega), trivial⟩
set_option maxHeartbeats 4000000 in
set_option maxRecDepth 100000 in
theorem tm_J6_bitCount_0f7a4 {μs : Mm} {l0 : Int}  (hp_l0 : -2147483648 ≤ l0 ∧ l0 ≤ 2147483647) {μ : Mm} (hS : Sm μs μ) : wp (J6_bitCount_0f7a4 l0 μ) (fun r μ' => μ' = μ ∧ (-2147483648 ≤ r ∧ r ≤ 2147483647) ∧ True) := by
  have hFU := FU_v
  unfold J6_bitCount_0f7a4
  refine wp_ltv (fun v6 q7 => ?_)
  refine wp_ltv (fun v12 q13 => ?_)
  refine wp_ltv (fun v17 q18 => ?_)
  refine wp_ltv (fun v21 q22 => ?_)
  refine wp_ltv (fun v24 q25 => ?_)
  exact ⟨rfl, (by have := bA_r v24 63; have := bU_r l0 1; have := bA_r (bU l0 1) 1431655765; have := iS_c l0 (bA (bU l0 1) 1431655765); have := bA_r v6 858993459; have := bU_r v6 2; have := bA_r (bU v6 2) 858993459; have := iA_c (bA v6 858993459) (bA (bU v6 2) 858993459); have := bU_r v12 4; have := iA_c v12 (bU v12 4); have := bA_r (iA v12 (bU v12 4)) 252645135; have := bU_r v17 8; have := iA_c v17 (bU v17 8); have := bU_r v21 16; have := iA_c v21 (bU v21 16); omega), trivial⟩
set_option maxHeartbeats 4000000 in
set_option maxRecDepth 100000 in
theorem t_X11_knot_L14 {μs : Mm}  (hI : Ir μs)   {Q : Int → Mm → Prop} (hQ : ∀ r μ, Sm μs μ → (-2147483648 ≤ r ∧ r ≤ 2147483647) → True → Q r μ) : ∀ (n : Nat) {l2 l3 : Int} {μ : Mm}, Sm μs μ → (-2147483648 ≤ l2 ∧ l2 ≤ 2147483647) → (1 ≤ l3 ∧ l3 ≤ 256) → True → 256 - l3 + 1 ≤ ((n : Nat) : Int) → wp (X11_knot_L14 n l2 l3 μ) Q := by
  have hFU := FU_v
  intro n
  induction n with
  | zero => intro l2 l3 μ hS hv_l2 hv_l3 hi hm; exact absurd hm (by  have : ((0 : Nat) : Int) = 0 := rfl; omega)
  | succ n ih =>
    intro l2 l3 μ hS hv_l2 hv_l3 hi hm
    have hn1 : ((n + 1 : Nat) : Int) = ((n : Nat) : Int) + 1 := rfl
    rw [X11_knot_L14]
    refine wp_calls (t_X11_all   hS) (fun v25 hh => ?_)
    obtain ⟨hr26, hp26⟩ := hh
    refine wp_if (fun g37 => ?_) (fun g37 => ?_)
    · exact hQ _ _ hS (by omega) trivial
    · refine wp_if (fun g38 => ?_) (fun g38 => ?_)
      · unfold X11_knot_J38
        try dsimp only
        refine wp_call (t_X11_leastOf (l1 := 2) (l2 := l3) hI (by omega) (by omega) hS) (fun v41 m42 hh => ?_)
        obtain ⟨h42, hr42, hp42⟩ := hh
        refine wp_if (fun g43 => ?_) (fun g43 => ?_)
        · exact ih h42 (by omega) (by have := iA_c l3 1; omega) trivial (by have := iA_c l3 1; omega)
        · exact ih h42 (by omega) (by have := iA_c l3 1; omega) trivial (by have := iA_c l3 1; omega)
      · refine wp_calls (tm_J6_bitCount_0f7a4 (l0 := l3)  (by omega) hS) (fun v44 hh => ?_)
        obtain ⟨hr45, hp45⟩ := hh
        refine wp_calls (tm_J6_bitCount_0f7a4 (l0 := l2)  (by omega) hS) (fun v51 hh => ?_)
        obtain ⟨hr52, hp52⟩ := hh
        refine wp_if (fun g56 => ?_) (fun g56 => ?_)
        · exact ih hS (by omega) (by have := iA_c l3 1; omega) trivial (by have := iA_c l3 1; omega)
        · unfold X11_knot_J38
          try dsimp only
          refine wp_call (t_X11_leastOf (l1 := 2) (l2 := l3) hI (by omega) (by omega) hS) (fun v59 m60 hh => ?_)
          obtain ⟨h60, hr60, hp60⟩ := hh
          refine wp_if (fun g61 => ?_) (fun g61 => ?_)
          · exact ih h60 (by omega) (by have := iA_c l3 1; omega) trivial (by have := iA_c l3 1; omega)
          · exact ih h60 (by omega) (by have := iA_c l3 1; omega) trivial (by have := iA_c l3 1; omega)
set_option maxHeartbeats 4000000 in
set_option maxRecDepth 100000 in
theorem t_X11_knot {μs : Mm} {l1 : Int} (hI : Ir μs)  (hp_l1 : -2147483648 ≤ l1 ∧ l1 ≤ 2147483647) {μ : Mm} (hS : Sm μs μ) : wp (X11_knot l1 μ) (fun r μ' => Sm μs μ' ∧ (-2147483648 ≤ r ∧ r ≤ 2147483647) ∧ True) := by
  have hFU := FU_v
  unfold X11_knot
  refine wp_call (t_X11_isReady (l1 := l1) hI (by omega) hS) (fun v3 m4 hh => ?_)
  obtain ⟨h4, hr4, hp4⟩ := hh
  refine wp_if (fun g5 => ?_) (fun g5 => ?_)
  · exact ⟨h4, (by omega), trivial⟩
  · exact t_X11_knot_L14 (l2 := (-1)) (l3 := 1) hI  (fun r_ m_ h_ hr_ hp_ => by exact ⟨h_, (by omega), trivial⟩) FU h4 (by omega) (by omega) trivial (by omega)
set_option maxHeartbeats 4000000 in
set_option maxRecDepth 100000 in
theorem t_X11_ageOf_L3 {μs : Mm} {l1 : Int} (hI : Ir μs)  (hp_l1 : 0 ≤ l1 ∧ l1 ≤ 4) (hl2 : 0 ≤ l1 ∧ l1 < μs 70 28) {Q : Int → Mm → Prop} (hQ : ∀ r μ, Sm μs μ → (-2147483648 ≤ r ∧ r ≤ 2147483647) → True → Q r μ) : ∀ (n : Nat) {l2 : Int} {μ : Mm}, Sm μs μ → (0 ≤ l2 ∧ l2 ≤ 9) → True → l2 + 1 ≤ ((n : Nat) : Int) → wp (X11_ageOf_L3 l1 n l2 μ) Q := by
  have hFU := FU_v
  intro n
  induction n with
  | zero => intro l2 μ hS hv_l2 hi hm; exact absurd hm (by  have : ((0 : Nat) : Int) = 0 := rfl; omega)
  | succ n ih =>
    intro l2 μ hS hv_l2 hi hm
    have hn1 : ((n + 1 : Nat) : Int) = ((n : Nat) : Int) + 1 := rfl
    rw [X11_ageOf_L3]
    refine wp_if (fun g17 => ?_) (fun g17 => ?_)
    · exact hQ _ _ hS (by omega) trivial
    · refine wp_calls (t_X11_placeOf (l1 := 2)  (by omega) hS) (fun v18 hh => ?_)
      obtain ⟨hr19, hp19⟩ := hh
      refine wp_call (t_X11_lay (l1 := l1) (l2 := v18) (l3 := l2) hI (by omega) (by omega) (by omega) hS (by omega)) (fun v26 m27 hh => ?_)
      obtain ⟨h27, hr27, hp27⟩ := hh
      refine wp_calls (t_X11_all   h27) (fun v32 hh => ?_)
      obtain ⟨hr33, hp33⟩ := hh
      refine wp_call (t_X11_leastOf (l1 := 2) (l2 := v32) hI (by omega) (by omega) h27) (fun v36 m37 hh => ?_)
      obtain ⟨h37, hr37, hp37⟩ := hh
      refine wp_if (fun g38 => ?_) (fun g38 => ?_)
      · exact hQ _ _ h37 (by omega) trivial
      · exact ih h37 (by have := iA_c l2 (-1); omega) trivial (by have := iA_c l2 (-1); omega)
set_option maxHeartbeats 4000000 in
set_option maxRecDepth 100000 in
theorem t_X11_ageOf {μs : Mm} {l1 : Int} (hI : Ir μs)  (hp_l1 : 0 ≤ l1 ∧ l1 ≤ 4) {μ : Mm} (hS : Sm μs μ) (hq : 0 ≤ l1 ∧ l1 < μs 70 28) : wp (X11_ageOf l1 μ) (fun r μ' => Sm μs μ' ∧ (-2147483648 ≤ r ∧ r ≤ 2147483647) ∧ True) := by
  have hFU := FU_v
  unfold X11_ageOf
  exact t_X11_ageOf_L3 (l1 := l1) (l2 := 9) hI (by omega) (by have := gO_11_37 hS; omega) (fun r_ m_ h_ hr_ hp_ => by exact ⟨h_, (by omega), trivial⟩) FU hS (by omega) trivial (by omega)
set_option maxHeartbeats 4000000 in
set_option maxRecDepth 100000 in
theorem t_X11_age {μs : Mm} {l1 : Int} (hI : Ir μs)  (hp_l1 : -2147483648 ≤ l1 ∧ l1 ≤ 2147483647) {μ : Mm} (hS : Sm μs μ) : wp (X11_age l1 μ) (fun r μ' => Sm μs μ' ∧ (-2147483648 ≤ r ∧ r ≤ 2147483647) ∧ True) := by
  have hFU := FU_v
  unfold X11_age
  refine wp_call (t_X11_isReady (l1 := l1) hI (by omega) hS) (fun v5 m6 hh => ?_)
  obtain ⟨h6, hr6, hp6⟩ := hh
  refine wp_if (fun g9 => ?_) (fun g9 => ?_)
  · exact ⟨h6, (by omega), trivial⟩
  · refine wp_call (t_X11_ageOf (l1 := l1) hI (by omega) h6 (by omega)) (fun v10 m11 hh => ?_)
    obtain ⟨h11, hr11, hp11⟩ := hh
    exact ⟨h11, (by omega), trivial⟩
set_option maxHeartbeats 4000000 in
set_option maxRecDepth 100000 in
theorem t_X11_first_L6 {μs : Mm}  (hI : Ir μs)   {Q : Int → Mm → Prop} (hQ : ∀ r μ, Sm μs μ → (-2147483648 ≤ r ∧ r ≤ 2147483647) → True → Q r μ) : ∀ (n : Nat) {l1 l2 l3 : Int} {μ : Mm}, Sm μs μ → (-2147483648 ≤ l1 ∧ l1 ≤ 2147483647) → (-2147483648 ≤ l2 ∧ l2 ≤ 2147483647) → (0 ≤ l3 ∧ l3 ≤ 5) → True → 5 - l3 + 1 ≤ ((n : Nat) : Int) → wp (X11_first_L6 n l1 l2 l3 μ) Q := by
  have hFU := FU_v
  intro n
  induction n with
  | zero => intro l1 l2 l3 μ hS hv_l1 hv_l2 hv_l3 hi hm; exact absurd hm (by  have : ((0 : Nat) : Int) = 0 := rfl; omega)
  | succ n ih =>
    intro l1 l2 l3 μ hS hv_l1 hv_l2 hv_l3 hi hm
    have hn1 : ((n + 1 : Nat) : Int) = ((n : Nat) : Int) + 1 := rfl
    rw [X11_first_L6]
    refine wp_if (fun g9 => ?_) (fun g9 => ?_)
    · exact hQ _ _ hS (by have := gO_11_28 hS; have := eqS hS (j := 28) (k := 70) (by unfold scrM; omega); omega) trivial
    · refine wp_if (fun g10 => ?_) (fun g10 => ?_)
      · exact hQ _ _ hS (by have := gO_11_28 hS; have := eqS hS (j := 28) (k := 70) (by unfold scrM; omega); have := gO_11_23 hS; have := eqS hS (j := 23) (k := 70) (by unfold scrM; omega); omega) trivial
      · refine wp_call (t_X11_isReady (l1 := l3) hI (by have := gO_11_28 hS; have := eqS hS (j := 28) (k := 70) (by unfold scrM; omega); have := gO_11_23 hS; have := eqS hS (j := 23) (k := 70) (by unfold scrM; omega); omega) hS) (fun v11 m12 hh => ?_)
        obtain ⟨h12, hr12, hp12⟩ := hh
        refine wp_call (t_X11_ageOf (l1 := l3) hI (by have := gO_11_28 hS; have := eqS hS (j := 28) (k := 70) (by unfold scrM; omega); have := gO_11_23 hS; have := eqS hS (j := 23) (k := 70) (by unfold scrM; omega); omega) h12 (by have := gO_11_28 hS; have := eqS hS (j := 28) (k := 70) (by unfold scrM; omega); have := gO_11_23 hS; have := eqS hS (j := 23) (k := 70) (by unfold scrM; omega); omega)) (fun v15 m16 hh => ?_)
        obtain ⟨h16, hr16, hp16⟩ := hh
        refine wp_if (fun g17 => ?_) (fun g17 => ?_)
        · exact ih h16 (by have := gO_11_28 hS; have := eqS hS (j := 28) (k := 70) (by unfold scrM; omega); have := gO_11_23 hS; have := eqS hS (j := 23) (k := 70) (by unfold scrM; omega); omega) (by have := gO_11_28 hS; have := eqS hS (j := 28) (k := 70) (by unfold scrM; omega); have := gO_11_23 hS; have := eqS hS (j := 23) (k := 70) (by unfold scrM; omega); omega) (by have := gO_11_28 hS; have := eqS hS (j := 28) (k := 70) (by unfold scrM; omega); have := gO_11_23 hS; have := eqS hS (j := 23) (k := 70) (by unfold scrM; omega); have := iA_c l3 1; omega) trivial (by have := gO_11_28 hS; have := eqS hS (j := 28) (k := 70) (by unfold scrM; omega); have := gO_11_23 hS; have := eqS hS (j := 23) (k := 70) (by unfold scrM; omega); have := iA_c l3 1; omega)
        · refine wp_if (fun g18 => ?_) (fun g18 => ?_)
          · exact ih h16 (by have := gO_11_28 hS; have := eqS hS (j := 28) (k := 70) (by unfold scrM; omega); have := gO_11_23 hS; have := eqS hS (j := 23) (k := 70) (by unfold scrM; omega); omega) (by have := gO_11_28 hS; have := eqS hS (j := 28) (k := 70) (by unfold scrM; omega); have := gO_11_23 hS; have := eqS hS (j := 23) (k := 70) (by unfold scrM; omega); omega) (by have := gO_11_28 hS; have := eqS hS (j := 28) (k := 70) (by unfold scrM; omega); have := gO_11_23 hS; have := eqS hS (j := 23) (k := 70) (by unfold scrM; omega); have := iA_c l3 1; omega) trivial (by have := gO_11_28 hS; have := eqS hS (j := 28) (k := 70) (by unfold scrM; omega); have := gO_11_23 hS; have := eqS hS (j := 23) (k := 70) (by unfold scrM; omega); have := iA_c l3 1; omega)
          · exact ih h16 (by have := gO_11_28 hS; have := eqS hS (j := 28) (k := 70) (by unfold scrM; omega); have := gO_11_23 hS; have := eqS hS (j := 23) (k := 70) (by unfold scrM; omega); omega) (by have := gO_11_28 hS; have := eqS hS (j := 28) (k := 70) (by unfold scrM; omega); have := gO_11_23 hS; have := eqS hS (j := 23) (k := 70) (by unfold scrM; omega); omega) (by have := gO_11_28 hS; have := eqS hS (j := 28) (k := 70) (by unfold scrM; omega); have := gO_11_23 hS; have := eqS hS (j := 23) (k := 70) (by unfold scrM; omega); have := iA_c l3 1; omega) trivial (by have := gO_11_28 hS; have := eqS hS (j := 28) (k := 70) (by unfold scrM; omega); have := gO_11_23 hS; have := eqS hS (j := 23) (k := 70) (by unfold scrM; omega); have := iA_c l3 1; omega)
set_option maxHeartbeats 4000000 in
set_option maxRecDepth 100000 in
theorem t_X11_first {μs : Mm}  (hI : Ir μs)   {μ : Mm} (hS : Sm μs μ) : wp (X11_first μ) (fun r μ' => Sm μs μ' ∧ (-2147483648 ≤ r ∧ r ≤ 2147483647) ∧ True) := by
  have hFU := FU_v
  unfold X11_first
  exact t_X11_first_L6 (l1 := (-1)) (l2 := 0) (l3 := 0) hI  (fun r_ m_ h_ hr_ hp_ => by exact ⟨h_, (by omega), trivial⟩) FU hS (by omega) (by omega) (by omega) trivial (by omega)
set_option maxHeartbeats 4000000 in
set_option maxRecDepth 100000 in
theorem t_X11_leastNow {μs : Mm} {l1 : Int} (hI : Ir μs)  (hp_l1 : -2147483648 ≤ l1 ∧ l1 ≤ 2147483647) {μ : Mm} (hS : Sm μs μ) : wp (X11_leastNow l1 μ) (fun r μ' => Sm μs μ' ∧ (-2147483648 ≤ r ∧ r ≤ 2147483647) ∧ True) := by
  have hFU := FU_v
  unfold X11_leastNow
  refine wp_call (t_X11_isReady (l1 := l1) hI (by omega) hS) (fun v7 m8 hh => ?_)
  obtain ⟨h8, hr8, hp8⟩ := hh
  refine wp_calls (t_X11_all   h8) (fun v13 hh => ?_)
  obtain ⟨hr14, hp14⟩ := hh
  refine wp_call (t_X11_leastOf (l1 := 0) (l2 := v13) hI (by omega) (by omega) h8) (fun v17 m18 hh => ?_)
  obtain ⟨h18, hr18, hp18⟩ := hh
  exact ⟨h18, (by omega), trivial⟩
set_option maxHeartbeats 4000000 in
set_option maxRecDepth 100000 in
theorem t_X11_bothNow {μs : Mm} {l1 : Int} {l2 : Int} (hI : Ir μs)  (hp_l1 : -2147483648 ≤ l1 ∧ l1 ≤ 2147483647) (hp_l2 : -2147483648 ≤ l2 ∧ l2 ≤ 2147483647) {μ : Mm} (hS : Sm μs μ) : wp (X11_bothNow l1 l2 μ) (fun r μ' => Sm μs μ' ∧ (-2147483648 ≤ r ∧ r ≤ 2147483647) ∧ True) := by
  have hFU := FU_v
  unfold X11_bothNow
  refine wp_call (t_X11_leastNow (l1 := l1) hI (by omega) hS) (fun v5 m6 hh => ?_)
  obtain ⟨h6, hr6, hp6⟩ := hh
  refine wp_call (t_X11_leastNow (l1 := l2) hI (by omega) h6) (fun v9 m10 hh => ?_)
  obtain ⟨h10, hr10, hp10⟩ := hh
  refine wp_if (fun g11 => ?_) (fun g11 => ?_)
  · exact ⟨h10, (by omega), trivial⟩
  · refine wp_if (fun g12 => ?_) (fun g12 => ?_)
    · exact ⟨h10, (by omega), trivial⟩
    · exact ⟨h10, (by have := iA_c v5 v9; omega), trivial⟩
set_option maxHeartbeats 4000000 in
set_option maxRecDepth 100000 in
theorem t_X11_skip_L70 {μs : Mm} {l2 : Int} {l3 : Int} {l4 : Int}  (hp_l2 : 1 ≤ l2 ∧ l2 ≤ 8) (hp_l3 : 0 ≤ l3 ∧ l3 ≤ 8) (hp_l4 : -2147483648 ≤ l4 ∧ l4 ≤ 2147483647) {μ : Mm} (hS : Sm μs μ) {Q : Int → Mm → Prop} (hQ : ∀ r, (-2147483648 ≤ r ∧ r ≤ 2147483647) → True → Q r μ) : ∀ (n : Nat) {l5 l6 l7 l8 : Int} , (0 ≤ l5 ∧ l5 ≤ 8) → (-2147483648 ≤ l6 ∧ l6 ≤ 2147483647) → (-2147483648 ≤ l7 ∧ l7 ≤ 2147483647) → (0 ≤ l8 ∧ l8 ≤ 8) → True → 8 - l8 + 1 ≤ ((n : Nat) : Int) → wp (X11_skip_L70 l2 l3 l4 n l5 l6 l7 l8 μ) Q := by
  have hFU := FU_v
  intro n
  induction n with
  | zero => intro l5 l6 l7 l8 hv_l5 hv_l6 hv_l7 hv_l8 hi hm; exact absurd hm (by  have : ((0 : Nat) : Int) = 0 := rfl; omega)
  | succ n ih =>
    intro l5 l6 l7 l8 hv_l5 hv_l6 hv_l7 hv_l8 hi hm
    have hn1 : ((n + 1 : Nat) : Int) = ((n : Nat) : Int) + 1 := rfl
    rw [X11_skip_L70]
    refine wp_if (fun g21 => ?_) (fun g21 => ?_)
    · exact hQ _ (by have := gO_11_37 hS; omega) trivial
    · refine wp_if (fun g22 => ?_) (fun g22 => ?_)
      · unfold X11_skip_J91
        try dsimp only
        refine wp_ldv (by have := gO_11_37 hS; have := iM_c 8 l5; have := iA_c (iM 8 l5) l8; have na3 : ((aN 89 : Nat) : Int) = 72 := rfl; omega) (fun v36 q37 => ?_)
        have hrv36 := gA_11_19 hS ((iA (iM 8 l5) l8)).toNat
        replace hrv36 : -2147483648 ≤ v36 ∧ v36 ≤ 2147483647 := by rw [q37]; exact hrv36
        refine wp_if (fun g50 => ?_) (fun g50 => ?_)
        · exact hQ _ (by have := gO_11_37 hS; omega) trivial
        · refine wp_if (fun g51 => ?_) (fun g51 => ?_)
          · refine wp_ldv (by have := gO_11_37 hS; have na1 : ((aN 88 : Nat) : Int) = 8 := rfl; omega) (fun v52 q53 => ?_)
            have hrv52 := gA_11_18 hS (l8).toNat
            replace hrv52 : -2147483648 ≤ v52 ∧ v52 ≤ 2147483647 := by rw [q53]; exact hrv52
            unfold X11_skip_J136
            try dsimp only
            refine wp_ldv (by have := gO_11_37 hS; have := iM_c 8 l5; have := iA_c (iM 8 l5) l8; have na3 : ((aN 89 : Nat) : Int) = 72 := rfl; omega) (fun v63 q64 => ?_)
            have hrv63 := gA_11_19 hS ((iA (iM 8 l5) l8)).toNat
            replace hrv63 : -2147483648 ≤ v63 ∧ v63 ≤ 2147483647 := by rw [q64]; exact hrv63
            refine wp_ldv (by have := gO_11_37 hS; have na1 : ((aN 90 : Nat) : Int) = 8 := rfl; omega) (fun v68 q69 => ?_)
            have hrv68 := gA_11_20 hS (l8).toNat
            replace hrv68 : -2147483648 ≤ v68 ∧ v68 ≤ 2147483647 := by rw [q69]; exact hrv68
            refine wp_ltv (fun v72 q73 => ?_)
            refine wp_ltv (fun v75 q76 => ?_)
            exact ih  (by have := gO_11_37 hS; omega) (by have := gO_11_37 hS; have := gO_11_38 hS; have := iM_r v63 (μ 70 38); have := iA_c l6 (iM v63 (μ 70 38)); have := iA_c (iA l6 (iM v63 (μ 70 38))) v68; have := mX_c (iA (iA l6 (iM v63 (μ 70 38))) v68) v52; omega) (by have := gO_11_37 hS; have := gO_11_38 hS; have := iM_r v63 (μ 70 38); have := iA_c l6 (iM v63 (μ 70 38)); have := iA_c (iA l6 (iM v63 (μ 70 38))) v68; have := mX_c (iA (iA l6 (iM v63 (μ 70 38))) v68) v52; have := iS_c v72 v52; have := iA_c l7 (iS v72 v52); omega) (by have := gO_11_37 hS; have := iA_c l8 1; omega) trivial (by have := gO_11_37 hS; have := gO_11_38 hS; have := iA_c l8 1; have := iM_r v63 (μ 70 38); have := iA_c l6 (iM v63 (μ 70 38)); have := iA_c (iA l6 (iM v63 (μ 70 38))) v68; have := mX_c (iA (iA l6 (iM v63 (μ 70 38))) v68) v52; have := iS_c v72 v52; have := iA_c l7 (iS v72 v52); omega)
          · refine wp_ldv (by have := gO_11_37 hS; have na1 : ((aN 88 : Nat) : Int) = 8 := rfl; omega) (fun v77 q78 => ?_)
            have hrv77 := gA_11_18 hS (l8).toNat
            replace hrv77 : -2147483648 ≤ v77 ∧ v77 ≤ 2147483647 := by rw [q78]; exact hrv77
            unfold X11_skip_J136
            try dsimp only
            refine wp_ldv (by have := gO_11_37 hS; have := iM_c 8 l5; have := iA_c (iM 8 l5) l8; have na3 : ((aN 89 : Nat) : Int) = 72 := rfl; omega) (fun v88 q89 => ?_)
            have hrv88 := gA_11_19 hS ((iA (iM 8 l5) l8)).toNat
            replace hrv88 : -2147483648 ≤ v88 ∧ v88 ≤ 2147483647 := by rw [q89]; exact hrv88
            refine wp_ldv (by have := gO_11_37 hS; have na1 : ((aN 90 : Nat) : Int) = 8 := rfl; omega) (fun v93 q94 => ?_)
            have hrv93 := gA_11_20 hS (l8).toNat
            replace hrv93 : -2147483648 ≤ v93 ∧ v93 ≤ 2147483647 := by rw [q94]; exact hrv93
            refine wp_ltv (fun v97 q98 => ?_)
            refine wp_ltv (fun v100 q101 => ?_)
            exact ih  (by have := gO_11_37 hS; omega) (by have := gO_11_37 hS; have := gO_11_38 hS; have := iM_r v88 (μ 70 38); have := iA_c l6 (iM v88 (μ 70 38)); have := iA_c (iA l6 (iM v88 (μ 70 38))) v93; have := iS_c v77 l4; have := mX_c (iA (iA l6 (iM v88 (μ 70 38))) v93) (iS v77 l4); omega) (by have := gO_11_37 hS; have := gO_11_38 hS; have := iM_r v88 (μ 70 38); have := iA_c l6 (iM v88 (μ 70 38)); have := iA_c (iA l6 (iM v88 (μ 70 38))) v93; have := iS_c v77 l4; have := mX_c (iA (iA l6 (iM v88 (μ 70 38))) v93) (iS v77 l4); have := iS_c v97 (iS v77 l4); have := iA_c l7 (iS v97 (iS v77 l4)); omega) (by have := gO_11_37 hS; have := iA_c l8 1; omega) trivial (by have := gO_11_37 hS; have := gO_11_38 hS; have := iA_c l8 1; have := iM_r v88 (μ 70 38); have := iA_c l6 (iM v88 (μ 70 38)); have := iA_c (iA l6 (iM v88 (μ 70 38))) v93; have := iS_c v77 l4; have := mX_c (iA (iA l6 (iM v88 (μ 70 38))) v93) (iS v77 l4); have := iS_c v97 (iS v77 l4); have := iA_c l7 (iS v97 (iS v77 l4)); omega)
      · refine wp_if (fun g102 => ?_) (fun g102 => ?_)
        · exact ih  (by have := gO_11_37 hS; omega) (by have := gO_11_37 hS; omega) (by have := gO_11_37 hS; omega) (by have := gO_11_37 hS; have := iA_c l8 1; omega) trivial (by have := gO_11_37 hS; have := iA_c l8 1; omega)
        · unfold X11_skip_J91
          try dsimp only
          refine wp_ldv (by have := gO_11_37 hS; have := iM_c 8 l5; have := iA_c (iM 8 l5) l8; have na3 : ((aN 89 : Nat) : Int) = 72 := rfl; omega) (fun v116 q117 => ?_)
          have hrv116 := gA_11_19 hS ((iA (iM 8 l5) l8)).toNat
          replace hrv116 : -2147483648 ≤ v116 ∧ v116 ≤ 2147483647 := by rw [q117]; exact hrv116
          refine wp_if (fun g130 => ?_) (fun g130 => ?_)
          · exact hQ _ (by have := gO_11_37 hS; omega) trivial
          · refine wp_if (fun g131 => ?_) (fun g131 => ?_)
            · refine wp_ldv (by have := gO_11_37 hS; have na1 : ((aN 88 : Nat) : Int) = 8 := rfl; omega) (fun v132 q133 => ?_)
              have hrv132 := gA_11_18 hS (l8).toNat
              replace hrv132 : -2147483648 ≤ v132 ∧ v132 ≤ 2147483647 := by rw [q133]; exact hrv132
              unfold X11_skip_J136
              try dsimp only
              refine wp_ldv (by have := gO_11_37 hS; have := iM_c 8 l5; have := iA_c (iM 8 l5) l8; have na3 : ((aN 89 : Nat) : Int) = 72 := rfl; omega) (fun v143 q144 => ?_)
              have hrv143 := gA_11_19 hS ((iA (iM 8 l5) l8)).toNat
              replace hrv143 : -2147483648 ≤ v143 ∧ v143 ≤ 2147483647 := by rw [q144]; exact hrv143
              refine wp_ldv (by have := gO_11_37 hS; have na1 : ((aN 90 : Nat) : Int) = 8 := rfl; omega) (fun v148 q149 => ?_)
              have hrv148 := gA_11_20 hS (l8).toNat
              replace hrv148 : -2147483648 ≤ v148 ∧ v148 ≤ 2147483647 := by rw [q149]; exact hrv148
              refine wp_ltv (fun v152 q153 => ?_)
              refine wp_ltv (fun v155 q156 => ?_)
              exact ih  (by have := gO_11_37 hS; omega) (by have := gO_11_37 hS; have := gO_11_38 hS; have := iM_r v143 (μ 70 38); have := iA_c l6 (iM v143 (μ 70 38)); have := iA_c (iA l6 (iM v143 (μ 70 38))) v148; have := mX_c (iA (iA l6 (iM v143 (μ 70 38))) v148) v132; omega) (by have := gO_11_37 hS; have := gO_11_38 hS; have := iM_r v143 (μ 70 38); have := iA_c l6 (iM v143 (μ 70 38)); have := iA_c (iA l6 (iM v143 (μ 70 38))) v148; have := mX_c (iA (iA l6 (iM v143 (μ 70 38))) v148) v132; have := iS_c v152 v132; have := iA_c l7 (iS v152 v132); omega) (by have := gO_11_37 hS; have := iA_c l8 1; omega) trivial (by have := gO_11_37 hS; have := gO_11_38 hS; have := iA_c l8 1; have := iM_r v143 (μ 70 38); have := iA_c l6 (iM v143 (μ 70 38)); have := iA_c (iA l6 (iM v143 (μ 70 38))) v148; have := mX_c (iA (iA l6 (iM v143 (μ 70 38))) v148) v132; have := iS_c v152 v132; have := iA_c l7 (iS v152 v132); omega)
            · refine wp_ldv (by have := gO_11_37 hS; have na1 : ((aN 88 : Nat) : Int) = 8 := rfl; omega) (fun v157 q158 => ?_)
              have hrv157 := gA_11_18 hS (l8).toNat
              replace hrv157 : -2147483648 ≤ v157 ∧ v157 ≤ 2147483647 := by rw [q158]; exact hrv157
              unfold X11_skip_J136
              try dsimp only
              refine wp_ldv (by have := gO_11_37 hS; have := iM_c 8 l5; have := iA_c (iM 8 l5) l8; have na3 : ((aN 89 : Nat) : Int) = 72 := rfl; omega) (fun v168 q169 => ?_)
              have hrv168 := gA_11_19 hS ((iA (iM 8 l5) l8)).toNat
              replace hrv168 : -2147483648 ≤ v168 ∧ v168 ≤ 2147483647 := by rw [q169]; exact hrv168
              refine wp_ldv (by have := gO_11_37 hS; have na1 : ((aN 90 : Nat) : Int) = 8 := rfl; omega) (fun v173 q174 => ?_)
              have hrv173 := gA_11_20 hS (l8).toNat
              replace hrv173 : -2147483648 ≤ v173 ∧ v173 ≤ 2147483647 := by rw [q174]; exact hrv173
              refine wp_ltv (fun v177 q178 => ?_)
              refine wp_ltv (fun v180 q181 => ?_)
              exact ih  (by have := gO_11_37 hS; omega) (by have := gO_11_37 hS; have := gO_11_38 hS; have := iM_r v168 (μ 70 38); have := iA_c l6 (iM v168 (μ 70 38)); have := iA_c (iA l6 (iM v168 (μ 70 38))) v173; have := iS_c v157 l4; have := mX_c (iA (iA l6 (iM v168 (μ 70 38))) v173) (iS v157 l4); omega) (by have := gO_11_37 hS; have := gO_11_38 hS; have := iM_r v168 (μ 70 38); have := iA_c l6 (iM v168 (μ 70 38)); have := iA_c (iA l6 (iM v168 (μ 70 38))) v173; have := iS_c v157 l4; have := mX_c (iA (iA l6 (iM v168 (μ 70 38))) v173) (iS v157 l4); have := iS_c v177 (iS v157 l4); have := iA_c l7 (iS v177 (iS v157 l4)); omega) (by have := gO_11_37 hS; have := iA_c l8 1; omega) trivial (by have := gO_11_37 hS; have := gO_11_38 hS; have := iA_c l8 1; have := iM_r v168 (μ 70 38); have := iA_c l6 (iM v168 (μ 70 38)); have := iA_c (iA l6 (iM v168 (μ 70 38))) v173; have := iS_c v157 l4; have := mX_c (iA (iA l6 (iM v168 (μ 70 38))) v173) (iS v157 l4); have := iS_c v177 (iS v157 l4); have := iA_c l7 (iS v177 (iS v157 l4)); omega)
