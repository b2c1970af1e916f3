/-! FIT: the ORDERS by which it was so at all THUDS -/
def dig (o : Nat → Nat) : Nat → Int
  | 0 => 0
  | k + 1 => 10 * dig o k + ((o k : Nat) : Int)
theorem dig_b {o : Nat → Nat} : ∀ k, (∀ j, j < k → o j < 10) → 0 ≤ dig o k ∧ dig o k < 10 ^ k := by
  intro k
  induction k with
  | zero => intro _; exact ⟨Int.le_refl _, by show (0 : Int) < 10 ^ 0; decide⟩
  | succ k ih =>
    intro h
    have h1 := ih (fun j hj => h j (by omega))
    have h2 := h k (by omega)
    have hp : (10 : Int) ^ (k + 1) = 10 ^ k * 10 := p10_succ k
    show 0 ≤ 10 * dig o k + ((o k : Nat) : Int) ∧ 10 * dig o k + ((o k : Nat) : Int) < 10 ^ (k + 1)
    omega
theorem dig_at {o : Nat → Nat} : ∀ m, (∀ j, j < m → o j < 10) → ∀ j, j < m → dig o m / 10 ^ (m - 1 - j) % 10 = ((o j : Nat) : Int) := by
  intro m
  induction m with
  | zero => intro _ j hj; exact absurd hj (Nat.not_lt_zero _)
  | succ m ih =>
    intro h j hj
    have h2 := h m (by omega)
    have e : dig o (m + 1) = 10 * dig o m + ((o m : Nat) : Int) := rfl
    by_cases c : j = m
    · subst c
      have z : j + 1 - 1 - j = 0 := by omega
      rw [z, Int.pow_zero, Int.ediv_one, e]
      omega
    · have z : m + 1 - 1 - j = (m - 1 - j) + 1 := by omega
      have e10 : dig o (m + 1) / 10 = dig o m := by rw [e]; omega
      have hp : (10 : Int) ^ ((m - 1 - j) + 1) = 10 * 10 ^ (m - 1 - j) := by rw [p10_succ, Int.mul_comm]
      rw [z, hp, ← Int.ediv_ediv_of_nonneg (by decide), e10]
      exact ih (fun x hx => h x (by omega)) j (by omega)
theorem dig_dg {o : Nat → Nat} {m : Nat} (h : ∀ j, j < m → o j < 10) {j : Nat} (hj : j < m) : dgN m (dig o m) j = o j := by
  unfold dgN
  rw [dig_at m h j hj, Int.toNat_natCast]
theorem dig_PO {o : Nat → Nat} {m : Nat} (hm : m ≤ 8) (hr : rngN m o) (hi : injN m o) : PO m (dig o m) := by
  have h10 : ∀ j, j < m → o j < 10 := fun j hj => by have := hr j hj; omega
  have hb := dig_b m h10
  exact ⟨hb.1, hb.2, fun j hj => by rw [dig_dg h10 hj]; exact hr j hj, fun i j hij hj => by rw [dig_dg h10 (show i < m by omega), dig_dg h10 hj]; exact hi i j hij hj⟩
def uN (o : Nat → Nat) (k i : Nat) (j : Nat) : Nat := if j = k then i else o j
theorem uN_k {o : Nat → Nat} {k i : Nat} : uN o k i k = i := if_pos rfl
theorem uN_o {o : Nat → Nat} {k i j : Nat} (h : j < k) : uN o k i j = o j := if_neg (by omega)
theorem dig_u {o o' : Nat → Nat} : ∀ k, (∀ j, j < k → o j = o' j) → dig o k = dig o' k := by
  intro k
  induction k with
  | zero => intro _; rfl
  | succ k ih =>
    intro h
    show 10 * dig o k + ((o k : Nat) : Int) = 10 * dig o' k + ((o' k : Nat) : Int)
    rw [ih (fun j hj => h j (by omega)), h k (by omega)]
section FI
variable (m : Nat) (B : Nat → Nat → Int) (T Wd : Nat → Int) (S : Int) (cr : Nat → Nat) (N : Nat) (ts tc : Nat → Int)
/-- the THUD j was heard at one of the first k CUES -/
def hrd (o : Nat → Nat) (k j : Nat) : Prop := ∃ i, i < k ∧ ((cr (o i) : Nat) : Int) = tc j ∧ rc m B T Wd S o i ≤ ts j ∧ ts j ≤ rt m B T Wd S o (i + 1)
def allH (o : Nat → Nat) (k : Nat) : Prop := ∀ j, j < N → hrd m B T Wd S cr ts tc o k j
def FTc (g : Nat → List Int) : Nat → List Int
  | 0 => []
  | i + 1 => FTc g i ++ g i
noncomputable def FTo : Nat → (Nat → Bool) → Nat → (Nat → Nat) → List Int
  | 0, _, k, o => @ite (List Int) (feas m B o k ∧ allH m B T Wd S cr N ts tc o k) (Classical.propDecidable _) [dig o k] []
  | n + 1, lf, k, o => FTc (fun i => if lf i = true then FTo n (ofB lf i) (k + 1) (uN o k i) else []) m
end FI
/-- the THUDS and the job as they must be -/
def FB (m : Nat) (B : Nat → Nat → Int) (cr : Nat → Nat) : Prop := ∀ a b, a < m → b < m → B a b = 0 → cr a = cr b
section FP
variable {m : Nat} {B : Nat → Nat → Int} {T Wd : Nat → Int} {S : Int} {cr : Nat → Nat} {N : Nat} {ts tc : Nat → Int}
theorem frO_u {o : Nat → Nat} {k i j : Nat} (h : j ≤ k) : frO m (uN o k i) j = frO m o j := by
  unfold frO
  by_cases c : j = 0
  · rw [if_pos c, if_pos c]
  · rw [if_neg c, if_neg c, uN_o (by omega)]
theorem rt_u {o : Nat → Nat} {k i : Nat} : ∀ j, j ≤ k → rt m B T Wd S (uN o k i) j = rt m B T Wd S o j := fun j hj => rt_co (n := k) (fun x hx => uN_o hx) j hj
theorem rc_u {o : Nat → Nat} {k i j : Nat} (h : j < k) : rc m B T Wd S (uN o k i) j = rc m B T Wd S o j := by
  unfold rc
  rw [rt_u j (by omega), frO_u (by omega), uN_o h]
/-- come to, and DONE, one CUE on -/
theorem rt_1 {o : Nat → Nat} {k i : Nat} : rt m B T Wd S (uN o k i) (k + 1) = stO B T Wd S (rt m B T Wd S o k) (frO m o k) i := by
  show mX (rt m B T Wd S (uN o k i) k + B (frO m (uN o k i) k) (uN o k i k) * S + Wd (uN o k i k)) (T (uN o k i k)) = _
  rw [rt_u k (Nat.le_refl _), frO_u (Nat.le_refl _), uN_k]
  rfl
theorem rc_1 {o : Nat → Nat} {k i : Nat} : rc m B T Wd S (uN o k i) k = rt m B T Wd S o k + B (frO m o k) i * S := by
  unfold rc
  rw [rt_u k (Nat.le_refl _), frO_u (Nat.le_refl _), uN_k]
theorem hrd_u {o : Nat → Nat} {k i j : Nat} : hrd m B T Wd S cr ts tc (uN o k i) (k + 1) j ↔ (hrd m B T Wd S cr ts tc o k j ∨ (((cr i : Nat) : Int) = tc j ∧ rt m B T Wd S o k + B (frO m o k) i * S ≤ ts j ∧ ts j ≤ stO B T Wd S (rt m B T Wd S o k) (frO m o k) i)) := by
  constructor
  · rintro ⟨x, x1, x2, x3, x4⟩
    by_cases c : x = k
    · rw [c, uN_k] at x2
      rw [c, rc_1] at x3
      rw [c, rt_1] at x4
      exact Or.inr ⟨x2, x3, x4⟩
    · rw [uN_o (by omega)] at x2
      rw [rc_u (by omega)] at x3
      rw [rt_u (x + 1) (by omega)] at x4
      exact Or.inl ⟨x, by omega, x2, x3, x4⟩
  · rintro (⟨x, x1, x2, x3, x4⟩ | ⟨x2, x3, x4⟩)
    · exact ⟨x, by omega, by rw [uN_o x1]; exact x2, by rw [rc_u x1]; exact x3, by rw [rt_u (x + 1) (by omega)]; exact x4⟩
    · exact ⟨k, by omega, by rw [uN_k]; exact x2, by rw [rc_1]; exact x3, by rw [rt_1]; exact x4⟩
theorem frO_le2 {o : Nat → Nat} {k j : Nat} (ho : ∀ x, x < k → o x < m) (hj : j < k) : frO m o j ≤ m := fr_le ho hj
theorem FTc_e {g : Nat → List Int} : ∀ n, (∀ i, i < n → g i = []) → FTc g n = [] := by
  intro n
  induction n with
  | zero => intro _; rfl
  | succ n ih =>
    intro h
    show FTc g n ++ g n = []
    rw [ih (fun i hi => h i (by omega)), h n (by omega)]
    rfl
theorem FTc_len {g : Nat → List Int} {c : Nat} : ∀ n, (∀ i, i < n → (g i).length ≤ c) → (FTc g n).length ≤ n * c := by
  intro n
  induction n with
  | zero => intro _; exact Nat.zero_le _
  | succ n ih =>
    intro h
    have h1 := ih (fun i hi => h i (by omega))
    have h2 := h n (by omega)
    have e : (FTc g (n + 1)).length = (FTc g n).length + (g n).length := List.length_append
    have e2 : (n + 1) * c = n * c + c := Nat.succ_mul n c
    omega
theorem FTc_mem {g : Nat → List Int} {x : Int} : ∀ n, x ∈ FTc g n → ∃ i, i < n ∧ x ∈ g i := by
  intro n
  induction n with
  | zero => intro h; exact absurd h (List.not_mem_nil)
  | succ n ih =>
    intro h
    rcases List.mem_append.mp h with h | h
    · obtain ⟨i, h1, h2⟩ := ih h
      exact ⟨i, by omega, h2⟩
    · exact ⟨n, by omega, h⟩
theorem FTo_0 {lf : Nat → Bool} {k : Nat} {o : Nat → Nat} : ((feas m B o k ∧ allH m B T Wd S cr N ts tc o k) → FTo m B T Wd S cr N ts tc 0 lf k o = [dig o k]) ∧ (¬ (feas m B o k ∧ allH m B T Wd S cr N ts tc o k) → FTo m B T Wd S cr N ts tc 0 lf k o = []) :=
  ⟨fun h => if_pos h, fun h => if_neg h⟩
theorem FTo_s {n : Nat} {lf : Nat → Bool} {k : Nat} {o : Nat → Nat} : FTo m B T Wd S cr N ts tc (n + 1) lf k o = FTc (fun i => if lf i = true then FTo m B T Wd S cr N ts tc n (ofB lf i) (k + 1) (uN o k i) else []) m := rfl
theorem feas_p {o : Nat → Nat} {k i : Nat} (h : feas m B (uN o k i) (k + 1)) : feas m B o k ∧ B (frO m o k) i ≠ -1 := by
  constructor
  · intro j hj
    have hh := h j (by omega)
    rw [frO_u (o := o) (i := i) (by omega), uN_o hj] at hh
    exact hh
  · have hh := h k (by omega)
    rw [frO_u (o := o) (i := i) (Nat.le_refl _), uN_k] at hh
    exact hh
/-- no ORDER goes on by what can't be come to -/
theorem FTo_nf : ∀ (n : Nat) (lf : Nat → Bool) (k : Nat) (o : Nat → Nat), ¬ feas m B o k → FTo m B T Wd S cr N ts tc n lf k o = [] := by
  intro n
  induction n with
  | zero => intro lf k o h; exact FTo_0.2 (fun z => h z.1)
  | succ n ih =>
    intro lf k o h
    rw [FTo_s]
    refine FTc_e m (fun i hi => ?_)
    show (if lf i = true then FTo m B T Wd S cr N ts tc n (ofB lf i) (k + 1) (uN o k i) else []) = []
    by_cases c : lf i = true
    · rw [if_pos c]; exact ih _ _ _ (fun z => h (feas_p z).1)
    · rw [if_neg c]
theorem FTo_len (hm : m ≤ 8) : ∀ (n : Nat) (lf : Nat → Bool) (k : Nat) (o : Nat → Nat), (FTo m B T Wd S cr N ts tc n lf k o).length ≤ 8 ^ n := by
  intro n
  induction n with
  | zero =>
    intro lf k o
    by_cases c : feas m B o k ∧ allH m B T Wd S cr N ts tc o k
    · rw [FTo_0.1 c]; exact Nat.le_refl _
    · rw [FTo_0.2 c]; exact Nat.zero_le _
  | succ n ih =>
    intro lf k o
    rw [FTo_s]
    have h := FTc_len (g := fun i => if lf i = true then FTo m B T Wd S cr N ts tc n (ofB lf i) (k + 1) (uN o k i) else []) (c := 8 ^ n) m (fun i hi => by
      show (if lf i = true then FTo m B T Wd S cr N ts tc n (ofB lf i) (k + 1) (uN o k i) else []).length ≤ 8 ^ n
      by_cases c : lf i = true
      · rw [if_pos c]; exact ih _ _ _
      · rw [if_neg c]; exact Nat.zero_le _)
    have h2 : m * 8 ^ n ≤ 8 * 8 ^ n := Nat.mul_le_mul_right _ hm
    have h3 : 8 ^ (n + 1) = 8 * 8 ^ n := by rw [Nat.pow_succ, Nat.mul_comm]
    omega
theorem FTo_nn : ∀ (n : Nat) (lf : Nat → Bool) (k : Nat) (o : Nat → Nat), n + k = m → m ≤ 8 → (∀ j, j < k → o j < m) → ∀ x, x ∈ FTo m B T Wd S cr N ts tc n lf k o → 0 ≤ x := by
  intro n
  induction n with
  | zero =>
    intro lf k o hk hm ho x hx
    by_cases c : feas m B o k ∧ allH m B T Wd S cr N ts tc o k
    · rw [FTo_0.1 c] at hx
      rw [List.mem_singleton.mp hx]
      exact (dig_b k (fun j hj => by have := ho j hj; omega)).1
    · rw [FTo_0.2 c] at hx; exact absurd hx (List.not_mem_nil)
  | succ n ih =>
    intro lf k o hk hm ho x hx
    rw [FTo_s] at hx
    obtain ⟨i, hi, hx⟩ := FTc_mem m hx
    have hx : x ∈ (if lf i = true then FTo m B T Wd S cr N ts tc n (ofB lf i) (k + 1) (uN o k i) else []) := hx
    by_cases c : lf i = true
    · rw [if_pos c] at hx
      refine ih _ _ _ (by omega) hm (fun j hj => ?_) x hx
      by_cases e : j = k
      · rw [e, uN_k]; exact hi
      · rw [uN_o (by omega)]; exact ho j (by omega)
    · rw [if_neg c] at hx; exact absurd hx (List.not_mem_nil)
/-- a THUD that is missed is never heard -/
theorem FTo_ms (hJ : JOK m B T Wd S) (hFB : FB m B cr) {j : Nat} (hj : j < N) : ∀ (n : Nat) (lf : Nat → Bool) (k : Nat) (o : Nat → Nat), 1 ≤ k → k + n ≤ m → (∀ x, x < k → o x < m) → ts j ≤ rt m B T Wd S o k → ¬ hrd m B T Wd S cr ts tc o k j → FTo m B T Wd S cr N ts tc n lf k o = [] := by
  intro n
  induction n with
  | zero => intro lf k o _ _ _ _ h; exact FTo_0.2 (fun z => h (z.2 j hj))
  | succ n ih =>
    intro lf k o hk hkm ho ht h
    rw [FTo_s]
    refine FTc_e m (fun i hi => ?_)
    show (if lf i = true then FTo m B T Wd S cr N ts tc n (ofB lf i) (k + 1) (uN o k i) else []) = []
    by_cases c : lf i = true
    · rw [if_pos c]
      by_cases cf : B (frO m o k) i = -1
      · exact FTo_nf _ _ _ _ (fun z => (feas_p z).2 cf)
      · have hfr : frO m o k = o (k - 1) := if_neg (by omega)
        have hok := ho (k - 1) (by omega)
        have hbb := hJ.2.2.2.1 (o (k - 1)) i (by omega) hi
        rw [hfr] at cf
        have hmb := mul_b (a := B (o (k - 1)) i) (s := S) (by omega) hJ.2.2.1
        have h4 := hJ.2.2.2.2.2 i hi
        have est : stO B T Wd S (rt m B T Wd S o k) (o (k - 1)) i = mX (rt m B T Wd S o k + B (o (k - 1)) i * S + Wd i) (T i) := rfl
        rw [mX_eq] at est
        refine ih _ _ _ (by omega) (by omega) (fun x hx => ?_) ?_ ?_
        · by_cases e : x = k
          · rw [e, uN_k]; exact hi
          · rw [uN_o (by omega)]; exact ho x (by omega)
        · rw [rt_1, hfr]; omega
        · rw [hrd_u, hfr]
          rintro (z | ⟨z1, z2, z3⟩)
          · exact h z
          · -- no way at all: the same CRANK
            have h0 : B (o (k - 1)) i * S = 0 := by omega
            have hb0 : B (o (k - 1)) i = 0 := by
              rcases Int.mul_eq_zero.mp h0 with w | w
              · exact w
              · have := hJ.2.2.1.1; omega
            have hc := hFB (o (k - 1)) i hok hi hb0
            refine h ⟨k - 1, by omega, by rw [hc]; exact z1, ?_, ?_⟩
            · have e1 : rt m B T Wd S o (k - 1 + 1) = mX (rc m B T Wd S o (k - 1) + Wd (o (k - 1))) (T (o (k - 1))) := rfl
              have e2 : k - 1 + 1 = k := by omega
              rw [e2, mX_eq] at e1
              have h5 := hJ.2.2.2.2.2 (o (k - 1)) hok
              omega
            · have e2 : k - 1 + 1 = k := by omega
              rw [e2]; exact ht
    · rw [if_neg c]
def facN : Nat → Nat
  | 0 => 1
  | n + 1 => (n + 1) * facN n
/-- with all THUDS heard each ORDER fits -/
theorem FTo_all (hA : ∀ a b, a ≤ m → b < m → B a b ≠ -1) : ∀ (n : Nat) (lf : Nat → Bool) (k : Nat) (o : Nat → Nat), cN lf m = n → n + k = m → (∀ x, x < k → o x < m) → allH m B T Wd S cr N ts tc o k → (FTo m B T Wd S cr N ts tc n lf k o).length = facN n := by
  intro n
  induction n with
  | zero =>
    intro lf k o _ hk ho h
    have hf : feas m B o k := fun j hj => hA _ _ (frO_le2 ho hj) (ho j hj)
    rw [FTo_0.1 ⟨hf, h⟩]
    rfl
  | succ n ih =>
    intro lf k o hn hk ho h
    rw [FTo_s]
    have key : ∀ x, x ≤ m → (FTc (fun i => if lf i = true then FTo m B T Wd S cr N ts tc n (ofB lf i) (k + 1) (uN o k i) else []) x).length = cN lf x * facN n := by
      intro x
      induction x with
      | zero => intro _; show 0 = 0 * facN n; rw [Nat.zero_mul]
      | succ x ihx =>
        intro hx
        have h1 := ihx (by omega)
        have e : (FTc (fun i => if lf i = true then FTo m B T Wd S cr N ts tc n (ofB lf i) (k + 1) (uN o k i) else []) (x + 1)).length = (FTc (fun i => if lf i = true then FTo m B T Wd S cr N ts tc n (ofB lf i) (k + 1) (uN o k i) else []) x).length + (if lf x = true then FTo m B T Wd S cr N ts tc n (ofB lf x) (k + 1) (uN o k x) else []).length := List.length_append
        rw [e, h1]
        by_cases c : lf x = true
        · rw [if_pos c, cN_y c, Nat.succ_mul, ih (ofB lf x) (k + 1) (uN o k x) (by rw [cN_off c, if_pos (by omega), hn]; rfl) (by omega) (fun j hj => by
            by_cases e : j = k
            · rw [e, uN_k]; omega
            · rw [uN_o (by omega)]; exact ho j (by omega)) (fun j hj => hrd_u.mpr (Or.inl (h j hj)))]
        · rw [if_neg c, cN_n c]
          rfl
    rw [key m (Nat.le_refl _), hn]
    rfl
/-- it can't be: none -/
theorem feas_R (hTR : TRB m B) {o : Nat → Nat} : ∀ k, (∀ x, x < k → o x < m) → feas m B o k → ∀ j, j < k → B m (o j) ≠ -1 := by
  intro k
  induction k with
  | zero => intro _ _ j hj; exact absurd hj (Nat.not_lt_zero _)
  | succ k ih =>
    intro ho hf j hj
    have h1 := ih (fun x hx => ho x (by omega)) (fun x hx => hf x (by omega))
    by_cases c : j = k
    · have h2 := hf k (by omega)
      rw [c]
      by_cases z : k = 0
      · have e : frO m o k = m := if_pos z
        rw [e] at h2; exact h2
      · have e : frO m o k = o (k - 1) := if_neg z
        rw [e] at h2
        exact hTR _ _ (ho (k - 1) (by omega)) (ho k (by omega)) (h1 (k - 1) (by omega)) h2
    · exact h1 j (by omega)
theorem FTo_no (hTR : TRB m B) {b : Nat} (hb : b < m) (hB : B m b = -1) : ∀ (n : Nat) (lf : Nat → Bool) (k : Nat) (o : Nat → Nat), cN lf m = n → (∀ x, x < k → o x < m) → (lf b = true ∨ ∃ j, j < k ∧ o j = b) → FTo m B T Wd S cr N ts tc n lf k o = [] := by
  intro n
  induction n with
  | zero =>
    intro lf k o hn ho h
    refine FTo_0.2 (fun z => ?_)
    rcases h with h | ⟨j, j1, j2⟩
    · exact cN_0 m hn b hb h
    · exact feas_R hTR k ho z.1 j j1 (by rw [j2]; exact hB)
  | succ n ih =>
    intro lf k o hn ho h
    rw [FTo_s]
    refine FTc_e m (fun i hi => ?_)
    show (if lf i = true then FTo m B T Wd S cr N ts tc n (ofB lf i) (k + 1) (uN o k i) else []) = []
    by_cases c : lf i = true
    · rw [if_pos c]
      refine ih _ _ _ (by rw [cN_off c, if_pos hi, hn]; rfl) (fun x hx => ?_) ?_
      · by_cases e : x = k
        · rw [e, uN_k]; exact hi
        · rw [uN_o (by omega)]; exact ho x (by omega)
      · by_cases e : b = i
        · exact Or.inr ⟨k, by omega, by rw [uN_k, e]⟩
        · rcases h with h | ⟨j, j1, j2⟩
          · refine Or.inl ?_
            unfold ofB
            rw [if_neg e]; exact h
          · exact Or.inr ⟨j, by omega, by rw [uN_o j1]; exact j2⟩
    · rw [if_neg c]
end FP
/-! counted, and the w-th of them -/
def stF (w : Int) (s : Int × Int) (d : Int) : Int × Int := (s.1 + 1, if s.1 = w then d else s.2)
theorem fo1 {w : Int} : ∀ (A : List Int) (s : Int × Int), (A.foldl (stF w) s).1 = s.1 + (A.length : Int) := by
  intro A
  induction A with
  | nil => intro s; show s.1 = s.1 + ((0 : Nat) : Int); omega
  | cons d A ih =>
    intro s
    show (A.foldl (stF w) (stF w s d)).1 = s.1 + ((A.length + 1 : Nat) : Int)
    rw [ih]
    show s.1 + 1 + (A.length : Int) = _
    omega
theorem fo2 {w : Int} : ∀ (A : List Int) (s : Int × Int), (w < s.1 ∨ s.1 + (A.length : Int) ≤ w) → (A.foldl (stF w) s).2 = s.2 := by
  intro A
  induction A with
  | nil => intro s _; rfl
  | cons d A ih =>
    intro s h
    have hl : ((d :: A).length : Int) = (A.length : Int) + 1 := by rw [List.length_cons]; omega
    rw [hl] at h
    have e : stF w s d = (s.1 + 1, s.2) := by
      unfold stF
      rw [if_neg (by omega)]
    show (A.foldl (stF w) (stF w s d)).2 = s.2
    rw [ih _ (by rw [e]; show w < s.1 + 1 ∨ s.1 + 1 + (A.length : Int) ≤ w; omega), e]
theorem fo3 {w : Int} : ∀ (A : List Int) (s : Int × Int), s.1 ≤ w → w < s.1 + (A.length : Int) → (∀ x, x ∈ A → 0 ≤ x) → 0 ≤ (A.foldl (stF w) s).2 := by
  intro A
  induction A with
  | nil =>
    intro s h1 h2 _
    have h2 : w < s.1 + ((0 : Nat) : Int) := h2
    omega
  | cons d A ih =>
    intro s h1 h2 h3
    have hl : ((d :: A).length : Int) = (A.length : Int) + 1 := by rw [List.length_cons]; omega
    rw [hl] at h2
    have e1 : (stF w s d).1 = s.1 + 1 := rfl
    show 0 ≤ (A.foldl (stF w) (stF w s d)).2
    by_cases c : s.1 = w
    · rw [fo2 _ _ (by rw [e1]; omega)]
      show 0 ≤ (if s.1 = w then d else s.2)
      rw [if_pos c]
      exact h3 d (List.mem_cons_self)
    · exact ih _ (by rw [e1]; omega) (by rw [e1]; omega) (fun x hx => h3 x (List.mem_cons_of_mem _ hx))
