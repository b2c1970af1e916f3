/-! bits -/
def gb (s : Int) (d : Nat) : Bool := (Int32.ofInt s).toBitVec.getLsbD d
theorem bt1 {d : Nat} (hd : d < 10) (s : Int) : bA (bR s ((d : Nat) : Int)) 1 = 1 ↔ gb s d = true := bit_iff hd s
theorem bA_bits (a b : Int) : (Int32.ofInt (bA a b)).toBitVec = (Int32.ofInt a).toBitVec &&& (Int32.ofInt b).toBitVec := by
  unfold bA
  rw [o32_self]
  rfl
theorem bX_bits (a b : Int) : (Int32.ofInt (bX a b)).toBitVec = (Int32.ofInt a).toBitVec ^^^ (Int32.ofInt b).toBitVec := by
  unfold bX
  rw [o32_self]
  rfl
theorem gb_or (a b : Int) (d : Nat) : gb (bO a b) d = (gb a d || gb b d) := by unfold gb; rw [bO_bits, BitVec.getLsbD_or]
theorem gb_and (a b : Int) (d : Nat) : gb (bA a b) d = (gb a d && gb b d) := by unfold gb; rw [bA_bits, BitVec.getLsbD_and]
theorem gb_xor (a b : Int) (d : Nat) : gb (bX a b) d = Bool.xor (gb a d) (gb b d) := by unfold gb; rw [bX_bits, BitVec.getLsbD_xor]
theorem gb_one : ∀ c, c < 10 → ∀ d, d < 32 → gb (bL 1 ((c : Nat) : Int)) d = decide (d = c) := by decide +kernel
theorem gb_m1 : ∀ d, d < 32 → gb (-1) d = true := by decide +kernel
theorem gb_zero : ∀ d, d < 32 → gb 0 d = false := by decide +kernel
theorem gb_all : ∀ m, m < 9 → ∀ d, d < 32 → gb (iS (bL 1 ((m : Nat) : Int)) 1) d = decide (d < m) := by decide +kernel
theorem all_rI : ∀ m, m < 9 → -2147483648 ≤ iS (bL 1 ((m : Nat) : Int)) 1 ∧ iS (bL 1 ((m : Nat) : Int)) 1 ≤ 2147483647 := by decide +kernel
theorem gb_ext {a b : Int} (ha : rI a) (hb : rI b) (h : ∀ d, d < 32 → (gb a d = true ↔ gb b d = true)) : a = b := by
  have e : (Int32.ofInt a).toBitVec = (Int32.ofInt b).toBitVec := by
    apply BitVec.eq_of_getLsbD_eq
    intro i hi
    exact Bool.eq_iff_iff.mpr (h i hi)
  have e2 : Int32.ofInt a = Int32.ofInt b := Int32.toInt.inj (show (Int32.ofInt a).toBitVec.toInt = (Int32.ofInt b).toBitVec.toInt by rw [e])
  exact (o32_eq ha hb).mp e2
theorem bit_oR {d : Nat} (hd : d < 10) {s x : Int} : bA (bR (bO s x) ((d : Nat) : Int)) 1 = 1 ↔ (bA (bR s ((d : Nat) : Int)) 1 = 1 ∨ bA (bR x ((d : Nat) : Int)) 1 = 1) := by
  rw [bt1 hd, bt1 hd, bt1 hd, gb_or, Bool.or_eq_true]
theorem gb_put {c : Nat} (hc : c < 10) (s : Int) {d : Nat} (hd : d < 32) : gb (bO s (bL 1 ((c : Nat) : Int))) d = true ↔ (gb s d = true ∨ d = c) := by
  rw [gb_or, gb_one c hc d hd, Bool.or_eq_true, decide_eq_true_iff]
theorem gb_off {c : Nat} (hc : c < 10) (s : Int) {d : Nat} (hd : d < 32) : gb (bA s (bX (bL 1 ((c : Nat) : Int)) (-1))) d = true ↔ (gb s d = true ∧ d ≠ c) := by
  rw [gb_and, gb_xor, gb_one c hc d hd, gb_m1 d hd, Bool.xor_true, Bool.and_eq_true, Bool.not_eq_true', decide_eq_false_iff_not]
theorem gb_not (s x : Int) {d : Nat} (hd : d < 32) : gb (bA s (bX x (-1))) d = true ↔ (gb s d = true ∧ ¬ gb x d = true) := by
  rw [gb_and, gb_xor, gb_m1 d hd, Bool.xor_true, Bool.and_eq_true, Bool.not_eq_true', Bool.not_eq_true]
