/-! THE PURE LEVEL: numbers are Int, a memory is a function, a method is a function to Option -/
abbrev AV : Type := Int ⊕ (Int ⊕ Option Nat)
abbrev vI (a : Int) : AV := .inl a
abbrev vL (a : Int) : AV := .inr (.inl a)
abbrev vR (t : Nat) : AV := .inr (.inr (some t))
abbrev vN : AV := .inr (.inr none)
/-- a reference that may be null: -1, or the cell's number -/
def vC (c : Int) : AV := if c = -1 then vN else vR c.toNat
abbrev Mm : Type := Nat → Nat → Int
abbrev Rs : Type := Option (Int × Mm)
def wI (x : Int) : Int := x.bmod 4294967296
def wL (x : Int) : Int := x.bmod 18446744073709551616
def iA (a b : Int) : Int := wI (a + b)
def iS (a b : Int) : Int := wI (a - b)
def iM (a b : Int) : Int := wI (a * b)
def iD (a b : Int) : Int := wI (a.tdiv b)
def iR (a b : Int) : Int := wI (a - iD a b * b)
def bA (a b : Int) : Int := (Int32.ofInt a &&& Int32.ofInt b).toInt
def bO (a b : Int) : Int := (Int32.ofInt a ||| Int32.ofInt b).toInt
def bX (a b : Int) : Int := (Int32.ofInt a ^^^ Int32.ofInt b).toInt
def bL (a b : Int) : Int := (Int32.ofInt a <<< (Int32.ofInt b &&& 31)).toInt
def bR (a b : Int) : Int := (Int32.ofInt a >>> (Int32.ofInt b &&& 31)).toInt
def bU (a b : Int) : Int := ((Int32.ofInt a).toUInt32 >>> ((Int32.ofInt b).toUInt32 &&& Int32.toUInt32 31)).toInt32.toInt
def lA (a b : Int) : Int := wL (a + b)
def lS (a b : Int) : Int := wL (a - b)
def lM (a b : Int) : Int := wL (a * b)
def lD (a b : Int) : Int := wL (a.tdiv b)
def lC (a b : Int) : Int := if b < a then 1 else if a = b then 0 else -1
def mX (a b : Int) : Int := if b < a then a else b
def mN (a b : Int) : Int := if b < a then b else a
def rI (a : Int) : Prop := -2147483648 ≤ a ∧ a ≤ 2147483647
def rL (a : Int) : Prop := -9223372036854775808 ≤ a ∧ a ≤ 9223372036854775807
def cV (ad : Nat → Nat) : AV → Value
  | .inl a => .int (Int32.ofInt a)
  | .inr (.inl a) => .long (Int64.ofInt a)
  | .inr (.inr (some t)) => .ref (ad t)
  | .inr (.inr none) => .null
def oV : AV → Prop
  | .inl a => rI a
  | .inr (.inl a) => rL a
  | .inr (.inr _) => True
def oM (μ : Mm) : Prop := ∀ i j, rI (μ i j)
def sM (μ : Mm) (a j : Nat) (v : Int) : Mm := fun i k => if i = a ∧ k = j then v else μ i k
/-- the cells of both systems: (0, n) n ints; (1, n) n plays; (2, n) n texts; (10 + class, fields) an object -/
def kL : List (Nat × Nat) := [(20, 18), (17, 2), (0, 160), (14, 3), (12, 6), (10, 9), (0, 60), (0, 8), (0, 8), (10, 9), (0, 60), (0, 8), (0, 8), (10, 9), (0, 60), (0, 8), (0, 8), (1, 5), (13, 3), (0, 8), (0, 8), (13, 3), (0, 8), (0, 8), (13, 3), (0, 8), (0, 8), (13, 3), (0, 8), (0, 8), (13, 3), (0, 8), (0, 8), (13, 3), (0, 8), (0, 8), (2, 4), (17, 2), (0, 160), (17, 2), (0, 160), (17, 2), (0, 160), (17, 2), (0, 160), (19, 3), (0, 60), (0, 60), (11, 7), (0, 8), (0, 8), (0, 8), (0, 72), (11, 7), (0, 8), (0, 8), (0, 8), (0, 72), (15, 10), (0, 8), (0, 8), (0, 8), (16, 9), (0, 2048), (0, 2048), (0, 256), (0, 256), (18, 7), (0, 10), (0, 10), (21, 54), (0, 160), (0, 1700), (0, 1700), (0, 5), (0, 5), (0, 450), (0, 450), (0, 450), (0, 5), (0, 80), (0, 60), (0, 60), (0, 48), (0, 48), (0, 6), (0, 8), (0, 60), (0, 8), (0, 72), (0, 8), (0, 8), (0, 8), (0, 10), (0, 10), (0, 256), (0, 60), (0, 8)]
def nC : Nat := 98
def kD (k : Nat) : Nat × Nat := kL.getD k (99, 0)
def aN (k : Nat) : Nat := (kD k).2
/-- what a field is: (0, _) a number; (1, o) the cell o behind its object; (2, t) the cell t; (3, _) a cell's number -/
def rF (ci j : Nat) : Nat × Nat := (([[(1, 1), (1, 2), (1, 3), (0, 0), (0, 0), (0, 0), (0, 0), (0, 0), (0, 0)], [(2, 45), (1, 1), (1, 2), (1, 3), (1, 4), (0, 0), (0, 0)], [(2, 3), (0, 0), (0, 0), (0, 0), (0, 0), (0, 0)], [(1, 1), (1, 2), (0, 0)], [(3, 0), (0, 0), (0, 0)], [(1, 1), (1, 2), (1, 3), (0, 0), (0, 0), (0, 0), (0, 0), (0, 0), (0, 0), (0, 0)], [(1, 1), (1, 2), (1, 3), (1, 4), (3, 0), (0, 0), (0, 0), (0, 0), (0, 0)], [(1, 1), (0, 0)], [(1, 1), (1, 2), (0, 0), (3, 0), (0, 0), (0, 0), (0, 0)], [(1, 1), (1, 2), (0, 0)], [(1, 1), (1, 3), (1, 4), (1, 5), (1, 9), (1, 13), (1, 17), (1, 33), (1, 36), (1, 45), (1, 48), (1, 53), (1, 58), (1, 62), (1, 67), (0, 0), (0, 0), (0, 0)], [(0, 0), (1, 1), (0, 0), (0, 0), (0, 0), (0, 0), (1, 2), (1, 3), (1, 4), (1, 5), (1, 6), (1, 7), (1, 8), (0, 0), (0, 0), (1, 9), (1, 10), (1, 11), (0, 0), (0, 0), (0, 0), (0, 0), (1, 12), (0, 0), (0, 0), (1, 13), (1, 14), (1, 15), (0, 0), (1, 16), (0, 0), (0, 0), (0, 0), (1, 17), (1, 18), (1, 19), (1, 20), (0, 0), (0, 0), (1, 21), (1, 22), (0, 0), (0, 0), (1, 23), (1, 24), (0, 0), (0, 0), (0, 0), (1, 25), (1, 26), (1, 27), (0, 0), (0, 0), (0, 0)]] : List (List (Nat × Nat))).getD ci []).getD j (0, 0)
/-- the cells that an array of references holds -/
def aE (a j : Nat) : Nat := if a = 17 then 18 + 3 * j else 37 + 2 * j
def fV (μ : Mm) (k j : Nat) : AV := match rF ((kD k).1 - 10) j with
  | (0, _) => vI (μ k j)
  | (1, o) => vR (k + o)
  | (2, t) => vR t
  | _ => vR (μ k j).toNat
def eN (D : ClassId × ClassId × ClassId) (ad : Nat → Nat) (μ : Mm) (k : Nat) : va_E := match kD k with
  | (0, n) => .inl (D.1, n, .inl (fun j => Int32.ofInt (μ k j)))
  | (1, n) => .inl (D.2.1, n, .inr (.inr (.inr (.inr (fun j => some (ad (aE k j)))))))
  | (2, n) => .inl (D.2.2, n, .inr (.inr (.inr (.inr (fun j => some (ad (aE k j)))))))
  | (c, n) => .inr (c - 10, (List.range n).map (fun j => cV ad (fV μ k j)))
def wO (D : ClassId × ClassId × ClassId) (ad : Nat → Nat) (μ : Mm) : va_W := (List.range nC).map (fun k => (ad k, eN D ad μ k))
abbrev tyS (D : ClassId × ClassId × ClassId) : List (ClassId × FieldType) := [(D.1, .int), (D.2.1, .object RX3), (D.2.2, .object RX7)]
/-! combinators of the pure functions -/
def bd (x : Rs) (f : Int → Mm → Rs) : Rs := match x with
  | none => none
  | some q => f q.1 q.2
def lt_ (x : Int) (f : Int → Rs) : Rs := f x
def sF (μ : Mm) (a j : Nat) (v : Int) (f : Mm → Rs) : Rs := f (sM μ a j v)
def sZ (μ : Mm) (a j : Nat) (v : Int) (f : Mm → Rs) : Rs := if v = 0 ∨ v = 1 then f (sM μ a j v) else none
def ldA (μ : Mm) (a : Nat) (i : Int) (f : Int → Rs) : Rs := if 0 ≤ i ∧ i < aN a then f (μ a i.toNat) else none
def stA (μ : Mm) (a : Nat) (i v : Int) (f : Mm → Rs) : Rs := if 0 ≤ i ∧ i < aN a then f (sM μ a i.toNat v) else none
def aL (a : Nat) (i : Int) (f : Nat → Rs) : Rs := if 0 ≤ i ∧ i < aN a then f (aE a i.toNat) else none
def mR (μ : Mm) (a j : Nat) (k : Nat × Nat) (f : Nat → Rs) : Rs := if kD (μ a j).toNat = k then f (μ a j).toNat else none
def dZ (b : Int) (f : Rs) : Rs := if b = 0 then none else f
def nN (c : Int) (f : Nat → Rs) : Rs := if 0 ≤ c then f c.toNat else none
def kC (c : Int) (k : Nat × Nat) (f : Nat → Rs) : Rs := if kD c.toNat = k then f c.toNat else none
def rZ (v : Int) (μ : Mm) : Rs := if v = 0 ∨ v = 1 then some (v, μ) else none
/-- System.arraycopy of n numbers from a at 0 to b at 0 -/
def cA_ (μ : Mm) (a b : Nat) (n : Int) : Mm := fun i k => if i = b ∧ (k : Int) < n then μ a k else μ i k
def cpA (μ : Mm) (a b : Nat) (n : Int) (f : Mm → Rs) : Rs := if 0 ≤ n ∧ n ≤ aN a ∧ n ≤ aN b then f (cA_ μ a b n) else none
def FU : Nat := 1000000
def RD : Nat := 12
theorem bd_i {x : Rs} {f : Int → Mm → Rs} {q : Int × Mm} (h : bd x f = some q) : ∃ r μ, x = some (r, μ) ∧ f r μ = some q := by
  cases x with
  | none => cases h
  | some y => exact ⟨y.1, y.2, rfl, h⟩
theorem ldA_i {μ : Mm} {a : Nat} {i : Int} {f : Int → Rs} {q : Int × Mm} (h : ldA μ a i f = some q) : (0 ≤ i ∧ i < aN a) ∧ f (μ a i.toNat) = some q := by
  unfold ldA at h
  by_cases c : 0 ≤ i ∧ i < aN a
  · rw [if_pos c] at h; exact ⟨c, h⟩
  · rw [if_neg c] at h; cases h
theorem stA_i {μ : Mm} {a : Nat} {i v : Int} {f : Mm → Rs} {q : Int × Mm} (h : stA μ a i v f = some q) : (0 ≤ i ∧ i < aN a) ∧ f (sM μ a i.toNat v) = some q := by
  unfold stA at h
  by_cases c : 0 ≤ i ∧ i < aN a
  · rw [if_pos c] at h; exact ⟨c, h⟩
  · rw [if_neg c] at h; cases h
theorem aL_i {a : Nat} {i : Int} {f : Nat → Rs} {q : Int × Mm} (h : aL a i f = some q) : (0 ≤ i ∧ i < aN a) ∧ f (aE a i.toNat) = some q := by
  unfold aL at h
  by_cases c : 0 ≤ i ∧ i < aN a
  · rw [if_pos c] at h; exact ⟨c, h⟩
  · rw [if_neg c] at h; cases h
theorem mR_i {μ : Mm} {a j : Nat} {k : Nat × Nat} {f : Nat → Rs} {q : Int × Mm} (h : mR μ a j k f = some q) : kD (μ a j).toNat = k ∧ f (μ a j).toNat = some q := by
  unfold mR at h
  by_cases c : kD (μ a j).toNat = k
  · rw [if_pos c] at h; exact ⟨c, h⟩
  · rw [if_neg c] at h; cases h
theorem dZ_i {b : Int} {f : Rs} {q : Int × Mm} (h : dZ b f = some q) : b ≠ 0 ∧ f = some q := by
  unfold dZ at h
  by_cases c : b = 0
  · rw [if_pos c] at h; cases h
  · rw [if_neg c] at h; exact ⟨c, h⟩
theorem nN_i {c : Int} {f : Nat → Rs} {q : Int × Mm} (h : nN c f = some q) : 0 ≤ c ∧ f c.toNat = some q := by
  unfold nN at h
  by_cases e : 0 ≤ c
  · rw [if_pos e] at h; exact ⟨e, h⟩
  · rw [if_neg e] at h; cases h
theorem sZ_i {μ : Mm} {a j : Nat} {v : Int} {f : Mm → Rs} {q : Int × Mm} (h : sZ μ a j v f = some q) : (v = 0 ∨ v = 1) ∧ f (sM μ a j v) = some q := by
  unfold sZ at h
  by_cases c : v = 0 ∨ v = 1
  · rw [if_pos c] at h; exact ⟨c, h⟩
  · rw [if_neg c] at h; cases h
theorem rZ_i {v : Int} {μ : Mm} {q : Int × Mm} (h : rZ v μ = some q) : (v = 0 ∨ v = 1) ∧ some (v, μ) = some q := by
  unfold rZ at h
  by_cases c : v = 0 ∨ v = 1
  · rw [if_pos c] at h; exact ⟨c, h⟩
  · rw [if_neg c] at h; cases h
theorem lt_i {x : Int} {f : Int → Rs} {q : Int × Mm} (h : lt_ x f = some q) : f x = some q := h
theorem sF_i {μ : Mm} {a j : Nat} {v : Int} {f : Mm → Rs} {q : Int × Mm} (h : sF μ a j v f = some q) : f (sM μ a j v) = some q := h
theorem kC_i {c : Int} {k : Nat × Nat} {f : Nat → Rs} {q : Int × Mm} (h : kC c k f = some q) : kD c.toNat = k ∧ f c.toNat = some q := by
  unfold kC at h
  by_cases e : kD c.toNat = k
  · rw [if_pos e] at h; exact ⟨e, h⟩
  · rw [if_neg e] at h; cases h
theorem cpA_i {μ : Mm} {a b : Nat} {n : Int} {f : Mm → Rs} {q : Int × Mm} (h : cpA μ a b n f = some q) : (0 ≤ n ∧ n ≤ aN a ∧ n ≤ aN b) ∧ f (cA_ μ a b n) = some q := by
  unfold cpA at h
  by_cases c : 0 ≤ n ∧ n ≤ aN a ∧ n ≤ aN b
  · rw [if_pos c] at h; exact ⟨c, h⟩
  · rw [if_neg c] at h; cases h
theorem ifT {c : Prop} {_ : Decidable c} {α : Type} {x y z : α} (hc : c) (h : (if c then x else y) = z) : x = z := by rwa [if_pos hc] at h
theorem ifF {c : Prop} {_ : Decidable c} {α : Type} {x y z : α} (hc : ¬ c) (h : (if c then x else y) = z) : y = z := by rwa [if_neg hc] at h
/-! numbers of the machine against Int -/
theorem rI_32 {a : Int} (h : rI a) : (Int32.ofInt a).toInt = a := Int32.toInt_ofInt_of_le (by unfold rI at h; omega) (by unfold rI at h; omega)
theorem rL_64 {a : Int} (h : rL a) : (Int64.ofInt a).toInt = a := Int64.toInt_ofInt_of_le (by unfold rL at h; omega) (by unfold rL at h; omega)
theorem rI_of (x : Int32) : rI x.toInt := by
  have h1 := x.le_toInt
  have h2 := x.toInt_lt
  unfold rI; omega
theorem rL_of (x : Int64) : rL x.toInt := by
  have h1 := x.le_toInt
  have h2 := x.toInt_lt
  unfold rL; omega
theorem rI_wI (x : Int) : rI (wI x) := by
  have h1 := Int.le_bmod (x := x) (m := 4294967296) (by decide)
  have h2 := Int.bmod_lt (x := x) (m := 4294967296) (by decide)
  unfold rI wI; omega
theorem rL_wL (x : Int) : rL (wL x) := by
  have h1 := Int.le_bmod (x := x) (m := 18446744073709551616) (by decide)
  have h2 := Int.bmod_lt (x := x) (m := 18446744073709551616) (by decide)
  unfold rL wL; omega
theorem wI_id {x : Int} (h1 : -2147483648 ≤ x) (h2 : x ≤ 2147483647) : wI x = x := Int.bmod_eq_of_le (by omega) (by omega)
theorem wL_id {x : Int} (h : rL x) : wL x = x := Int.bmod_eq_of_le (by unfold rL at h; omega) (by unfold rL at h; omega)
theorem o32 (x : Int) : Int32.ofInt (wI x) = Int32.ofInt x := Int32.toInt.inj (by rw [Int32.toInt_ofInt, Int32.toInt_ofInt]; exact Int.bmod_bmod)
theorem o64 (x : Int) : Int64.ofInt (wL x) = Int64.ofInt x := Int64.toInt.inj (by rw [Int64.toInt_ofInt, Int64.toInt_ofInt]; exact Int.bmod_bmod)
theorem o32_add (a b : Int) : Int32.ofInt a + Int32.ofInt b = Int32.ofInt (iA a b) := by rw [iA, o32, Int32.ofInt_add]
theorem o32_sub (a b : Int) : Int32.ofInt a - Int32.ofInt b = Int32.ofInt (iS a b) := by rw [iS, o32, Int32.ofInt_sub]
theorem o32_mul (a b : Int) : Int32.ofInt a * Int32.ofInt b = Int32.ofInt (iM a b) := by rw [iM, o32, Int32.ofInt_mul]
theorem o32_div {a b : Int} (ha : rI a) (hb : rI b) : Int32.ofInt a / Int32.ofInt b = Int32.ofInt (iD a b) := by
  apply Int32.toInt.inj
  rw [iD, o32, Int32.toInt_div, rI_32 ha, rI_32 hb, Int32.toInt_ofInt]
theorem o32_rem {a b : Int} (ha : rI a) (hb : rI b) : Int32.ofInt a - Int32.ofInt a / Int32.ofInt b * Int32.ofInt b = Int32.ofInt (iR a b) := by
  rw [o32_div ha hb, iR, o32, Int32.ofInt_sub, Int32.ofInt_mul]
theorem o64_add (a b : Int) : Int64.ofInt a + Int64.ofInt b = Int64.ofInt (lA a b) := by rw [lA, o64, Int64.ofInt_add]
theorem o64_sub (a b : Int) : Int64.ofInt a - Int64.ofInt b = Int64.ofInt (lS a b) := by rw [lS, o64, Int64.ofInt_sub]
theorem o64_mul (a b : Int) : Int64.ofInt a * Int64.ofInt b = Int64.ofInt (lM a b) := by rw [lM, o64, Int64.ofInt_mul]
theorem o64_div {a b : Int} (ha : rL a) (hb : rL b) : Int64.ofInt a / Int64.ofInt b = Int64.ofInt (lD a b) := by
  apply Int64.toInt.inj
  rw [lD, o64, Int64.toInt_div, rL_64 ha, rL_64 hb, Int64.toInt_ofInt]
theorem o32_self (x : Int32) : Int32.ofInt x.toInt = x := Int32.ofInt_toInt x
theorem o32_lt {a b : Int} (ha : rI a) (hb : rI b) : Int32.ofInt a < Int32.ofInt b ↔ a < b := by rw [Int32.lt_iff_toInt_lt, rI_32 ha, rI_32 hb]
theorem o32_le {a b : Int} (ha : rI a) (hb : rI b) : Int32.ofInt a ≤ Int32.ofInt b ↔ a ≤ b := by rw [Int32.le_iff_toInt_le, rI_32 ha, rI_32 hb]
theorem o32_eq {a b : Int} (ha : rI a) (hb : rI b) : Int32.ofInt a = Int32.ofInt b ↔ a = b := by rw [← Int32.toInt_inj, rI_32 ha, rI_32 hb]
theorem o64_lt {a b : Int} (ha : rL a) (hb : rL b) : Int64.ofInt a < Int64.ofInt b ↔ a < b := by rw [Int64.lt_iff_toInt_lt, rL_64 ha, rL_64 hb]
theorem o64_eq {a b : Int} (ha : rL a) (hb : rL b) : Int64.ofInt a = Int64.ofInt b ↔ a = b := by rw [← Int64.toInt_inj, rL_64 ha, rL_64 hb]
theorem rI_0 : rI 0 := by unfold rI; omega
theorem o32_0 : (0 : Int32) = Int32.ofInt 0 := rfl
theorem o32_lcmp {a b : Int} (ha : rL a) (hb : rL b) : lg_cmp (Int64.ofInt a) (Int64.ofInt b) = Int32.ofInt (lC a b) := by
  unfold lg_cmp lC
  by_cases h1 : b < a
  · rw [if_pos h1, if_pos ((o64_lt hb ha).mpr h1)]; rfl
  · rw [if_neg h1, if_neg (fun h => h1 ((o64_lt hb ha).mp h))]
    by_cases h2 : a = b
    · rw [if_pos h2, if_pos ((o64_eq ha hb).mpr h2)]; rfl
    · rw [if_neg h2, if_neg (fun h => h2 ((o64_eq ha hb).mp h))]; rfl
theorem o32_i2l {a : Int} (ha : rI a) : (Int32.ofInt a).toInt64 = Int64.ofInt a := by
  apply Int64.toInt.inj
  rw [Int32.toInt_toInt64, rI_32 ha, rL_64 (by unfold rI at ha; unfold rL; omega)]
theorem o64_l2i (a : Int) : (Int64.ofInt a).toInt32 = Int32.ofInt (wI a) := by rw [o32, Int64.toInt32_ofInt]
theorem rI_rL {a : Int} (ha : rI a) : rL a := by unfold rI at ha; unfold rL; omega
/-- an index -/
theorem o32_nat {i : Int} (h : rI i) (h0 : 0 ≤ i) : (Int32.ofInt i).toNatClampNeg = i.toNat := by
  show (Int32.ofInt i).toInt.toNat = i.toNat
  rw [rI_32 h]
theorem o32_in {i : Int} {n : Nat} (h : rI i) (h0 : 0 ≤ i ∧ i < n) : vp_in (Int32.ofInt i) n := by
  rw [vp_in_iff, rI_32 h]; exact h0
/-! the layout -/
theorem kD_lt {k : Nat} (h : (kD k).1 ≠ 99) : k < nC := by
  apply Classical.byContradiction
  intro q
  apply h
  unfold kD
  rw [List.getD_eq_getElem?_getD, List.getElem?_eq_none (by show kL.length ≤ k; exact Nat.not_lt.mp q)]
  rfl
theorem kD_e {k c n : Nat} (h : kD k = (c, n)) (hc : c ≠ 99) : k < nC := kD_lt (by rw [h]; exact hc)
theorem wO_len (D : ClassId × ClassId × ClassId) (ad : Nat → Nat) (μ : Mm) : (wO D ad μ).length = nC := by simp [wO]
theorem wO_at (D : ClassId × ClassId × ClassId) (ad : Nat → Nat) (μ : Mm) {k : Nat} (h : k < nC) : (wO D ad μ)[k]? = some (ad k, eN D ad μ k) := by
  simp [wO, h]
theorem wO_get {D : ClassId × ClassId × ClassId} {ad : Nat → Nat} {μ : Mm} {k : Nat} {q : Nat × va_E} (h : (wO D ad μ)[k]? = some q) : k < nC ∧ q = (ad k, eN D ad μ k) := by
  have hl := (List.getElem?_eq_some_iff.mp h).1
  rw [wO_len] at hl
  rw [wO_at D ad μ hl] at h
  exact ⟨hl, (Option.some.inj h).symm⟩
theorem wO_set {D : ClassId × ClassId × ClassId} {ad : Nat → Nat} {μ μ' : Mm} {k : Nat} {e : va_E} (hk : k < nC) (he : eN D ad μ' k = e) (ho : ∀ j, j ≠ k → eN D ad μ' j = eN D ad μ j) : (wO D ad μ).set k (ad k, e) = wO D ad μ' := by
  apply List.ext_getElem?
  intro i
  by_cases hi : i < nC
  · rw [wO_at D ad μ' hi]
    by_cases hik : i = k
    · subst hik
      rw [List.getElem?_set_self (by rw [wO_len]; exact hi), he]
    · rw [List.getElem?_set_ne (Ne.symm hik), wO_at D ad μ hi, ho i hik]
  · rw [List.getElem?_eq_none (by rw [List.length_set, wO_len]; omega), List.getElem?_eq_none (by rw [wO_len]; omega)]
theorem sM_ne {μ : Mm} {a j : Nat} {v : Int} {i : Nat} (h : i ≠ a) : sM μ a j v i = μ i := by
  funext k; simp [sM, h]
theorem eN_congr {D : ClassId × ClassId × ClassId} {ad : Nat → Nat} {μ μ' : Mm} {k : Nat} (h : μ' k = μ k) : eN D ad μ' k = eN D ad μ k := by
  unfold eN fV
  rw [h]
theorem oM_s {μ : Mm} (h : oM μ) {a j : Nat} {v : Int} (hv : rI v) : oM (sM μ a j v) := by
  intro i k
  unfold sM
  by_cases c : i = a ∧ k = j
  · rw [if_pos c]; exact hv
  · rw [if_neg c]; exact h i k
/-- the cells are apart -/
def aP (ad : Nat → Nat) : Prop := ∀ i j, i < nC → j < nC → ad i = ad j → i = j
def aA (ad : Nat → Nat) (sz : Nat) : Nat → Prop := fun q => (∃ k, k < nC ∧ ad k = q) ∨ sz ≤ q
theorem vD_of {D : ClassId × ClassId × ClassId} {ad : Nat → Nat} {μ : Mm} {A : Nat → Prop} (h : aP ad) (hA : ∀ k, k < nC → A (ad k)) : va_D A (wO D ad μ) := by
  refine ⟨fun i j p q hi hj hpq => ?_, fun k q hk => ?_⟩
  · obtain ⟨h1, rfl⟩ := wO_get hi
    obtain ⟨h2, rfl⟩ := wO_get hj
    exact h i j h1 h2 hpq
  · obtain ⟨h1, rfl⟩ := wO_get hk
    exact hA k h1
theorem aA_eq {D : ClassId × ClassId × ClassId} {ad : Nat → Nat} {μ : Mm} {sz : Nat} {q : Nat} : va_A (wO D ad μ) sz q ↔ aA ad sz q := by
  constructor
  · rintro (⟨k, e, h⟩ | h)
    · obtain ⟨h1, h2⟩ := wO_get h
      exact Or.inl ⟨k, h1, by cases h2; rfl⟩
    · exact Or.inr h
  · rintro (⟨k, h1, h2⟩ | h)
    · exact Or.inl ⟨k, eN D ad μ k, by rw [wO_at D ad μ h1, h2]⟩
    · exact Or.inr h
theorem aA_k {ad : Nat → Nat} {sz k : Nat} (h : k < nC) : aA ad sz (ad k) := Or.inl ⟨k, h, rfl⟩
