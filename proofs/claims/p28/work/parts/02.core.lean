/-! THE PURE LEVEL: numbers are Int, a memory is a function, a method is a function to Option -/
abbrev AV : Type := Int ⊕ (Int ⊕ Option Nat)
abbrev vI (a : Int) : AV := .inl a
abbrev vL (a : Int) : AV := .inr (.inl a)
abbrev vR (t : Nat) : AV := .inr (.inr (some t))
abbrev vN : AV := .inr (.inr none)
/-- a reference that may be null: -1, or the cell's number -/
def vC (c : Int) : AV := if c = -1 then vN else vR c.toNat
abbrev Mm : Type := Nat → Nat → Int
abbrev Rs : Type := Option (Int × Mm)
def wI (x : Int) : Int := x.bmod 4294967296
def wL (x : Int) : Int := x.bmod 18446744073709551616
def iA (a b : Int) : Int := wI (a + b)
def iS (a b : Int) : Int := wI (a - b)
def iM (a b : Int) : Int := wI (a * b)
def iD (a b : Int) : Int := wI (a.tdiv b)
def iR (a b : Int) : Int := wI (a - iD a b * b)
def bA (a b : Int) : Int := (Int32.ofInt a &&& Int32.ofInt b).toInt
def bO (a b : Int) : Int := (Int32.ofInt a ||| Int32.ofInt b).toInt
def bX (a b : Int) : Int := (Int32.ofInt a ^^^ Int32.ofInt b).toInt
def bL (a b : Int) : Int := (Int32.ofInt a <<< (Int32.ofInt b &&& 31)).toInt
def bR (a b : Int) : Int := (Int32.ofInt a >>> (Int32.ofInt b &&& 31)).toInt
def bU (a b : Int) : Int := ((Int32.ofInt a).toUInt32 >>> ((Int32.ofInt b).toUInt32 &&& Int32.toUInt32 31)).toInt32.toInt
def lA (a b : Int) : Int := wL (a + b)
def lS (a b : Int) : Int := wL (a - b)
def lM (a b : Int) : Int := wL (a * b)
def lD (a b : Int) : Int := wL (a.tdiv b)
def lC (a b : Int) : Int := if b < a then 1 else if a = b then 0 else -1
def mX (a b : Int) : Int := if b < a then a else b
def mN (a b : Int) : Int := if b < a then b else a
def rI (a : Int) : Prop := -2147483648 ≤ a ∧ a ≤ 2147483647
def rL (a : Int) : Prop := -9223372036854775808 ≤ a ∧ a ≤ 9223372036854775807
def cV (ad : Nat → Nat) : AV → Value
  | .inl a => .int (Int32.ofInt a)
  | .inr (.inl a) => .long (Int64.ofInt a)
  | .inr (.inr (some t)) => .ref (ad t)
  | .inr (.inr none) => .null
def oV : AV → Prop
  | .inl a => rI a
  | .inr (.inl a) => rL a
  | .inr (.inr _) => True
def oM (μ : Mm) : Prop := ∀ i j, rI (μ i j)
def sM (μ : Mm) (a j : Nat) (v : Int) : Mm := fun i k => if i = a ∧ k = j then v else μ i k
/-- the cells of both systems: (0, n) n ints; (1, n) n plays; (2, n) n texts; (10 + class, fields) an object -/
def kL : List (Nat × Nat) := [(20, 18), (17, 2), (0, 160), (14, 3), (12, 6), (10, 9), (0, 60), (0, 8), (0, 8), (10, 9), (0, 60), (0, 8), (0, 8), (10, 9), (0, 60), (0, 8), (0, 8), (1, 5), (13, 3), (0, 8), (0, 8), (13, 3), (0, 8), (0, 8), (13, 3), (0, 8), (0, 8), (13, 3), (0, 8), (0, 8), (13, 3), (0, 8), (0, 8), (13, 3), (0, 8), (0, 8), (2, 4), (17, 2), (0, 160), (17, 2), (0, 160), (17, 2), (0, 160), (17, 2), (0, 160), (19, 3), (0, 60), (0, 60), (11, 7), (0, 8), (0, 8), (0, 8), (0, 72), (11, 7), (0, 8), (0, 8), (0, 8), (0, 72), (15, 10), (0, 8), (0, 8), (0, 8), (16, 9), (0, 2048), (0, 2048), (0, 256), (0, 256), (18, 7), (0, 10), (0, 10), (21, 54), (0, 160), (0, 1700), (0, 1700), (0, 5), (0, 5), (0, 450), (0, 450), (0, 450), (0, 5), (0, 80), (0, 60), (0, 60), (0, 48), (0, 48), (0, 6), (0, 8), (0, 60), (0, 8), (0, 72), (0, 8), (0, 8), (0, 8), (0, 10), (0, 10), (0, 256), (0, 60), (0, 8)]
def nC : Nat := 98
def kD (k : Nat) : Nat × Nat := kL.getD k (99, 0)
def aN (k : Nat) : Nat := (kD k).2
/-- what a field is: (0, _) a number; (1, o) the cell o behind its object; (2, t) the cell t; (3, _) a cell's number -/
def rF (ci j : Nat) : Nat × Nat := (([[(1, 1), (1, 2), (1, 3), (0, 0), (0, 0), (0, 0), (0, 0), (0, 0), (0, 0)], [(2, 45), (1, 1), (1, 2), (1, 3), (1, 4), (0, 0), (0, 0)], [(2, 3), (0, 0), (0, 0), (0, 0), (0, 0), (0, 0)], [(1, 1), (1, 2), (0, 0)], [(3, 0), (0, 0), (0, 0)], [(1, 1), (1, 2), (1, 3), (0, 0), (0, 0), (0, 0), (0, 0), (0, 0), (0, 0), (0, 0)], [(1, 1), (1, 2), (1, 3), (1, 4), (3, 0), (0, 0), (0, 0), (0, 0), (0, 0)], [(1, 1), (0, 0)], [(1, 1), (1, 2), (0, 0), (3, 0), (0, 0), (0, 0), (0, 0)], [(1, 1), (1, 2), (0, 0)], [(1, 1), (1, 3), (1, 4), (1, 5), (1, 9), (1, 13), (1, 17), (1, 33), (1, 36), (1, 45), (1, 48), (1, 53), (1, 58), (1, 62), (1, 67), (0, 0), (0, 0), (0, 0)], [(0, 0), (1, 1), (0, 0), (0, 0), (0, 0), (0, 0), (1, 2), (1, 3), (1, 4), (1, 5), (1, 6), (1, 7), (1, 8), (0, 0), (0, 0), (1, 9), (1, 10), (1, 11), (0, 0), (0, 0), (0, 0), (0, 0), (1, 12), (0, 0), (0, 0), (1, 13), (1, 14), (1, 15), (0, 0), (1, 16), (0, 0), (0, 0), (0, 0), (1, 17), (1, 18), (1, 19), (1, 20), (0, 0), (0, 0), (1, 21), (1, 22), (0, 0), (0, 0), (1, 23), (1, 24), (0, 0), (0, 0), (0, 0), (1, 25), (1, 26), (1, 27), (0, 0), (0, 0), (0, 0)]] : List (List (Nat × Nat))).getD ci []).getD j (0, 0)
/-- the cells that an array of references holds -/
def aE (a j : Nat) : Nat := if a = 17 then 18 + 3 * j else 37 + 2 * j
def fV (μ : Mm) (k j : Nat) : AV := match rF ((kD k).1 - 10) j with
  | (0, _) => vI (μ k j)
  | (1, o) => vR (k + o)
  | (2, t) => vR t
  | _ => vR (μ k j).toNat
def eN (D : ClassId × ClassId × ClassId) (ad : Nat → Nat) (μ : Mm) (k : Nat) : va_E := match kD k with
  | (0, n) => .inl (D.1, n, .inl (fun j => Int32.ofInt (μ k j)))
  | (1, n) => .inl (D.2.1, n, .inr (.inr (.inr (.inr (fun j => some (ad (aE k j)))))))
  | (2, n) => .inl (D.2.2, n, .inr (.inr (.inr (.inr (fun j => some (ad (aE k j)))))))
  | (c, n) => .inr (c - 10, (List.range n).map (fun j => cV ad (fV μ k j)))
def wO (D : ClassId × ClassId × ClassId) (ad : Nat → Nat) (μ : Mm) : va_W := (List.range nC).map (fun k => (ad k, eN D ad μ k))
abbrev tyS (D : ClassId × ClassId × ClassId) : List (ClassId × FieldType) := [(D.1, .int), (D.2.1, .object RX3), (D.2.2, .object RX7)]
/-! combinators of the pure functions -/
def bd (x : Rs) (f : Int → Mm → Rs) : Rs := match x with
  | none => none
  | some q => f q.1 q.2
def lt_ (x : Int) (f : Int → Rs) : Rs := f x
def sF (μ : Mm) (a j : Nat) (v : Int) (f : Mm → Rs) : Rs := f (sM μ a j v)
def sZ (μ : Mm) (a j : Nat) (v : Int) (f : Mm → Rs) : Rs := if v = 0 ∨ v = 1 then f (sM μ a j v) else none
def ldA (μ : Mm) (a : Nat) (i : Int) (f : Int → Rs) : Rs := if 0 ≤ i ∧ i < aN a then f (μ a i.toNat) else none
def stA (μ : Mm) (a : Nat) (i v : Int) (f : Mm → Rs) : Rs := if 0 ≤ i ∧ i < aN a then f (sM μ a i.toNat v) else none
def aL (a : Nat) (i : Int) (f : Nat → Rs) : Rs := if 0 ≤ i ∧ i < aN a then f (aE a i.toNat) else none
def mR (μ : Mm) (a j : Nat) (k : Nat × Nat) (f : Nat → Rs) : Rs := if kD (μ a j).toNat = k then f (μ a j).toNat else none
def dZ (b : Int) (f : Rs) : Rs := if b = 0 then none else f
def nN (c : Int) (f : Nat → Rs) : Rs := if 0 ≤ c then f c.toNat else none
def kC (c : Int) (k : Nat × Nat) (f : Nat → Rs) : Rs := if kD c.toNat = k then f c.toNat else none
def rZ (v : Int) (μ : Mm) : Rs := if v = 0 ∨ v = 1 then some (v, μ) else none
/-- System.arraycopy of n numbers from a at 0 to b at 0 -/
def cA_ (μ : Mm) (a b : Nat) (n : Int) : Mm := fun i k => if i = b ∧ (k : Int) < n then μ a k else μ i k
def cpA (μ : Mm) (a b : Nat) (n : Int) (f : Mm → Rs) : Rs := if 0 ≤ n ∧ n ≤ aN a ∧ n ≤ aN b then f (cA_ μ a b n) else none
def FU : Nat := 1000000
def RD : Nat := 12
theorem bd_i {x : Rs} {f : Int → Mm → Rs} {q : Int × Mm} (h : bd x f = some q) : ∃ r μ, x = some (r, μ) ∧ f r μ = some q := by
  cases x with
  | none => cases h
  | some y => exact ⟨y.1, y.2, rfl, h⟩
theorem ldA_i {μ : Mm} {a : Nat} {i : Int} {f : Int → Rs} {q : Int × Mm} (h : ldA μ a i f = some q) : (0 ≤ i ∧ i < aN a) ∧ f (μ a i.toNat) = some q := by
  unfold ldA at h
  by_cases c : 0 ≤ i ∧ i < aN a
  · rw [if_pos c] at h; exact ⟨c, h⟩
  · rw [if_neg c] at h; cases h
theorem stA_i {μ : Mm} {a : Nat} {i v : Int} {f : Mm → Rs} {q : Int × Mm} (h : stA μ a i v f = some q) : (0 ≤ i ∧ i < aN a) ∧ f (sM μ a i.toNat v) = some q := by
  unfold stA at h
  by_cases c : 0 ≤ i ∧ i < aN a
  · rw [if_pos c] at h; exact ⟨c, h⟩
  · rw [if_neg c] at h; cases h
theorem aL_i {a : Nat} {i : Int} {f : Nat → Rs} {q : Int × Mm} (h : aL a i f = some q) : (0 ≤ i ∧ i < aN a) ∧ f (aE a i.toNat) = some q := by
  unfold aL at h
  by_cases c : 0 ≤ i ∧ i < aN a
  · rw [if_pos c] at h; exact ⟨c, h⟩
  · rw [if_neg c] at h; cases h
theorem mR_i {μ : Mm} {a j : Nat} {k : Nat × Nat} {f : Nat → Rs} {q : Int × Mm} (h : mR μ a j k f = some q) : kD (μ a j).toNat = k ∧ f (μ a j).toNat = some q := by
  unfold mR at h
  by_cases c : kD (μ a j).toNat = k
  · rw [if_pos c] at h; exact ⟨c, h⟩
  · rw [if_neg c] at h; cases h
theorem dZ_i {b : Int} {f : Rs} {q : Int × Mm} (h : dZ b f = some q) : b ≠ 0 ∧ f = some q := by
  unfold dZ at h
  by_cases c : b = 0
  · rw [if_pos c] at h; cases h
  · rw [if_neg c] at h; exact ⟨c, h⟩
theorem nN_i {c : Int} {f : Nat → Rs} {q : Int × Mm} (h : nN c f = some q) : 0 ≤ c ∧ f c.toNat = some q := by
  unfold nN at h
  by_cases e : 0 ≤ c
  · rw [if_pos e] at h; exact ⟨e, h⟩
  · rw [if_neg e] at h; cases h
theorem sZ_i {μ : Mm} {a j : Nat} {v : Int} {f : Mm → Rs} {q : Int × Mm} (h : sZ μ a j v f = some q) : (v = 0 ∨ v = 1) ∧ f (sM μ a j v) = some q := by
  unfold sZ at h
  by_cases c : v = 0 ∨ v = 1
  · rw [if_pos c] at h; exact ⟨c, h⟩
  · rw [if_neg c] at h; cases h
theorem rZ_i {v : Int} {μ : Mm} {q : Int × Mm} (h : rZ v μ = some q) : (v = 0 ∨ v = 1) ∧ some (v, μ) = some q := by
  unfold rZ at h
  by_cases c : v = 0 ∨ v = 1
  · rw [if_pos c] at h; exact ⟨c, h⟩
  · rw [if_neg c] at h; cases h
theorem lt_i {x : Int} {f : Int → Rs} {q : Int × Mm} (h : lt_ x f = some q) : f x = some q := h
theorem sF_i {μ : Mm} {a j : Nat} {v : Int} {f : Mm → Rs} {q : Int × Mm} (h : sF μ a j v f = some q) : f (sM μ a j v) = some q := h
theorem kC_i {c : Int} {k : Nat × Nat} {f : Nat → Rs} {q : Int × Mm} (h : kC c k f = some q) : kD c.toNat = k ∧ f c.toNat = some q := by
  unfold kC at h
  by_cases e : kD c.toNat = k
  · rw [if_pos e] at h; exact ⟨e, h⟩
  · rw [if_neg e] at h; cases h
theorem cpA_i {μ : Mm} {a b : Nat} {n : Int} {f : Mm → Rs} {q : Int × Mm} (h : cpA μ a b n f = some q) : (0 ≤ n ∧ n ≤ aN a ∧ n ≤ aN b) ∧ f (cA_ μ a b n) = some q := by
  unfold cpA at h
  by_cases c : 0 ≤ n ∧ n ≤ aN a ∧ n ≤ aN b
  · rw [if_pos c] at h; exact ⟨c, h⟩
  · rw [if_neg c] at h; cases h
theorem ifT {c : Prop} {_ : Decidable c} {α : Type} {x y z : α} (hc : c) (h : (if c then x else y) = z) : x = z := by rwa [if_pos hc] at h
theorem ifF {c : Prop} {_ : Decidable c} {α : Type} {x y z : α} (hc : ¬ c) (h : (if c then x else y) = z) : y = z := by rwa [if_neg hc] at h
/-! numbers of the machine against Int -/
theorem rI_32 {a : Int} (h : rI a) : (Int32.ofInt a).toInt = a := Int32.toInt_ofInt_of_le (by unfold rI at h; omega) (by unfold rI at h; omega)
theorem rL_64 {a : Int} (h : rL a) : (Int64.ofInt a).toInt = a := Int64.toInt_ofInt_of_le (by unfold rL at h; omega) (by unfold rL at h; omega)
theorem rI_of (x : Int32) : rI x.toInt := by
  have h1 := x.le_toInt
  have h2 := x.toInt_lt
  unfold rI; omega
theorem rL_of (x : Int64) : rL x.toInt := by
  have h1 := x.le_toInt
  have h2 := x.toInt_lt
  unfold rL; omega
theorem rI_wI (x : Int) : rI (wI x) := by
  have h1 := Int.le_bmod (x := x) (m := 4294967296) (by decide)
  have h2 := Int.bmod_lt (x := x) (m := 4294967296) (by decide)
  unfold rI wI; omega
theorem rL_wL (x : Int) : rL (wL x) := by
  have h1 := Int.le_bmod (x := x) (m := 18446744073709551616) (by decide)
  have h2 := Int.bmod_lt (x := x) (m := 18446744073709551616) (by decide)
  unfold rL wL; omega
theorem wI_id {x : Int} (h1 : -2147483648 ≤ x) (h2 : x ≤ 2147483647) : wI x = x := Int.bmod_eq_of_le (by omega) (by omega)
theorem wL_id {x : Int} (h : rL x) : wL x = x := Int.bmod_eq_of_le (by unfold rL at h; omega) (by unfold rL at h; omega)
theorem o32 (x : Int) : Int32.ofInt (wI x) = Int32.ofInt x := Int32.toInt.inj (by rw [Int32.toInt_ofInt, Int32.toInt_ofInt]; exact Int.bmod_bmod)
theorem o64 (x : Int) : Int64.ofInt (wL x) = Int64.ofInt x := Int64.toInt.inj (by rw [Int64.toInt_ofInt, Int64.toInt_ofInt]; exact Int.bmod_bmod)
theorem o32_add (a b : Int) : Int32.ofInt a + Int32.ofInt b = Int32.ofInt (iA a b) := by rw [iA, o32, Int32.ofInt_add]
theorem o32_sub (a b : Int) : Int32.ofInt a - Int32.ofInt b = Int32.ofInt (iS a b) := by rw [iS, o32, Int32.ofInt_sub]
theorem o32_mul (a b : Int) : Int32.ofInt a * Int32.ofInt b = Int32.ofInt (iM a b) := by rw [iM, o32, Int32.ofInt_mul]
theorem o32_div {a b : Int} (ha : rI a) (hb : rI b) : Int32.ofInt a / Int32.ofInt b = Int32.ofInt (iD a b) := by
  apply Int32.toInt.inj
  rw [iD, o32, Int32.toInt_div, rI_32 ha, rI_32 hb, Int32.toInt_ofInt]
theorem o32_rem {a b : Int} (ha : rI a) (hb : rI b) : Int32.ofInt a - Int32.ofInt a / Int32.ofInt b * Int32.ofInt b = Int32.ofInt (iR a b) := by
  rw [o32_div ha hb, iR, o32, Int32.ofInt_sub, Int32.ofInt_mul]
theorem o64_add (a b : Int) : Int64.ofInt a + Int64.ofInt b = Int64.ofInt (lA a b) := by rw [lA, o64, Int64.ofInt_add]
theorem o64_sub (a b : Int) : Int64.ofInt a - Int64.ofInt b = Int64.ofInt (lS a b) := by rw [lS, o64, Int64.ofInt_sub]
theorem o64_mul (a b : Int) : Int64.ofInt a * Int64.ofInt b = Int64.ofInt (lM a b) := by rw [lM, o64, Int64.ofInt_mul]
theorem o64_div {a b : Int} (ha : rL a) (hb : rL b) : Int64.ofInt a / Int64.ofInt b = Int64.ofInt (lD a b) := by
  apply Int64.toInt.inj
  rw [lD, o64, Int64.toInt_div, rL_64 ha, rL_64 hb, Int64.toInt_ofInt]
theorem o32_self (x : Int32) : Int32.ofInt x.toInt = x := Int32.ofInt_toInt x
theorem o32_lt {a b : Int} (ha : rI a) (hb : rI b) : Int32.ofInt a < Int32.ofInt b ↔ a < b := by rw [Int32.lt_iff_toInt_lt, rI_32 ha, rI_32 hb]
theorem o32_le {a b : Int} (ha : rI a) (hb : rI b) : Int32.ofInt a ≤ Int32.ofInt b ↔ a ≤ b := by rw [Int32.le_iff_toInt_le, rI_32 ha, rI_32 hb]
theorem o32_eq {a b : Int} (ha : rI a) (hb : rI b) : Int32.ofInt a = Int32.ofInt b ↔ a = b := by rw [← Int32.toInt_inj, rI_32 ha, rI_32 hb]
theorem o64_lt {a b : Int} (ha : rL a) (hb : rL b) : Int64.ofInt a < Int64.ofInt b ↔ a < b := by rw [Int64.lt_iff_toInt_lt, rL_64 ha, rL_64 hb]
theorem o64_eq {a b : Int} (ha : rL a) (hb : rL b) : Int64.ofInt a = Int64.ofInt b ↔ a = b := by rw [← Int64.toInt_inj, rL_64 ha, rL_64 hb]
theorem rI_0 : rI 0 := by unfold rI; omega
theorem o32_0 : (0 : Int32) = Int32.ofInt 0 := rfl
theorem o32_lcmp {a b : Int} (ha : rL a) (hb : rL b) : lg_cmp (Int64.ofInt a) (Int64.ofInt b) = Int32.ofInt (lC a b) := by
  unfold lg_cmp lC
  by_cases h1 : b < a
  · rw [if_pos h1, if_pos ((o64_lt hb ha).mpr h1)]; rfl
  · rw [if_neg h1, if_neg (fun h => h1 ((o64_lt hb ha).mp h))]
    by_cases h2 : a = b
    · rw [if_pos h2, if_pos ((o64_eq ha hb).mpr h2)]; rfl
    · rw [if_neg h2, if_neg (fun h => h2 ((o64_eq ha hb).mp h))]; rfl
theorem o32_i2l {a : Int} (ha : rI a) : (Int32.ofInt a).toInt64 = Int64.ofInt a := by
  apply Int64.toInt.inj
  rw [Int32.toInt_toInt64, rI_32 ha, rL_64 (by unfold rI at ha; unfold rL; omega)]
theorem o64_l2i (a : Int) : (Int64.ofInt a).toInt32 = Int32.ofInt (wI a) := by rw [o32, Int64.toInt32_ofInt]
theorem rI_rL {a : Int} (ha : rI a) : rL a := by unfold rI at ha; unfold rL; omega
/-- an index -/
theorem o32_nat {i : Int} (h : rI i) (h0 : 0 ≤ i) : (Int32.ofInt i).toNatClampNeg = i.toNat := by
  show (Int32.ofInt i).toInt.toNat = i.toNat
  rw [rI_32 h]
theorem o32_in {i : Int} {n : Nat} (h : rI i) (h0 : 0 ≤ i ∧ i < n) : vp_in (Int32.ofInt i) n := by
  rw [vp_in_iff, rI_32 h]; exact h0
/-! the layout -/
theorem kD_lt {k : Nat} (h : (kD k).1 ≠ 99) : k < nC := by
  apply Classical.byContradiction
  intro q
  apply h
  unfold kD
  rw [List.getD_eq_getElem?_getD, List.getElem?_eq_none (by show kL.length ≤ k; exact Nat.not_lt.mp q)]
  rfl
theorem kD_e {k c n : Nat} (h : kD k = (c, n)) (hc : c ≠ 99) : k < nC := kD_lt (by rw [h]; exact hc)
theorem wO_len (D : ClassId × ClassId × ClassId) (ad : Nat → Nat) (μ : Mm) : (wO D ad μ).length = nC := by simp [wO]
theorem wO_at (D : ClassId × ClassId × ClassId) (ad : Nat → Nat) (μ : Mm) {k : Nat} (h : k < nC) : (wO D ad μ)[k]? = some (ad k, eN D ad μ k) := by
  simp [wO, h]
theorem wO_get {D : ClassId × ClassId × ClassId} {ad : Nat → Nat} {μ : Mm} {k : Nat} {q : Nat × va_E} (h : (wO D ad μ)[k]? = some q) : k < nC ∧ q = (ad k, eN D ad μ k) := by
  have hl := (List.getElem?_eq_some_iff.mp h).1
  rw [wO_len] at hl
  rw [wO_at D ad μ hl] at h
  exact ⟨hl, (Option.some.inj h).symm⟩
theorem wO_set {D : ClassId × ClassId × ClassId} {ad : Nat → Nat} {μ μ' : Mm} {k : Nat} {e : va_E} (hk : k < nC) (he : eN D ad μ' k = e) (ho : ∀ j, j ≠ k → eN D ad μ' j = eN D ad μ j) : (wO D ad μ).set k (ad k, e) = wO D ad μ' := by
  apply List.ext_getElem?
  intro i
  by_cases hi : i < nC
  · rw [wO_at D ad μ' hi]
    by_cases hik : i = k
    · subst hik
      rw [List.getElem?_set_self (by rw [wO_len]; exact hi), he]
    · rw [List.getElem?_set_ne (Ne.symm hik), wO_at D ad μ hi, ho i hik]
  · rw [List.getElem?_eq_none (by rw [List.length_set, wO_len]; omega), List.getElem?_eq_none (by rw [wO_len]; omega)]
theorem sM_ne {μ : Mm} {a j : Nat} {v : Int} {i : Nat} (h : i ≠ a) : sM μ a j v i = μ i := by
  funext k; simp [sM, h]
theorem eN_congr {D : ClassId × ClassId × ClassId} {ad : Nat → Nat} {μ μ' : Mm} {k : Nat} (h : μ' k = μ k) : eN D ad μ' k = eN D ad μ k := by
  unfold eN fV
  rw [h]
theorem oM_s {μ : Mm} (h : oM μ) {a j : Nat} {v : Int} (hv : rI v) : oM (sM μ a j v) := by
  intro i k
  unfold sM
  by_cases c : i = a ∧ k = j
  · rw [if_pos c]; exact hv
  · rw [if_neg c]; exact h i k
/-- the cells are apart -/
def aP (ad : Nat → Nat) : Prop := ∀ i j, i < nC → j < nC → ad i = ad j → i = j
def aA (ad : Nat → Nat) (sz : Nat) : Nat → Prop := fun q => (∃ k, k < nC ∧ ad k = q) ∨ sz ≤ q
theorem vD_of {D : ClassId × ClassId × ClassId} {ad : Nat → Nat} {μ : Mm} {A : Nat → Prop} (h : aP ad) (hA : ∀ k, k < nC → A (ad k)) : va_D A (wO D ad μ) := by
  refine ⟨fun i j p q hi hj hpq => ?_, fun k q hk => ?_⟩
  · obtain ⟨h1, rfl⟩ := wO_get hi
    obtain ⟨h2, rfl⟩ := wO_get hj
    exact h i j h1 h2 hpq
  · obtain ⟨h1, rfl⟩ := wO_get hk
    exact hA k h1
theorem aA_eq {D : ClassId × ClassId × ClassId} {ad : Nat → Nat} {μ : Mm} {sz : Nat} {q : Nat} : va_A (wO D ad μ) sz q ↔ aA ad sz q := by
  constructor
  · rintro (⟨k, e, h⟩ | h)
    · obtain ⟨h1, h2⟩ := wO_get h
      exact Or.inl ⟨k, h1, by cases h2; rfl⟩
    · exact Or.inr h
  · rintro (⟨k, h1, h2⟩ | h)
    · exact Or.inl ⟨k, eN D ad μ k, by rw [wO_at D ad μ h1, h2]⟩
    · exact Or.inr h
theorem aA_k {ad : Nat → Nat} {sz k : Nat} (h : k < nC) : aA ad sz (ad k) := Or.inl ⟨k, h, rfl⟩
/-! THE JUDGEMENT: a method's frame over the two systems' cells, in the words of the pure level -/
abbrev Mth : Type := MethodName × ByteArray × Nat × Option FieldType
theorem tb1 {w : Cond} (h : w ∈ tables_1_1) : w ∈ lw_tbl := List.mem_append_right (k2_sels lw_privs) (tc1 h)
theorem tb2 {w : Cond} (h : w ∈ tables_1_2) : w ∈ lw_tbl := List.mem_append_right (k2_sels lw_privs) (tc2 h)
theorem tb3 {w : Cond} (h : w ∈ tables_1_3) : w ∈ lw_tbl := List.mem_append_right (k2_sels lw_privs) (tc3 h)
theorem tb4 {w : Cond} (h : w ∈ tables_1_4) : w ∈ lw_tbl := List.mem_append_right (k2_sels lw_privs) (tc4 h)
theorem tb5 {w : Cond} (h : w ∈ tables_1_5) : w ∈ lw_tbl := List.mem_append_right (k2_sels lw_privs) (tc5 h)
theorem tb6 {w : Cond} (h : w ∈ tables_1_6) : w ∈ lw_tbl := List.mem_append_right (k2_sels lw_privs) (tc6 h)
theorem tb7 {w : Cond} (h : w ∈ tables_1_7) : w ∈ lw_tbl := List.mem_append_right (k2_sels lw_privs) (tc7 h)
def tG : List Cond := lw_tbl.filter goodWord
theorem tG_of {w : Cond} (h : w ∈ lw_tbl) (h2 : goodWord w = true) : w ∈ tG := List.mem_filter.mpr ⟨h, h2⟩
def isN : Cond → Bool
  | .fieldLinkNest _ _ _ _ _ _ => true
  | .methodLinkNest _ _ _ _ => true
  | _ => false
def nS (s : State) : Prop := ∀ w ∈ lw_tbl, isN w = true → va_Nw w s
def wM (M : Mth) : List Cond := .code M.1 M.2.1 M.2.2.1 M.2.2.2 :: tG
theorem nS_warm {s U : State} (hW : s.WarmedH U.vm) (h : nS s) : nS U := by
  intro w hw hn
  have h1 := h w hw hn
  cases w <;> first | (cases hn; done) | exact va_Nw.warmF hW h1 | exact va_Nw.warmM hW h1
theorem nS_same {s U : State} (hv : s.vm = U.vm) (h : nS s) : nS U := by
  intro w hw hn
  have h1 := h w hw hn
  cases w <;> first | (cases hn; done) | exact va_Nw.same rfl hv h1
def rmD (d : Nat) : Room := { frames := d, cells := 0, slots := 0, locals := 100 * d }
def rV (ad : Nat → Nat) (rt : Option FieldType) (r : Int) : Option Value := match rt with
  | none => none
  | some .long => some (.long (Int64.ofInt r))
  | some (.object _) => some (cV ad (vC r))
  | some _ => some (.int (Int32.ofInt r))
def rK (rt : Option FieldType) (r : Int) : Prop := match rt with
  | none => True
  | some .long => rL r
  | some (.object _) => True
  | some _ => rI r
/-- the heap holds the memory μ -/
def hO (dC : Nat → ClassId) (dI : Nat → Nat → Nat) (D : ClassId × ClassId × ClassId) (ad : Nat → Nat) (μ : Mm) (H : Heap) : Prop := va_P (dC, dI) vwCl (wO D ad μ) H ∧ oM μ
def qC (dC : Nat → ClassId) (dI : Nat → Nat → Nat) (D : ClassId × ClassId × ClassId) (ad : Nat → Nat) (A : Nat → Prop) (rt : Option FieldType) (r : Int) (μ' : Mm) : Array Value → State → Outcome → State → Prop :=
  fun _ st oc t => (oc = .returned (rV ad rt r) ∧ rK rt r ∧ hO dC dI D ad μ' t.heap) ∧ va_F A st t
def pC (dC : Nat → ClassId) (dI : Nat → Nat → Nat) (D : ClassId × ClassId × ClassId) (ad : Nat → Nat) (sz : Nat) (av : List AV) (μ : Mm) : Array Value → State → Prop :=
  va_Pc (av.map (cV ad)) (fun U => U.heap.size = sz ∧ hO dC dI D ad μ U.heap ∧ va_K (dC, dI) vwCl (tyS D) U ∧ nS U ∧ (∀ v ∈ av, oV v))
/-- A CALL: the method M, given the values av and the memory μ, returns r and leaves μ' -/
def CC (d : Nat) (M : Mth) (av : List AV) (μ : Mm) (r : Int) (μ' : Mm) : Prop :=
  ∀ (l : Launch) (dC : Nat → ClassId) (dI : Nat → Nat → Nat) (D : ClassId × ClassId × ClassId) (ad : Nat → Nat) (sz : Nat), aP ad →
    Met l M.1 (wM M) (rmD d) (pC dC dI D ad sz av μ) (qC dC dI D ad (aA ad sz) M.2.2.2 r μ') 0 0 (aA ad sz)
/-- the locals that are known -/
def lR (ad : Nat → Nat) (ls : List (Option AV)) (ls' : Array Slot) : Prop := ls'.size = ls.length ∧ lv_wf ls' ∧ ∀ (i : Nat) (v : AV), ls[i]? = some (some v) → ls'[i]? = some (.val (cV ad v)) ∧ oV v
def Cx (M : Mth) (p : Program) (s : State) (m : MethodId) (args : Array Value) (meth : Method) (c : Code) (dC : Nat → ClassId) (dI : Nat → Nat → Nat) (D : ClassId × ClassId × ClassId) (ad : Nat → Nat) : Prop :=
  p.tables.exec = Jvm.exec ∧ c.code = M.2.1 ∧ c.maxLocals = M.2.2.1 ∧ meth.sig.returnType = M.2.2.2 ∧ s.vm.findClass M.1.cls = some m.cls ∧ (∀ w ∈ tG, w.before args s = true) ∧ meth.locks = false ∧ va_K (dC, dI) vwCl (tyS D) s ∧ aP ad ∧ nS s
def VV (d : Nat) (M : Mth) (pc : Nat) (ls : List (Option AV)) (st : List AV) (μ : Mm) (r : Int) (μ' : Mm) : Prop :=
  ∀ (p : Program) (l : Launch) (e : Env) (s : State) (m : MethodId) (args : Array Value) (below : List Frame) (meth : Method) (c : Code) (H : Heap) (locs : List Loc) (dC : Nat → ClassId) (dI : Nat → Nat → Nat) (D : ClassId × ClassId × ClassId) (ad : Nat → Nat) (ls' : Array Slot),
    Cx M p s m args meth c dC dI D ad → hO dC dI D ad μ H → va_S (aA ad s.heap.size) s.heap H locs → ls.length = M.2.2.1 → lR ad ls ls' → (∀ v ∈ st, oV v) →
      W p l e (rmD d) s m args below meth c H locs 0 0 (MQ below (qC dC dI D ad (aA ad s.heap.size) M.2.2.2 r μ') args s 0 0 (aA ad s.heap.size)) (F0 m pc ls' (st.map (cV ad)))
section VR
variable {d : Nat} {M : Mth} {pc q : Nat} {ls : List (Option AV)} {st : List AV} {μ : Mm} {r : Int} {μ' : Mm}
/-- one row of the kit that changes the stack alone -/
theorem VV_pure {st2 : List AV} (hok : (∀ v ∈ st, oV v) → ∀ v ∈ st2, oV v)
    (k0 : ∀ (p : Program) (l : Launch) (e : Env) (R : Room) (s : State) (m : MethodId) (args : Array Value) (below : List Frame) (meth : Method) (c : Code) (H : Heap) (locs : List Loc) (Q : State → Prop) (ad : Nat → Nat) (ls' : Array Slot), p.tables.exec = Jvm.exec → c.code = M.2.1 → (∀ v ∈ st, oV v) →
      W p l e R s m args below meth c H locs 0 0 Q (F0 m q ls' (st2.map (cV ad))) → W p l e R s m args below meth c H locs 0 0 Q (F0 m pc ls' (st.map (cV ad))))
    (k : VV d M q ls st2 μ r μ') : VV d M pc ls st μ r μ' := by
  intro p l e s m args below meth c H locs dC dI D ad ls' C hH hS hn hl hs
  exact k0 _ _ _ _ _ _ _ _ _ _ _ _ _ _ _ C.1 C.2.1 hs (k p l e s m args below meth c H locs dC dI D ad ls' C hH hS hn hl (hok hs))
theorem ok_c {v : AV} {l : List AV} (h1 : oV v) (h2 : ∀ w ∈ l, oV w) : ∀ w ∈ v :: l, oV w := fun w hw => (List.mem_cons.mp hw).elim (fun e => e ▸ h1) (h2 w)
theorem ok_h {v : AV} {l : List AV} (h : ∀ w ∈ v :: l, oV w) : oV v := h v List.mem_cons_self
theorem ok_t {v : AV} {l : List AV} (h : ∀ w ∈ v :: l, oV w) : ∀ w ∈ l, oV w := fun w hw => h w (List.mem_cons_of_mem _ hw)
theorem V_iconst {n : Int} (hd : decode M.2.1 pc = .ok (.iconst n, 1)) (hr : (decide (-2147483648 ≤ n) && decide (n ≤ 2147483647)) = true) (hq : pc + 1 = q) (k : VV d M q ls (vI n :: st) μ r μ') : VV d M pc ls st μ r μ' := by
  subst hq
  refine VV_pure (st2 := vI n :: st) (fun h => ok_c (by simpa [oV, rI] using hr) h) (fun p l e R s m args below meth c H locs Q ad ls' hx hb h kk => ?_) k
  exact lv_iconst hx hb hd rfl kk
theorem V_bipush {n : Int} (hd : decode M.2.1 pc = .ok (.bipush n, 2)) (hr : (decide (-2147483648 ≤ n) && decide (n ≤ 2147483647)) = true) (hv : (Int8.ofInt n).toInt32 = Int32.ofInt n) (hq : pc + 2 = q) (k : VV d M q ls (vI n :: st) μ r μ') : VV d M pc ls st μ r μ' := by
  subst hq
  refine VV_pure (st2 := vI n :: st) (fun h => ok_c (by simpa [oV, rI] using hr) h) (fun p l e R s m args below meth c H locs Q ad ls' hx hb h kk => ?_) k
  exact lv_bipush hx hb hd hv kk
theorem V_sipush {n : Int} (hd : decode M.2.1 pc = .ok (.sipush n, 3)) (hr : (decide (-2147483648 ≤ n) && decide (n ≤ 2147483647)) = true) (hv : (Int16.ofInt n).toInt32 = Int32.ofInt n) (hq : pc + 3 = q) (k : VV d M q ls (vI n :: st) μ r μ') : VV d M pc ls st μ r μ' := by
  subst hq
  refine VV_pure (st2 := vI n :: st) (fun h => ok_c (by simpa [oV, rI] using hr) h) (fun p l e R s m args below meth c H locs Q ad ls' hx hb h kk => ?_) k
  exact lv_sipush hx hb hd hv kk
theorem V_lconst {n : Fin 2} (hd : decode M.2.1 pc = .ok (.lconst n, 1)) (hq : pc + 1 = q) (k : VV d M q ls (vL ((n : Nat) : Int) :: st) μ r μ') : VV d M pc ls st μ r μ' := by
  subst hq
  refine VV_pure (st2 := vL ((n : Nat) : Int) :: st) (fun h => ok_c (by simp only [oV, rL]; have := n.isLt; omega) h) (fun p l e R s m args below meth c H locs Q ad ls' hx hb h kk => ?_) k
  exact lv_lconst hx hb hd (Int64.ofInt_eq_ofNat).symm kk
theorem V_2 {op : Instr} {f : Int → Int → Int} {a b : Int} (hd : decode M.2.1 pc = .ok (op, 1))
    (hr : ∀ a b, rI a → rI b → rI (f a b))
    (k0 : ∀ (a b : Int), rI a → rI b → ∀ (p : Program) (l : Launch) (e : Env) (R : Room) (s : State) (m : MethodId) (args : Array Value) (below : List Frame) (meth : Method) (c : Code) (H : Heap) (locs : List Loc) (Q : State → Prop) (ls' : Array Slot) (rest : List Value), p.tables.exec = Jvm.exec → c.code = M.2.1 →
      W p l e R s m args below meth c H locs 0 0 Q (F0 m (pc + 1) ls' (.int (Int32.ofInt (f a b)) :: rest)) → W p l e R s m args below meth c H locs 0 0 Q (F0 m pc ls' (.int (Int32.ofInt b) :: .int (Int32.ofInt a) :: rest)))
    (hq : pc + 1 = q) (k : VV d M q ls (vI (f a b) :: st) μ r μ') : VV d M pc ls (vI b :: vI a :: st) μ r μ' := by
  subst hq
  refine VV_pure (st2 := vI (f a b) :: st) (fun h => ok_c (hr a b (ok_h (ok_t h)) (ok_h h)) (ok_t (ok_t h))) (fun p l e R s m args below meth c H locs Q ad ls' hx hb h kk => ?_) k
  exact k0 a b (ok_h (ok_t h)) (ok_h h) p l e R s m args below meth c H locs Q ls' _ hx hb kk
theorem V_iadd {a b : Int} (hd : decode M.2.1 pc = .ok (.iadd, 1)) (hq : pc + 1 = q) (k : VV d M q ls (vI (iA a b) :: st) μ r μ') : VV d M pc ls (vI b :: vI a :: st) μ r μ' :=
  V_2 (f := iA) hd (fun _ _ _ _ => rI_wI _) (fun a b _ _ p l e R s m args below meth c H locs Q ls' rest hx hb kk => lv_iadd hx hb hd (by rw [o32_add]; exact kk)) hq k
theorem V_isub {a b : Int} (hd : decode M.2.1 pc = .ok (.isub, 1)) (hq : pc + 1 = q) (k : VV d M q ls (vI (iS a b) :: st) μ r μ') : VV d M pc ls (vI b :: vI a :: st) μ r μ' :=
  V_2 (f := iS) hd (fun _ _ _ _ => rI_wI _) (fun a b _ _ p l e R s m args below meth c H locs Q ls' rest hx hb kk => lv_isub hx hb hd (by rw [o32_sub]; exact kk)) hq k
theorem V_imul {a b : Int} (hd : decode M.2.1 pc = .ok (.imul, 1)) (hq : pc + 1 = q) (k : VV d M q ls (vI (iM a b) :: st) μ r μ') : VV d M pc ls (vI b :: vI a :: st) μ r μ' :=
  V_2 (f := iM) hd (fun _ _ _ _ => rI_wI _) (fun a b _ _ p l e R s m args below meth c H locs Q ls' rest hx hb kk => lv_imul hx hb hd (by rw [o32_mul]; exact kk)) hq k
theorem V_iand {a b : Int} (hd : decode M.2.1 pc = .ok (.iand, 1)) (hq : pc + 1 = q) (k : VV d M q ls (vI (bA a b) :: st) μ r μ') : VV d M pc ls (vI b :: vI a :: st) μ r μ' :=
  V_2 (f := bA) hd (fun _ _ _ _ => rI_of _) (fun a b _ _ p l e R s m args below meth c H locs Q ls' rest hx hb kk => lv_iand hx hb hd (by rw [bA, o32_self] at kk; exact kk)) hq k
theorem V_ior {a b : Int} (hd : decode M.2.1 pc = .ok (.ior, 1)) (hq : pc + 1 = q) (k : VV d M q ls (vI (bO a b) :: st) μ r μ') : VV d M pc ls (vI b :: vI a :: st) μ r μ' :=
  V_2 (f := bO) hd (fun _ _ _ _ => rI_of _) (fun a b _ _ p l e R s m args below meth c H locs Q ls' rest hx hb kk => lv_ior hx hb hd (by rw [bO, o32_self] at kk; exact kk)) hq k
theorem V_ixor {a b : Int} (hd : decode M.2.1 pc = .ok (.ixor, 1)) (hq : pc + 1 = q) (k : VV d M q ls (vI (bX a b) :: st) μ r μ') : VV d M pc ls (vI b :: vI a :: st) μ r μ' :=
  V_2 (f := bX) hd (fun _ _ _ _ => rI_of _) (fun a b _ _ p l e R s m args below meth c H locs Q ls' rest hx hb kk => lv_ixor hx hb hd (by rw [bX, o32_self] at kk; exact kk)) hq k
theorem V_ishl {a b : Int} (hd : decode M.2.1 pc = .ok (.ishl, 1)) (hq : pc + 1 = q) (k : VV d M q ls (vI (bL a b) :: st) μ r μ') : VV d M pc ls (vI b :: vI a :: st) μ r μ' :=
  V_2 (f := bL) hd (fun _ _ _ _ => rI_of _) (fun a b _ _ p l e R s m args below meth c H locs Q ls' rest hx hb kk => lv_ishl hx hb hd (by rw [bL, o32_self] at kk; exact kk)) hq k
theorem V_ishr {a b : Int} (hd : decode M.2.1 pc = .ok (.ishr, 1)) (hq : pc + 1 = q) (k : VV d M q ls (vI (bR a b) :: st) μ r μ') : VV d M pc ls (vI b :: vI a :: st) μ r μ' :=
  V_2 (f := bR) hd (fun _ _ _ _ => rI_of _) (fun a b _ _ p l e R s m args below meth c H locs Q ls' rest hx hb kk => lv_ishr hx hb hd (by rw [bR, o32_self] at kk; exact kk)) hq k
theorem V_iushr {a b : Int} (hd : decode M.2.1 pc = .ok (.iushr, 1)) (hq : pc + 1 = q) (k : VV d M q ls (vI (bU a b) :: st) μ r μ') : VV d M pc ls (vI b :: vI a :: st) μ r μ' :=
  V_2 (f := bU) hd (fun _ _ _ _ => rI_of _) (fun a b _ _ p l e R s m args below meth c H locs Q ls' rest hx hb kk => lv_iushr hx hb hd (o32_self _).symm kk) hq k
theorem V_idiv {a b : Int} (hd : decode M.2.1 pc = .ok (.idiv, 1)) (hb0 : b ≠ 0) (hq : pc + 1 = q) (k : VV d M q ls (vI (iD a b) :: st) μ r μ') : VV d M pc ls (vI b :: vI a :: st) μ r μ' := by
  subst hq
  refine VV_pure (st2 := vI (iD a b) :: st) (fun h => ok_c (rI_wI _) (ok_t (ok_t h))) (fun p l e R s m args below meth c H locs Q ad ls' hx hb h kk => ?_) k
  have ha : rI a := ok_h (ok_t h)
  have hb1 : rI b := ok_h h
  exact lv_idiv hx hb hd (fun z => hb0 ((o32_eq hb1 rI_0).mp z)) (by rw [o32_div ha hb1]; exact kk)
theorem V_irem {a b : Int} (hd : decode M.2.1 pc = .ok (.irem, 1)) (hb0 : b ≠ 0) (hq : pc + 1 = q) (k : VV d M q ls (vI (iR a b) :: st) μ r μ') : VV d M pc ls (vI b :: vI a :: st) μ r μ' := by
  subst hq
  refine VV_pure (st2 := vI (iR a b) :: st) (fun h => ok_c (rI_wI _) (ok_t (ok_t h))) (fun p l e R s m args below meth c H locs Q ad ls' hx hb h kk => ?_) k
  have ha : rI a := ok_h (ok_t h)
  have hb1 : rI b := ok_h h
  exact lv_irem hx hb hd (fun z => hb0 ((o32_eq hb1 rI_0).mp z)) (by rw [o32_rem ha hb1]; exact kk)
theorem V_ladd {a b : Int} (hd : decode M.2.1 pc = .ok (.ladd, 1)) (hq : pc + 1 = q) (k : VV d M q ls (vL (lA a b) :: st) μ r μ') : VV d M pc ls (vL b :: vL a :: st) μ r μ' := by
  subst hq
  refine VV_pure (st2 := vL (lA a b) :: st) (fun h => ok_c (rL_wL _) (ok_t (ok_t h))) (fun p l e R s m args below meth c H locs Q ad ls' hx hb h kk => ?_) k
  exact lv_ladd hx hb hd (by rw [o64_add]; exact kk)
theorem V_lsub {a b : Int} (hd : decode M.2.1 pc = .ok (.lsub, 1)) (hq : pc + 1 = q) (k : VV d M q ls (vL (lS a b) :: st) μ r μ') : VV d M pc ls (vL b :: vL a :: st) μ r μ' := by
  subst hq
  refine VV_pure (st2 := vL (lS a b) :: st) (fun h => ok_c (rL_wL _) (ok_t (ok_t h))) (fun p l e R s m args below meth c H locs Q ad ls' hx hb h kk => ?_) k
  exact lv_lsub hx hb hd (by rw [o64_sub]; exact kk)
theorem V_lmul {a b : Int} (hd : decode M.2.1 pc = .ok (.lmul, 1)) (hq : pc + 1 = q) (k : VV d M q ls (vL (lM a b) :: st) μ r μ') : VV d M pc ls (vL b :: vL a :: st) μ r μ' := by
  subst hq
  refine VV_pure (st2 := vL (lM a b) :: st) (fun h => ok_c (rL_wL _) (ok_t (ok_t h))) (fun p l e R s m args below meth c H locs Q ad ls' hx hb h kk => ?_) k
  exact lv_lmul hx hb hd (by rw [o64_mul]; exact kk)
theorem V_ldiv {a b : Int} (hd : decode M.2.1 pc = .ok (.ldiv, 1)) (hb0 : b ≠ 0) (hq : pc + 1 = q) (k : VV d M q ls (vL (lD a b) :: st) μ r μ') : VV d M pc ls (vL b :: vL a :: st) μ r μ' := by
  subst hq
  refine VV_pure (st2 := vL (lD a b) :: st) (fun h => ok_c (rL_wL _) (ok_t (ok_t h))) (fun p l e R s m args below meth c H locs Q ad ls' hx hb h kk => ?_) k
  have ha : rL a := ok_h (ok_t h)
  have hb1 : rL b := ok_h h
  exact lv_ldiv hx hb hd (fun z => hb0 ((o64_eq hb1 (rI_rL rI_0)).mp z)) (by rw [o64_div ha hb1]; exact kk)
theorem V_lcmp {a b : Int} (hd : decode M.2.1 pc = .ok (.lcmp, 1)) (hq : pc + 1 = q) (k : VV d M q ls (vI (lC a b) :: st) μ r μ') : VV d M pc ls (vL b :: vL a :: st) μ r μ' := by
  subst hq
  refine VV_pure (st2 := vI (lC a b) :: st) (fun h => ok_c (by simp only [oV, rI, lC]; split <;> (try split) <;> omega) (ok_t (ok_t h))) (fun p l e R s m args below meth c H locs Q ad ls' hx hb h kk => ?_) k
  exact W.lcmp hx hb hd (by rw [o32_lcmp (ok_h (ok_t h)) (ok_h h)]; exact kk)
theorem V_i2l {a : Int} (hd : decode M.2.1 pc = .ok (.i2l, 1)) (hq : pc + 1 = q) (k : VV d M q ls (vL a :: st) μ r μ') : VV d M pc ls (vI a :: st) μ r μ' := by
  subst hq
  refine VV_pure (st2 := vL a :: st) (fun h => ok_c (rI_rL (ok_h h)) (ok_t h)) (fun p l e R s m args below meth c H locs Q ad ls' hx hb h kk => ?_) k
  exact lv_i2l hx hb hd (o32_i2l (ok_h h)) kk
theorem V_l2i {a : Int} (hd : decode M.2.1 pc = .ok (.l2i, 1)) (hq : pc + 1 = q) (k : VV d M q ls (vI (wI a) :: st) μ r μ') : VV d M pc ls (vL a :: st) μ r μ' := by
  subst hq
  refine VV_pure (st2 := vI (wI a) :: st) (fun h => ok_c (rI_wI _) (ok_t h)) (fun p l e R s m args below meth c H locs Q ad ls' hx hb h kk => ?_) k
  exact lv_l2i hx hb hd (o64_l2i a) kk
def c1 : AV → Prop
  | .inr (.inl _) => False
  | _ => True
theorem c1_cat {v : AV} (h : c1 v) (ad : Nat → Nat) : (cV ad v).category = 1 := by
  match v, h with
  | .inl _, _ => rfl
  | .inr (.inr (some _)), _ => rfl
  | .inr (.inr none), _ => rfl
theorem V_dup {v : AV} (hd : decode M.2.1 pc = .ok (.dup, 1)) (hv : c1 v) (hq : pc + 1 = q) (k : VV d M q ls (v :: v :: st) μ r μ') : VV d M pc ls (v :: st) μ r μ' := by
  subst hq
  refine VV_pure (fun h => ok_c (ok_h h) h) (fun p l e R s m args below meth c H locs Q ad ls' hx hb h kk => ?_) k
  exact lv_dup hx hb hd (c1_cat hv ad) kk
theorem V_pop {v : AV} (hd : decode M.2.1 pc = .ok (.pop, 1)) (hv : c1 v) (hq : pc + 1 = q) (k : VV d M q ls st μ r μ') : VV d M pc ls (v :: st) μ r μ' := by
  subst hq
  refine VV_pure (st2 := st) (fun h => ok_t h) (fun p l e R s m args below meth c H locs Q ad ls' hx hb h kk => ?_) k
  exact lv_pop hx hb hd (c1_cat hv ad) kk
theorem V_dup2 {v w : AV} (hd : decode M.2.1 pc = .ok (.dup2, 1)) (hv : c1 v) (hw : c1 w) (hq : pc + 1 = q) (k : VV d M q ls (v :: w :: v :: w :: st) μ r μ') : VV d M pc ls (v :: w :: st) μ r μ' := by
  subst hq
  refine VV_pure (fun h => ok_c (ok_h h) (ok_c (ok_h (ok_t h)) h)) (fun p l e R s m args below meth c H locs Q ad ls' hx hb h kk => ?_) k
  exact lv_dup2_11 hx hb hd (c1_cat hv ad) (c1_cat hw ad) kk
theorem V_null (hd : decode M.2.1 pc = .ok (.aconst_null, 1)) (hq : pc + 1 = q) (k : VV d M q ls (vN :: st) μ r μ') : VV d M pc ls st μ r μ' := by
  subst hq
  refine VV_pure (st2 := vN :: st) (fun h => ok_c trivial h) (fun p l e R s m args below meth c H locs Q ad ls' hx hb h kk => ?_) k
  exact lv_null hx hb hd kk
theorem V_goto {off : Int} (hd : decode M.2.1 pc = .ok (.goto off, 3)) (ht : (pc : Int) + off = (q : Int)) (k : VV d M q ls st μ r μ') : VV d M pc ls st μ r μ' :=
  VV_pure (fun h => h) (fun p l e R s m args below meth c H locs Q ad ls' hx hb h kk => lv_goto hx hb hd ht kk) k
theorem V_ldc {i : Nat} {n : Int} (hd : decode M.2.1 pc = .ok (.ldc i, 2)) (hr : rI n) (hw : Cond.constant M.1.cls i (Int32.ofInt n) ∈ tG) (hq : pc + 2 = q) (k : VV d M q ls (vI n :: st) μ r μ') : VV d M pc ls st μ r μ' := by
  subst hq
  intro p l e s m args below meth c H locs dC dI D ad ls' C hH hS hn hl hs
  obtain ⟨hx, hb, hml, hrt, hown, hts, hlk, hK, hP, hN⟩ := id C
  exact lv_ldc hx hb hown (hts _ hw) hd (k p l e s m args below meth c H locs dC dI D ad ls' C hH hS hn hl (ok_c hr hs))
theorem V_ldcw {i : Nat} {n : Int} (hd : decode M.2.1 pc = .ok (.ldc_w i, 3)) (hr : rI n) (hw : Cond.constant M.1.cls i (Int32.ofInt n) ∈ tG) (hq : pc + 3 = q) (k : VV d M q ls (vI n :: st) μ r μ') : VV d M pc ls st μ r μ' := by
  subst hq
  intro p l e s m args below meth c H locs dC dI D ad ls' C hH hS hn hl hs
  obtain ⟨hx, hb, hml, hrt, hown, hts, hlk, hK, hP, hN⟩ := id C
  exact lv_ldcw hx hb hown (hts _ hw) hd (k p l e s m args below meth c H locs dC dI D ad ls' C hH hS hn hl (ok_c hr hs))
theorem V_ldc2 {i : Nat} {n : Int} (hd : decode M.2.1 pc = .ok (.ldc2_w i, 3)) (hr : rL n) (hw : Cond.constantLong M.1.cls i (Int64.ofInt n) ∈ tG) (hq : pc + 3 = q) (k : VV d M q ls (vL n :: st) μ r μ') : VV d M pc ls st μ r μ' := by
  subst hq
  intro p l e s m args below meth c H locs dC dI D ad ls' C hH hS hn hl hs
  obtain ⟨hx, hb, hml, hrt, hown, hts, hlk, hK, hP, hN⟩ := id C
  exact lv_ldc2 hx hb hown (hts _ hw) hd (k p l e s m args below meth c H locs dC dI D ad ls' C hH hS hn hl (ok_c hr hs))
/-! branches -/
theorem V_br {st2 : List AV} {P : Prop} {q2 : Nat} (hok : (∀ v ∈ st, oV v) → ∀ v ∈ st2, oV v)
    (k0 : ∀ (p : Program) (l : Launch) (e : Env) (R : Room) (s : State) (m : MethodId) (args : Array Value) (below : List Frame) (meth : Method) (c : Code) (H : Heap) (locs : List Loc) (Q : State → Prop) (ad : Nat → Nat) (ls' : Array Slot), p.tables.exec = Jvm.exec → c.code = M.2.1 → (∀ v ∈ st, oV v) →
      (P → W p l e R s m args below meth c H locs 0 0 Q (F0 m q ls' (st2.map (cV ad)))) → (¬ P → W p l e R s m args below meth c H locs 0 0 Q (F0 m q2 ls' (st2.map (cV ad)))) → W p l e R s m args below meth c H locs 0 0 Q (F0 m pc ls' (st.map (cV ad))))
    (kt : P → VV d M q ls st2 μ r μ') (kf : ¬ P → VV d M q2 ls st2 μ r μ') : VV d M pc ls st μ r μ' := by
  intro p l e s m args below meth c H locs dC dI D ad ls' C hH hS hn hl hs
  exact k0 _ _ _ _ _ _ _ _ _ _ _ _ _ _ _ C.1 C.2.1 hs (fun h => kt h p l e s m args below meth c H locs dC dI D ad ls' C hH hS hn hl (hok hs)) (fun h => kf h p l e s m args below meth c H locs dC dI D ad ls' C hH hS hn hl (hok hs))
theorem V_ifeq {a : Int} {off : Int} (hd : decode M.2.1 pc = .ok (.ifCond .eq off, 3)) (ht : (pc : Int) + off = (q : Int)) {q2 : Nat} (hq : pc + 3 = q2) (kt : a = 0 → VV d M q ls st μ r μ') (kf : ¬ a = 0 → VV d M q2 ls st μ r μ') : VV d M pc ls (vI a :: st) μ r μ' := by
  subst hq
  refine V_br (st2 := st) (fun h => ok_t h) (fun p l e R s m args below meth c H locs Q ad ls' hx hb h k1 k2 => ?_) kt kf
  exact lv_if_eq hx hb hd ht (fun z => k1 ((o32_eq (ok_h h) rI_0).mp z)) (fun z => k2 (fun w => z ((o32_eq (ok_h h) rI_0).mpr w)))
theorem V_ifne {a : Int} {off : Int} (hd : decode M.2.1 pc = .ok (.ifCond .ne off, 3)) (ht : (pc : Int) + off = (q : Int)) {q2 : Nat} (hq : pc + 3 = q2) (kt : ¬ a = 0 → VV d M q ls st μ r μ') (kf : a = 0 → VV d M q2 ls st μ r μ') : VV d M pc ls (vI a :: st) μ r μ' := by
  subst hq
  refine V_br (st2 := st) (fun h => ok_t h) (fun p l e R s m args below meth c H locs Q ad ls' hx hb h k1 k2 => ?_) kf kt
  exact lv_if_ne hx hb hd ht (fun z => k2 (fun w => z ((o32_eq (ok_h h) rI_0).mpr w))) (fun z => k1 ((o32_eq (ok_h h) rI_0).mp z))
theorem V_iflt {a : Int} {off : Int} (hd : decode M.2.1 pc = .ok (.ifCond .lt off, 3)) (ht : (pc : Int) + off = (q : Int)) {q2 : Nat} (hq : pc + 3 = q2) (kt : a < 0 → VV d M q ls st μ r μ') (kf : ¬ a < 0 → VV d M q2 ls st μ r μ') : VV d M pc ls (vI a :: st) μ r μ' := by
  subst hq
  refine V_br (st2 := st) (fun h => ok_t h) (fun p l e R s m args below meth c H locs Q ad ls' hx hb h k1 k2 => ?_) kt kf
  exact lv_if_lt hx hb hd ht (fun z => k1 ((o32_lt (ok_h h) rI_0).mp z)) (fun z => k2 (fun w => z ((o32_lt (ok_h h) rI_0).mpr w)))
theorem V_ifge {a : Int} {off : Int} (hd : decode M.2.1 pc = .ok (.ifCond .ge off, 3)) (ht : (pc : Int) + off = (q : Int)) {q2 : Nat} (hq : pc + 3 = q2) (kt : 0 ≤ a → VV d M q ls st μ r μ') (kf : ¬ 0 ≤ a → VV d M q2 ls st μ r μ') : VV d M pc ls (vI a :: st) μ r μ' := by
  subst hq
  refine V_br (st2 := st) (fun h => ok_t h) (fun p l e R s m args below meth c H locs Q ad ls' hx hb h k1 k2 => ?_) kt kf
  exact lv_if_ge hx hb hd ht (fun z => k1 ((o32_le rI_0 (ok_h h)).mp z)) (fun z => k2 (fun w => z ((o32_le rI_0 (ok_h h)).mpr w)))
theorem V_ifgt {a : Int} {off : Int} (hd : decode M.2.1 pc = .ok (.ifCond .gt off, 3)) (ht : (pc : Int) + off = (q : Int)) {q2 : Nat} (hq : pc + 3 = q2) (kt : 0 < a → VV d M q ls st μ r μ') (kf : ¬ 0 < a → VV d M q2 ls st μ r μ') : VV d M pc ls (vI a :: st) μ r μ' := by
  subst hq
  refine V_br (st2 := st) (fun h => ok_t h) (fun p l e R s m args below meth c H locs Q ad ls' hx hb h k1 k2 => ?_) kt kf
  exact lv_if_gt hx hb hd ht (fun z => k1 ((o32_lt rI_0 (ok_h h)).mp z)) (fun z => k2 (fun w => z ((o32_lt rI_0 (ok_h h)).mpr w)))
theorem V_ifle {a : Int} {off : Int} (hd : decode M.2.1 pc = .ok (.ifCond .le off, 3)) (ht : (pc : Int) + off = (q : Int)) {q2 : Nat} (hq : pc + 3 = q2) (kt : a ≤ 0 → VV d M q ls st μ r μ') (kf : ¬ a ≤ 0 → VV d M q2 ls st μ r μ') : VV d M pc ls (vI a :: st) μ r μ' := by
  subst hq
  refine V_br (st2 := st) (fun h => ok_t h) (fun p l e R s m args below meth c H locs Q ad ls' hx hb h k1 k2 => ?_) kt kf
  exact lv_if_le hx hb hd ht (fun z => k1 ((o32_le (ok_h h) rI_0).mp z)) (fun z => k2 (fun w => z ((o32_le (ok_h h) rI_0).mpr w)))
theorem V_icmpeq {a b : Int} {off : Int} (hd : decode M.2.1 pc = .ok (.if_icmp .eq off, 3)) (ht : (pc : Int) + off = (q : Int)) {q2 : Nat} (hq : pc + 3 = q2) (kt : a = b → VV d M q ls st μ r μ') (kf : ¬ a = b → VV d M q2 ls st μ r μ') : VV d M pc ls (vI b :: vI a :: st) μ r μ' := by
  subst hq
  refine V_br (st2 := st) (fun h => ok_t (ok_t h)) (fun p l e R s m args below meth c H locs Q ad ls' hx hb h k1 k2 => ?_) kt kf
  exact lv_icmp_eq hx hb hd ht (fun z => k1 ((o32_eq (ok_h (ok_t h)) (ok_h h)).mp z)) (fun z => k2 (fun w => z ((o32_eq (ok_h (ok_t h)) (ok_h h)).mpr w)))
theorem V_icmpne {a b : Int} {off : Int} (hd : decode M.2.1 pc = .ok (.if_icmp .ne off, 3)) (ht : (pc : Int) + off = (q : Int)) {q2 : Nat} (hq : pc + 3 = q2) (kt : ¬ a = b → VV d M q ls st μ r μ') (kf : a = b → VV d M q2 ls st μ r μ') : VV d M pc ls (vI b :: vI a :: st) μ r μ' := by
  subst hq
  refine V_br (st2 := st) (fun h => ok_t (ok_t h)) (fun p l e R s m args below meth c H locs Q ad ls' hx hb h k1 k2 => ?_) kf kt
  exact lv_icmp_ne hx hb hd ht (fun z => k2 (fun w => z ((o32_eq (ok_h (ok_t h)) (ok_h h)).mpr w))) (fun z => k1 ((o32_eq (ok_h (ok_t h)) (ok_h h)).mp z))
theorem V_icmplt {a b : Int} {off : Int} (hd : decode M.2.1 pc = .ok (.if_icmp .lt off, 3)) (ht : (pc : Int) + off = (q : Int)) {q2 : Nat} (hq : pc + 3 = q2) (kt : a < b → VV d M q ls st μ r μ') (kf : ¬ a < b → VV d M q2 ls st μ r μ') : VV d M pc ls (vI b :: vI a :: st) μ r μ' := by
  subst hq
  refine V_br (st2 := st) (fun h => ok_t (ok_t h)) (fun p l e R s m args below meth c H locs Q ad ls' hx hb h k1 k2 => ?_) kt kf
  exact lv_icmp_lt hx hb hd ht (fun z => k1 ((o32_lt (ok_h (ok_t h)) (ok_h h)).mp z)) (fun z => k2 (fun w => z ((o32_lt (ok_h (ok_t h)) (ok_h h)).mpr w)))
theorem V_icmpge {a b : Int} {off : Int} (hd : decode M.2.1 pc = .ok (.if_icmp .ge off, 3)) (ht : (pc : Int) + off = (q : Int)) {q2 : Nat} (hq : pc + 3 = q2) (kt : b ≤ a → VV d M q ls st μ r μ') (kf : ¬ b ≤ a → VV d M q2 ls st μ r μ') : VV d M pc ls (vI b :: vI a :: st) μ r μ' := by
  subst hq
  refine V_br (st2 := st) (fun h => ok_t (ok_t h)) (fun p l e R s m args below meth c H locs Q ad ls' hx hb h k1 k2 => ?_) kt kf
  exact lv_icmp_ge hx hb hd ht (fun z => k1 ((o32_le (ok_h h) (ok_h (ok_t h))).mp z)) (fun z => k2 (fun w => z ((o32_le (ok_h h) (ok_h (ok_t h))).mpr w)))
theorem V_icmpgt {a b : Int} {off : Int} (hd : decode M.2.1 pc = .ok (.if_icmp .gt off, 3)) (ht : (pc : Int) + off = (q : Int)) {q2 : Nat} (hq : pc + 3 = q2) (kt : b < a → VV d M q ls st μ r μ') (kf : ¬ b < a → VV d M q2 ls st μ r μ') : VV d M pc ls (vI b :: vI a :: st) μ r μ' := by
  subst hq
  refine V_br (st2 := st) (fun h => ok_t (ok_t h)) (fun p l e R s m args below meth c H locs Q ad ls' hx hb h k1 k2 => ?_) kt kf
  exact lv_icmp_gt hx hb hd ht (fun z => k1 ((o32_lt (ok_h h) (ok_h (ok_t h))).mp z)) (fun z => k2 (fun w => z ((o32_lt (ok_h h) (ok_h (ok_t h))).mpr w)))
theorem V_icmple {a b : Int} {off : Int} (hd : decode M.2.1 pc = .ok (.if_icmp .le off, 3)) (ht : (pc : Int) + off = (q : Int)) {q2 : Nat} (hq : pc + 3 = q2) (kt : a ≤ b → VV d M q ls st μ r μ') (kf : ¬ a ≤ b → VV d M q2 ls st μ r μ') : VV d M pc ls (vI b :: vI a :: st) μ r μ' := by
  subst hq
  refine V_br (st2 := st) (fun h => ok_t (ok_t h)) (fun p l e R s m args below meth c H locs Q ad ls' hx hb h k1 k2 => ?_) kt kf
  exact lv_icmp_le hx hb hd ht (fun z => k1 ((o32_le (ok_h (ok_t h)) (ok_h h)).mp z)) (fun z => k2 (fun w => z ((o32_le (ok_h (ok_t h)) (ok_h h)).mpr w)))
end VR
/-! locals -/
section VL
variable {d : Nat} {M : Mth} {pc q : Nat} {ls : List (Option AV)} {st : List AV} {μ : Mm} {r : Int} {μ' : Mm}
theorem VV_load {v : AV} {i : Nat} (hi : ls[i]? = some (some v))
    (k0 : ∀ (p : Program) (l : Launch) (e : Env) (R : Room) (s : State) (m : MethodId) (args : Array Value) (below : List Frame) (meth : Method) (c : Code) (H : Heap) (locs : List Loc) (Q : State → Prop) (ad : Nat → Nat) (ls' : Array Slot), p.tables.exec = Jvm.exec → c.code = M.2.1 → ls'[i]? = some (.val (cV ad v)) →
      W p l e R s m args below meth c H locs 0 0 Q (F0 m q ls' (cV ad v :: st.map (cV ad))) → W p l e R s m args below meth c H locs 0 0 Q (F0 m pc ls' (st.map (cV ad))))
    (k : VV d M q ls (v :: st) μ r μ') : VV d M pc ls st μ r μ' := by
  intro p l e s m args below meth c H locs dC dI D ad ls' C hH hS hn hl hs
  exact k0 _ _ _ _ _ _ _ _ _ _ _ _ _ _ _ C.1 C.2.1 (hl.2.2 i v hi).1 (k p l e s m args below meth c H locs dC dI D ad ls' C hH hS hn hl (ok_c (hl.2.2 i v hi).2 hs))
theorem V_iload_n {k : Fin 4} {i : Nat} {a : Int} (hd : decode M.2.1 pc = .ok (.iload_n k, 1)) (he : (k : Nat) = i) (hi : ls[i]? = some (some (vI a))) (hq : pc + 1 = q) (kk : VV d M q ls (vI a :: st) μ r μ') : VV d M pc ls st μ r μ' := by
  subst hq
  exact VV_load hi (fun p l e R s m args below meth c H locs Q ad ls' hx hb hg k2 => lv_iload_n hx hb hd he hg k2) kk
theorem V_iload {i : Nat} {a : Int} (hd : decode M.2.1 pc = .ok (.iload i, 2)) (hi : ls[i]? = some (some (vI a))) (hq : pc + 2 = q) (kk : VV d M q ls (vI a :: st) μ r μ') : VV d M pc ls st μ r μ' := by
  subst hq
  exact VV_load hi (fun p l e R s m args below meth c H locs Q ad ls' hx hb hg k2 => lv_iload hx hb hd hg k2) kk
theorem V_lload_n {k : Fin 4} {i : Nat} {a : Int} (hd : decode M.2.1 pc = .ok (.lload_n k, 1)) (he : (k : Nat) = i) (hi : ls[i]? = some (some (vL a))) (hq : pc + 1 = q) (kk : VV d M q ls (vL a :: st) μ r μ') : VV d M pc ls st μ r μ' := by
  subst hq
  exact VV_load hi (fun p l e R s m args below meth c H locs Q ad ls' hx hb hg k2 => lv_lload_n hx hb hd he hg k2) kk
theorem V_lload {i : Nat} {a : Int} (hd : decode M.2.1 pc = .ok (.lload i, 2)) (hi : ls[i]? = some (some (vL a))) (hq : pc + 2 = q) (kk : VV d M q ls (vL a :: st) μ r μ') : VV d M pc ls st μ r μ' := by
  subst hq
  exact VV_load hi (fun p l e R s m args below meth c H locs Q ad ls' hx hb hg k2 => lv_lload hx hb hd hg k2) kk
theorem V_aload_n {k : Fin 4} {i : Nat} {a : Nat} (hd : decode M.2.1 pc = .ok (.aload_n k, 1)) (he : (k : Nat) = i) (hi : ls[i]? = some (some (vR a))) (hq : pc + 1 = q) (kk : VV d M q ls (vR a :: st) μ r μ') : VV d M pc ls st μ r μ' := by
  subst hq
  exact VV_load hi (fun p l e R s m args below meth c H locs Q ad ls' hx hb hg k2 => lv_aload_n hx hb hd he hg k2) kk
theorem V_aload {i : Nat} {a : Nat} (hd : decode M.2.1 pc = .ok (.aload i, 2)) (hi : ls[i]? = some (some (vR a))) (hq : pc + 2 = q) (kk : VV d M q ls (vR a :: st) μ r μ') : VV d M pc ls st μ r μ' := by
  subst hq
  exact VV_load hi (fun p l e R s m args below meth c H locs Q ad ls' hx hb hg k2 => lv_aload hx hb hd hg k2) kk
theorem vC_n {c : Int} (h : c = -1) : vC c = vN := if_pos h
theorem vC_r {c : Int} (h : ¬ c = -1) : vC c = vR c.toNat := if_neg h
/-- a reference that may be null -/
theorem V_aloadC_n {k : Fin 4} {i : Nat} {a : Int} (hd : decode M.2.1 pc = .ok (.aload_n k, 1)) (he : (k : Nat) = i) (hi : ls[i]? = some (some (vC a))) (hq : pc + 1 = q) (kk : VV d M q ls (vC a :: st) μ r μ') : VV d M pc ls st μ r μ' := by
  subst hq
  refine VV_load hi (fun p l e R s m args below meth c H locs Q ad ls' hx hb hg k2 => ?_) kk
  by_cases h : a = -1
  · rw [vC_n h] at hg k2; exact lv_aload_nN hx hb hd he hg k2
  · rw [vC_r h] at hg k2; exact lv_aload_n hx hb hd he hg k2
theorem V_aloadC {i : Nat} {a : Int} (hd : decode M.2.1 pc = .ok (.aload i, 2)) (hi : ls[i]? = some (some (vC a))) (hq : pc + 2 = q) (kk : VV d M q ls (vC a :: st) μ r μ') : VV d M pc ls st μ r μ' := by
  subst hq
  refine VV_load hi (fun p l e R s m args below meth c H locs Q ad ls' hx hb hg k2 => ?_) kk
  by_cases h : a = -1
  · rw [vC_n h] at hg k2; exact lv_aloadN hx hb hd hg k2
  · rw [vC_r h] at hg k2; exact lv_aload hx hb hd hg k2
theorem V_ifnull {a : Int} {off : Int} (hd : decode M.2.1 pc = .ok (.ifnull off, 3)) (ht : (pc : Int) + off = (q : Int)) {q2 : Nat} (hq : pc + 3 = q2) (kt : a = -1 → VV d M q ls st μ r μ') (kf : ¬ a = -1 → VV d M q2 ls st μ r μ') : VV d M pc ls (vC a :: st) μ r μ' := by
  subst hq
  refine V_br (st2 := st) (fun h => ok_t h) (fun p l e R s m args below meth c H locs Q ad ls' hx hb h k1 k2 => ?_) kt kf
  by_cases h : a = -1
  · rw [List.map_cons, vC_n h]; exact lv_ifnullN hx hb hd ht (k1 h)
  · rw [List.map_cons, vC_r h]; exact lv_ifnull hx hb hd (k2 h)
theorem VV_eq {ls2 : List (Option AV)} {st2 : List AV} (h1 : ls = ls2) (h2 : st = st2) (k : VV d M pc ls2 st2 μ r μ') : VV d M pc ls st μ r μ' := by subst h1; subst h2; exact k
/-- no long just ahead of i -/
def nL_ (ls : List (Option AV)) (i : Nat) : Prop := match i with
  | 0 => True
  | j + 1 => match ls[j]? with
    | some (some (.inr (.inl _))) => False
    | _ => True
/-- the listed locals -/
def pL (ad : Nat → Nat) (ls : List (Option AV)) : List (Nat × Value) := (List.range ls.length).filterMap (fun i => match ls[i]? with
  | some (some v) => some (i, cV ad v)
  | _ => none)
theorem pL_mem {ad : Nat → Nat} {ls : List (Option AV)} {i : Nat} {w : Value} : (i, w) ∈ pL ad ls ↔ ∃ v, ls[i]? = some (some v) ∧ w = cV ad v := by
  constructor
  · intro h
    obtain ⟨j, hj, he⟩ := List.mem_filterMap.mp h
    cases hv : ls[j]? with
    | none => rw [hv] at he; cases he
    | some o =>
      cases o with
      | none => rw [hv] at he; cases he
      | some v =>
        rw [hv] at he
        cases he
        exact ⟨v, hv, rfl⟩
  · rintro ⟨v, hv, rfl⟩
    refine List.mem_filterMap.mpr ⟨i, List.mem_range.mpr (List.getElem?_eq_some_iff.mp hv).1, ?_⟩
    rw [hv]
theorem lR_has {ad : Nat → Nat} {ls : List (Option AV)} {ls' : Array Slot} (h : lR ad ls ls') : lv_has ls' ls.length (pL ad ls) := by
  refine ⟨h.1, h.2.1, fun q hq => ?_⟩
  obtain ⟨v, h1, h2⟩ := pL_mem.mp (show (q.1, q.2) ∈ pL ad ls from hq)
  rw [h2]
  exact (h.2.2 q.1 v h1).1
theorem lR_set {ad : Nat → Nat} {ls : List (Option AV)} {ls' ls2 : Array Slot} {i : Nat} {v : AV} (h : lR ad ls ls') (hv : oV v) (hi : i < ls.length) (hn : nL_ ls i)
    (h2 : lv_has ls2 ls.length ((i, cV ad v) :: (pL ad ls).filter (fun q => !(q.1 == i) && !(q.1 + 1 == i && q.2.category == 2)))) : lR ad (ls.set i (some v)) ls2 := by
  refine ⟨by rw [List.length_set]; exact h2.1, h2.2.1, fun j w hj => ?_⟩
  by_cases hji : j = i
  · subst hji
    rw [List.getElem?_set_self hi] at hj
    cases hj
    exact ⟨h2.2.2 (j, cV ad v) List.mem_cons_self, hv⟩
  · rw [List.getElem?_set_ne (Ne.symm hji)] at hj
    refine ⟨h2.2.2 (j, cV ad w) (List.mem_cons_of_mem _ (List.mem_filter.mpr ⟨pL_mem.mpr ⟨w, hj, rfl⟩, ?_⟩)), (h.2.2 j w hj).2⟩
    have e1 : (j == i) = false := by simpa using hji
    rw [Bool.and_eq_true]
    refine ⟨by rw [e1]; rfl, ?_⟩
    by_cases hj1 : j + 1 = i
    · subst hj1
      unfold nL_ at hn
      simp only [hj] at hn
      rcases w with a | a | _ | _
      · simp [cV, Value.category]
      · exact hn.elim
      · simp [cV, Value.category]
      · simp [cV, Value.category]
    · have e2 : (j + 1 == i) = false := by simpa using hj1
      show (!(j + 1 == i && _)) = true
      rw [e2]; rfl
theorem VV_store {v : AV} {i : Nat} (hi : i < M.2.2.1) (hn : nL_ ls i)
    (k0 : ∀ (p : Program) (l : Launch) (e : Env) (R : Room) (s : State) (m : MethodId) (args : Array Value) (below : List Frame) (meth : Method) (c : Code) (H : Heap) (locs : List Loc) (Q : State → Prop) (ad : Nat → Nat) (ls' : Array Slot) (nL : Nat) (lv : List (Nat × Value)), p.tables.exec = Jvm.exec → c.code = M.2.1 → lv_has ls' nL lv → i < nL →
      (∀ ls2 : Array Slot, lv_has ls2 nL ((i, cV ad v) :: lv.filter (fun q => !(q.1 == i) && !(q.1 + 1 == i && q.2.category == 2))) → W p l e R s m args below meth c H locs 0 0 Q (F0 m q ls2 (st.map (cV ad)))) → W p l e R s m args below meth c H locs 0 0 Q (F0 m pc ls' (cV ad v :: st.map (cV ad))))
    (k : VV d M q (ls.set i (some v)) st μ r μ') : VV d M pc ls (v :: st) μ r μ' := by
  intro p l e s m args below meth c H locs dC dI D ad ls' C hH hS hn' hl hs
  refine k0 _ _ _ _ _ _ _ _ _ _ _ _ _ ad ls' ls.length (pL ad ls) C.1 C.2.1 (lR_has hl) (by rw [hn']; exact hi) (fun ls2 h2 => ?_)
  exact k p l e s m args below meth c H locs dC dI D ad ls2 C hH hS (by rw [List.length_set]; exact hn') (lR_set hl (ok_h hs) (by rw [hn']; exact hi) hn h2) (ok_t hs)
theorem V_istore_n {k : Fin 4} {i : Nat} {a : Int} (hd : decode M.2.1 pc = .ok (.istore_n k, 1)) (he : (k : Nat) = i) (hi : i < M.2.2.1) (hn : nL_ ls i) (hq : pc + 1 = q) (kk : VV d M q (ls.set i (some (vI a))) st μ r μ') : VV d M pc ls (vI a :: st) μ r μ' := by
  subst hq
  exact VV_store hi hn (fun p l e R s m args below meth c H locs Q ad ls' nL lv hx hb h1 h2 k2 => lv_istore_n hx hb hd he h1 h2 rfl k2) kk
theorem V_istore {i : Nat} {a : Int} (hd : decode M.2.1 pc = .ok (.istore i, 2)) (hi : i < M.2.2.1) (hn : nL_ ls i) (hq : pc + 2 = q) (kk : VV d M q (ls.set i (some (vI a))) st μ r μ') : VV d M pc ls (vI a :: st) μ r μ' := by
  subst hq
  exact VV_store hi hn (fun p l e R s m args below meth c H locs Q ad ls' nL lv hx hb h1 h2 k2 => lv_istore hx hb hd h1 h2 rfl k2) kk
theorem V_astore_n {k : Fin 4} {i : Nat} {a : Nat} (hd : decode M.2.1 pc = .ok (.astore_n k, 1)) (he : (k : Nat) = i) (hi : i < M.2.2.1) (hn : nL_ ls i) (hq : pc + 1 = q) (kk : VV d M q (ls.set i (some (vR a))) st μ r μ') : VV d M pc ls (vR a :: st) μ r μ' := by
  subst hq
  exact VV_store hi hn (fun p l e R s m args below meth c H locs Q ad ls' nL lv hx hb h1 h2 k2 => lv_astore_n hx hb hd he h1 h2 rfl k2) kk
theorem V_astore {i : Nat} {a : Nat} (hd : decode M.2.1 pc = .ok (.astore i, 2)) (hi : i < M.2.2.1) (hn : nL_ ls i) (hq : pc + 2 = q) (kk : VV d M q (ls.set i (some (vR a))) st μ r μ') : VV d M pc ls (vR a :: st) μ r μ' := by
  subst hq
  exact VV_store hi hn (fun p l e R s m args below meth c H locs Q ad ls' nL lv hx hb h1 h2 k2 => lv_astore hx hb hd h1 h2 rfl k2) kk
theorem V_iinc {i : Nat} {n a : Int} (hd : decode M.2.1 pc = .ok (.iinc i n, 3)) (hg : ls[i]? = some (some (vI a))) (hi : i < M.2.2.1) (hn : nL_ ls i) (hq : pc + 3 = q) (kk : VV d M q (ls.set i (some (vI (iA a n)))) st μ r μ') : VV d M pc ls st μ r μ' := by
  subst hq
  intro p l e s m args below meth c H locs dC dI D ad ls' C hH hS hn' hl hs
  obtain ⟨k, hk⟩ := List.getElem?_of_mem (pL_mem.mpr ⟨_, hg, rfl⟩ : (i, cV ad (vI a)) ∈ pL ad ls)
  refine lv_iinc C.1 C.2.1 hd (lR_has hl) hk (v := Int32.ofInt (iA a n)) (o32_add a n) (by rw [hn']; exact hi) rfl (fun ls2 h2 => ?_)
  exact kk p l e s m args below meth c H locs dC dI D ad ls2 C hH hS (by rw [List.length_set]; exact hn') (lR_set hl (rI_wI _) (by rw [hn']; exact hi) hn h2) hs
/-- a long -/
theorem lR_set2 {ad : Nat → Nat} {ls : List (Option AV)} {ls' ls2 : Array Slot} {i : Nat} {a : Int} (h : lR ad ls ls') (hv : rL a) (hi : i + 1 < ls.length) (hn : nL_ ls i)
    (h2 : lv_has ls2 ls.length ((i, cV ad (vL a)) :: (pL ad ls).filter (fun q => !(q.1 == i) && (!(q.1 == i + 1) && !(q.1 + 1 == i && q.2.category == 2))))) : lR ad ((ls.set i (some (vL a))).set (i + 1) none) ls2 := by
  refine ⟨by rw [List.length_set, List.length_set]; exact h2.1, h2.2.1, fun j w hj => ?_⟩
  by_cases hji1 : j = i + 1
  · subst hji1
    rw [List.getElem?_set_self (by rw [List.length_set]; exact hi)] at hj
    cases hj
  rw [List.getElem?_set_ne (Ne.symm hji1)] at hj
  by_cases hji : j = i
  · subst hji
    rw [List.getElem?_set_self (by omega)] at hj
    cases hj
    exact ⟨h2.2.2 (j, cV ad (vL a)) List.mem_cons_self, hv⟩
  · rw [List.getElem?_set_ne (Ne.symm hji)] at hj
    refine ⟨h2.2.2 (j, cV ad w) (List.mem_cons_of_mem _ (List.mem_filter.mpr ⟨pL_mem.mpr ⟨w, hj, rfl⟩, ?_⟩)), (h.2.2 j w hj).2⟩
    have e1 : (j == i) = false := by simpa using hji
    have e3 : (j == i + 1) = false := by simpa using hji1
    rw [Bool.and_eq_true, Bool.and_eq_true]
    refine ⟨by rw [e1]; rfl, by rw [e3]; rfl, ?_⟩
    by_cases hj1 : j + 1 = i
    · subst hj1
      unfold nL_ at hn
      simp only [hj] at hn
      rcases w with a | a | _ | _
      · simp [cV, Value.category]
      · exact hn.elim
      · simp [cV, Value.category]
      · simp [cV, Value.category]
    · have e2 : (j + 1 == i) = false := by simpa using hj1
      show (!(j + 1 == i && _)) = true
      rw [e2]; rfl
theorem V_lstore_n {k : Fin 4} {i : Nat} {a : Int} (hd : decode M.2.1 pc = .ok (.lstore_n k, 1)) (he : (k : Nat) = i) (hi : i + 1 < M.2.2.1) (hn : nL_ ls i) (hq : pc + 1 = q) (kk : VV d M q ((ls.set i (some (vL a))).set (i + 1) none) st μ r μ') : VV d M pc ls (vL a :: st) μ r μ' := by
  subst hq
  intro p l e s m args below meth c H locs dC dI D ad ls' C hH hS hn' hl hs
  refine lv_lstore_n C.1 C.2.1 hd he (lR_has hl) (by rw [hn']; exact hi) rfl (fun ls2 h2 => ?_)
  exact kk p l e s m args below meth c H locs dC dI D ad ls2 C hH hS (by rw [List.length_set, List.length_set]; exact hn') (lR_set2 hl (ok_h hs) (by rw [hn']; exact hi) hn h2) (ok_t hs)
theorem V_lstore {i : Nat} {a : Int} (hd : decode M.2.1 pc = .ok (.lstore i, 2)) (hi : i + 1 < M.2.2.1) (hn : nL_ ls i) (hq : pc + 2 = q) (kk : VV d M q ((ls.set i (some (vL a))).set (i + 1) none) st μ r μ') : VV d M pc ls (vL a :: st) μ r μ' := by
  subst hq
  intro p l e s m args below meth c H locs dC dI D ad ls' C hH hS hn' hl hs
  refine lv_lstore C.1 C.2.1 hd (lR_has hl) (by rw [hn']; exact hi) rfl (fun ls2 h2 => ?_)
  exact kk p l e s m args below meth c H locs dC dI D ad ls2 C hH hS (by rw [List.length_set, List.length_set]; exact hn') (lR_set2 hl (ok_h hs) (by rw [hn']; exact hi) hn h2) (ok_t hs)
/-- fewer locals known -/
def sb_ : List (Option AV) → List (Option AV) → Prop
  | [], [] => True
  | none :: a, _ :: b => sb_ a b
  | some v :: a, w :: b => w = some v ∧ sb_ a b
  | _, _ => False
theorem sb_ok : ∀ {a b : List (Option AV)}, sb_ a b → a.length = b.length ∧ ∀ (i : Nat) (v : AV), a[i]? = some (some v) → b[i]? = some (some v)
  | [], [], _ => ⟨rfl, fun i v h => by simp at h⟩
  | none :: a, _ :: b, h => by
    obtain ⟨h1, h2⟩ := sb_ok (a := a) (b := b) h
    refine ⟨by simp [h1], fun i v hi => ?_⟩
    cases i with
    | zero => simp at hi
    | succ i => simpa using h2 i v (by simpa using hi)
  | some x :: a, w :: b, h => by
    obtain ⟨h0, h⟩ := h
    obtain ⟨h1, h2⟩ := sb_ok (a := a) (b := b) h
    refine ⟨by simp [h1], fun i v hi => ?_⟩
    cases i with
    | zero => simp at hi; subst hi; simp [h0]
    | succ i => simpa using h2 i v (by simpa using hi)
  | [], _ :: _, h => h.elim
  | some _ :: _, [], h => h.elim
  | none :: _, [], h => h.elim
theorem V_weak {ls2 : List (Option AV)} (k : VV d M pc ls2 st μ r μ') (h : sb_ ls2 ls) : VV d M pc ls st μ r μ' := by
  obtain ⟨h1, h2⟩ := sb_ok h
  intro p l e s m args below meth c H locs dC dI D ad ls' C hH hS hn hl hs
  exact k p l e s m args below meth c H locs dC dI D ad ls' C hH hS (h1.trans hn) ⟨hl.1.trans h1.symm, hl.2.1, fun i v hi => hl.2.2 i v (h2 i v hi)⟩ hs
end VL
/-! fields and arrays -/
def clF (ci : Nat) (C : String) (T : u_T) (N : Nat) (ty : Nat → FieldType) : Prop := vwCl[ci]? = some (C, T, N) ∧ (∀ w ∈ u_ws C T N, w ∈ tG) ∧ (∀ k, k < N → parseFieldDescriptor (T k).2.2.1 = some (ty k)) ∧ ∀ a, a < N → ∀ b, b < N → a ≠ b → (T a).2.1 ≠ (T b).2.1
theorem clF_in {C : String} {T : u_T} {N : Nat} (h : (u_ws C T N).all (fun w => decide (w ∈ lw_tbl) && goodWord w) = true) : ∀ w ∈ u_ws C T N, w ∈ tG := by
  intro w hw
  have h1 := List.all_eq_true.mp h w hw
  rw [Bool.and_eq_true, decide_eq_true_eq] at h1
  exact tG_of h1.1 h1.2
/-- the instruction's pool entry idx of the class own is the field j of the class ci -/
def fL (own : String) (idx ci j : Nat) (ty : FieldType) (fin : Bool) : Prop := ∃ (C : String) (T : u_T) (N : Nat) (tys : Nat → FieldType), clF ci C T N tys ∧ j < N ∧ tys j = ty ∧ (T j).2.2.2 = fin ∧
  (Cond.fieldLink own idx (T j).1 (T j).2.1 (T j).2.2.1 ∈ tG ∨ ∃ host, Cond.fieldLinkNest own idx (T j).1 (T j).2.1 (T j).2.2.1 host ∈ lw_tbl)
theorem fV_I {μ : Mm} {k ci n j x : Nat} (hk : kD k = (ci + 10, n)) (hf : rF ci j = (0, x)) : fV μ k j = vI (μ k j) := by
  unfold fV; rw [hk]; simp only [Nat.add_sub_cancel]; rw [hf]; rfl
theorem fV_O {μ : Mm} {k ci n j o : Nat} (hk : kD k = (ci + 10, n)) (hf : rF ci j = (1, o)) : fV μ k j = vR (k + o) := by
  unfold fV; rw [hk]; simp only [Nat.add_sub_cancel]; rw [hf]; rfl
theorem fV_C {μ : Mm} {k ci n j o : Nat} (hk : kD k = (ci + 10, n)) (hf : rF ci j = (2, o)) : fV μ k j = vR o := by
  unfold fV; rw [hk]; simp only [Nat.add_sub_cancel]; rw [hf]; rfl
theorem fV_M {μ : Mm} {k ci n j o : Nat} (hk : kD k = (ci + 10, n)) (hf : rF ci j = (3, o)) : fV μ k j = vR (μ k j).toNat := by
  unfold fV; rw [hk]; simp only [Nat.add_sub_cancel]; rw [hf]; rfl
theorem eN_o {D : ClassId × ClassId × ClassId} {ad : Nat → Nat} {μ : Mm} {k ci n : Nat} (hk : kD k = (ci + 10, n)) : eN D ad μ k = .inr (ci, (List.range n).map (fun j => cV ad (fV μ k j))) := by
  unfold eN; rw [hk]; rfl
theorem eN_i {D : ClassId × ClassId × ClassId} {ad : Nat → Nat} {μ : Mm} {k n : Nat} (hk : kD k = (0, n)) : eN D ad μ k = .inl (D.1, n, .inl (fun j => Int32.ofInt (μ k j))) := by
  unfold eN; rw [hk]; rfl
theorem eN_p {D : ClassId × ClassId × ClassId} {ad : Nat → Nat} {μ : Mm} {k n : Nat} (hk : kD k = (1, n)) : eN D ad μ k = .inl (D.2.1, n, .inr (.inr (.inr (.inr (fun j => some (ad (aE k j))))))) := by
  unfold eN; rw [hk]; rfl
theorem eN_t {D : ClassId × ClassId × ClassId} {ad : Nat → Nat} {μ : Mm} {k n : Nat} (hk : kD k = (2, n)) : eN D ad μ k = .inl (D.2.2, n, .inr (.inr (.inr (.inr (fun j => some (ad (aE k j))))))) := by
  unfold eN; rw [hk]; rfl
theorem kD_o {k ci n : Nat} (hk : kD k = (ci + 10, n)) (h : ci < 80) : k < nC := kD_e hk (by omega)
theorem clF_lt {ci : Nat} {C : String} {T : u_T} {N : Nat} {ty : Nat → FieldType} (h : clF ci C T N ty) : ci < 80 := by
  have h1 := (List.getElem?_eq_some_iff.mp h.1).1
  have h2 : vwCl.length = 12 := rfl
  omega
theorem aN_lt (k : Nat) : aN k < 100000 := by
  by_cases h : k < nC
  · exact (by decide +kernel : ∀ j, j < nC → aN j < 100000) k h
  · unfold aN kD
    rw [List.getD_eq_getElem?_getD, List.getElem?_eq_none (by show kL.length ≤ k; exact Nat.not_lt.mp h)]
    exact Nat.le_of_ble_eq_true rfl
section VF
variable {d : Nat} {M : Mth} {pc q : Nat} {ls : List (Option AV)} {st : List AV} {μ : Mm} {r : Int} {μ' : Mm}
theorem VV_get {idx ci j n a : Nat} {ty : FieldType} {fin : Bool} {v : AV} (hL : fL M.1.cls idx ci j ty fin) (hk : kD a = (ci + 10, n)) (hj : j < n) (hv : fV μ a j = v) (hok : oM μ → oV v) (hd : decode M.2.1 pc = .ok (.getfield idx, 3)) (hq : pc + 3 = q) (k : VV d M q ls (v :: st) μ r μ') : VV d M pc ls (vR a :: st) μ r μ' := by
  subst hq
  intro p l e s m args below meth c H locs dC dI D ad ls' C hH hS hn hl hs
  obtain ⟨hx, hb, hml, hrt, hown, hts, hlk, hK, hP, hN⟩ := id C
  obtain ⟨CC, T, N, tys, ⟨h1, h2, h3, h4⟩, h5, -, -, h6⟩ := hL
  have hc : ci < 80 := clF_lt ⟨h1, h2, h3, h4⟩
  have he : (wO D ad μ)[a]? = some (ad a, .inr (ci, (List.range n).map (fun j => cV ad (fV μ a j)))) := by rw [wO_at D ad μ (kD_o hk hc), eN_o hk]
  have hv2 : ((List.range n).map (fun j => cV ad (fV μ a j)))[j]? = some (cV ad v) := by simp [hj, hv]
  have kk := k p l e s m args below meth c H locs dC dI D ad ls' C hH hS hn hl (ok_c (hok hH.2) (ok_t hs))
  rcases h6 with h6 | ⟨host, h6⟩
  · exact va_get (D := (dC, dI)) (ci := ci) (v := cV ad v) (C := CC) (T := T) (N := N) hx hb hts h2 hown hK hH.1 a he h1 j h5 (hts _ h6) (fun _ h9 => h9) hv2 hd kk
  · exact va_getN (D := (dC, dI)) (ci := ci) (v := cV ad v) (C := CC) (T := T) (N := N) hx hb hts h2 hown hK hH.1 a he h1 j h5 (va_Nw.use rfl (hN _ h6 rfl)) (fun _ h9 => h9) hv2 hd kk
theorem V_getI {idx ci j n a x : Nat} {ty : FieldType} {fin : Bool} (hL : fL M.1.cls idx ci j ty fin) (hk : kD a = (ci + 10, n)) (hj : Nat.blt j n = true) (hf : rF ci j = (0, x)) (hd : decode M.2.1 pc = .ok (.getfield idx, 3)) (hq : pc + 3 = q) (k : VV d M q ls (vI (μ a j) :: st) μ r μ') : VV d M pc ls (vR a :: st) μ r μ' :=
  VV_get hL hk (Nat.le_of_ble_eq_true hj) (fV_I hk hf) (fun h => h a j) hd hq k
theorem V_getO {idx ci j n a o t : Nat} {ty : FieldType} {fin : Bool} (hL : fL M.1.cls idx ci j ty fin) (hk : kD a = (ci + 10, n)) (hj : Nat.blt j n = true) (hf : rF ci j = (1, o)) (ht : a + o = t) (hd : decode M.2.1 pc = .ok (.getfield idx, 3)) (hq : pc + 3 = q) (k : VV d M q ls (vR t :: st) μ r μ') : VV d M pc ls (vR a :: st) μ r μ' := by
  subst ht
  exact VV_get hL hk (Nat.le_of_ble_eq_true hj) (fV_O hk hf) (fun _ => trivial) hd hq k
theorem V_getC {idx ci j n a t : Nat} {ty : FieldType} {fin : Bool} (hL : fL M.1.cls idx ci j ty fin) (hk : kD a = (ci + 10, n)) (hj : Nat.blt j n = true) (hf : rF ci j = (2, t)) (hd : decode M.2.1 pc = .ok (.getfield idx, 3)) (hq : pc + 3 = q) (k : VV d M q ls (vR t :: st) μ r μ') : VV d M pc ls (vR a :: st) μ r μ' :=
  VV_get hL hk (Nat.le_of_ble_eq_true hj) (fV_C hk hf) (fun _ => trivial) hd hq k
theorem V_getM {idx ci j n a o : Nat} {ty : FieldType} {fin : Bool} (hL : fL M.1.cls idx ci j ty fin) (hk : kD a = (ci + 10, n)) (hj : Nat.blt j n = true) (hf : rF ci j = (3, o)) (hd : decode M.2.1 pc = .ok (.getfield idx, 3)) (hq : pc + 3 = q) (k : VV d M q ls (vR (μ a j).toNat :: st) μ r μ') : VV d M pc ls (vR a :: st) μ r μ' :=
  VV_get hL hk (Nat.le_of_ble_eq_true hj) (fV_M hk hf) (fun _ => trivial) hd hq k
theorem fs_set {n j : Nat} {f g : Nat → Value} {v : Value} (hj : j < n) (h1 : g j = v) (h2 : ∀ i, i ≠ j → g i = f i) : ((List.range n).map f).set j v = (List.range n).map g := by
  apply List.ext_getElem?
  intro i
  by_cases hi : i < n
  · by_cases hij : i = j
    · subst hij
      rw [List.getElem?_set_self (by simp [hi])]
      simp [hi, h1]
    · rw [List.getElem?_set_ne (Ne.symm hij)]
      simp [hi, h2 i hij]
  · rw [List.getElem?_eq_none (by simp; omega), List.getElem?_eq_none (by simp; omega)]
theorem wO_putF {D : ClassId × ClassId × ClassId} {ad : Nat → Nat} {ci n j a : Nat} {z : Int} {v : AV} (hk : kD a = (ci + 10, n)) (hc : ci < 80) (hj : j < n) (hv : fV (sM μ a j z) a j = v) :
    (wO D ad μ).set a (ad a, .inr (ci, ((List.range n).map (fun j => cV ad (fV μ a j))).set j (cV ad v))) = wO D ad (sM μ a j z) := by
  refine wO_set (kD_o hk hc) ?_ (fun i hi => eN_congr (sM_ne hi))
  rw [eN_o hk]
  congr 2
  symm
  refine fs_set hj (by rw [hv]) (fun i hi => ?_)
  show cV ad (fV (sM μ a j z) a i) = cV ad (fV μ a i)
  have : (sM μ a j z) a i = μ a i := by simp [sM, hi]
  unfold fV
  rw [this]
theorem VV_put {idx ci j n a : Nat} {ty : FieldType} {v : AV} {z : Int} (hL : fL M.1.cls idx ci j ty false) (hk : kD a = (ci + 10, n)) (hj : j < n) (hv : fV (sM μ a j z) a j = v) (hz : oV v → rI z) (hnar : ∀ ad : Nat → Nat, narrow ty (cV ad v) = cV ad v) (hfit : ∀ ad : Nat → Nat, fits ty (cV ad v) = true) (hd : decode M.2.1 pc = .ok (.putfield idx, 3)) (hq : pc + 3 = q) (k : VV d M q ls st (sM μ a j z) r μ') : VV d M pc ls (v :: vR a :: st) μ r μ' := by
  subst hq
  intro p l e s m args below meth c H locs dC dI D ad ls' C hH hS hn hl hs
  obtain ⟨hx, hb, hml, hrt, hown, hts, hlk, hK, hP, hN⟩ := id C
  obtain ⟨CC, T, N, tys, hcl, h5, hty, hfin, h6⟩ := hL
  obtain ⟨h1, h2, h3, h4⟩ := id hcl
  have hc : ci < 80 := clF_lt hcl
  have he : (wO D ad μ)[a]? = some (ad a, .inr (ci, (List.range n).map (fun j => cV ad (fV μ a j)))) := by rw [wO_at D ad μ (kD_o hk hc), eN_o hk]
  have hDd : va_D (aA ad s.heap.size) (wO D ad μ) := vD_of hP (fun k hk => aA_k hk)
  have hpd : parseFieldDescriptor (T j).2.2.1 = some ty := by rw [h3 j h5, hty]
  have hl2 : j < ((List.range n).map (fun j => cV ad (fV μ a j))).length := by simp [hj]
  have kk : ∀ (H1 : Heap) (locs1 : List Loc), va_P (dC, dI) vwCl ((wO D ad μ).set a (ad a, .inr (ci, ((List.range n).map (fun j => cV ad (fV μ a j))).set j (cV ad v)))) H1 → va_D (aA ad s.heap.size) ((wO D ad μ).set a (ad a, .inr (ci, ((List.range n).map (fun j => cV ad (fV μ a j))).set j (cV ad v)))) → va_S (aA ad s.heap.size) s.heap H1 locs1 → W p l e (rmD d) s m args below meth c H1 locs1 0 0 (MQ below (qC dC dI D ad (aA ad s.heap.size) M.2.2.2 r μ') args s 0 0 (aA ad s.heap.size)) (F0 m (pc + 3) ls' (st.map (cV ad))) := by
    intro H1 locs1 hP1 _ hS1
    rw [wO_putF hk hc hj hv] at hP1
    exact k p l e s m args below meth c H1 locs1 dC dI D ad ls' C ⟨hP1, oM_s hH.2 (hz (ok_h hs))⟩ hS1 hn hl (ok_t (ok_t hs))
  rcases h6 with h6 | ⟨host, h6⟩
  · exact va_put (D := (dC, dI)) (ci := ci) (v := cV ad v) (C := CC) (T := T) (N := N) hx hb hts h2 tys h3 h4 hown hK hH.1 hDd hS a he h1 j h5 (hts _ h6) (fun _ h9 => h9) hfin hpd (hnar ad) (hfit ad) hl2 hd kk
  · exact va_putN (D := (dC, dI)) (ci := ci) (v := cV ad v) (C := CC) (T := T) (N := N) hx hb hts h2 tys h3 h4 hown hK hH.1 hDd hS a he h1 j h5 (va_Nw.use rfl (hN _ h6 rfl)) (fun _ h9 => h9) hfin hpd (hnar ad) (hfit ad) hl2 hd kk
theorem V_putI {idx ci j n a x : Nat} {z : Int} (hL : fL M.1.cls idx ci j .int false) (hk : kD a = (ci + 10, n)) (hj : Nat.blt j n = true) (hf : rF ci j = (0, x)) (hd : decode M.2.1 pc = .ok (.putfield idx, 3)) (hq : pc + 3 = q) (k : VV d M q ls st (sM μ a j z) r μ') : VV d M pc ls (vI z :: vR a :: st) μ r μ' :=
  VV_put hL hk (Nat.le_of_ble_eq_true hj) (by rw [fV_I hk hf]; simp [sM]) (fun h => h) (fun _ => rfl) (fun _ => rfl) hd hq k
theorem V_putZ {idx ci j n a x : Nat} {z : Int} (hL : fL M.1.cls idx ci j .boolean false) (hk : kD a = (ci + 10, n)) (hj : Nat.blt j n = true) (hf : rF ci j = (0, x)) (hz : z = 0 ∨ z = 1) (hd : decode M.2.1 pc = .ok (.putfield idx, 3)) (hq : pc + 3 = q) (k : VV d M q ls st (sM μ a j z) r μ') : VV d M pc ls (vI z :: vR a :: st) μ r μ' :=
  VV_put hL hk (Nat.le_of_ble_eq_true hj) (by rw [fV_I hk hf]; simp [sM]) (fun h => h) (fun _ => by rcases hz with rfl | rfl <;> rfl) (fun _ => by rcases hz with rfl | rfl <;> rfl) hd hq k
theorem V_putM {idx ci j n a t x : Nat} {C : String} (hL : fL M.1.cls idx ci j (.object C) false) (hk : kD a = (ci + 10, n)) (hj : Nat.blt j n = true) (hf : rF ci j = (3, x)) (ht : t < nC) (hd : decode M.2.1 pc = .ok (.putfield idx, 3)) (hq : pc + 3 = q) (k : VV d M q ls st (sM μ a j (t : Int)) r μ') : VV d M pc ls (vR t :: vR a :: st) μ r μ' :=
  VV_put hL hk (Nat.le_of_ble_eq_true hj) (by rw [fV_M hk hf]; simp [sM]) (fun _ => by have : nC = 98 := rfl; unfold rI; omega) (fun _ => rfl) (fun _ => rfl) hd hq k
theorem V_iaload {a n : Nat} {i : Int} (hk : kD a = (0, n)) (hi : 0 ≤ i ∧ i < aN a) (hd : decode M.2.1 pc = .ok (.iaload, 1)) (hq : pc + 1 = q) (k : VV d M q ls (vI (μ a i.toNat) :: st) μ r μ') : VV d M pc ls (vI i :: vR a :: st) μ r μ' := by
  subst hq
  intro p l e s m args below meth c H locs dC dI D ad ls' C hH hS hn hl hs
  obtain ⟨hx, hb, hml, hrt, hown, hts, hlk, hK, hP, hN⟩ := id C
  have hri : rI i := ok_h hs
  have hn2 : aN a = n := by unfold aN; rw [hk]
  have he : (wO D ad μ)[a]? = some (ad a, .inl (D.1, n, .inl (fun j => Int32.ofInt (μ a j)))) := by rw [wO_at D ad μ (kD_e hk (by decide)), eN_i hk]
  have kk := k p l e s m args below meth c H locs dC dI D ad ls' C hH hS hn hl (ok_c (v := vI (μ a i.toNat)) (hH.2 a i.toNat) (ok_t (ok_t hs)))
  refine va_iald hx hb hK hH.1 a 0 he rfl (o32_in hri (by rw [← hn2]; exact hi)) hd ?_
  rw [o32_nat hri hi.1]
  exact kk
theorem V_iastore {a n : Nat} {i z : Int} (hk : kD a = (0, n)) (hi : 0 ≤ i ∧ i < aN a) (hd : decode M.2.1 pc = .ok (.iastore, 1)) (hq : pc + 1 = q) (k : VV d M q ls st (sM μ a i.toNat z) r μ') : VV d M pc ls (vI z :: vI i :: vR a :: st) μ r μ' := by
  subst hq
  intro p l e s m args below meth c H locs dC dI D ad ls' C hH hS hn hl hs
  obtain ⟨hx, hb, hml, hrt, hown, hts, hlk, hK, hP, hN⟩ := id C
  have hri : rI i := ok_h (ok_t hs)
  have hn2 : aN a = n := by unfold aN; rw [hk]
  have ha : a < nC := kD_e hk (by decide)
  have he : (wO D ad μ)[a]? = some (ad a, .inl (D.1, n, .inl (fun j => Int32.ofInt (μ a j)))) := by rw [wO_at D ad μ ha, eN_i hk]
  have hDd : va_D (aA ad s.heap.size) (wO D ad μ) := vD_of hP (fun k hk => aA_k hk)
  refine va_iast hx hb hK hH.1 hDd hS a 0 he rfl (o32_in hri (by rw [← hn2]; exact hi)) hd (fun H1 locs1 hP1 _ hS1 => ?_)
  rw [o32_nat hri hi.1] at hP1
  have e1 : (wO D ad μ).set a (ad a, .inl (D.1, n, .inl (upd (fun j => Int32.ofInt (μ a j)) i.toNat (Int32.ofInt z)))) = wO D ad (sM μ a i.toNat z) := by
    refine wO_set ha ?_ (fun j hj => eN_congr (sM_ne hj))
    rw [eN_i hk]
    congr 3
    congr 1
    funext j
    by_cases h : j = i.toNat
    · simp [upd, sM, h]
    · simp [upd, sM, h]
  rw [e1] at hP1
  exact k p l e s m args below meth c H1 locs1 dC dI D ad ls' C ⟨hP1, oM_s hH.2 (ok_h hs)⟩ hS1 hn hl (ok_t (ok_t (ok_t hs)))
theorem V_alen {a n : Nat} (hk : kD a = (0, n)) (hd : decode M.2.1 pc = .ok (.arraylength, 1)) (hq : pc + 1 = q) (k : VV d M q ls (vI (aN a : Nat) :: st) μ r μ') : VV d M pc ls (vR a :: st) μ r μ' := by
  subst hq
  intro p l e s m args below meth c H locs dC dI D ad ls' C hH hS hn hl hs
  obtain ⟨hx, hb, hml, hrt, hown, hts, hlk, hK, hP, hN⟩ := id C
  have hn2 : aN a = n := by unfold aN; rw [hk]
  have hs2 : n < 100000 := by rw [← hn2]; exact aN_lt a
  have he : (wO D ad μ)[a]? = some (ad a, .inl (D.1, n, .inl (fun j => Int32.ofInt (μ a j)))) := by rw [wO_at D ad μ (kD_e hk (by decide)), eN_i hk]
  have kk := k p l e s m args below meth c H locs dC dI D ad ls' C hH hS hn hl (ok_c (v := vI ((aN a : Nat) : Int)) (by show rI _; rw [hn2]; unfold rI; omega) (ok_t hs))
  exact va_alen hx hb hK hH.1 a 0 he (ty := .int) rfl (v := Int32.ofInt ((aN a : Nat) : Int)) (by rw [hn2]; exact (Int32.ofInt_eq_ofNat).symm) hd kk
theorem V_alenP {a n c2 : Nat} (hk : kD a = (c2, n)) (hc : c2 = 1 ∨ c2 = 2) (hd : decode M.2.1 pc = .ok (.arraylength, 1)) (hq : pc + 1 = q) (k : VV d M q ls (vI (aN a : Nat) :: st) μ r μ') : VV d M pc ls (vR a :: st) μ r μ' := by
  subst hq
  intro p l e s m args below meth c H locs dC dI D ad ls' C hH hS hn hl hs
  obtain ⟨hx, hb, hml, hrt, hown, hts, hlk, hK, hP, hN⟩ := id C
  have hn2 : aN a = n := by unfold aN; rw [hk]
  have hs2 : n < 100000 := by rw [← hn2]; exact aN_lt a
  have kk := k p l e s m args below meth c H locs dC dI D ad ls' C hH hS hn hl (ok_c (v := vI ((aN a : Nat) : Int)) (by show rI _; rw [hn2]; unfold rI; omega) (ok_t hs))
  rcases hc with rfl | rfl
  · have he : (wO D ad μ)[a]? = some (ad a, .inl (D.2.1, n, .inr (.inr (.inr (.inr (fun j => some (ad (aE a j)))))))) := by rw [wO_at D ad μ (kD_e hk (by decide)), eN_p hk]
    exact va_alen hx hb hK hH.1 a 1 he (ty := .object RX3) rfl (v := Int32.ofInt ((aN a : Nat) : Int)) (by rw [hn2]; exact (Int32.ofInt_eq_ofNat).symm) hd kk
  · have he : (wO D ad μ)[a]? = some (ad a, .inl (D.2.2, n, .inr (.inr (.inr (.inr (fun j => some (ad (aE a j)))))))) := by rw [wO_at D ad μ (kD_e hk (by decide)), eN_t hk]
    exact va_alen hx hb hK hH.1 a 2 he (ty := .object RX7) rfl (v := Int32.ofInt ((aN a : Nat) : Int)) (by rw [hn2]; exact (Int32.ofInt_eq_ofNat).symm) hd kk
theorem V_aaload {a n c2 : Nat} {i : Int} (hk : kD a = (c2, n)) (hc : c2 = 1 ∨ c2 = 2) (hi : 0 ≤ i ∧ i < aN a) (hd : decode M.2.1 pc = .ok (.aaload, 1)) (hq : pc + 1 = q) (k : VV d M q ls (vR (aE a i.toNat) :: st) μ r μ') : VV d M pc ls (vI i :: vR a :: st) μ r μ' := by
  subst hq
  intro p l e s m args below meth c H locs dC dI D ad ls' C hH hS hn hl hs
  obtain ⟨hx, hb, hml, hrt, hown, hts, hlk, hK, hP, hN⟩ := id C
  have hri : rI i := ok_h hs
  have hn2 : aN a = n := by unfold aN; rw [hk]
  have kk := k p l e s m args below meth c H locs dC dI D ad ls' C hH hS hn hl (ok_c (v := vR (aE a i.toNat)) trivial (ok_t (ok_t hs)))
  have hin : vp_in (Int32.ofInt i) n := o32_in hri (by rw [← hn2]; exact hi)
  rcases hc with rfl | rfl
  · have he : (wO D ad μ)[a]? = some (ad a, .inl (D.2.1, n, .inr (.inr (.inr (.inr (fun j => some (ad (aE a j)))))))) := by rw [wO_at D ad μ (kD_e hk (by decide)), eN_p hk]
    refine va_aldq hx hb hK hH.1 a 1 he rfl hin hd ?_
    rw [o32_nat hri hi.1]
    exact kk
  · have he : (wO D ad μ)[a]? = some (ad a, .inl (D.2.2, n, .inr (.inr (.inr (.inr (fun j => some (ad (aE a j)))))))) := by rw [wO_at D ad μ (kD_e hk (by decide)), eN_t hk]
    refine va_aldq hx hb hK hH.1 a 2 he rfl hin hd ?_
    rw [o32_nat hri hi.1]
    exact kk
end VF
/-! calls -/
section WC
variable {p : Program} {l : Launch} {e : Env} {R : Room} {s : State} {m : MethodId} {args : Array Value} {below : List Frame} {meth : Method} {c : Code} {H : Heap} {locs : List Loc} {cells slots : Nat} {Q : State → Prop}
variable {pc : Nat} {ls : Array Slot} {rest st0 : List Value} {a : Array Value} {A0 : Nat → Prop} {H0 : Heap}
variable {dC : Nat → ClassId} {dI : Nat → Nat → Nat} {D : ClassId × ClassId × ClassId} {ad : Nat → Nat}
theorem w_call {rt : Option FieldType} {r : Int} {μ' : Mm} {A1 : Nat → Prop} (hr : va_Run p l e R s m args below meth c H locs cells slots 0 0 (F0 m pc ls st0) rest (qC dC dI D ad A1 rt r μ' a) A1) (hS : va_S A0 H0 H locs) (hA : ∀ q, A1 q → A0 q)
    (kk : ∀ (H1 : Heap) (locs1 : List Loc), rK rt r → hO dC dI D ad μ' H1 → H.size ≤ H1.size → (∀ q : Nat, q < H.size → ¬ A1 q → H1[q]? = H[q]?) → va_S A0 H0 H1 locs1 → W p l e R s m args below meth c H1 locs1 cells slots Q (F0 m (pc + 3) ls ((rV ad rt r).toList ++ rest))) : W p l e R s m args below meth c H locs cells slots Q (F0 m pc ls st0) := by
  intro T hT X
  obtain ⟨v, st₀, t, T', L, h0, X', hL, e1, e2, ⟨⟨hv, hp, hb⟩, hz, hk⟩, st⟩ := hr T hT X
  cases hv
  rw [h0] at hz hk
  obtain ⟨t2, a1, b1⟩ := kk T'.heap (locs ++ L) hp (by rw [e1]; exact hb) (by rw [e1]; exact hz) (fun q h1 h2 => by rw [e1]; exact hk q h1 h2)
    ⟨Nat.le_trans hS.1 (by rw [e1]; exact hz), fun q h1 h2 => by rw [e1, hk q (Nat.lt_of_lt_of_le h1 hS.1) (fun z => h2 (hA q z))]; exact hS.2.1 q h1 h2, fun q hq => by
      rcases List.mem_append.mp hq with h | h
      · exact hS.2.2 q h
      · exact hA _ (hL q h)⟩ T' rfl X'
  exact ⟨t2, st t2 a1, b1⟩
end WC
/-- the call's words -/
def mV (own : String) (idx : Nat) (M : Mth) (n : Nat) : Prop := Cond.methodLink own idx M.1 ∈ tG ∧ Cond.instanceMethod M.1 ∈ tG ∧ Cond.selects M.1.cls M.1 M.1 ∈ tG ∧ Cond.initialized M.1.cls ∈ tG ∧ Cond.code M.1 M.2.1 M.2.2.1 M.2.2.2 ∈ tG ∧
  (M.1.cls ≠ "java/lang/invoke/MethodHandle" ∧ M.1.cls ≠ "java/lang/invoke/VarHandle" ∧ (parseMethodDescriptor M.1.desc).map (fun d => d.parameters.length) = some n) ∧ M.2.2.1 ≤ 60
def mS (own : String) (idx : Nat) (M : Mth) (n : Nat) : Prop := Cond.methodLink own idx M.1 ∈ tG ∧ Cond.static M.1 ∈ tG ∧ Cond.initialized own ∈ tG ∧ Cond.initialized M.1.cls ∈ tG ∧ Cond.code M.1 M.2.1 M.2.2.1 M.2.2.2 ∈ tG ∧
  (M.1.cls ≠ "java/lang/invoke/MethodHandle" ∧ M.1.cls ≠ "java/lang/invoke/VarHandle" ∧ (parseMethodDescriptor M.1.desc).map (fun d => d.parameters.length) = some n) ∧ M.2.2.1 ≤ 60
theorem tG_good {w : Cond} (h : w ∈ tG) : (w.onTables && w.keeps) = true ∨ ∃ ty, w = .arrayClass ty := good_of_word (List.mem_filter.mp h).2
theorem gI_of {M : Mth} (h : Cond.code M.1 M.2.1 M.2.2.1 M.2.2.2 ∈ tG) : GoodIn tG (wM M) := by
  intro w hw
  rcases List.mem_cons.mp hw with rfl | hw
  · exact ⟨h, tG_good h⟩
  · exact ⟨hw, tG_good hw⟩
theorem pC_blind {dC : Nat → ClassId} {dI : Nat → Nat → Nat} {D : ClassId × ClassId × ClassId} {ad : Nat → Nat} {sz : Nat} {av : List AV} {μ : Mm} : FrameBlind (pC dC dI D ad sz av μ) := by
  intro a U g mk q
  obtain ⟨q0, q1, q2, q3, q4, q5⟩ := q
  exact ⟨q0, q1, q2, va_K.moved (u := U) (U := U.calling g mk a) (Vm.Alike.refl U.vm) q3, nS_same (s := U) (U := U.calling g mk a) rfl q4, q5⟩
theorem cB_of {R : Room} {s : State} {args : Array Value} {own : String} {idx n d : Nat} {M : Mth} (hts : ∀ w ∈ tG, w.before args s = true) (h1 : Cond.methodLink own idx M.1 ∈ tG) (h4 : Cond.initialized M.1.cls ∈ tG) (h5 : Cond.code M.1 M.2.1 M.2.2.1 M.2.2.2 ∈ tG) (h6 : M.1.cls ≠ "java/lang/invoke/MethodHandle" ∧ M.1.cls ≠ "java/lang/invoke/VarHandle" ∧ (parseMethodDescriptor M.1.desc).map (fun d => d.parameters.length) = some n) (h7 : M.2.2.1 ≤ 60) (hR : d + 1 ≤ R.frames ∧ 100 * (d + 1) ≤ R.locals) :
    CallB R s args own idx M.1 M.2.1 M.2.2.1 M.2.2.2 (wM M) (rmD d) 0 0 n :=
  callB_of (ws' := tG) n hts (gI_of h5) rfl rfl rfl (hts _ h4) (hts _ h1) h6 ⟨hR.1, by show 8 + (M.2.2.1 + 11) + 100 * d ≤ R.locals; omega⟩
/-- words of a value -/
def wd : AV → Nat
  | .inr (.inl _) => 2
  | _ => 1
theorem wd_cat (ad : Nat → Nat) (v : AV) : (cV ad v).category = wd v := by
  match v with
  | .inl _ => rfl
  | .inr (.inl _) => rfl
  | .inr (.inr (some _)) => rfl
  | .inr (.inr none) => rfl
theorem wd_sum (ad : Nat → Nat) (st : List AV) : ((st.map (cV ad)).map fun v => v.category).sum = (st.map wd).sum := by
  induction st with
  | nil => rfl
  | cons v l ih => simp only [List.map_cons, List.sum_cons, ih, wd_cat]
section WC2
variable {p : Program} {l : Launch} {e : Env} {R : Room} {s : State} {m : MethodId} {args : Array Value} {below : List Frame} {meth : Method} {c : Code} {H : Heap} {locs : List Loc} {cells slots : Nat} {Q : State → Prop}
variable {pc nL : Nat} {ls : Array Slot} {rest : List Value} {A0 : Nat → Prop} {H0 : Heap} {cc : ByteArray} {own : String}
variable {dC : Nat → ClassId} {dI : Nat → Nat → Nat} {D : ClassId × ClassId × ClassId} {ad : Nat → Nat}
theorem rcv {a : Nat} {ci n : Nat} {q : vw_C} {μ : Mm} (hK : va_K (dC, dI) vwCl (tyS D) s) (hH : hO dC dI D ad μ H) (hk : kD a = (ci + 10, n)) (hc : vwCl[ci]? = some q) : ∃ cell : Cell, H[ad a]? = some cell ∧ cell.vm.isStatics = false ∧ s.vm.findClass q.1 = some cell.cls := by
  have hc2 : ci < 80 := by
    have h1 := (List.getElem?_eq_some_iff.mp hc).1
    have h2 : vwCl.length = 12 := rfl
    omega
  refine va_recv hK hH.1 hc (q0 := a) (a := ad a) (fs := (List.range n).map (fun j => cV ad (fV μ a j))) ?_
  rw [wO_at D ad μ (kD_o hk hc2), eN_o hk]
theorem w_callV {d idx n : Nat} {M : Mth} {b ci nf : Nat} {As : List AV} {μ μ' : Mm} {r : Int} (S : CallFix p m c cc nL s args tG own) (hM : CC d M (vR b :: As) μ r μ') (hm : mV own idx M n) (hkb : kD b = (ci + 10, nf)) (hci : (vwCl[ci]?).map (fun q => q.1) = some M.1.cls) (hl : As.length = n)
    (hH : hO dC dI D ad μ H) (hK : va_K (dC, dI) vwCl (tyS D) s) (hP : aP ad) (hN : nS s) (hok : ∀ v ∈ vR b :: As, oV v) (hsz : ls.size = nL) (hw : (rest.map fun v => v.category).sum ≤ 8) (hR : d + 1 ≤ R.frames ∧ 100 * (d + 1) ≤ R.locals) (hcs : cells ≤ R.cells ∧ slots ≤ R.slots)
    (hS : va_S A0 H0 H locs) (hA : ∀ q, aA ad H.size q → A0 q) (hd : decode cc pc = .ok (.invokevirtual idx, 3))
    (kk : ∀ (H1 : Heap) (locs1 : List Loc), rK M.2.2.2 r → hO dC dI D ad μ' H1 → H.size ≤ H1.size → (∀ q : Nat, q < H.size → ¬ aA ad H.size q → H1[q]? = H[q]?) → va_S A0 H0 H1 locs1 → W p l e R s m args below meth c H1 locs1 cells slots Q (F0 m (pc + 3) ls ((rV ad M.2.2.2 r).toList ++ rest))) :
    W p l e R s m args below meth c H locs cells slots Q (F0 m pc ls ((As.map (cV ad)).reverse ++ .ref (ad b) :: rest)) := by
  obtain ⟨h1, h2, h3, h4, h5, h6, h7⟩ := hm
  have hts := S.2.2.2.2
  obtain ⟨q, hq⟩ : ∃ q, vwCl[ci]? = some q := by
    cases h : vwCl[ci]? with
    | none => rw [h] at hci; cases hci
    | some q => exact ⟨q, rfl⟩
  rw [hq] at hci
  have hqc : q.1 = M.1.cls := Option.some.inj hci
  refine w_call (va_runV (As := As.map (cV ad)) (rest := rest) (C := M.1.cls) (b := ad b) S (hM l dC dI D ad H.size hP) ⟨cB_of hts h1 h4 h5 h6 h7 hR, hts _ h2, hts _ h3⟩
    ⟨pC_blind, by rw [← hqc]; exact rcv hK hH hkb hq, fun U hU hW => ⟨rfl, by rw [hU], by rw [hU]; exact hH, va_K.moved hW.alike hK, nS_warm hW hN, hok⟩⟩ rfl (by rw [List.length_map]; exact hl) hsz rfl (by show 2 * 0 + _ ≤ 8; omega) hd hcs) hS hA kk
theorem w_callS {d idx n : Nat} {M : Mth} {As : List AV} {μ μ' : Mm} {r : Int} (S : CallFix p m c cc nL s args tG own) (hM : CC d M As μ r μ') (hm : mS own idx M n) (hl : As.length = n)
    (hH : hO dC dI D ad μ H) (hK : va_K (dC, dI) vwCl (tyS D) s) (hP : aP ad) (hN : nS s) (hok : ∀ v ∈ As, oV v) (hsz : ls.size = nL) (hw : (rest.map fun v => v.category).sum ≤ 8) (hR : d + 1 ≤ R.frames ∧ 100 * (d + 1) ≤ R.locals) (hcs : cells ≤ R.cells ∧ slots ≤ R.slots)
    (hS : va_S A0 H0 H locs) (hA : ∀ q, aA ad H.size q → A0 q) (hd : decode cc pc = .ok (.invokestatic idx, 3))
    (kk : ∀ (H1 : Heap) (locs1 : List Loc), rK M.2.2.2 r → hO dC dI D ad μ' H1 → H.size ≤ H1.size → (∀ q : Nat, q < H.size → ¬ aA ad H.size q → H1[q]? = H[q]?) → va_S A0 H0 H1 locs1 → W p l e R s m args below meth c H1 locs1 cells slots Q (F0 m (pc + 3) ls ((rV ad M.2.2.2 r).toList ++ rest))) :
    W p l e R s m args below meth c H locs cells slots Q (F0 m pc ls ((As.map (cV ad)).reverse ++ rest)) := by
  obtain ⟨h1, h2, h3, h4, h5, h6, h7⟩ := hm
  have hts := S.2.2.2.2
  refine w_call (va_runS (As := As.map (cV ad)) (rest := rest) S (hM l dC dI D ad H.size hP) ⟨cB_of hts h1 h4 h5 h6 h7 hR, hts _ h2⟩
    ⟨pC_blind, fun U hU hW => ⟨rfl, by rw [hU], by rw [hU]; exact hH, va_K.moved hW.alike hK, nS_warm hW hN, hok⟩⟩ rfl (by rw [List.length_map]; exact hl) hsz rfl (by show 2 * 0 + _ ≤ 8; omega) hd hcs) hS hA kk
end WC2
/-- what a call's answer is on the stack -/
def rT (rt : Option FieldType) (r : Int) : List AV := match rt with
  | none => []
  | some .long => [vL r]
  | some (.object _) => [vC r]
  | some _ => [vI r]
theorem rT_V (ad : Nat → Nat) (rt : Option FieldType) (r : Int) : (rV ad rt r).toList = (rT rt r).map (cV ad) := by
  cases rt with
  | none => rfl
  | some t => cases t <;> rfl
theorem oV_vC (r : Int) : oV (vC r) := by
  unfold vC
  by_cases h : r = -1
  · rw [if_pos h]; trivial
  · rw [if_neg h]; trivial
theorem rT_ok {rt : Option FieldType} {r : Int} (h : rK rt r) : ∀ v ∈ rT rt r, oV v := by
  cases rt with
  | none => intro v hv; cases hv
  | some t => cases t <;> (intro v hv; rw [List.mem_singleton.mp hv]; first | exact h | exact oV_vC r)
section VC_
variable {d : Nat} {M : Mth} {pc q : Nat} {ls : List (Option AV)} {st st0 : List AV} {μ : Mm} {r : Int} {μ' : Mm}
theorem ok_rev {As st : List AV} (h : ∀ v ∈ As.reverse ++ st, oV v) : (∀ v ∈ As, oV v) ∧ ∀ v ∈ st, oV v := ⟨fun v hv => h v (List.mem_append_left _ (List.mem_reverse.mpr hv)), fun v hv => h v (List.mem_append_right _ hv)⟩
theorem V_callV {d1 idx n b ci nf : Nat} {M1 : Mth} {As : List AV} {r1 : Int} {μ1 : Mm} (hM : CC d1 M1 (vR b :: As) μ r1 μ1) (hd1 : d1 + 1 ≤ d) (hm : mV M.1.cls idx M1 n) (hkb : kD b = (ci + 10, nf)) (hci : (vwCl[ci]?).map (fun q => q.1) = some M1.1.cls) (hl : As.length = n) (hst : st0 = As.reverse ++ vR b :: st) (hw : Nat.ble (st.map wd).sum 8 = true)
    (hd : decode M.2.1 pc = .ok (.invokevirtual idx, 3)) (hq : pc + 3 = q) (k : VV d M q ls (rT M1.2.2.2 r1 ++ st) μ1 r μ') : VV d M pc ls st0 μ r μ' := by
  subst hq; subst hst
  intro p l e s m args below meth c H locs dC dI D ad ls' C hH hS hn hl' hs
  obtain ⟨hx, hb, hml, hrt, hown, hts, hlk, hK, hP, hN⟩ := id C
  obtain ⟨hs1, hs2⟩ := ok_rev hs
  have e1 : (As.reverse ++ vR b :: st).map (cV ad) = (As.map (cV ad)).reverse ++ .ref (ad b) :: st.map (cV ad) := by
    rw [List.map_append, List.map_reverse]; rfl
  rw [e1]
  refine w_callV ⟨hx, hb, hml, hown, hts⟩ hM hm hkb hci hl hH hK hP hN (ok_c trivial hs1) (hl'.1.trans hn) (by rw [wd_sum]; exact Nat.le_of_ble_eq_true hw) ⟨hd1, by show 100 * (d1 + 1) ≤ 100 * d; omega⟩ ⟨Nat.le_refl 0, Nat.le_refl 0⟩ hS (fun q hq => ?_) hd (fun H1 locs1 hr1 hH1 _ _ hS1 => ?_)
  · rcases hq with h | h
    · exact Or.inl h
    · exact Or.inr (Nat.le_trans hS.1 h)
  · rw [rT_V, ← List.map_append]
    exact k p l e s m args below meth c H1 locs1 dC dI D ad ls' C hH1 hS1 hn hl' (fun v hv => (List.mem_append.mp hv).elim (rT_ok hr1 v) (ok_t hs2 v))
theorem V_callS {d1 idx n : Nat} {M1 : Mth} {As : List AV} {r1 : Int} {μ1 : Mm} (hM : CC d1 M1 As μ r1 μ1) (hd1 : d1 + 1 ≤ d) (hm : mS M.1.cls idx M1 n) (hl : As.length = n) (hst : st0 = As.reverse ++ st) (hw : Nat.ble (st.map wd).sum 8 = true)
    (hd : decode M.2.1 pc = .ok (.invokestatic idx, 3)) (hq : pc + 3 = q) (k : VV d M q ls (rT M1.2.2.2 r1 ++ st) μ1 r μ') : VV d M pc ls st0 μ r μ' := by
  subst hq; subst hst
  intro p l e s m args below meth c H locs dC dI D ad ls' C hH hS hn hl' hs
  obtain ⟨hx, hb, hml, hrt, hown, hts, hlk, hK, hP, hN⟩ := id C
  obtain ⟨hs1, hs2⟩ := ok_rev hs
  have e1 : (As.reverse ++ st).map (cV ad) = (As.map (cV ad)).reverse ++ st.map (cV ad) := by
    rw [List.map_append, List.map_reverse]
  rw [e1]
  refine w_callS ⟨hx, hb, hml, hown, hts⟩ hM hm hl hH hK hP hN hs1 (hl'.1.trans hn) (by rw [wd_sum]; exact Nat.le_of_ble_eq_true hw) ⟨hd1, by show 100 * (d1 + 1) ≤ 100 * d; omega⟩ ⟨Nat.le_refl 0, Nat.le_refl 0⟩ hS (fun q hq => ?_) hd (fun H1 locs1 hr1 hH1 _ _ hS1 => ?_)
  · rcases hq with h | h
    · exact Or.inl h
    · exact Or.inr (Nat.le_trans hS.1 h)
  · rw [rT_V, ← List.map_append]
    exact k p l e s m args below meth c H1 locs1 dC dI D ad ls' C hH1 hS1 hn hl' (fun v hv => (List.mem_append.mp hv).elim (rT_ok hr1 v) (hs2 v))
/-! returns -/
theorem V_ret {v : AV} {r0 : Int} (hrt : rT M.2.2.2 r0 = [v]) (h : some (r0, μ) = some (r, μ')) (hrk : oV v → rK M.2.2.2 r0)
    (k0 : ∀ (p : Program) (l : Launch) (e : Env) (R : Room) (s : State) (m : MethodId) (args : Array Value) (below : List Frame) (meth : Method) (c : Code) (H : Heap) (locs : List Loc) (Qc : Array Value → State → Outcome → State → Prop) (free : Addr → Prop) (ad : Nat → Nat) (ls' : Array Slot), p.tables.exec = Jvm.exec → c.code = M.2.1 → meth.sig.returnType = M.2.2.2 → meth.locks = false →
      (∀ t : State, t.heap = H → s.WarmedH t.vm → Qc args s (.returned (some (cV ad v))) t) → (∀ q ∈ locs, free q.base) → W p l e R s m args below meth c H locs 0 0 (MQ below Qc args s 0 0 free) (F0 m pc ls' [cV ad v])) : VV d M pc ls [v] μ r μ' := by
  cases h
  intro p l e s m args below meth c H locs dC dI D ad ls' C hH hS hn hl hs
  obtain ⟨hx, hb, hml, hr2, hown, hts, hlk, hK, hP, hN⟩ := id C
  refine k0 p l e _ s m args below meth c H locs _ _ ad ls' hx hb hr2 hlk (fun t ht hW => ⟨⟨?_, hrk (ok_h hs), by rw [ht]; exact hH⟩, hS.F ht⟩) hS.2.2
  have e1 : (rV ad M.2.2.2 r).toList = [cV ad v] := by rw [rT_V, hrt]; rfl
  cases h2 : rV ad M.2.2.2 r with
  | none => rw [h2] at e1; cases e1
  | some w => rw [h2] at e1; cases e1; rfl
theorem V_iret {v : Int} (hrt : M.2.2.2 = some .int) (h : some (v, μ) = some (r, μ')) (hd : decode M.2.1 pc = .ok (.ireturn, 1)) : VV d M pc ls [vI v] μ r μ' :=
  V_ret (r0 := v) (by rw [hrt]; rfl) h (fun h => by rw [hrt]; exact h) (fun p l e R s m args below meth c H locs Qc free ad ls' hx hb hr hlk hq hf => W.iret hx hb (hr.trans hrt) hq hf hd hlk)
theorem V_zret {v : Int} (hrt : M.2.2.2 = some .boolean) (hv : v = 0 ∨ v = 1) (h : some (v, μ) = some (r, μ')) (hd : decode M.2.1 pc = .ok (.ireturn, 1)) : VV d M pc ls [vI v] μ r μ' :=
  V_ret (r0 := v) (by rw [hrt]; rfl) h (fun h => by rw [hrt]; exact h) (fun p l e R s m args below meth c H locs Qc free ad ls' hx hb hr hlk hq hf => W.zret hx hb (hr.trans hrt) (by rcases hv with rfl | rfl <;> rfl) hq hf hd hlk)
theorem V_lret {v : Int} (hrt : M.2.2.2 = some .long) (h : some (v, μ) = some (r, μ')) (hd : decode M.2.1 pc = .ok (.lreturn, 1)) : VV d M pc ls [vL v] μ r μ' :=
  V_ret (r0 := v) (by rw [hrt]; rfl) h (fun h => by rw [hrt]; exact h) (fun p l e R s m args below meth c H locs Qc free ad ls' hx hb hr hlk hq hf => W.lret hx hb (hr.trans hrt) hq hf hd hlk)
theorem vC_nat (t : Nat) : vC (t : Int) = vR t := by
  rw [vC_r (by omega)]; rfl
theorem V_aret {t : Nat} {C : String} (hrt : M.2.2.2 = some (.object C)) (h : some ((t : Int), μ) = some (r, μ')) (hd : decode M.2.1 pc = .ok (.areturn, 1)) : VV d M pc ls [vR t] μ r μ' :=
  V_ret (r0 := (t : Int)) (by rw [hrt]; show [vC (t : Int)] = [vR t]; rw [vC_nat]) h (fun h => by rw [hrt]; exact h) (fun p l e R s m args below meth c H locs Qc free ad ls' hx hb hr hlk hq hf => W.aret (rt := .object C) (v := .ref (ad t)) hx hb (hr.trans hrt) (Or.inl ⟨_, rfl⟩) (Or.inr ⟨_, rfl⟩) hq hf hd hlk)
theorem V_aretN {C : String} (hrt : M.2.2.2 = some (.object C)) (h : some ((-1 : Int), μ) = some (r, μ')) (hd : decode M.2.1 pc = .ok (.areturn, 1)) : VV d M pc ls [vN] μ r μ' :=
  V_ret (r0 := -1) (by rw [hrt]; show [vC (-1)] = [vN]; rw [vC_n rfl]) h (fun h => by rw [hrt]; exact h) (fun p l e R s m args below meth c H locs Qc free ad ls' hx hb hr hlk hq hf => W.aret (rt := .object C) (v := .null) hx hb (hr.trans hrt) (Or.inl ⟨_, rfl⟩) (Or.inl rfl) hq hf hd hlk)
theorem V_vret {r0 : Int} (hrt : M.2.2.2 = none) (h : some (r0, μ) = some (r, μ')) (hd : decode M.2.1 pc = .ok (.return_, 1)) : VV d M pc ls [] μ r μ' := by
  cases h
  intro p l e s m args below meth c H locs dC dI D ad ls' C hH hS hn hl hs
  obtain ⟨hx, hb, hml, hr2, hown, hts, hlk, hK, hP, hN⟩ := id C
  exact W.vret hx hb (hr2.trans hrt) (fun t ht hW => ⟨⟨by rw [hrt]; rfl, by rw [hrt]; trivial, by rw [ht]; exact hH⟩, hS.F ht⟩) hS.2.2 hd hlk
/-! switches -/
theorem V_tsIn {dflt lo hi off : Int} {offs : Array Int} {len : Nat} {x k : Int} (hx0 : x = k) (hd : decode M.2.1 pc = .ok (.tableswitch dflt lo hi offs, len)) (h1 : decide (lo ≤ k) = true) (h2 : decide (k ≤ hi) = true) (ho : offs[(k - lo).toNat]? = some off) (ht : (pc : Int) + off = (q : Int)) (kk : VV d M q ls st μ r μ') : VV d M pc ls (vI x :: st) μ r μ' := by
  subst hx0
  refine VV_pure (st2 := st) (fun h => ok_t h) (fun p l e R s m args below meth c H locs Q ad ls' hx hb h k2 => ?_) kk
  have h1' := of_decide_eq_true h1
  have h2' := of_decide_eq_true h2
  exact lv_tableIn hx hb hd (by rw [rI_32 (ok_h h)]; omega) (by rw [rI_32 (ok_h h)]; omega) (by rw [rI_32 (ok_h h)]; exact ho) ht k2
theorem V_tsOut {dflt lo hi : Int} {offs : Array Int} {len : Nat} {x : Int} (hd : decode M.2.1 pc = .ok (.tableswitch dflt lo hi offs, len)) (h : x < lo ∨ hi < x) (ht : (pc : Int) + dflt = (q : Int)) (kk : VV d M q ls st μ r μ') : VV d M pc ls (vI x :: st) μ r μ' := by
  refine VV_pure (st2 := st) (fun h => ok_t h) (fun p l e R s m args below meth c H locs Q ad ls' hx hb h3 k2 => ?_) kk
  exact lv_tableOut hx hb hd (by rw [rI_32 (ok_h h3)]; exact h) ht k2
theorem V_ls {dflt off : Int} {ps : Array (Int × Int)} {len : Nat} {x : Int} (hd : decode M.2.1 pc = .ok (.lookupswitch dflt ps, len)) (hp : (ps.toList.zip (ps.toList.drop 1)).all (fun (a, next) => a.1 < next.1) = true) (ho : Op.lookupswitch.offset ps.toList dflt x = off) (ht : (pc : Int) + off = (q : Int)) (kk : VV d M q ls st μ r μ') : VV d M pc ls (vI x :: st) μ r μ' := by
  refine VV_pure (st2 := st) (fun h => ok_t h) (fun p l e R s m args below meth c H locs Q ad ls' hx hb h3 k2 => ?_) kk
  exact lv_lookup hx hb hd hp (by rw [rI_32 (ok_h h3)]; exact ho) ht k2
def mW (y : MethodName) (cc : ByteArray) (nl : Nat) (ty : FieldType) (own : String) (idx : Nat) : Prop := Cond.methodLink own idx y ∈ tG ∧ Cond.static y ∈ tG ∧ Cond.initialized "java/lang/Math" ∈ tG ∧ Cond.code y cc nl (some ty) ∈ tG
theorem V_mmax {a b : Int} {idx : Nat} (hm : mW Lib.Math.max.name Lib.Math.max.code 2 .int M.1.cls idx) (hd1 : 1 ≤ d) (hw : Nat.ble (st.map wd).sum 8 = true) (hd : decode M.2.1 pc = .ok (.invokestatic idx, 3)) (hq : pc + 3 = q) (k : VV d M q ls (vI (mX a b) :: st) μ r μ') : VV d M pc ls (vI b :: vI a :: st) μ r μ' := by
  subst hq
  intro p l e s m args below meth c H locs dC dI D ad ls' C hH hS hn' hl hs
  obtain ⟨hx, hb, hml, hrt, hown, hts, hlk, hK, hP, hN⟩ := id C
  obtain ⟨h1, h2, h3, h4⟩ := hm
  have ha := ok_h (ok_t hs)
  have hb1 := ok_h hs
  have h9 : (st.map wd).sum ≤ 8 := Nat.le_of_ble_eq_true hw
  refine va_mmax hx hb (by rw [hml, hl.1, hn']) hown (hts _ h1) (hts _ h2) (hts _ h3) (hts _ h4) (by show 1 ≤ d; exact hd1) (by rw [wd_sum]; show _ ≤ 100 * d; omega) (Nat.le_refl 0) (Nat.le_refl 0) hd ?_
  have ee : (if Int32.ofInt a < Int32.ofInt b then Int32.ofInt b else Int32.ofInt a) = Int32.ofInt (mX a b) := by
    unfold mX
    by_cases h : a < b
    · rw [if_pos ((o32_lt ha hb1).mpr h), if_neg (show ¬ b < a by omega)]
    · rw [if_neg (fun z => h ((o32_lt ha hb1).mp z))]
      by_cases h2 : b < a
      · rw [if_pos h2]
      · rw [if_neg h2, show a = b by omega]
  rw [ee]
  exact k p l e s m args below meth c H locs dC dI D ad ls' C hH hS hn' hl (ok_c (v := vI (mX a b)) (by unfold mX; split; exact ha; exact hb1) (ok_t (ok_t hs)))
theorem V_mmin {a b : Int} {idx : Nat} (hm : mW Lib.Math.min.name Lib.Math.min.code 2 .int M.1.cls idx) (hd1 : 1 ≤ d) (hw : Nat.ble (st.map wd).sum 8 = true) (hd : decode M.2.1 pc = .ok (.invokestatic idx, 3)) (hq : pc + 3 = q) (k : VV d M q ls (vI (mN a b) :: st) μ r μ') : VV d M pc ls (vI b :: vI a :: st) μ r μ' := by
  subst hq
  intro p l e s m args below meth c H locs dC dI D ad ls' C hH hS hn' hl hs
  obtain ⟨hx, hb, hml, hrt, hown, hts, hlk, hK, hP, hN⟩ := id C
  obtain ⟨h1, h2, h3, h4⟩ := hm
  have ha := ok_h (ok_t hs)
  have hb1 := ok_h hs
  have h9 : (st.map wd).sum ≤ 8 := Nat.le_of_ble_eq_true hw
  refine va_mmin hx hb (by rw [hml, hl.1, hn']) hown (hts _ h1) (hts _ h2) (hts _ h3) (hts _ h4) (by show 1 ≤ d; exact hd1) (by rw [wd_sum]; show _ ≤ 100 * d; omega) (Nat.le_refl 0) (Nat.le_refl 0) hd ?_
  have ee : (if Int32.ofInt b < Int32.ofInt a then Int32.ofInt b else Int32.ofInt a) = Int32.ofInt (mN a b) := by
    unfold mN
    by_cases h : b < a
    · rw [if_pos h, if_pos ((o32_lt hb1 ha).mpr h)]
    · rw [if_neg h, if_neg (fun z => h ((o32_lt hb1 ha).mp z))]
  rw [ee]
  exact k p l e s m args below meth c H locs dC dI D ad ls' C hH hS hn' hl (ok_c (v := vI (mN a b)) (by unfold mN; split; exact hb1; exact ha) (ok_t (ok_t hs)))
theorem V_lmax {a b : Int} {idx : Nat} (hm : mW Lib.MathLoose.max_long.x Lib.MathLoose.max_long.code 4 .long M.1.cls idx) (hd1 : 1 ≤ d) (hw : Nat.ble (st.map wd).sum 8 = true) (hd : decode M.2.1 pc = .ok (.invokestatic idx, 3)) (hq : pc + 3 = q) (k : VV d M q ls (vL (mX a b) :: st) μ r μ') : VV d M pc ls (vL b :: vL a :: st) μ r μ' := by
  subst hq
  intro p l e s m args below meth c H locs dC dI D ad ls' C hH hS hn' hl hs
  obtain ⟨hx, hb, hml, hrt, hown, hts, hlk, hK, hP, hN⟩ := id C
  obtain ⟨h1, h2, h3, h4⟩ := hm
  have ha : rL a := ok_h (ok_t hs)
  have hb1 : rL b := ok_h hs
  have h9 : (st.map wd).sum ≤ 8 := Nat.le_of_ble_eq_true hw
  refine va_mmax_long hx hb (by rw [hml, hl.1, hn']) hown (hts _ h1) (hts _ h2) (hts _ h3) (hts _ h4) (by show 1 ≤ d; exact hd1) (by rw [wd_sum]; show _ ≤ 100 * d; omega) (Nat.le_refl 0) (Nat.le_refl 0) hd ?_
  have ee : (if Int64.ofInt b < Int64.ofInt a then Int64.ofInt a else Int64.ofInt b) = Int64.ofInt (mX a b) := by
    unfold mX
    by_cases h : b < a
    · rw [if_pos h, if_pos ((o64_lt hb1 ha).mpr h)]
    · rw [if_neg h, if_neg (fun z => h ((o64_lt hb1 ha).mp z))]
  rw [ee]
  exact k p l e s m args below meth c H locs dC dI D ad ls' C hH hS hn' hl (ok_c (v := vL (mX a b)) (by unfold mX; split; exact ha; exact hb1) (ok_t (ok_t hs)))
theorem V_lmin {a b : Int} {idx : Nat} (hm : mW Lib.MathLoose.min_long.x Lib.MathLoose.min_long.code 4 .long M.1.cls idx) (hd1 : 1 ≤ d) (hw : Nat.ble (st.map wd).sum 8 = true) (hd : decode M.2.1 pc = .ok (.invokestatic idx, 3)) (hq : pc + 3 = q) (k : VV d M q ls (vL (mN a b) :: st) μ r μ') : VV d M pc ls (vL b :: vL a :: st) μ r μ' := by
  subst hq
  intro p l e s m args below meth c H locs dC dI D ad ls' C hH hS hn' hl hs
  obtain ⟨hx, hb, hml, hrt, hown, hts, hlk, hK, hP, hN⟩ := id C
  obtain ⟨h1, h2, h3, h4⟩ := hm
  have ha : rL a := ok_h (ok_t hs)
  have hb1 : rL b := ok_h hs
  have h9 : (st.map wd).sum ≤ 8 := Nat.le_of_ble_eq_true hw
  refine va_mmin_long hx hb (by rw [hml, hl.1, hn']) hown (hts _ h1) (hts _ h2) (hts _ h3) (hts _ h4) (by show 1 ≤ d; exact hd1) (by rw [wd_sum]; show _ ≤ 100 * d; omega) (Nat.le_refl 0) (Nat.le_refl 0) hd ?_
  have ee : (if Int64.ofInt b < Int64.ofInt a then Int64.ofInt b else Int64.ofInt a) = Int64.ofInt (mN a b) := by
    unfold mN
    by_cases h : b < a
    · rw [if_pos h, if_pos ((o64_lt hb1 ha).mpr h)]
    · rw [if_neg h, if_neg (fun z => h ((o64_lt hb1 ha).mp z))]
  rw [ee]
  exact k p l e s m args below meth c H locs dC dI D ad ls' C hH hS hn' hl (ok_c (v := vL (mN a b)) (by unfold mN; split; exact hb1; exact ha) (ok_t (ok_t hs)))
theorem VV_top {v w : AV} (h : v = w) (k : VV d M pc ls (w :: st) μ r μ') : VV d M pc ls (v :: st) μ r μ' := by rw [h]; exact k
theorem V_ts1 {dflt lo hi off : Int} {offs : Array Int} {len : Nat} {x : Int} (k : Int) (hd : decode M.2.1 pc = .ok (.tableswitch dflt lo hi offs, len)) (h1 : decide (lo ≤ k) = true) (h2 : decide (k ≤ hi) = true) (ho : offs[(k - lo).toNat]? = some off) (ht : (pc : Int) + off = (q : Int)) (kt : x = k → VV d M q ls st μ r μ') (kf : ¬ x = k → VV d M pc ls (vI x :: st) μ r μ') : VV d M pc ls (vI x :: st) μ r μ' := by
  by_cases h : x = k
  · exact V_tsIn h hd h1 h2 ho ht (kt h)
  · exact kf h
theorem V_ls1 {dflt off : Int} {ps : Array (Int × Int)} {len : Nat} {x : Int} (k : Int) (hd : decode M.2.1 pc = .ok (.lookupswitch dflt ps, len)) (hp : (ps.toList.zip (ps.toList.drop 1)).all (fun (a, next) => a.1 < next.1) = true) (ho : Op.lookupswitch.offset ps.toList dflt k = off) (ht : (pc : Int) + off = (q : Int)) (kt : x = k → VV d M q ls st μ r μ') (kf : ¬ x = k → VV d M pc ls (vI x :: st) μ r μ') : VV d M pc ls (vI x :: st) μ r μ' := by
  by_cases h : x = k
  · exact V_ls hd hp (by rw [h]; exact ho) ht (kt h)
  · exact kf h
theorem V_cV1 {d1 idx n b ci nf : Nat} {M1 : Mth} {As : List AV} {r1 : Int} {μ1 : Mm} (v : AV) (hM : CC d1 M1 (vR b :: As) μ r1 μ1) (hd1 : d1 + 1 ≤ d) (hm : mV M.1.cls idx M1 n) (hkb : kD b = (ci + 10, nf)) (hci : (vwCl[ci]?).map (fun q => q.1) = some M1.1.cls) (hl : As.length = n) (hr : rT M1.2.2.2 r1 = [v]) (hst : st0 = As.reverse ++ vR b :: st) (hw : Nat.ble (st.map wd).sum 8 = true)
    (hd : decode M.2.1 pc = .ok (.invokevirtual idx, 3)) (hq : pc + 3 = q) (k : VV d M q ls (v :: st) μ1 r μ') : VV d M pc ls st0 μ r μ' :=
  V_callV hM hd1 hm hkb hci hl hst hw hd hq (by rw [hr]; exact k)
theorem V_cV0 {d1 idx n b ci nf : Nat} {M1 : Mth} {As : List AV} {r1 : Int} {μ1 : Mm} (hM : CC d1 M1 (vR b :: As) μ r1 μ1) (hd1 : d1 + 1 ≤ d) (hm : mV M.1.cls idx M1 n) (hkb : kD b = (ci + 10, nf)) (hci : (vwCl[ci]?).map (fun q => q.1) = some M1.1.cls) (hl : As.length = n) (hr : rT M1.2.2.2 r1 = []) (hst : st0 = As.reverse ++ vR b :: st) (hw : Nat.ble (st.map wd).sum 8 = true)
    (hd : decode M.2.1 pc = .ok (.invokevirtual idx, 3)) (hq : pc + 3 = q) (k : VV d M q ls st μ1 r μ') : VV d M pc ls st0 μ r μ' :=
  V_callV hM hd1 hm hkb hci hl hst hw hd hq (by rw [hr]; exact k)
theorem V_cS1 {d1 idx n : Nat} {M1 : Mth} {As : List AV} {r1 : Int} {μ1 : Mm} (v : AV) (hM : CC d1 M1 As μ r1 μ1) (hd1 : d1 + 1 ≤ d) (hm : mS M.1.cls idx M1 n) (hl : As.length = n) (hr : rT M1.2.2.2 r1 = [v]) (hst : st0 = As.reverse ++ st) (hw : Nat.ble (st.map wd).sum 8 = true)
    (hd : decode M.2.1 pc = .ok (.invokestatic idx, 3)) (hq : pc + 3 = q) (k : VV d M q ls (v :: st) μ1 r μ') : VV d M pc ls st0 μ r μ' :=
  V_callS hM hd1 hm hl hst hw hd hq (by rw [hr]; exact k)
theorem V_cS0 {d1 idx n : Nat} {M1 : Mth} {As : List AV} {r1 : Int} {μ1 : Mm} (hM : CC d1 M1 As μ r1 μ1) (hd1 : d1 + 1 ≤ d) (hm : mS M.1.cls idx M1 n) (hl : As.length = n) (hr : rT M1.2.2.2 r1 = []) (hst : st0 = As.reverse ++ st) (hw : Nat.ble (st.map wd).sum 8 = true)
    (hd : decode M.2.1 pc = .ok (.invokestatic idx, 3)) (hq : pc + 3 = q) (k : VV d M q ls st μ1 r μ') : VV d M pc ls st0 μ r μ' :=
  V_callS hM hd1 hm hl hst hw hd hq (by rw [hr]; exact k)
theorem sb_n {a b : List (Option AV)} {w : Option AV} (h : sb_ a b) : sb_ (none :: a) (w :: b) := h
theorem sb_s {a b : List (Option AV)} {v : AV} {w : Option AV} (h1 : w = some v) (h : sb_ a b) : sb_ (some v :: a) (w :: b) := ⟨h1, h⟩
theorem sb_0 : sb_ [] [] := trivial
/-! arraycopy from 0 to 0 -/
def mC (own : String) (idx : Nat) : Prop := Cond.methodLink own idx arraycopyName ∈ tG ∧ Cond.native arraycopyName ∈ tG ∧ Cond.static arraycopyName ∈ tG ∧ Cond.initialized "java/lang/System" ∈ tG
theorem V_copy {idx a b na nb : Nat} {n : Int} (hm : mC M.1.cls idx) (hd1 : 1 ≤ d) (hka : kD a = (0, na)) (hkb : kD b = (0, nb)) (hn : 0 ≤ n ∧ n ≤ aN a ∧ n ≤ aN b) (hw : Nat.ble (st.map wd).sum 8 = true) (hd : decode M.2.1 pc = .ok (.invokestatic idx, 3)) (hq : pc + 3 = q) (k : VV d M q ls st (cA_ μ a b n) r μ') : VV d M pc ls (vI n :: vI 0 :: vR b :: vI 0 :: vR a :: st) μ r μ' := by
  subst hq
  intro p l e s m args below meth c H locs dC dI D ad ls' C hH hS hn' hl hs
  obtain ⟨hx, hb, hml, hrt, hown, hts, hlk, hK, hP, hN⟩ := id C
  obtain ⟨h1, h2, h3, h4⟩ := hm
  have hrn : rI n := ok_h hs
  have ha1 : aN a = na := by unfold aN; rw [hka]
  have hb1 : aN b = nb := by unfold aN; rw [hkb]
  have ha : a < nC := kD_e hka (by decide)
  have hb2 : b < nC := kD_e hkb (by decide)
  have hDd : va_D (aA ad s.heap.size) (wO D ad μ) := vD_of hP (fun k hk => aA_k hk)
  have ea : (wO D ad μ)[a]? = some (ad a, .inl (D.1, na, .inl (fun j => Int32.ofInt (μ a j)))) := by rw [wO_at D ad μ ha, eN_i hka]
  have eb : (wO D ad μ)[b]? = some (ad b, .inl (D.1, nb, .inl (fun j => Int32.ofInt (μ b j)))) := by rw [wO_at D ad μ hb2, eN_i hkb]
  have z0 : (Int32.ofInt 0).toNatClampNeg = 0 := rfl
  have zn : (Int32.ofInt n).toNatClampNeg = n.toNat := o32_nat hrn hn.1
  refine va_copyi hx hb (by rw [hml, hl.1, hn']) hown (hts _ h1) (hts _ h2) (hts _ h3) (hts _ h4) hK hH.1 hDd hS a b 0 0 ea eb rfl rfl rfl (sp := Int32.ofInt 0) (dp := Int32.ofInt 0) (n := Int32.ofInt n) (fun h => by cases h) (fun h => by cases h) (fun h => ?_) (by rw [z0, zn]; omega) (by rw [z0, zn]; omega) (fun _ _ => rfl) (by show 1 ≤ d; exact hd1) ?_ hd (fun H1 locs1 hP1 _ hS1 => ?_)
  · have := (o32_lt hrn rI_0).mp h
    omega
  · rw [wd_sum]
    have h9 : (st.map wd).sum ≤ 8 := Nat.le_of_ble_eq_true hw
    have h8 : nativeFrameWords "java/lang/System" "arraycopy" 5 ≤ 60 := by decide +kernel
    show _ ≤ 100 * d
    omega
  · rw [z0, zn] at hP1
    have e1 : (wO D ad μ).set b (ad b, .inl (D.1, nb, .inl (va_cpy (fun j => Int32.ofInt (μ a j)) (fun j => Int32.ofInt (μ b j)) 0 0 n.toNat))) = wO D ad (cA_ μ a b n) := by
      refine wO_set hb2 ?_ (fun j hj => eN_congr ?_)
      · rw [eN_i hkb]
        congr 3
        congr 1
        funext j
        have e2 : ((j : Int) < n) ↔ j < n.toNat := by omega
        simp only [va_cpy, cA_]
        by_cases h : j < n.toNat
        · simp [h, e2]
        · simp [h, e2]
      · funext i
        simp [cA_, hj]
    rw [e1] at hP1
    refine k p l e s m args below meth c H1 locs1 dC dI D ad ls' C ⟨hP1, fun i j => ?_⟩ hS1 hn' hl (ok_t (ok_t (ok_t (ok_t (ok_t hs)))))
    unfold cA_
    split
    · exact hH.2 a j
    · exact hH.2 i j
/-! a method's entry -/
def lA_ : List AV → List (Option AV)
  | [] => []
  | .inr (.inl a) :: t => some (vL a) :: none :: lA_ t
  | v :: t => some v :: lA_ t
theorem lA_len (ad : Nat → Nat) : ∀ av : List AV, (lg_sl (av.map (cV ad))).length = (lA_ av).length
  | [] => rfl
  | .inr (.inl a) :: t => by
    have := lA_len ad t
    unfold lg_sl at this
    show (List.flatMap _ (cV ad (.inr (.inl a)) :: t.map (cV ad))).length = (lA_ t).length + 2
    rw [List.flatMap_cons, List.length_append, this]
    show 2 + _ = _
    omega
  | .inl a :: t => by
    have := lA_len ad t
    unfold lg_sl at this
    show (List.flatMap _ (cV ad (.inl a) :: t.map (cV ad))).length = (lA_ t).length + 1
    rw [List.flatMap_cons, List.length_append, this]
    show 1 + _ = _
    omega
  | .inr (.inr (some a)) :: t => by
    have := lA_len ad t
    unfold lg_sl at this
    show (List.flatMap _ (cV ad (.inr (.inr (some a))) :: t.map (cV ad))).length = (lA_ t).length + 1
    rw [List.flatMap_cons, List.length_append, this]
    show 1 + _ = _
    omega
  | .inr (.inr none) :: t => by
    have := lA_len ad t
    unfold lg_sl at this
    show (List.flatMap _ (cV ad (.inr (.inr none)) :: t.map (cV ad))).length = (lA_ t).length + 1
    rw [List.flatMap_cons, List.length_append, this]
    show 1 + _ = _
    omega
theorem lA_arg (ad : Nat → Nat) : ∀ (av : List AV) (b i : Nat) (v : AV), (lA_ av)[i]? = some (some v) → (b + i, cV ad v) ∈ lv_args b (av.map (cV ad)) ∧ v ∈ av
  | [], b, i, v, h => by simp [lA_] at h
  | .inr (.inl a) :: t, b, i, v, h => by
    rcases i with _ | _ | i
    · simp [lA_] at h; subst h; simp [lv_args]
    · simp [lA_] at h
    · have h' : (lA_ t)[i]? = some (some v) := by simpa [lA_] using h
      obtain ⟨h1, h2⟩ := lA_arg ad t (b + 2) i v h'
      refine ⟨?_, List.mem_cons_of_mem _ h2⟩
      rw [List.map_cons, lv_args]
      refine List.mem_cons_of_mem _ ?_
      have e : b + (i + 1 + 1) = b + 2 + i := by omega
      rw [e]
      exact h1
  | .inl a :: t, b, i, v, h => by
    rcases i with _ | i
    · simp [lA_] at h; subst h; simp [lv_args]
    · have h' : (lA_ t)[i]? = some (some v) := by simpa [lA_] using h
      obtain ⟨h1, h2⟩ := lA_arg ad t (b + 1) i v h'
      refine ⟨?_, List.mem_cons_of_mem _ h2⟩
      rw [List.map_cons, lv_args]
      refine List.mem_cons_of_mem _ ?_
      have e : b + (i + 1) = b + 1 + i := by omega
      rw [e]
      exact h1
  | .inr (.inr (some a)) :: t, b, i, v, h => by
    rcases i with _ | i
    · simp [lA_] at h; subst h; simp [lv_args]
    · have h' : (lA_ t)[i]? = some (some v) := by simpa [lA_] using h
      obtain ⟨h1, h2⟩ := lA_arg ad t (b + 1) i v h'
      refine ⟨?_, List.mem_cons_of_mem _ h2⟩
      rw [List.map_cons, lv_args]
      refine List.mem_cons_of_mem _ ?_
      have e : b + (i + 1) = b + 1 + i := by omega
      rw [e]
      exact h1
  | .inr (.inr none) :: t, b, i, v, h => by
    rcases i with _ | i
    · simp [lA_] at h; subst h; simp [lv_args]
    · have h' : (lA_ t)[i]? = some (some v) := by simpa [lA_] using h
      obtain ⟨h1, h2⟩ := lA_arg ad t (b + 1) i v h'
      refine ⟨?_, List.mem_cons_of_mem _ h2⟩
      rw [List.map_cons, lv_args]
      refine List.mem_cons_of_mem _ ?_
      have e : b + (i + 1) = b + 1 + i := by omega
      rw [e]
      exact h1
theorem V_enter {av : List AV} (hy : plainName M.1.cls = true) (hle : (lA_ av).length ≤ M.2.2.1) (k : VV d M 0 (lA_ av ++ List.replicate (M.2.2.1 - (lA_ av).length) none) [] μ r μ') : CC d M av μ r μ' := by
  intro l dC dI D ad sz hP
  refine Met.ofW (cc := M.2.1) (maxL := M.2.2.1) (ret := M.2.2.2) hy rfl ?_
  intro p e s m args below meth c s₁ B hml hv
  obtain ⟨rfl, hsz, hH, hK, hN, hok⟩ := hv
  subst hsz
  have hts : ∀ w ∈ tG, w.before _ s = true := fun w hw => atoms_spec (ws := wM M) B.pre w (List.mem_cons_of_mem _ hw)
  have hown : s.vm.findClass M.1.cls = some m.cls := findClass_of_methodNamed B.named
  rw [lg_entry_eq]
  have hl := lv_entry (av.map (cV ad)) (n := M.2.2.1) (by rw [lA_len]; exact hle)
  refine k p l e s m _ below meth c s.heap [] dC dI D ad _ ⟨B.exec, B.bytes, hml, B.returns, hown, hts, B.notSynchronized, hK, hP, hN⟩ hH va_S.rf (by simp; omega) ⟨by rw [hl.1]; simp; omega, hl.2.1, fun i v hi => ?_⟩ (fun v hv => by cases hv)
  by_cases h : i < (lA_ av).length
  · rw [List.getElem?_append_left h] at hi
    obtain ⟨h1, h2⟩ := lA_arg ad av 0 i v hi
    exact ⟨hl.2.2 (i, cV ad v) (by simpa using h1), hok v h2⟩
  · rw [List.getElem?_append_right (by omega)] at hi
    have := List.mem_of_getElem? hi
    rw [List.mem_replicate] at this
    cases this.2
end VC_
