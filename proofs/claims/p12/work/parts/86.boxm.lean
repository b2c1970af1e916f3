/-! BOXES of the reference, what it may write when it is asked, and what its kept cells bear -/
def bmO : List (Int × Int) := [(-2147483648, 2147483647), (-2147483648, 2147483647), (0, 160), (0, 1000), (-1, 1000), (-2147483648, 2147483647), (-2147483648, 2147483647), (-2147483648, 2147483647), (-2147483648, 2147483647), (-2147483648, 2147483647), (-2147483648, 2147483647), (-2147483648, 2147483647), (-2147483648, 2147483647), (0, 4), (0, 4), (-2147483648, 2147483647), (-2147483648, 2147483647), (-2147483648, 2147483647), (0, 7), (0, 9), (-2147483648, 2147483647), (0, 1), (-2147483648, 2147483647), (0, 6), (0, 9), (-2147483648, 2147483647), (-2147483648, 2147483647), (-2147483648, 2147483647), (0, 5), (-2147483648, 2147483647), (1, 9), (0, 99), (-1, 3), (-2147483648, 2147483647), (-2147483648, 2147483647), (-2147483648, 2147483647), (-2147483648, 2147483647), (0, 8), (-2147483648, 2147483647), (-2147483648, 2147483647), (-2147483648, 2147483647), (-2147483648, 2147483647), (-2147483648, 2147483647), (-2147483648, 2147483647), (-2147483648, 2147483647), (0, 10), (-2147483648, 2147483647), (-2147483648, 2147483647), (-2147483648, 2147483647), (-2147483648, 2147483647), (-2147483648, 2147483647), (0, 9), (0, 99), (0, 1)]
def bmR : List (Int × Int) := [(-2147483648, 2147483647), (-2147483648, 2147483647), (-2147483648, 2147483647), (0, 340), (0, 90), (-2147483648, 2147483647), (-2147483648, 2147483647), (-2147483648, 2147483647), (-2147483648, 2147483647), (-2147483648, 2147483647), (-1, 10), (0, 10), (-2147483648, 2147483647), (-2147483648, 2147483647), (0, 8), (0, 30), (-2147483648, 2147483647), (-2147483648, 2147483647), (-2147483648, 2147483647), (-2147483648, 2147483647), (-2147483648, 2147483647), (-2147483648, 2147483647), (0, 999), (0, 7), (-2147483648, 2147483647), (0, 10), (0, 30)]
def bm (k j : Nat) : Int × Int := if k = 70 then bmO.getD j (-2147483648, 2147483647) else bmR.getD (k - 71) (-2147483648, 2147483647)
def Bm (μ : Mm) : Prop := ∀ k j, 70 ≤ k → (bm k j).1 ≤ μ k j ∧ μ k j ≤ (bm k j).2
def scrM (k j : Nat) : Prop := k = 79 ∨ k = 80 ∨ (87 ≤ k ∧ k ≤ 92) ∨ k = 95 ∨ (k = 70 ∧ (j = 37 ∨ j = 38 ∨ j = 41 ∨ j = 42 ∨ j = 46 ∨ j = 47))
def Sm (μs μ : Mm) : Prop := Bm μ ∧ fw scrM μs μ
def isP (μ : Mm) (p : Nat) : Prop := ((p / 10 : Nat) : Int) < μ 70 23 ∧ ((p % 10 : Nat) : Int) < μ 70 24
/-- two memories have the same tables of the LAW q -/
def agr (q : Int) (ν μ : Mm) : Prop := (∀ j : Nat, 340 * q ≤ j → (j : Int) < 340 * q + 340 → ν 72 j = μ 72 j ∧ ν 73 j = μ 73 j) ∧ ν 75 q.toNat = μ 75 q.toNat ∧ (∀ j : Nat, 90 * q ≤ j → (j : Int) < 90 * q + 90 → ν 76 j = μ 76 j ∧ ν 77 j = μ 77 j ∧ ν 78 j = μ 78 j)
/-- the LAW q can be worked out in any memory that has its tables -/
def LawOK (μ : Mm) (q : Int) : Prop := ∀ ν : Mm, Bm ν → agr q ν μ → wp (X11_worthOf q ν) (fun r ν' => fw (fun k _ => k = 80) ν ν' ∧ (∀ j, rI (ν' 80 j)) ∧ rI r)
/-- START and each CRANK lie at one place at most -/
def UQ (μ : Mm) (c : Nat) : Prop := ∀ p q, p < 60 → q < 60 → isP μ p → isP μ q → μ c p = μ c q → 2 ≤ μ c p → p = q
/-- what the kept cells bear -/
def Ir (μ : Mm) : Prop := Bm μ ∧ (∀ p k : Nat, (p : Int) < μ 70 28 → (k : Int) < μ 85 p → 0 ≤ μ 83 (8 * p + k) ∧ μ 83 (8 * p + k) ≤ 7) ∧ (μ 70 23 ≠ 0 → ∃ p, p < 60 ∧ isP μ p ∧ μ 82 p = 2) ∧ (μ 70 53 ≠ 0 → ∃ p, p < 60 ∧ isP μ p ∧ μ 96 p = 2) ∧ μ 70 32 < μ 70 13 ∧ (∀ q : Int, 0 ≤ q → q < μ 70 13 → LawOK μ q) ∧ UQ μ 82 ∧ (μ 70 53 ≠ 0 → UQ μ 96)
theorem Sm_rf {μ : Mm} (h : Bm μ) : Sm μ μ := ⟨h, fw_rf⟩
theorem eqS {μs μ : Mm} (h : Sm μs μ) {k j : Nat} (hn : ¬ scrM k j) : μ k j = μs k j := h.2 k j hn
theorem Sm_sM {μs μ : Mm} {a j : Nat} {v : Int} (h : Sm μs μ) (hw : scrM a j) (hv : (bm a j).1 ≤ v ∧ v ≤ (bm a j).2) : Sm μs (sM μ a j v) := by
  refine ⟨fun k i hk => ?_, fw_sM h.2 hw⟩
  unfold sM
  by_cases c : k = a ∧ i = j
  · rw [if_pos c, c.1, c.2]; exact hv
  · rw [if_neg c]; exact h.1 k i hk
theorem PV_at {μs μ : Mm} (hI : Ir μs) (h : Sm μs μ) {p k i : Int} (hp : 0 ≤ p ∧ p < μs 70 28) (hk : 0 ≤ k ∧ k < μs 85 p.toNat) (hi : i = 8 * p + k) : 0 ≤ μ 83 i.toNat ∧ μ 83 i.toNat ≤ 7 := by
  rw [eqS h (by unfold scrM; omega)]
  have h1 := hI.2.1 p.toNat k.toNat (by omega) (by omega)
  have e : i.toNat = 8 * p.toNat + k.toNat := by omega
  rw [e]
  exact h1

theorem gO_11_0 {μs μ : Mm} (h : Sm μs μ) : -2147483648 ≤ μ 70 0 ∧ μ 70 0 ≤ 2147483647 := h.1 70 0 (by decide)
theorem gO_11_1 {μs μ : Mm} (h : Sm μs μ) : -2147483648 ≤ μ 70 1 ∧ μ 70 1 ≤ 2147483647 := h.1 70 1 (by decide)
theorem gO_11_2 {μs μ : Mm} (h : Sm μs μ) : 0 ≤ μ 70 2 ∧ μ 70 2 ≤ 160 := h.1 70 2 (by decide)
theorem gO_11_3 {μs μ : Mm} (h : Sm μs μ) : 0 ≤ μ 70 3 ∧ μ 70 3 ≤ 1000 := h.1 70 3 (by decide)
theorem gO_11_4 {μs μ : Mm} (h : Sm μs μ) : -1 ≤ μ 70 4 ∧ μ 70 4 ≤ 1000 := h.1 70 4 (by decide)
theorem gO_11_5 {μs μ : Mm} (h : Sm μs μ) : -2147483648 ≤ μ 70 5 ∧ μ 70 5 ≤ 2147483647 := h.1 70 5 (by decide)
theorem gO_11_6 {μs μ : Mm} (h : Sm μs μ) : -2147483648 ≤ μ 70 6 ∧ μ 70 6 ≤ 2147483647 := h.1 70 6 (by decide)
theorem gO_11_7 {μs μ : Mm} (h : Sm μs μ) : -2147483648 ≤ μ 70 7 ∧ μ 70 7 ≤ 2147483647 := h.1 70 7 (by decide)
theorem gO_11_8 {μs μ : Mm} (h : Sm μs μ) : -2147483648 ≤ μ 70 8 ∧ μ 70 8 ≤ 2147483647 := h.1 70 8 (by decide)
theorem gO_11_9 {μs μ : Mm} (h : Sm μs μ) : -2147483648 ≤ μ 70 9 ∧ μ 70 9 ≤ 2147483647 := h.1 70 9 (by decide)
theorem gO_11_10 {μs μ : Mm} (h : Sm μs μ) : -2147483648 ≤ μ 70 10 ∧ μ 70 10 ≤ 2147483647 := h.1 70 10 (by decide)
theorem gO_11_11 {μs μ : Mm} (h : Sm μs μ) : -2147483648 ≤ μ 70 11 ∧ μ 70 11 ≤ 2147483647 := h.1 70 11 (by decide)
theorem gO_11_12 {μs μ : Mm} (h : Sm μs μ) : -2147483648 ≤ μ 70 12 ∧ μ 70 12 ≤ 2147483647 := h.1 70 12 (by decide)
theorem gO_11_13 {μs μ : Mm} (h : Sm μs μ) : 0 ≤ μ 70 13 ∧ μ 70 13 ≤ 4 := h.1 70 13 (by decide)
theorem gO_11_14 {μs μ : Mm} (h : Sm μs μ) : 0 ≤ μ 70 14 ∧ μ 70 14 ≤ 4 := h.1 70 14 (by decide)
theorem gO_11_15 {μs μ : Mm} (h : Sm μs μ) : -2147483648 ≤ μ 70 15 ∧ μ 70 15 ≤ 2147483647 := h.1 70 15 (by decide)
theorem gO_11_16 {μs μ : Mm} (h : Sm μs μ) : -2147483648 ≤ μ 70 16 ∧ μ 70 16 ≤ 2147483647 := h.1 70 16 (by decide)
theorem gO_11_17 {μs μ : Mm} (h : Sm μs μ) : -2147483648 ≤ μ 70 17 ∧ μ 70 17 ≤ 2147483647 := h.1 70 17 (by decide)
theorem gO_11_18 {μs μ : Mm} (h : Sm μs μ) : 0 ≤ μ 70 18 ∧ μ 70 18 ≤ 7 := h.1 70 18 (by decide)
theorem gO_11_19 {μs μ : Mm} (h : Sm μs μ) : 0 ≤ μ 70 19 ∧ μ 70 19 ≤ 9 := h.1 70 19 (by decide)
theorem gO_11_20 {μs μ : Mm} (h : Sm μs μ) : -2147483648 ≤ μ 70 20 ∧ μ 70 20 ≤ 2147483647 := h.1 70 20 (by decide)
theorem gO_11_21 {μs μ : Mm} (h : Sm μs μ) : 0 ≤ μ 70 21 ∧ μ 70 21 ≤ 1 := h.1 70 21 (by decide)
theorem gO_11_22 {μs μ : Mm} (h : Sm μs μ) : -2147483648 ≤ μ 70 22 ∧ μ 70 22 ≤ 2147483647 := h.1 70 22 (by decide)
theorem gO_11_23 {μs μ : Mm} (h : Sm μs μ) : 0 ≤ μ 70 23 ∧ μ 70 23 ≤ 6 := h.1 70 23 (by decide)
theorem gO_11_24 {μs μ : Mm} (h : Sm μs μ) : 0 ≤ μ 70 24 ∧ μ 70 24 ≤ 9 := h.1 70 24 (by decide)
theorem gO_11_25 {μs μ : Mm} (h : Sm μs μ) : -2147483648 ≤ μ 70 25 ∧ μ 70 25 ≤ 2147483647 := h.1 70 25 (by decide)
theorem gO_11_26 {μs μ : Mm} (h : Sm μs μ) : -2147483648 ≤ μ 70 26 ∧ μ 70 26 ≤ 2147483647 := h.1 70 26 (by decide)
theorem gO_11_27 {μs μ : Mm} (h : Sm μs μ) : -2147483648 ≤ μ 70 27 ∧ μ 70 27 ≤ 2147483647 := h.1 70 27 (by decide)
theorem gO_11_28 {μs μ : Mm} (h : Sm μs μ) : 0 ≤ μ 70 28 ∧ μ 70 28 ≤ 5 := h.1 70 28 (by decide)
theorem gO_11_29 {μs μ : Mm} (h : Sm μs μ) : -2147483648 ≤ μ 70 29 ∧ μ 70 29 ≤ 2147483647 := h.1 70 29 (by decide)
theorem gO_11_30 {μs μ : Mm} (h : Sm μs μ) : 1 ≤ μ 70 30 ∧ μ 70 30 ≤ 9 := h.1 70 30 (by decide)
theorem gO_11_31 {μs μ : Mm} (h : Sm μs μ) : 0 ≤ μ 70 31 ∧ μ 70 31 ≤ 99 := h.1 70 31 (by decide)
theorem gO_11_32 {μs μ : Mm} (h : Sm μs μ) : -1 ≤ μ 70 32 ∧ μ 70 32 ≤ 3 := h.1 70 32 (by decide)
theorem gO_11_33 {μs μ : Mm} (h : Sm μs μ) : -2147483648 ≤ μ 70 33 ∧ μ 70 33 ≤ 2147483647 := h.1 70 33 (by decide)
theorem gO_11_34 {μs μ : Mm} (h : Sm μs μ) : -2147483648 ≤ μ 70 34 ∧ μ 70 34 ≤ 2147483647 := h.1 70 34 (by decide)
theorem gO_11_35 {μs μ : Mm} (h : Sm μs μ) : -2147483648 ≤ μ 70 35 ∧ μ 70 35 ≤ 2147483647 := h.1 70 35 (by decide)
theorem gO_11_36 {μs μ : Mm} (h : Sm μs μ) : -2147483648 ≤ μ 70 36 ∧ μ 70 36 ≤ 2147483647 := h.1 70 36 (by decide)
theorem gO_11_37 {μs μ : Mm} (h : Sm μs μ) : 0 ≤ μ 70 37 ∧ μ 70 37 ≤ 8 := h.1 70 37 (by decide)
theorem pO_11_37 {μs μ : Mm} {v : Int} (h : Sm μs μ) (hw : scrM 70 37) (hv : 0 ≤ v ∧ v ≤ 8) : Sm μs (sM μ 70 37 v) := Sm_sM h hw hv
theorem gO_11_38 {μs μ : Mm} (h : Sm μs μ) : -2147483648 ≤ μ 70 38 ∧ μ 70 38 ≤ 2147483647 := h.1 70 38 (by decide)
theorem pO_11_38 {μs μ : Mm} {v : Int} (h : Sm μs μ) (hw : scrM 70 38) (hv : -2147483648 ≤ v ∧ v ≤ 2147483647) : Sm μs (sM μ 70 38 v) := Sm_sM h hw hv
theorem gO_11_39 {μs μ : Mm} (h : Sm μs μ) : -2147483648 ≤ μ 70 39 ∧ μ 70 39 ≤ 2147483647 := h.1 70 39 (by decide)
theorem gO_11_40 {μs μ : Mm} (h : Sm μs μ) : -2147483648 ≤ μ 70 40 ∧ μ 70 40 ≤ 2147483647 := h.1 70 40 (by decide)
theorem gO_11_41 {μs μ : Mm} (h : Sm μs μ) : -2147483648 ≤ μ 70 41 ∧ μ 70 41 ≤ 2147483647 := h.1 70 41 (by decide)
theorem pO_11_41 {μs μ : Mm} {v : Int} (h : Sm μs μ) (hw : scrM 70 41) (hv : -2147483648 ≤ v ∧ v ≤ 2147483647) : Sm μs (sM μ 70 41 v) := Sm_sM h hw hv
theorem gO_11_42 {μs μ : Mm} (h : Sm μs μ) : -2147483648 ≤ μ 70 42 ∧ μ 70 42 ≤ 2147483647 := h.1 70 42 (by decide)
theorem pO_11_42 {μs μ : Mm} {v : Int} (h : Sm μs μ) (hw : scrM 70 42) (hv : -2147483648 ≤ v ∧ v ≤ 2147483647) : Sm μs (sM μ 70 42 v) := Sm_sM h hw hv
theorem gO_11_43 {μs μ : Mm} (h : Sm μs μ) : -2147483648 ≤ μ 70 43 ∧ μ 70 43 ≤ 2147483647 := h.1 70 43 (by decide)
theorem gO_11_44 {μs μ : Mm} (h : Sm μs μ) : -2147483648 ≤ μ 70 44 ∧ μ 70 44 ≤ 2147483647 := h.1 70 44 (by decide)
theorem gO_11_45 {μs μ : Mm} (h : Sm μs μ) : 0 ≤ μ 70 45 ∧ μ 70 45 ≤ 10 := h.1 70 45 (by decide)
theorem gO_11_46 {μs μ : Mm} (h : Sm μs μ) : -2147483648 ≤ μ 70 46 ∧ μ 70 46 ≤ 2147483647 := h.1 70 46 (by decide)
theorem pO_11_46 {μs μ : Mm} {v : Int} (h : Sm μs μ) (hw : scrM 70 46) (hv : -2147483648 ≤ v ∧ v ≤ 2147483647) : Sm μs (sM μ 70 46 v) := Sm_sM h hw hv
theorem gO_11_47 {μs μ : Mm} (h : Sm μs μ) : -2147483648 ≤ μ 70 47 ∧ μ 70 47 ≤ 2147483647 := h.1 70 47 (by decide)
theorem pO_11_47 {μs μ : Mm} {v : Int} (h : Sm μs μ) (hw : scrM 70 47) (hv : -2147483648 ≤ v ∧ v ≤ 2147483647) : Sm μs (sM μ 70 47 v) := Sm_sM h hw hv
theorem gO_11_48 {μs μ : Mm} (h : Sm μs μ) : -2147483648 ≤ μ 70 48 ∧ μ 70 48 ≤ 2147483647 := h.1 70 48 (by decide)
theorem gO_11_49 {μs μ : Mm} (h : Sm μs μ) : -2147483648 ≤ μ 70 49 ∧ μ 70 49 ≤ 2147483647 := h.1 70 49 (by decide)
theorem gO_11_50 {μs μ : Mm} (h : Sm μs μ) : -2147483648 ≤ μ 70 50 ∧ μ 70 50 ≤ 2147483647 := h.1 70 50 (by decide)
theorem gO_11_51 {μs μ : Mm} (h : Sm μs μ) : 0 ≤ μ 70 51 ∧ μ 70 51 ≤ 9 := h.1 70 51 (by decide)
theorem gO_11_52 {μs μ : Mm} (h : Sm μs μ) : 0 ≤ μ 70 52 ∧ μ 70 52 ≤ 99 := h.1 70 52 (by decide)
theorem gO_11_53 {μs μ : Mm} (h : Sm μs μ) : 0 ≤ μ 70 53 ∧ μ 70 53 ≤ 1 := h.1 70 53 (by decide)
theorem gA_11_1 {μs μ : Mm} (h : Sm μs μ) (j : Nat) : -2147483648 ≤ μ 71 j ∧ μ 71 j ≤ 2147483647 := h.1 71 j (by decide)
theorem gA_11_2 {μs μ : Mm} (h : Sm μs μ) (j : Nat) : -2147483648 ≤ μ 72 j ∧ μ 72 j ≤ 2147483647 := h.1 72 j (by decide)
theorem gA_11_3 {μs μ : Mm} (h : Sm μs μ) (j : Nat) : -2147483648 ≤ μ 73 j ∧ μ 73 j ≤ 2147483647 := h.1 73 j (by decide)
theorem gA_11_4 {μs μ : Mm} (h : Sm μs μ) (j : Nat) : 0 ≤ μ 74 j ∧ μ 74 j ≤ 340 := h.1 74 j (by decide)
theorem gA_11_5 {μs μ : Mm} (h : Sm μs μ) (j : Nat) : 0 ≤ μ 75 j ∧ μ 75 j ≤ 90 := h.1 75 j (by decide)
theorem gA_11_6 {μs μ : Mm} (h : Sm μs μ) (j : Nat) : -2147483648 ≤ μ 76 j ∧ μ 76 j ≤ 2147483647 := h.1 76 j (by decide)
theorem gA_11_7 {μs μ : Mm} (h : Sm μs μ) (j : Nat) : -2147483648 ≤ μ 77 j ∧ μ 77 j ≤ 2147483647 := h.1 77 j (by decide)
theorem gA_11_8 {μs μ : Mm} (h : Sm μs μ) (j : Nat) : -2147483648 ≤ μ 78 j ∧ μ 78 j ≤ 2147483647 := h.1 78 j (by decide)
theorem gA_11_9 {μs μ : Mm} (h : Sm μs μ) (j : Nat) : -2147483648 ≤ μ 79 j ∧ μ 79 j ≤ 2147483647 := h.1 79 j (by decide)
theorem pA_11_9 {μs μ : Mm} {j : Nat} {v : Int} (h : Sm μs μ) (hw : scrM 79 j) (hv : -2147483648 ≤ v ∧ v ≤ 2147483647) : Sm μs (sM μ 79 j v) := Sm_sM h hw hv
theorem gA_11_10 {μs μ : Mm} (h : Sm μs μ) (j : Nat) : -2147483648 ≤ μ 80 j ∧ μ 80 j ≤ 2147483647 := h.1 80 j (by decide)
theorem pA_11_10 {μs μ : Mm} {j : Nat} {v : Int} (h : Sm μs μ) (hw : scrM 80 j) (hv : -2147483648 ≤ v ∧ v ≤ 2147483647) : Sm μs (sM μ 80 j v) := Sm_sM h hw hv
theorem gA_11_11 {μs μ : Mm} (h : Sm μs μ) (j : Nat) : -1 ≤ μ 81 j ∧ μ 81 j ≤ 10 := h.1 81 j (by decide)
theorem gA_11_12 {μs μ : Mm} (h : Sm μs μ) (j : Nat) : 0 ≤ μ 82 j ∧ μ 82 j ≤ 10 := h.1 82 j (by decide)
theorem gA_11_13 {μs μ : Mm} (h : Sm μs μ) (j : Nat) : -2147483648 ≤ μ 83 j ∧ μ 83 j ≤ 2147483647 := h.1 83 j (by decide)
theorem gA_11_14 {μs μ : Mm} (h : Sm μs μ) (j : Nat) : -2147483648 ≤ μ 84 j ∧ μ 84 j ≤ 2147483647 := h.1 84 j (by decide)
theorem gA_11_15 {μs μ : Mm} (h : Sm μs μ) (j : Nat) : 0 ≤ μ 85 j ∧ μ 85 j ≤ 8 := h.1 85 j (by decide)
theorem gA_11_16 {μs μ : Mm} (h : Sm μs μ) (j : Nat) : 0 ≤ μ 86 j ∧ μ 86 j ≤ 30 := h.1 86 j (by decide)
theorem gA_11_17 {μs μ : Mm} (h : Sm μs μ) (j : Nat) : -2147483648 ≤ μ 87 j ∧ μ 87 j ≤ 2147483647 := h.1 87 j (by decide)
theorem pA_11_17 {μs μ : Mm} {j : Nat} {v : Int} (h : Sm μs μ) (hw : scrM 87 j) (hv : -2147483648 ≤ v ∧ v ≤ 2147483647) : Sm μs (sM μ 87 j v) := Sm_sM h hw hv
theorem gA_11_18 {μs μ : Mm} (h : Sm μs μ) (j : Nat) : -2147483648 ≤ μ 88 j ∧ μ 88 j ≤ 2147483647 := h.1 88 j (by decide)
theorem pA_11_18 {μs μ : Mm} {j : Nat} {v : Int} (h : Sm μs μ) (hw : scrM 88 j) (hv : -2147483648 ≤ v ∧ v ≤ 2147483647) : Sm μs (sM μ 88 j v) := Sm_sM h hw hv
theorem gA_11_19 {μs μ : Mm} (h : Sm μs μ) (j : Nat) : -2147483648 ≤ μ 89 j ∧ μ 89 j ≤ 2147483647 := h.1 89 j (by decide)
theorem pA_11_19 {μs μ : Mm} {j : Nat} {v : Int} (h : Sm μs μ) (hw : scrM 89 j) (hv : -2147483648 ≤ v ∧ v ≤ 2147483647) : Sm μs (sM μ 89 j v) := Sm_sM h hw hv
theorem gA_11_20 {μs μ : Mm} (h : Sm μs μ) (j : Nat) : -2147483648 ≤ μ 90 j ∧ μ 90 j ≤ 2147483647 := h.1 90 j (by decide)
theorem pA_11_20 {μs μ : Mm} {j : Nat} {v : Int} (h : Sm μs μ) (hw : scrM 90 j) (hv : -2147483648 ≤ v ∧ v ≤ 2147483647) : Sm μs (sM μ 90 j v) := Sm_sM h hw hv
theorem gA_11_21 {μs μ : Mm} (h : Sm μs μ) (j : Nat) : -2147483648 ≤ μ 91 j ∧ μ 91 j ≤ 2147483647 := h.1 91 j (by decide)
theorem pA_11_21 {μs μ : Mm} {j : Nat} {v : Int} (h : Sm μs μ) (hw : scrM 91 j) (hv : -2147483648 ≤ v ∧ v ≤ 2147483647) : Sm μs (sM μ 91 j v) := Sm_sM h hw hv
theorem gA_11_22 {μs μ : Mm} (h : Sm μs μ) (j : Nat) : -2147483648 ≤ μ 92 j ∧ μ 92 j ≤ 2147483647 := h.1 92 j (by decide)
theorem pA_11_22 {μs μ : Mm} {j : Nat} {v : Int} (h : Sm μs μ) (hw : scrM 92 j) (hv : -2147483648 ≤ v ∧ v ≤ 2147483647) : Sm μs (sM μ 92 j v) := Sm_sM h hw hv
theorem gA_11_23 {μs μ : Mm} (h : Sm μs μ) (j : Nat) : 0 ≤ μ 93 j ∧ μ 93 j ≤ 999 := h.1 93 j (by decide)
theorem gA_11_24 {μs μ : Mm} (h : Sm μs μ) (j : Nat) : 0 ≤ μ 94 j ∧ μ 94 j ≤ 7 := h.1 94 j (by decide)
theorem gA_11_25 {μs μ : Mm} (h : Sm μs μ) (j : Nat) : -2147483648 ≤ μ 95 j ∧ μ 95 j ≤ 2147483647 := h.1 95 j (by decide)
theorem pA_11_25 {μs μ : Mm} {j : Nat} {v : Int} (h : Sm μs μ) (hw : scrM 95 j) (hv : -2147483648 ≤ v ∧ v ≤ 2147483647) : Sm μs (sM μ 95 j v) := Sm_sM h hw hv
theorem gA_11_26 {μs μ : Mm} (h : Sm μs μ) (j : Nat) : 0 ≤ μ 96 j ∧ μ 96 j ≤ 10 := h.1 96 j (by decide)
theorem gA_11_27 {μs μ : Mm} (h : Sm μs μ) (j : Nat) : 0 ≤ μ 97 j ∧ μ 97 j ≤ 30 := h.1 97 j (by decide)
/-! bits of a set -/
def pc (x : Int) : Int := (List.range 8).foldl (fun s i => if bA (bR x ((i : Nat) : Int)) 1 = 1 then s + 1 else s) 0
theorem pc_n : ∀ x, x < 256 → 0 ≤ pc ((x : Nat) : Int) ∧ pc ((x : Nat) : Int) ≤ 8 := by decide +kernel
theorem pc_r {x : Int} (h : 0 ≤ x ∧ x ≤ 255) : 0 ≤ pc x ∧ pc x ≤ 8 := by
  have e : x = ((x.toNat : Nat) : Int) := by omega
  rw [e]
  exact pc_n x.toNat (by omega)
theorem pcl_n : ∀ c, c < 8 → ∀ x, x < 256 → bA (bR ((x : Nat) : Int) ((c : Nat) : Int)) 1 = 1 → 0 ≤ bA ((x : Nat) : Int) (bX (bL 1 ((c : Nat) : Int)) (-1)) ∧ bA ((x : Nat) : Int) (bX (bL 1 ((c : Nat) : Int)) (-1)) ≤ 255 ∧ pc (bA ((x : Nat) : Int) (bX (bL 1 ((c : Nat) : Int)) (-1))) + 1 = pc ((x : Nat) : Int) := by decide +kernel
theorem pcl {x c : Int} (h : 0 ≤ x ∧ x ≤ 255) (hc : 0 ≤ c ∧ c ≤ 7) : bA (bR x c) 1 ≠ 1 ∨ (0 ≤ bA x (bX (bL 1 c) (-1)) ∧ bA x (bX (bL 1 c) (-1)) ≤ 255 ∧ pc (bA x (bX (bL 1 c) (-1))) + 1 = pc x) := by
  have e : x = ((x.toNat : Nat) : Int) := by omega
  have e2 : c = ((c.toNat : Nat) : Int) := by omega
  rw [e, e2]
  by_cases h1 : bA (bR ((x.toNat : Nat) : Int) ((c.toNat : Nat) : Int)) 1 = 1
  · exact Or.inr (pcl_n c.toNat (by omega) x.toNat (by omega) h1)
  · exact Or.inl h1

theorem t_X11_worthOf {μs : Mm} {l1 : Int} (hI : Ir μs) (_hp : -2147483648 ≤ l1 ∧ l1 ≤ 2147483647) {μ : Mm} (hS : Sm μs μ) (hq : 0 ≤ l1 ∧ l1 < μs 70 13) : wp (X11_worthOf l1 μ) (fun r μ' => Sm μs μ' ∧ (-2147483648 ≤ r ∧ r ≤ 2147483647) ∧ μ' 70 37 = μ 70 37) := by
  have e : ∀ k j, ((72 ≤ k ∧ k ≤ 78) : Prop) → μ k j = μs k j := fun k j hk => eqS hS (by unfold scrM; omega)
  refine wp_mono (hI.2.2.2.2.2.1 l1 hq.1 hq.2 μ hS.1 ⟨fun j _ _ => ⟨e 72 j (by omega), e 73 j (by omega)⟩, e 75 _ (by omega), fun j _ _ => ⟨e 76 j (by omega), e 77 j (by omega), e 78 j (by omega)⟩⟩) (fun r μ' h => ⟨⟨fun k j hk => ?_, fun k j hn => ?_⟩, h.2.2, h.1 70 37 (by decide)⟩)
  · by_cases hkk : k = 80
    · rw [hkk]; exact h.2.1 j
    · rw [h.1 k j hkk]; exact hS.1 k j hk
  · have hkk : k ≠ 80 := fun e => hn (by unfold scrM; omega)
    rw [h.1 k j hkk]; exact hS.2 k j hn

