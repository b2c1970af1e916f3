/-! THE MATHEMATICS: what a pure function does, by a postcondition -/
def wp (x : Rs) (Q : Int → Mm → Prop) : Prop := match x with
  | none => False
  | some q => Q q.1 q.2
theorem wp_some (r : Int) (μ : Mm) (Q : Int → Mm → Prop) : wp (some (r, μ)) Q = Q r μ := rfl
theorem wp_none (Q : Int → Mm → Prop) : wp none Q = False := rfl
theorem wp_bd (x : Rs) (f : Int → Mm → Rs) (Q : Int → Mm → Prop) : wp (bd x f) Q = wp x (fun r μ => wp (f r μ) Q) := by
  cases x <;> rfl
theorem wp_lt (x : Int) (f : Int → Rs) (Q : Int → Mm → Prop) : wp (lt_ x f) Q = wp (f x) Q := rfl
theorem wp_sF (μ : Mm) (a j : Nat) (v : Int) (f : Mm → Rs) (Q : Int → Mm → Prop) : wp (sF μ a j v f) Q = wp (f (sM μ a j v)) Q := rfl
theorem wp_ite {c : Prop} {_ : Decidable c} (x y : Rs) (Q : Int → Mm → Prop) : wp (if c then x else y) Q = if c then wp x Q else wp y Q := by
  by_cases h : c
  · rw [if_pos h, if_pos h]
  · rw [if_neg h, if_neg h]
theorem wp_ldA (μ : Mm) (a : Nat) (i : Int) (f : Int → Rs) (Q : Int → Mm → Prop) : wp (ldA μ a i f) Q = ((0 ≤ i ∧ i < aN a) ∧ wp (f (μ a i.toNat)) Q) := by
  unfold ldA
  rw [wp_ite]
  by_cases h : 0 ≤ i ∧ i < aN a
  · rw [if_pos h]; exact propext ⟨fun z => ⟨h, z⟩, fun z => z.2⟩
  · rw [if_neg h]; exact propext ⟨fun z => z.elim, fun z => absurd z.1 h⟩
theorem wp_stA (μ : Mm) (a : Nat) (i v : Int) (f : Mm → Rs) (Q : Int → Mm → Prop) : wp (stA μ a i v f) Q = ((0 ≤ i ∧ i < aN a) ∧ wp (f (sM μ a i.toNat v)) Q) := by
  unfold stA
  rw [wp_ite]
  by_cases h : 0 ≤ i ∧ i < aN a
  · rw [if_pos h]; exact propext ⟨fun z => ⟨h, z⟩, fun z => z.2⟩
  · rw [if_neg h]; exact propext ⟨fun z => z.elim, fun z => absurd z.1 h⟩
theorem wp_sZ (μ : Mm) (a j : Nat) (v : Int) (f : Mm → Rs) (Q : Int → Mm → Prop) : wp (sZ μ a j v f) Q = ((v = 0 ∨ v = 1) ∧ wp (f (sM μ a j v)) Q) := by
  unfold sZ
  rw [wp_ite]
  by_cases h : v = 0 ∨ v = 1
  · rw [if_pos h]; exact propext ⟨fun z => ⟨h, z⟩, fun z => z.2⟩
  · rw [if_neg h]; exact propext ⟨fun z => z.elim, fun z => absurd z.1 h⟩
theorem wp_rZ (v : Int) (μ : Mm) (Q : Int → Mm → Prop) : wp (rZ v μ) Q = ((v = 0 ∨ v = 1) ∧ Q v μ) := by
  unfold rZ
  rw [wp_ite]
  by_cases h : v = 0 ∨ v = 1
  · rw [if_pos h]; exact propext ⟨fun z => ⟨h, z⟩, fun z => z.2⟩
  · rw [if_neg h]; exact propext ⟨fun z => z.elim, fun z => absurd z.1 h⟩
theorem wp_dZ (b : Int) (f : Rs) (Q : Int → Mm → Prop) : wp (dZ b f) Q = (b ≠ 0 ∧ wp f Q) := by
  unfold dZ
  rw [wp_ite]
  by_cases h : b = 0
  · rw [if_pos h]; exact propext ⟨fun z => z.elim, fun z => absurd h z.1⟩
  · rw [if_neg h]; exact propext ⟨fun z => ⟨h, z⟩, fun z => z.2⟩
theorem wp_aL (a : Nat) (i : Int) (f : Nat → Rs) (Q : Int → Mm → Prop) : wp (aL a i f) Q = ((0 ≤ i ∧ i < aN a) ∧ wp (f (aE a i.toNat)) Q) := by
  unfold aL
  rw [wp_ite]
  by_cases h : 0 ≤ i ∧ i < aN a
  · rw [if_pos h]; exact propext ⟨fun z => ⟨h, z⟩, fun z => z.2⟩
  · rw [if_neg h]; exact propext ⟨fun z => z.elim, fun z => absurd z.1 h⟩
theorem wp_mR (μ : Mm) (a j : Nat) (k : Nat × Nat) (f : Nat → Rs) (Q : Int → Mm → Prop) : wp (mR μ a j k f) Q = (kD (μ a j).toNat = k ∧ wp (f (μ a j).toNat) Q) := by
  unfold mR
  rw [wp_ite]
  by_cases h : kD (μ a j).toNat = k
  · rw [if_pos h]; exact propext ⟨fun z => ⟨h, z⟩, fun z => z.2⟩
  · rw [if_neg h]; exact propext ⟨fun z => z.elim, fun z => absurd z.1 h⟩
theorem wp_kC (c : Int) (k : Nat × Nat) (f : Nat → Rs) (Q : Int → Mm → Prop) : wp (kC c k f) Q = (kD c.toNat = k ∧ wp (f c.toNat) Q) := by
  unfold kC
  rw [wp_ite]
  by_cases h : kD c.toNat = k
  · rw [if_pos h]; exact propext ⟨fun z => ⟨h, z⟩, fun z => z.2⟩
  · rw [if_neg h]; exact propext ⟨fun z => z.elim, fun z => absurd z.1 h⟩
theorem wp_cpA (μ : Mm) (a b : Nat) (n : Int) (f : Mm → Rs) (Q : Int → Mm → Prop) : wp (cpA μ a b n f) Q = ((0 ≤ n ∧ n ≤ aN a ∧ n ≤ aN b) ∧ wp (f (cA_ μ a b n)) Q) := by
  unfold cpA
  rw [wp_ite]
  by_cases h : 0 ≤ n ∧ n ≤ aN a ∧ n ≤ aN b
  · rw [if_pos h]; exact propext ⟨fun z => ⟨h, z⟩, fun z => z.2⟩
  · rw [if_neg h]; exact propext ⟨fun z => z.elim, fun z => absurd z.1 h⟩
theorem wp_mono {x : Rs} {P Q : Int → Mm → Prop} (h : wp x P) (hi : ∀ r μ, P r μ → Q r μ) : wp x Q := by
  cases x with
  | none => exact h
  | some q => exact hi _ _ h
theorem wp_eq {x : Rs} {r : Int} {μ : Mm} {Q : Int → Mm → Prop} (h : x = some (r, μ)) (hq : Q r μ) : wp x Q := by
  rw [h]; exact hq
theorem wp_ex {x : Rs} {Q : Int → Mm → Prop} (h : wp x Q) : ∃ r μ, x = some (r, μ) ∧ Q r μ := by
  cases x with
  | none => exact h.elim
  | some q => exact ⟨q.1, q.2, rfl, h⟩
theorem bd_some (r : Int) (μ : Mm) (f : Int → Mm → Rs) : bd (some (r, μ)) f = f r μ := rfl
/-! numbers -/
theorem iA_id {a b : Int} (h1 : -2147483648 ≤ a + b) (h2 : a + b ≤ 2147483647) : iA a b = a + b := wI_id h1 h2
theorem iS_id {a b : Int} (h1 : -2147483648 ≤ a - b) (h2 : a - b ≤ 2147483647) : iS a b = a - b := wI_id h1 h2
theorem iM_id {a b : Int} (h1 : -2147483648 ≤ a * b) (h2 : a * b ≤ 2147483647) : iM a b = a * b := wI_id h1 h2
theorem iD_id {a b : Int} (h1 : 0 ≤ a) (h2 : a ≤ 2147483647) (h3 : 0 < b) : iD a b = a / b := by
  unfold iD
  rw [Int.tdiv_eq_ediv_of_nonneg h1]
  have h4 := Int.ediv_nonneg h1 (Int.le_of_lt h3)
  have h5 := Int.ediv_le_self b h1
  exact wI_id (by omega) (by omega)
theorem iR_id {a b : Int} (h1 : 0 ≤ a) (h2 : a ≤ 2147483647) (h3 : 0 < b) : iR a b = a % b := by
  unfold iR
  rw [iD_id h1 h2 h3]
  have h4 := Int.emod_nonneg a (Int.ne_of_gt h3)
  have h5 := Int.emod_lt_of_pos a h3
  have h6 := Int.mul_ediv_add_emod a b
  have h7 : a - a / b * b = a % b := by rw [Int.mul_comm]; omega
  have h9 := Int.mul_nonneg (Int.le_of_lt h3) (Int.ediv_nonneg h1 (Int.le_of_lt h3))
  have h8 : a % b ≤ a := by omega
  rw [h7]
  exact wI_id (by omega) (by omega)
theorem mX_eq (a b : Int) : mX a b = max a b := by
  unfold mX; omega
theorem mN_eq (a b : Int) : mN a b = min a b := by
  unfold mN; omega
theorem lt_fuel {n d : Nat} (h : d < n) : ∃ n', n = n' + 1 ∧ d ≤ n' := ⟨n - 1, by omega, by omega⟩
/-- 1 for true -/
def b2 (p : Prop) [Decidable p] : Int := if p then 1 else 0
theorem b2_0 {p : Prop} [Decidable p] : (b2 p = 0) = ¬ p := by
  unfold b2
  by_cases h : p
  · rw [if_pos h]; exact propext ⟨fun z => absurd z (by decide), fun z => absurd h z⟩
  · rw [if_neg h]; exact propext ⟨fun _ => h, fun _ => rfl⟩
theorem b2_t {p : Prop} [Decidable p] (h : p) : b2 p = 1 := if_pos h
theorem b2_f {p : Prop} [Decidable p] (h : ¬ p) : b2 p = 0 := if_neg h
theorem b2_01 (p : Prop) [Decidable p] : b2 p = 0 ∨ b2 p = 1 := by
  by_cases h : p
  · exact Or.inr (b2_t h)
  · exact Or.inl (b2_f h)
theorem b2_congr {p q : Prop} [Decidable p] [Decidable q] (h : p ↔ q) : b2 p = b2 q := by
  by_cases hp : p
  · rw [b2_t hp, b2_t (h.mp hp)]
  · rw [b2_f hp, b2_f (fun z => hp (h.mpr z))]
/-! which cells have changed -/
def fr (S : List Nat) (μ μ' : Mm) : Prop := ∀ k, k ∉ S → μ' k = μ k
theorem fr_rf {S : List Nat} {μ : Mm} : fr S μ μ := fun _ _ => rfl
theorem fr_tr {S : List Nat} {μ μ' μ'' : Mm} (h1 : fr S μ μ') (h2 : fr S μ' μ'') : fr S μ μ'' := fun k hk => (h2 k hk).trans (h1 k hk)
theorem fr_sM {S : List Nat} {μ μ' : Mm} {a j : Nat} {v : Int} (h : fr S μ μ') (ha : a ∈ S) : fr S μ (sM μ' a j v) := fun k hk => by
  have hne : k ≠ a := fun e => hk (e ▸ ha)
  rw [sM_ne hne]; exact h k hk
theorem fr_cA {S : List Nat} {μ μ' : Mm} {a b : Nat} {n : Int} (h : fr S μ μ') (ha : b ∈ S) : fr S μ (cA_ μ' a b n) := fun k hk => by
  have hne : k ≠ b := fun e => hk (e ▸ ha)
  have : cA_ μ' a b n k = μ' k := by funext j; simp [cA_, hne]
  rw [this]; exact h k hk
theorem fr_w {S S' : List Nat} {μ μ' : Mm} (h : fr S μ μ') (hs : ∀ k, k ∈ S → k ∈ S') : fr S' μ μ' := fun k hk => h k (fun z => hk (hs k z))
theorem sM_s (μ : Mm) (a j : Nat) (v : Int) : sM μ a j v a j = v := by simp [sM]
theorem sM_j {μ : Mm} {a j k : Nat} {v : Int} (h : k ≠ j) : sM μ a j v a k = μ a k := by simp [sM, h]
theorem sM_a {μ : Mm} {a b j k : Nat} {v : Int} (h : b ≠ a) : sM μ a j v b k = μ b k := by simp [sM, h]
theorem sM_if (μ : Mm) (a j : Nat) (v : Int) (k : Nat) : sM μ a j v a k = if k = j then v else μ a k := by simp [sM]
theorem sM_id {μ : Mm} {a j : Nat} : sM μ a j (μ a j) = μ := by
  funext i k
  unfold sM
  by_cases h : i = a ∧ k = j
  · rw [if_pos h, h.1, h.2]
  · rw [if_neg h]
