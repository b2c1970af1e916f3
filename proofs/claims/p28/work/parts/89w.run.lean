/-! THE HAND by a row of CUES, in both -/
def frO (m : Nat) (o : Nat → Nat) (k : Nat) : Nat := if k = 0 then m else o (k - 1)
def rt (m : Nat) (B : Nat → Nat → Int) (T Wd : Nat → Int) (S : Int) (o : Nat → Nat) : Nat → Int
  | 0 => 0
  | k + 1 => mX (rt m B T Wd S o k + B (frO m o k) (o k) * S + Wd (o k)) (T (o k))
def rc (m : Nat) (B : Nat → Nat → Int) (T Wd : Nat → Int) (S : Int) (o : Nat → Nat) (k : Nat) : Int := rt m B T Wd S o k + B (frO m o k) (o k) * S
def feas (m : Nat) (B : Nat → Nat → Int) (o : Nat → Nat) (n : Nat) : Prop := ∀ k, k < n → B (frO m o k) (o k) ≠ -1
theorem mul_b {a s : Int} (ha : 0 ≤ a ∧ a ≤ 59) (hs : 1 ≤ s ∧ s ≤ 9) : 0 ≤ a * s ∧ a * s ≤ 531 := by
  have h1 := Int.mul_nonneg ha.1 (show 0 ≤ s by omega)
  have h2 := Int.mul_le_mul ha.2 hs.2 (by omega) (by decide : (0 : Int) ≤ 59)
  exact ⟨h1, by omega⟩
theorem fr_le {m n : Nat} {o : Nat → Nat} (ho : ∀ k, k < n → o k < m) {k : Nat} (hk : k < n) : frO m o k ≤ m := by
  unfold frO
  by_cases c : k = 0
  · rw [if_pos c]; exact Nat.le_refl _
  · rw [if_neg c]; exact Nat.le_of_lt (ho (k - 1) (by omega))
section RUN
variable {m : Nat} {B : Nat → Nat → Int} {T Wd : Nat → Int} {S : Int} {o : Nat → Nat} {n : Nat}
theorem way_b (hJ : JOK m B T Wd S) (ho : ∀ k, k < n → o k < m) {k : Nat} (hk : k < n) (hf : B (frO m o k) (o k) ≠ -1) : 0 ≤ B (frO m o k) (o k) ∧ B (frO m o k) (o k) ≤ 59 ∧ 0 ≤ B (frO m o k) (o k) * S ∧ B (frO m o k) (o k) * S ≤ 531 := by
  have h1 := hJ.2.2.2.1 (frO m o k) (o k) (fr_le ho hk) (ho k hk)
  have h2 := mul_b (a := B (frO m o k) (o k)) (s := S) (by omega) hJ.2.2.1
  omega
theorem rt_b (hJ : JOK m B T Wd S) (ho : ∀ k, k < n → o k < m) : ∀ k, k ≤ n → feas m B o k → 0 ≤ rt m B T Wd S o k ∧ rt m B T Wd S o k ≤ 1099 + 591 * (k : Int) := by
  intro k
  induction k with
  | zero => intro _ _; exact ⟨Int.le_refl _, (show (0 : Int) ≤ 1099 + 591 * ((0 : Nat) : Int) by decide)⟩
  | succ k ih =>
    intro hk hf
    have h1 := ih (by omega) (fun j hj => hf j (by omega))
    have h2 := way_b hJ ho (k := k) (by omega) (hf k (by omega))
    have h3 := hJ.2.2.2.2.1 (o k) (ho k (by omega))
    have h4 := hJ.2.2.2.2.2 (o k) (ho k (by omega))
    show 0 ≤ mX (rt m B T Wd S o k + B (frO m o k) (o k) * S + Wd (o k)) (T (o k)) ∧ mX (rt m B T Wd S o k + B (frO m o k) (o k) * S + Wd (o k)) (T (o k)) ≤ 1099 + 591 * ((k + 1 : Nat) : Int)
    rw [mX_eq]
    omega
end RUN
def sK (f : Nat → Int) : Nat → Int
  | 0 => 0
  | k + 1 => sK f k + f k
def mK (f : Nat → Int) : Nat → Int
  | 0 => 0
  | k + 1 => mX (mK f k) (f k)
def cK (f : Nat → Int) : Nat → Int
  | 0 => 0
  | k + 1 => cK f k + (if f k ≤ 0 then 0 else 1)
theorem sK_b {f : Nat → Int} {c : Int} (hc : 0 ≤ c) : ∀ k, (∀ j, j < k → 0 ≤ f j ∧ f j ≤ c) → 0 ≤ sK f k ∧ sK f k ≤ c * (k : Int) := by
  intro k
  induction k with
  | zero => intro _; exact ⟨Int.le_refl _, by show (0 : Int) ≤ c * ((0 : Nat) : Int); simp⟩
  | succ k ih =>
    intro h
    have h1 := ih (fun j hj => h j (by omega))
    have h2 := h k (by omega)
    have e : c * ((k + 1 : Nat) : Int) = c * (k : Int) + c := by
      have : ((k + 1 : Nat) : Int) = (k : Int) + 1 := rfl
      rw [this, Int.mul_add, Int.mul_one]
    show 0 ≤ sK f k + f k ∧ sK f k + f k ≤ c * ((k + 1 : Nat) : Int)
    rw [e]
    omega
theorem mK_b {f : Nat → Int} {c : Int} (hc : 0 ≤ c) : ∀ k, (∀ j, j < k → 0 ≤ f j ∧ f j ≤ c) → 0 ≤ mK f k ∧ mK f k ≤ c := by
  intro k
  induction k with
  | zero => intro _; exact ⟨Int.le_refl _, hc⟩
  | succ k ih =>
    intro h
    have h1 := ih (fun j hj => h j (by omega))
    have h2 := h k (by omega)
    show 0 ≤ mX (mK f k) (f k) ∧ mX (mK f k) (f k) ≤ c
    rw [mX_eq]
    omega
theorem cK_b {f : Nat → Int} : ∀ k : Nat, 0 ≤ cK f k ∧ cK f k ≤ (k : Int) := by
  intro k
  induction k with
  | zero => exact ⟨Int.le_refl _, Int.le_refl _⟩
  | succ k ih =>
    show 0 ≤ cK f k + (if f k ≤ 0 then 0 else 1) ∧ cK f k + (if f k ≤ 0 then 0 else 1) ≤ ((k + 1 : Nat) : Int)
    split <;> omega
def laK (m : Nat) (B : Nat → Nat → Int) (T Wd : Nat → Int) (S : Int) (o : Nat → Nat) (k : Nat) : Int := rt m B T Wd S o (k + 1) - T (o k)
def idK (m : Nat) (B : Nat → Nat → Int) (T Wd : Nat → Int) (S : Int) (o : Nat → Nat) (k : Nat) : Int := rt m B T Wd S o (k + 1) - (rc m B T Wd S o k + Wd (o k))
def wyK (m : Nat) (B : Nat → Nat → Int) (o : Nat → Nat) (k : Nat) : Int := B (frO m o k) (o k)
theorem laK_b {m : Nat} {B : Nat → Nat → Int} {T Wd : Nat → Int} {S : Int} {o : Nat → Nat} {n : Nat} (hJ : JOK m B T Wd S) (hn : n ≤ 8) (ho : ∀ k, k < n → o k < m) {k : Nat} (hk : k < n) (hf : feas m B o (k + 1)) : (0 ≤ laK m B T Wd S o k ∧ laK m B T Wd S o k ≤ 6000) ∧ (0 ≤ idK m B T Wd S o k ∧ idK m B T Wd S o k ≤ 6000) := by
  have h1 := rt_b hJ ho k (by omega) (fun j hj => hf j (by omega))
  have h2 := way_b hJ ho hk (hf k (by omega))
  have h3 := hJ.2.2.2.2.1 (o k) (ho k hk)
  have h4 := hJ.2.2.2.2.2 (o k) (ho k hk)
  have e : rt m B T Wd S o (k + 1) = mX (rt m B T Wd S o k + B (frO m o k) (o k) * S + Wd (o k)) (T (o k)) := rfl
  unfold laK idK rc
  rw [e, mX_eq]
  omega
/-! the class -/
def frC (o : Nat → Nat) (k : Nat) : Nat := if k = 0 then 8 else o (k - 1)
theorem sbC_x {l0 : Nat} (h0 : kD l0 = (11, 7)) {ν : Mm} {a b : Int} {x : Nat} {v : Int} (e8 : iA (iM a 8) b = (x : Int)) (x72 : x < 72) (ev : ν (l0 + 4) x = v) : X1_stepsBetween l0 a b ν = some (v, ν) := by
  have j4 := (jb_60 h0).2.2.2.1
  have i72 : (0 : Int) ≤ (x : Int) ∧ (x : Int) < ((72 : Nat) : Int) := ⟨Int.natCast_nonneg x, Int.ofNat_lt.mpr x72⟩
  unfold X1_stepsBetween lt_
  try dsimp only
  rw [e8, if_neg (Int.not_lt.mpr i72.1), j4, if_neg (Int.not_le.mpr i72.2)]
  unfold ldA
  rw [if_pos (by rw [j4]; exact i72), Int.toNat_natCast, ev]
theorem frC_8 {m n : Nat} {o : Nat → Nat} (hm : m ≤ 8) (ho : ∀ k, k < n → o k < m) {k : Nat} (hk : k < n) : frC o k ≤ 8 := by
  unfold frC
  by_cases c : k = 0
  · rw [if_pos c]; exact Nat.le_refl _
  · rw [if_neg c]; have := ho (k - 1) (by omega); omega
theorem sbC_v {l0 : Nat} {m : Nat} {B : Nat → Nat → Int} {T Wd : Nat → Int} {cr : Nat → Nat} {S : Int} {o : Nat → Nat} {n : Nat} {ν : Mm} (hC : JobC l0 ν m B T Wd cr S) (ho : ∀ k, k < n → o k < m) {k : Nat} (hk : k < n) : ν (l0 + 4) (8 * frC o k + o k) = B (frO m o k) (o k) := by
  unfold frC frO
  by_cases c : k = 0
  · rw [if_pos c, if_pos c]; exact hC.2.2.2.2 (o k) (ho k hk)
  · rw [if_neg c, if_neg c]; exact hC.2.2.2.1 _ _ (ho (k - 1) (by omega)) (ho k hk)
theorem sbC {l0 : Nat} (h0 : kD l0 = (11, 7)) {m : Nat} {B : Nat → Nat → Int} {T Wd : Nat → Int} {cr : Nat → Nat} {S : Int} {o : Nat → Nat} {n : Nat} {ν : Mm} (hm : m ≤ 8) (hC : JobC l0 ν m B T Wd cr S) (ho : ∀ k, k < n → o k < m) {k : Nat} (hk : k < n) : X1_stepsBetween l0 ((frC o k : Nat) : Int) ((o k : Nat) : Int) ν = some (B (frO m o k) (o k), ν) := by
  have hok := ho k hk
  have hfc := frC_8 hm ho hk
  exact sbC_x h0 (off8r hfc (by omega)) (by omega) (sbC_v hC ho hk)
def Wgo (k j : Nat) : Prop := (k = 58 ∧ 4 ≤ j) ∨ k = 60 ∨ k = 61
theorem JobC_c {l0 : Nat} (h0 : kD l0 = (11, 7)) {m : Nat} {B : Nat → Nat → Int} {T Wd : Nat → Int} {cr : Nat → Nat} {S : Int} {ν ν' : Mm} (hC : JobC l0 ν m B T Wd cr S) (h : ∀ k j, l0 ≤ k → k ≤ l0 + 4 → ν' k j = ν k j) : JobC l0 ν' m B T Wd cr S := by
  obtain ⟨h1, h2, h3, h4, h5⟩ := hC
  exact ⟨by rw [h _ _ (by omega) (by omega)]; exact h1, by rw [h _ _ (by omega) (by omega)]; exact h2, fun k hk => by
    rw [h _ _ (by omega) (by omega), h _ _ (by omega) (by omega), h _ _ (by omega) (by omega)]; exact h3 k hk, fun a b ha hb => by rw [h _ _ (by omega) (by omega)]; exact h4 a b ha hb, fun b hb => by rw [h _ _ (by omega) (by omega)]; exact h5 b hb⟩
theorem goC_s {l0 : Nat} (h0 : kD l0 = (11, 7)) {m : Nat} {B : Nat → Nat → Int} {T Wd : Nat → Int} {cr : Nat → Nat} {S : Int} {o : Nat → Nat} {n : Nat} (hJ : JOK m B T Wd S) (hn : n ≤ 8) (ho : ∀ k, k < n → o k < m) {i : Nat} (hi : i < n) {ν : Mm} (hC : JobC l0 ν m B T Wd cr S) (h3 : ν 58 3 = (n : Int)) (h59 : ν 59 i = ((o i : Nat) : Int)) (h7 : ν 58 7 = rt m B T Wd S o i) (g : Nat) :
    (B (frO m o i) (o i) = -1 → X5_go_L35 l0 (g + 1) ((frC o i : Nat) : Int) (i : Int) ν = some (0, ν)) ∧ (feas m B o (i + 1) → ν 58 4 = sK (laK m B T Wd S o) i → ν 58 5 = mK (laK m B T Wd S o) i → ν 58 6 = cK (laK m B T Wd S o) i → ν 58 8 = sK (wyK m B o) i → ν 58 9 = sK (idK m B T Wd S o) i → ∃ ν', X5_go_L35 l0 (g + 1) ((frC o i : Nat) : Int) (i : Int) ν = X5_go_L35 l0 g ((frC o (i + 1) : Nat) : Int) ((i + 1 : Nat) : Int) ν' ∧ fw Wgo ν ν' ∧ ν' 58 7 = rt m B T Wd S o (i + 1) ∧ ν' 58 4 = sK (laK m B T Wd S o) (i + 1) ∧ ν' 58 5 = mK (laK m B T Wd S o) (i + 1) ∧ ν' 58 6 = cK (laK m B T Wd S o) (i + 1) ∧ ν' 58 8 = sK (wyK m B o) (i + 1) ∧ ν' 58 9 = sK (idK m B T Wd S o) (i + 1) ∧ (∀ j, ν' 60 j = if j = o i then rc m B T Wd S o i else ν 60 j) ∧ ∀ j, ν' 61 j = if j = o i then rt m B T Wd S o (i + 1) else ν 61 j) := by
  obtain ⟨j1, j2, j3, j4, j5, j6⟩ := jb_60 h0
  have hm8 := hJ.2.1
  have hsb := sbC h0 hm8 hC ho hi
  have hoi := ho i hi
  have e0 : X5_go_L35 l0 (g + 1) ((frC o i : Nat) : Int) (i : Int) ν = (bd (X1_comes l0 (ν 58 7) ((frC o i : Nat) : Int) ((o i : Nat) : Int) ν) fun v11 μ12 => if v11 = (-1) then (some (0, μ12)) else (bd (X1_stepsBetween l0 ((frC o i : Nat) : Int) ((o i : Nat) : Int) μ12) fun v15 μ16 => sF μ16 58 8 (iA (μ12 58 8) v15) fun μ18 => bd (X1_dones l0 v11 ((o i : Nat) : Int) μ18) fun v19 μ20 => sF μ20 58 7 v19 fun μ22 => bd (X1_wound l0 v11 ((o i : Nat) : Int) μ22) fun v23 μ24 => sF μ24 58 9 (iA (μ22 58 9) (iS (μ22 58 7) v23)) fun μ26 => stA μ26 60 ((o i : Nat) : Int) v11 fun μ27 => stA μ27 61 ((o i : Nat) : Int) (μ27 58 7) fun μ29 => ldA μ29 (l0 + 2) ((o i : Nat) : Int) fun v31 => bd (X5_addLate (iS (μ29 58 7) v31) μ29) fun v33 μ34 => X5_go_L35 l0 g ((o i : Nat) : Int) (iA (i : Int) 1) μ34)) := by
    show (if (ν 58 3) ≤ (i : Int) then _ else _) = _
    rw [h3, if_neg (by omega), if_neg (by omega)]
    unfold ldA
    rw [if_pos (by show (0 : Int) ≤ (i : Int) ∧ (i : Int) < 8; omega), Int.toNat_natCast, h59]
  have ec : X1_comes l0 (ν 58 7) ((frC o i : Nat) : Int) ((o i : Nat) : Int) ν = if B (frO m o i) (o i) = -1 then some (-1, ν) else some (iA (rt m B T Wd S o i) (iM (B (frO m o i) (o i)) S), ν) := by
    unfold X1_comes
    rw [hsb, bd_some, hC.2.1, h7]
  constructor
  · intro hf
    rw [e0, ec, if_pos hf, bd_some, if_pos rfl]
  · intro hf q4 q5 q6 q8 q9
    have hfi := hf i (by omega)
    have hb := rt_b hJ ho i (by omega) (fun j hj => hf j (by omega))
    have hw := way_b hJ ho hi hfi
    have hT := hJ.2.2.2.2.1 (o i) hoi
    have hW := hJ.2.2.2.2.2 (o i) hoi
    have hl := laK_b hJ hn ho hi hf
    have hs4 := sK_b (f := laK m B T Wd S o) (c := 6000) (by decide) i (fun j hj => (laK_b hJ hn ho (k := j) (by omega) (fun x hx => hf x (by omega))).1)
    have hs9 := sK_b (f := idK m B T Wd S o) (c := 6000) (by decide) i (fun j hj => (laK_b hJ hn ho (k := j) (by omega) (fun x hx => hf x (by omega))).2)
    have hs8 := sK_b (f := wyK m B o) (c := 59) (by decide) i (fun j hj => by
      have := way_b hJ ho (k := j) (by omega) (hf j (by omega))
      exact ⟨this.1, this.2.1⟩)
    have hm5 := mK_b (f := laK m B T Wd S o) (c := 6000) (by decide) i (fun j hj => (laK_b hJ hn ho (k := j) (by omega) (fun x hx => hf x (by omega))).1)
    have hc6 := cK_b (f := laK m B T Wd S o) i
    have ert : rt m B T Wd S o (i + 1) = mX (rc m B T Wd S o i + Wd (o i)) (T (o i)) := rfl
    have hrc : rc m B T Wd S o i = rt m B T Wd S o i + B (frO m o i) (o i) * S := rfl
    have hrt1 := rt_b hJ ho (i + 1) (by omega) hf
    have ecm : iA (rt m B T Wd S o i) (iM (B (frO m o i) (o i)) S) = rc m B T Wd S o i := by
      rw [iM_id (by omega) (by omega), iA_id (by omega) (by omega)]
      rfl
    rw [ecm, if_neg hfi] at ec
    have g3 := hC.2.2.1 (o i) hoi
    have elate : rt m B T Wd S o (i + 1) - T (o i) = laK m B T Wd S o i := rfl
    have eidle : rt m B T Wd S o (i + 1) - (rc m B T Wd S o i + Wd (o i)) = idK m B T Wd S o i := rfl
    -- the memory behind this step
    obtain ⟨ν1, hν1⟩ : ∃ x, x = sM ν 58 8 (sK (wyK m B o) (i + 1)) := ⟨_, rfl⟩
    obtain ⟨ν2, hν2⟩ : ∃ x, x = sM ν1 58 7 (rt m B T Wd S o (i + 1)) := ⟨_, rfl⟩
    obtain ⟨ν3, hν3⟩ : ∃ x, x = sM ν2 58 9 (sK (idK m B T Wd S o) (i + 1)) := ⟨_, rfl⟩
    obtain ⟨ν4, hν4⟩ : ∃ x, x = sM (sM ν3 60 (o i) (rc m B T Wd S o i)) 61 (o i) (rt m B T Wd S o (i + 1)) := ⟨_, rfl⟩
    obtain ⟨ν5, hν5⟩ : ∃ x, x = sM (sM ν4 58 4 (sK (laK m B T Wd S o) (i + 1))) 58 5 (mK (laK m B T Wd S o) (i + 1)) := ⟨_, rfl⟩
    have w1 : ∀ k j, ¬ (k = 58) → ν1 k j = ν k j := fun k j h => by rw [hν1, sM_a h]
    have w2 : ∀ k j, ¬ (k = 58) → ν2 k j = ν k j := fun k j h => by rw [hν2, sM_a h, w1 k j h]
    have w4 : ∀ k j, k ≠ 58 → k ≠ 60 → k ≠ 61 → ν4 k j = ν k j := fun k j a b c => by
      rw [hν4, sM_a c, sM_a b, hν3, sM_a a, w2 k j a]
    have f4 : ∀ j, j ≠ 7 → j ≠ 8 → j ≠ 9 → ν4 58 j = ν 58 j := fun j a b c => by
      rw [hν4, sM_a (by decide), sM_a (by decide), hν3, sM_j c, hν2, sM_j a, hν1, sM_j b]
    have f47 : ν4 58 7 = rt m B T Wd S o (i + 1) := by rw [hν4, sM_a (by decide), sM_a (by decide), hν3, sM_j (by decide), hν2, sM_s]
    have f48 : ν4 58 8 = sK (wyK m B o) (i + 1) := by rw [hν4, sM_a (by decide), sM_a (by decide), hν3, sM_j (by decide), hν2, sM_j (by decide), hν1, sM_s]
    have f49 : ν4 58 9 = sK (idK m B T Wd S o) (i + 1) := by rw [hν4, sM_a (by decide), sM_a (by decide), hν3, sM_s]
    have f29 : ν2 58 9 = sK (idK m B T Wd S o) i := by rw [hν2, sM_j (by decide), hν1, sM_j (by decide)]; exact q9
    have f27 : ν2 58 7 = rt m B T Wd S o (i + 1) := by rw [hν2, sM_s]
    have d1 : ∀ x : Mm, (∀ j, x (l0 + 3) j = ν (l0 + 3) j) → X1_wound l0 (rc m B T Wd S o i) ((o i : Nat) : Int) x = some (rc m B T Wd S o i + Wd (o i), x) := fun x hx => by
      unfold X1_wound ldA
      rw [if_pos (by rw [j3]; omega), Int.toNat_natCast, hx, g3.2.2]
      dsimp only
      rw [iA_id (by omega) (by omega)]
    have d2 : X1_dones l0 (rc m B T Wd S o i) ((o i : Nat) : Int) ν1 = some (rt m B T Wd S o (i + 1), ν1) := by
      unfold X1_dones
      rw [d1 ν1 (fun j => w1 _ j (by omega)), bd_some]
      unfold ldA
      rw [if_pos (by rw [j2]; omega), Int.toNat_natCast, w1 _ _ (by omega), g3.2.1, ert]
    have e1 : X5_go_L35 l0 (g + 1) ((frC o i : Nat) : Int) (i : Int) ν = bd (X5_addLate (laK m B T Wd S o i) ν4) fun v33 μ34 => X5_go_L35 l0 g ((o i : Nat) : Int) ((i + 1 : Nat) : Int) μ34 := by
      rw [e0, ec, bd_some, if_neg (by omega), hsb, bd_some, sF_r, q8]
      have a8 : iA (sK (wyK m B o) i) (B (frO m o i) (o i)) = sK (wyK m B o) (i + 1) := iA_id (by omega) (by omega)
      rw [a8, ← hν1, d2, bd_some, sF_r, ← hν2, d1 ν2 (fun j => w2 _ j (by omega)), bd_some, sF_r, f29, f27]
      have a9 : iA (sK (idK m B T Wd S o) i) (iS (rt m B T Wd S o (i + 1)) (rc m B T Wd S o i + Wd (o i))) = sK (idK m B T Wd S o) (i + 1) := by
        rw [iS_id (by omega) (by omega), eidle]
        exact iA_id (by omega) (by omega)
      rw [a9, ← hν3]
      unfold stA ldA
      rw [if_pos (by show (0 : Int) ≤ ((o i : Nat) : Int) ∧ ((o i : Nat) : Int) < 8; omega), Int.toNat_natCast]
      dsimp only
      rw [if_pos (by show (0 : Int) ≤ ((o i : Nat) : Int) ∧ ((o i : Nat) : Int) < 8; omega)]
      have a7 : sM ν3 60 (o i) (rc m B T Wd S o i) 58 7 = rt m B T Wd S o (i + 1) := by rw [sM_a (by decide), hν3, sM_j (by decide), f27]
      rw [a7, ← hν4, if_pos (by rw [j2]; omega), f47, w4 (l0 + 2) (o i) (by omega) (by omega) (by omega), g3.2.1, iS_id (by omega) (by omega), elate, iA_nat (by omega)]
    have e2 : X5_addLate (laK m B T Wd S o i) ν4 = if laK m B T Wd S o i ≤ 0 then some (0, ν5) else some (0, sM ν5 58 6 (cK (laK m B T Wd S o) (i + 1))) := by
      unfold X5_addLate
      rw [sF_r, f4 4 (by decide) (by decide) (by decide), q4]
      have a4 : iA (sK (laK m B T Wd S o) i) (laK m B T Wd S o i) = sK (laK m B T Wd S o) (i + 1) := iA_id (by omega) (by omega)
      rw [a4, sF_r, sM_j (show (5 : Nat) ≠ 4 by decide), f4 5 (by decide) (by decide) (by decide), q5]
      have a5 : mX (mK (laK m B T Wd S o) i) (laK m B T Wd S o i) = mK (laK m B T Wd S o) (i + 1) := rfl
      rw [a5, ← hν5]
      by_cases c : laK m B T Wd S o i ≤ 0
      · rw [if_pos c, if_pos c]
      · rw [if_neg c, if_neg c, sF_r]
        have a6 : iA (ν5 58 6) 1 = cK (laK m B T Wd S o) (i + 1) := by
          have z : ν5 58 6 = cK (laK m B T Wd S o) i := by rw [hν5, sM_j (by decide), sM_j (by decide), f4 6 (by decide) (by decide) (by decide)]; exact q6
          have z2 : cK (laK m B T Wd S o) (i + 1) = cK (laK m B T Wd S o) i + 1 := by
            show cK (laK m B T Wd S o) i + (if laK m B T Wd S o i ≤ 0 then 0 else 1) = _
            rw [if_neg c]
          rw [z, z2]
          exact iA_id (by omega) (by omega)
        rw [a6]
    have efc : frC o (i + 1) = o i := rfl
    have w5 : fw Wgo ν ν5 := by
      rw [hν5, hν4, hν3, hν2, hν1]
      exact fw_sM (fw_sM (fw_sM (fw_sM (fw_sM (fw_sM (fw_sM fw_rf (Or.inl ⟨rfl, by decide⟩)) (Or.inl ⟨rfl, by decide⟩)) (Or.inl ⟨rfl, by decide⟩)) (Or.inr (Or.inl rfl))) (Or.inr (Or.inr rfl))) (Or.inl ⟨rfl, by decide⟩)) (Or.inl ⟨rfl, by decide⟩)
    have p7 : ν5 58 7 = rt m B T Wd S o (i + 1) := by rw [hν5, sM_j (by decide), sM_j (by decide)]; exact f47
    have p4 : ν5 58 4 = sK (laK m B T Wd S o) (i + 1) := by rw [hν5, sM_j (by decide), sM_s]
    have p5 : ν5 58 5 = mK (laK m B T Wd S o) (i + 1) := by rw [hν5, sM_s]
    have p6 : ν5 58 6 = cK (laK m B T Wd S o) i := by rw [hν5, sM_j (by decide), sM_j (by decide), f4 6 (by decide) (by decide) (by decide)]; exact q6
    have p8 : ν5 58 8 = sK (wyK m B o) (i + 1) := by rw [hν5, sM_j (by decide), sM_j (by decide)]; exact f48
    have p9 : ν5 58 9 = sK (idK m B T Wd S o) (i + 1) := by rw [hν5, sM_j (by decide), sM_j (by decide)]; exact f49
    have p60 : ∀ j, ν5 60 j = if j = o i then rc m B T Wd S o i else ν 60 j := fun j => by
      rw [hν5, sM_a (by decide), sM_a (by decide), hν4, sM_a (by decide), sM_if, hν3, sM_a (by decide), w2 60 j (by decide)]
    have p61 : ∀ j, ν5 61 j = if j = o i then rt m B T Wd S o (i + 1) else ν 61 j := fun j => by
      rw [hν5, sM_a (by decide), sM_a (by decide), hν4, sM_if, sM_a (by decide), hν3, sM_a (by decide), w2 61 j (by decide)]
    by_cases c : laK m B T Wd S o i ≤ 0
    · refine ⟨ν5, ?_, w5, p7, p4, p5, ?_, p8, p9, p60, p61⟩
      · rw [e1, e2, if_pos c, bd_some, efc]
      · rw [p6]
        show cK (laK m B T Wd S o) i = cK (laK m B T Wd S o) i + (if laK m B T Wd S o i ≤ 0 then 0 else 1)
        rw [if_pos c]
        omega
    · refine ⟨sM ν5 58 6 (cK (laK m B T Wd S o) (i + 1)), ?_, fw_sM w5 (Or.inl ⟨rfl, by decide⟩), ?_, ?_, ?_, ?_, ?_, ?_, fun j => ?_, fun j => ?_⟩
      · rw [e1, e2, if_neg c, bd_some, efc]
      · rw [sM_j (by decide)]; exact p7
      · rw [sM_j (by decide)]; exact p4
      · rw [sM_j (by decide)]; exact p5
      · rw [sM_s]
      · rw [sM_j (by decide)]; exact p8
      · rw [sM_j (by decide)]; exact p9
      · rw [sM_a (by decide)]; exact p60 j
      · rw [sM_a (by decide)]; exact p61 j
/-- what the class's run tells behind it -/
def RunC (ν : Mm) (m : Nat) (B : Nat → Nat → Int) (T Wd : Nat → Int) (S : Int) (o : Nat → Nat) (i : Nat) : Prop := ν 58 7 = rt m B T Wd S o i ∧ ν 58 4 = sK (laK m B T Wd S o) i ∧ ν 58 5 = mK (laK m B T Wd S o) i ∧ ν 58 6 = cK (laK m B T Wd S o) i ∧ ν 58 8 = sK (wyK m B o) i ∧ ν 58 9 = sK (idK m B T Wd S o) i ∧ ∀ k, k < i → ν 60 (o k) = rc m B T Wd S o k ∧ ν 61 (o k) = rt m B T Wd S o (k + 1)
theorem goC_L {l0 : Nat} (h0 : kD l0 = (11, 7)) {m : Nat} {B : Nat → Nat → Int} {T Wd : Nat → Int} {cr : Nat → Nat} {S : Int} {o : Nat → Nat} {n : Nat} (hJ : JOK m B T Wd S) (hn : n ≤ 8) (ho : ∀ k, k < n → o k < m) (hi : injN n o) {ν0 : Mm} (hC : JobC l0 ν0 m B T Wd cr S) (h3 : ν0 58 3 = (n : Int)) (h59 : ∀ k, k < n → ν0 59 k = ((o k : Nat) : Int)) : ∀ (r i fuel : Nat) (ν : Mm), i + r = n → r < fuel → fw Wgo ν0 ν → feas m B o i → RunC ν m B T Wd S o i → ∃ ν', fw Wgo ν0 ν' ∧ (feas m B o n → X5_go_L35 l0 fuel ((frC o i : Nat) : Int) (i : Int) ν = some (1, ν') ∧ RunC ν' m B T Wd S o n) ∧ (¬ feas m B o n → X5_go_L35 l0 fuel ((frC o i : Nat) : Int) (i : Int) ν = some (0, ν')) := by
  obtain ⟨j1, j2, j3, j4, j5, j6⟩ := jb_60 h0
  intro r
  induction r with
  | zero =>
    intro i fuel ν hr hf hw hfe hR
    obtain ⟨g, rfl, _⟩ := lt_fuel hf
    have e : i = n := by omega
    subst e
    refine ⟨ν, hw, fun _ => ⟨?_, hR⟩, fun z => absurd hfe z⟩
    show (if (ν 58 3) ≤ (i : Int) then _ else _) = _
    rw [hw 58 3 (by unfold Wgo; omega), h3, if_pos (by omega)]
  | succ r ih =>
    intro i fuel ν hr hf hw hfe hR
    obtain ⟨g, rfl, _⟩ := lt_fuel hf
    obtain ⟨q7, q4, q5, q6, q8, q9, qa⟩ := hR
    have hC' : JobC l0 ν m B T Wd cr S := JobC_c h0 hC (fun k j k1 k2 => hw k j (by unfold Wgo; omega))
    have hs := goC_s h0 hJ hn ho (i := i) (by omega) hC' (by rw [hw 58 3 (by unfold Wgo; omega)]; exact h3) (by rw [hw 59 i (by unfold Wgo; omega)]; exact h59 i (by omega)) q7 g
    by_cases c : B (frO m o i) (o i) = -1
    · exact ⟨ν, hw, fun z => absurd c (z i (by omega)), fun _ => hs.1 c⟩
    · have hfe' : feas m B o (i + 1) := fun k hk => by
        by_cases ck : k = i
        · rw [ck]; exact c
        · exact hfe k (by omega)
      obtain ⟨ν1, e1, w1, p7, p4, p5, p6, p8, p9, p60, p61⟩ := hs.2 hfe' q4 q5 q6 q8 q9
      obtain ⟨ν', g1, g2, g3⟩ := ih (i + 1) g ν1 (by omega) (by omega) (fw_tr hw w1) hfe' ⟨p7, p4, p5, p6, p8, p9, fun k hk => by
        rw [p60, p61]
        by_cases ck : k = i
        · rw [ck, if_pos rfl, if_pos rfl]; exact ⟨rfl, rfl⟩
        · have hne : o k ≠ o i := hi k i (by omega) (by omega)
          rw [if_neg hne, if_neg hne]
          exact qa k (by omega)⟩
      exact ⟨ν', g1, fun z => by rw [e1]; exact g2 z, fun z => by rw [e1]; exact g3 z⟩
theorem goC {l0 : Nat} (h0 : kD l0 = (11, 7)) {m : Nat} {B : Nat → Nat → Int} {T Wd : Nat → Int} {cr : Nat → Nat} {S : Int} {o : Nat → Nat} {n : Nat} (hJ : JOK m B T Wd S) (hn : n ≤ 8) (ho : ∀ k, k < n → o k < m) (hi : injN n o) {ν : Mm} (hC : JobC l0 ν m B T Wd cr S) (h3 : ν 58 3 = (n : Int)) (h59 : ∀ k, k < n → ν 59 k = ((o k : Nat) : Int)) : ∃ ν', fw Wgo ν ν' ∧ (feas m B o n → X5_go l0 ν = some (1, ν') ∧ RunC ν' m B T Wd S o n) ∧ (¬ feas m B o n → X5_go l0 ν = some (0, ν')) := by
  obtain ⟨j1, j2, j3, j4, j5, j6⟩ := jb_60 h0
  obtain ⟨ν1, hν1⟩ : ∃ x, x = sM (sM (sM (sM (sM (sM ν 58 4 0) 58 5 0) 58 6 0) 58 7 0) 58 8 0) 58 9 0 := ⟨_, rfl⟩
  have w1 : fw Wgo ν ν1 := by
    rw [hν1]
    exact fw_sM (fw_sM (fw_sM (fw_sM (fw_sM (fw_sM fw_rf (Or.inl ⟨rfl, by decide⟩)) (Or.inl ⟨rfl, by decide⟩)) (Or.inl ⟨rfl, by decide⟩)) (Or.inl ⟨rfl, by decide⟩)) (Or.inl ⟨rfl, by decide⟩)) (Or.inl ⟨rfl, by decide⟩)
  obtain ⟨ν', g1, g2, g3⟩ := goC_L h0 hJ hn ho hi (ν0 := ν1) (JobC_c h0 hC (fun k j k1 k2 => w1 k j (by unfold Wgo; omega))) (by rw [w1 58 3 (by unfold Wgo; omega)]; exact h3) (fun k hk => by rw [w1 59 k (by unfold Wgo; omega)]; exact h59 k hk) n 0 FU ν1 (by omega) (by show n < 1000000; omega) fw_rf (fun k hk => absurd hk (by omega)) (by
    refine ⟨?_, ?_, ?_, ?_, ?_, ?_, fun k hk => absurd hk (by omega)⟩
    · rw [hν1, sM_j (by decide), sM_j (by decide), sM_s]; rfl
    · rw [hν1, sM_j (by decide), sM_j (by decide), sM_j (by decide), sM_j (by decide), sM_j (by decide), sM_s]; rfl
    · rw [hν1, sM_j (by decide), sM_j (by decide), sM_j (by decide), sM_j (by decide), sM_s]; rfl
    · rw [hν1, sM_j (by decide), sM_j (by decide), sM_j (by decide), sM_s]; rfl
    · rw [hν1, sM_j (by decide), sM_s]; rfl
    · rw [hν1, sM_s]; rfl)
  have e : X5_go l0 ν = X5_go_L35 l0 FU 8 0 ν1 := by
    unfold X5_go
    rw [sF_r, sF_r, sF_r, sF_r, sF_r, sF_r, hν1]
  exact ⟨ν', fw_tr w1 g1, fun z => by rw [e]; exact g2 z, fun z => by rw [e]; exact g3 z⟩
/-! the reference -/
def WgM (k _ : Nat) : Prop := k = 91 ∨ k = 92
def RunM (ξ : Mm) (m : Nat) (B : Nat → Nat → Int) (T Wd : Nat → Int) (S : Int) (o : Nat → Nat) (i : Nat) : Prop := ∀ k, k < i → ξ 91 (o k) = rc m B T Wd S o k ∧ ξ 92 (o k) = rt m B T Wd S o (k + 1)
theorem JobM_c {m : Nat} {B : Nat → Nat → Int} {T Wd : Nat → Int} {S : Int} {ν ν' : Mm} (hM : JobM ν m B T Wd S) (h : fw WgM ν ν') : JobM ν' m B T Wd S := by
  obtain ⟨h1, h2, h3, h4⟩ := hM
  exact ⟨by rw [h 70 37 (by unfold WgM; omega)]; exact h1, by rw [h 70 38 (by unfold WgM; omega)]; exact h2, fun k hk => by
    rw [h 88 k (by unfold WgM; omega), h 90 k (by unfold WgM; omega)]; exact h3 k hk, fun a b ha hb => by rw [h 89 _ (by unfold WgM; omega)]; exact h4 a b ha hb⟩
theorem goM_L {m : Nat} {B : Nat → Nat → Int} {T Wd : Nat → Int} {S : Int} (hJ : JOK m B T Wd S) {ord : Int} (hord : 0 ≤ ord ∧ ord ≤ 2147483647) (ho : ∀ k, k < m → dgN m ord k < m) (hi : injN m (dgN m ord)) {ν0 : Mm} (hM : JobM ν0 m B T Wd S) : ∀ (r i fuel : Nat) (ν : Mm), i + r = m → r < fuel → Bm ν → fw WgM ν0 ν → feas m B (dgN m ord) i → RunM ν m B T Wd S (dgN m ord) i → ∃ ν', Bm ν' ∧ fw WgM ν0 ν' ∧ (feas m B (dgN m ord) m → X11_go_L10 ord fuel ((frO m (dgN m ord) i : Nat) : Int) (rt m B T Wd S (dgN m ord) i) (i : Int) ν = some (1, ν') ∧ RunM ν' m B T Wd S (dgN m ord) m) ∧ (¬ feas m B (dgN m ord) m → X11_go_L10 ord fuel ((frO m (dgN m ord) i : Nat) : Int) (rt m B T Wd S (dgN m ord) i) (i : Int) ν = some (0, ν')) := by
  have hm8 := hJ.2.1
  intro r
  induction r with
  | zero =>
    intro i fuel ν hr hf hB hw hfe hR
    obtain ⟨g, rfl, _⟩ := lt_fuel hf
    have e : i = m := by omega
    subst e
    refine ⟨ν, hB, hw, fun _ => ⟨?_, hR⟩, fun z => absurd hfe z⟩
    show (if (ν 70 37) ≤ (i : Int) then _ else _) = _
    rw [(JobM_c hM hw).1, if_pos (by omega)]
  | succ r ih =>
    intro i fuel ν hr hf hB hw hfe hR
    obtain ⟨g, rfl, _⟩ := lt_fuel hf
    have hMν := JobM_c hM hw
    have him : i < m := by omega
    have hoi := ho i him
    have hfr := fr_le ho him
    have e89 : ν 89 (8 * frO m (dgN m ord) i + dgN m ord i) = B (frO m (dgN m ord) i) (dgN m ord i) := hMν.2.2.2 _ _ hfr hoi
    have e0 : X11_go_L10 ord (g + 1) ((frO m (dgN m ord) i : Nat) : Int) (rt m B T Wd S (dgN m ord) i) (i : Int) ν = if B (frO m (dgN m ord) i) (dgN m ord i) = -1 then some (0, ν) else X11_go_L10 ord g ((dgN m ord i : Nat) : Int) (mX (iA (iA (rt m B T Wd S (dgN m ord) i) (iM (B (frO m (dgN m ord) i) (dgN m ord i)) S)) (Wd (dgN m ord i))) (T (dgN m ord i))) ((i + 1 : Nat) : Int) (sM (sM ν 91 (dgN m ord i) (iA (rt m B T Wd S (dgN m ord) i) (iM (B (frO m (dgN m ord) i) (dgN m ord i)) S))) 92 (dgN m ord i) (mX (iA (iA (rt m B T Wd S (dgN m ord) i) (iM (B (frO m (dgN m ord) i) (dgN m ord i)) S)) (Wd (dgN m ord i))) (T (dgN m ord i)))) := by
      show (if (ν 70 37) ≤ (i : Int) then _ else _) = _
      rw [hMν.1, if_neg (by omega), nthM hm8 hord him hMν.1, bd_some, off8 (by omega) (by omega)]
      unfold ldA stA
      rw [if_pos (by show (0 : Int) ≤ ((8 * frO m (dgN m ord) i + dgN m ord i : Nat) : Int) ∧ ((8 * frO m (dgN m ord) i + dgN m ord i : Nat) : Int) < 72; omega), Int.toNat_natCast (8 * frO m (dgN m ord) i + dgN m ord i), e89]
      dsimp only
      by_cases c : B (frO m (dgN m ord) i) (dgN m ord i) = -1
      · rw [if_pos c, if_pos c]
      · rw [if_neg c, if_neg c, if_pos (by show (0 : Int) ≤ ((8 * frO m (dgN m ord) i + dgN m ord i : Nat) : Int) ∧ ((8 * frO m (dgN m ord) i + dgN m ord i : Nat) : Int) < 72; omega)]
        try dsimp only
        rw [if_pos (by show (0 : Int) ≤ ((dgN m ord i : Nat) : Int) ∧ ((dgN m ord i : Nat) : Int) < 8; omega), Int.toNat_natCast (dgN m ord i)]
        try dsimp only
        rw [if_pos (by show (0 : Int) ≤ ((dgN m ord i : Nat) : Int) ∧ ((dgN m ord i : Nat) : Int) < 8; omega)]
        try dsimp only
        rw [if_pos (by show (0 : Int) ≤ ((dgN m ord i : Nat) : Int) ∧ ((dgN m ord i : Nat) : Int) < 8; omega)]
        try dsimp only
        rw [if_pos (by show (0 : Int) ≤ ((dgN m ord i : Nat) : Int) ∧ ((dgN m ord i : Nat) : Int) < 8; omega)]
        unfold lt_
        try dsimp only
        rw [if_pos (by show (0 : Int) ≤ ((dgN m ord i : Nat) : Int) ∧ ((dgN m ord i : Nat) : Int) < 8; omega), sM_s, sM_a (show (90 : Nat) ≠ 91 by decide), sM_a (show (88 : Nat) ≠ 91 by decide), (hMν.2.2.1 _ hoi).1, (hMν.2.2.1 _ hoi).2, hMν.2.1, iA_nat (by omega)]
    by_cases c : B (frO m (dgN m ord) i) (dgN m ord i) = -1
    · exact ⟨ν, hB, hw, fun z => absurd c (z i him), fun _ => by rw [e0, if_pos c]⟩
    · have hfe' : feas m B (dgN m ord) (i + 1) := fun k hk => by
        by_cases ck : k = i
        · rw [ck]; exact c
        · exact hfe k (by omega)
      have hb := rt_b hJ ho i (by omega) hfe
      have hwy := way_b hJ ho him c
      have hW := hJ.2.2.2.2.2 _ hoi
      have hb1 := rt_b hJ ho (i + 1) (by omega) hfe'
      have ecm : iA (rt m B T Wd S (dgN m ord) i) (iM (B (frO m (dgN m ord) i) (dgN m ord i)) S) = rc m B T Wd S (dgN m ord) i := by
        rw [iM_id (by omega) (by omega), iA_id (by omega) (by omega)]
        rfl
      have hrc : rc m B T Wd S (dgN m ord) i = rt m B T Wd S (dgN m ord) i + B (frO m (dgN m ord) i) (dgN m ord i) * S := rfl
      have ert : mX (iA (rc m B T Wd S (dgN m ord) i) (Wd (dgN m ord i))) (T (dgN m ord i)) = rt m B T Wd S (dgN m ord) (i + 1) := by
        rw [iA_id (by omega) (by omega)]
        rfl
      rw [ecm, ert, if_neg c] at e0
      obtain ⟨ν', g0, g1, g2, g3⟩ := ih (i + 1) g (sM (sM ν 91 (dgN m ord i) (rc m B T Wd S (dgN m ord) i)) 92 (dgN m ord i) (rt m B T Wd S (dgN m ord) (i + 1))) (by omega) (by omega) (Bm_sM (Bm_sM hB (show (-2147483648 : Int) ≤ rc m B T Wd S (dgN m ord) i ∧ rc m B T Wd S (dgN m ord) i ≤ 2147483647 by omega)) (show (-2147483648 : Int) ≤ rt m B T Wd S (dgN m ord) (i + 1) ∧ rt m B T Wd S (dgN m ord) (i + 1) ≤ 2147483647 by omega)) (fw_sM (fw_sM hw (Or.inl rfl)) (Or.inr rfl)) hfe' (fun k hk => by
        rw [sM_a (by decide), sM_if, sM_if]
        by_cases ck : k = i
        · rw [ck, if_pos rfl, if_pos rfl]; exact ⟨rfl, rfl⟩
        · have hne : dgN m ord k ≠ dgN m ord i := hi k i (by omega) him
          rw [if_neg hne, if_neg hne, sM_a (by decide)]
          exact hR k (by omega))
      exact ⟨ν', g0, g1, fun z => by rw [e0]; exact g2 z, fun z => by rw [e0]; exact g3 z⟩
theorem goM {m : Nat} {B : Nat → Nat → Int} {T Wd : Nat → Int} {S : Int} (hJ : JOK m B T Wd S) {ord : Int} (hP : PO m ord) {ν : Mm} (hB : Bm ν) (hM : JobM ν m B T Wd S) : ∃ ν', Bm ν' ∧ fw WgM ν ν' ∧ (feas m B (dgN m ord) m → X11_go ord ν = some (1, ν') ∧ RunM ν' m B T Wd S (dgN m ord) m) ∧ (¬ feas m B (dgN m ord) m → X11_go ord ν = some (0, ν')) := by
  have hm8 := hJ.2.1
  have h8 : (10 : Int) ^ m ≤ 100000000 := p10_mono (b := 8) (by omega)
  have h := goM_L hJ (ord := ord) ⟨hP.1, by have := hP.2.1; omega⟩ hP.2.2.1 hP.2.2.2 hM m 0 FU ν (by omega) (by show m < 1000000; omega) hB fw_rf (fun k hk => absurd hk (by omega)) (fun k hk => absurd hk (by omega))
  have e : X11_go ord ν = X11_go_L10 ord FU (m : Int) 0 0 ν := by
    unfold X11_go
    rw [hM.1]
  obtain ⟨ν', g0, g1, g2, g3⟩ := h
  exact ⟨ν', g0, g1, fun z => by rw [e]; exact g2 z, fun z => by rw [e]; exact g3 z⟩
