/-! a row of CUES by the BOOK: of those asked for, in the PLAY's order -/
def cN (b : Nat → Bool) : Nat → Nat
  | 0 => 0
  | k + 1 => if b k = true then cN b k + 1 else cN b k
def oN (b : Nat → Bool) : Nat → Nat → Nat
  | 0, _ => 0
  | k + 1, j => if b k = true then (if j = cN b k then k else oN b k j) else oN b k j
theorem cN_y {b : Nat → Bool} {k : Nat} (h : b k = true) : cN b (k + 1) = cN b k + 1 := if_pos h
theorem cN_n {b : Nat → Bool} {k : Nat} (h : ¬ b k = true) : cN b (k + 1) = cN b k := if_neg h
theorem oN_y {b : Nat → Bool} {k j : Nat} (h : b k = true) : oN b (k + 1) j = if j = cN b k then k else oN b k j := if_pos h
theorem oN_n {b : Nat → Bool} {k j : Nat} (h : ¬ b k = true) : oN b (k + 1) j = oN b k j := if_neg h
theorem cN_le {b : Nat → Bool} : ∀ k, cN b k ≤ k := by
  intro k
  induction k with
  | zero => exact Nat.le_refl _
  | succ k ih =>
    by_cases c : b k = true
    · rw [cN_y c]; omega
    · rw [cN_n c]; omega
theorem cN_mono {b : Nat → Bool} {k : Nat} : ∀ d, cN b k ≤ cN b (k + d) := by
  intro d
  induction d with
  | zero => exact Nat.le_refl _
  | succ d ih =>
    show cN b k ≤ cN b (k + d + 1)
    by_cases c : b (k + d) = true
    · rw [cN_y c]; omega
    · rw [cN_n c]; exact ih
theorem cN_lt {b : Nat → Bool} {k m : Nat} (hk : k < m) (h : b k = true) : cN b k < cN b m := by
  have h1 := cN_mono (b := b) (k := k + 1) (m - (k + 1))
  have e : k + 1 + (m - (k + 1)) = m := by omega
  rw [e, cN_y h] at h1
  omega
theorem oN_lt {b : Nat → Bool} : ∀ k j, j < cN b k → oN b k j < k := by
  intro k
  induction k with
  | zero => intro j h; exact absurd h (Nat.not_lt_zero _)
  | succ k ih =>
    intro j h
    by_cases c : b k = true
    · rw [cN_y c] at h
      rw [oN_y c]
      by_cases d : j = cN b k
      · rw [if_pos d]; omega
      · rw [if_neg d]; have := ih j (by omega); omega
    · rw [cN_n c] at h
      rw [oN_n c]; have := ih j h; omega
theorem oN_inc {b : Nat → Bool} : ∀ k i j, i < j → j < cN b k → oN b k i < oN b k j := by
  intro k
  induction k with
  | zero => intro i j _ h; exact absurd h (Nat.not_lt_zero _)
  | succ k ih =>
    intro i j hij h
    by_cases c : b k = true
    · rw [cN_y c] at h
      rw [oN_y c, oN_y c, if_neg (show ¬ i = cN b k by omega)]
      by_cases d : j = cN b k
      · rw [if_pos d]; exact oN_lt k i (by omega)
      · rw [if_neg d]; exact ih i j hij (by omega)
    · rw [cN_n c] at h
      rw [oN_n c, oN_n c]; exact ih i j hij h
theorem oN_at {b : Nat → Bool} : ∀ m k, k < m → b k = true → oN b m (cN b k) = k := by
  intro m
  induction m with
  | zero => intro k h; exact absurd h (Nat.not_lt_zero _)
  | succ m ih =>
    intro k hk h
    by_cases e : k = m
    · subst e
      rw [oN_y h, if_pos rfl]
    · have hk' : k < m := by omega
      by_cases c : b m = true
      · have := cN_lt hk' h
        rw [oN_y c, if_neg (by omega)]; exact ih k hk' h
      · rw [oN_n c]; exact ih k hk' h
theorem oN_inj {b : Nat → Bool} {m : Nat} : injN (cN b m) (oN b m) := fun i j hij hj => Nat.ne_of_lt (oN_inc m i j hij hj)
theorem cN_id {b : Nat → Bool} {m : Nat} (h : ∀ k, k < m → b k = true) : ∀ k, k ≤ m → cN b k = k := by
  intro k
  induction k with
  | zero => intro _; rfl
  | succ k ih => intro hk; rw [cN_y (h k (by omega)), ih (by omega)]
theorem oN_id {b : Nat → Bool} {m : Nat} (h : ∀ k, k < m → b k = true) {j : Nat} (hj : j < m) : oN b m j = j := by
  have e := oN_at m j hj (h j hj)
  rw [cN_id h j (by omega)] at e
  exact e
/-! equal ORDERS, equal runs -/
section CO
variable {m : Nat} {B : Nat → Nat → Int} {T Wd : Nat → Int} {S : Int} {o o' : Nat → Nat} {n : Nat}
theorem fr_co (h : ∀ j, j < n → o j = o' j) {k : Nat} (hk : k < n) : frO m o k = frO m o' k := by
  unfold frO
  by_cases c : k = 0
  · rw [if_pos c, if_pos c]
  · rw [if_neg c, if_neg c, h (k - 1) (by omega)]
theorem rt_co (h : ∀ j, j < n → o j = o' j) : ∀ k, k ≤ n → rt m B T Wd S o k = rt m B T Wd S o' k := by
  intro k
  induction k with
  | zero => intro _; rfl
  | succ k ih =>
    intro hk
    show mX (rt m B T Wd S o k + B (frO m o k) (o k) * S + Wd (o k)) (T (o k)) = mX (rt m B T Wd S o' k + B (frO m o' k) (o' k) * S + Wd (o' k)) (T (o' k))
    rw [ih (by omega), fr_co h (show k < n by omega), h k (by omega)]
theorem la_co (h : ∀ j, j < n → o j = o' j) {k : Nat} (hk : k < n) : laK m B T Wd S o k = laK m B T Wd S o' k := by
  unfold laK
  rw [rt_co h (k + 1) (by omega), h k hk]
theorem feas_co (h : ∀ j, j < n → o j = o' j) : feas m B o n ↔ feas m B o' n :=
  ⟨fun z k hk => by rw [← fr_co h hk, ← h k hk]; exact z k hk, fun z k hk => by rw [fr_co h hk, h k hk]; exact z k hk⟩
end CO
theorem JOK_T {m : Nat} {B : Nat → Nat → Int} {T T' Wd : Nat → Int} {S : Int} (h : JOK m B T Wd S) (h' : ∀ k, k < m → 0 ≤ T' k ∧ T' k ≤ 1099) : JOK m B T' Wd S := ⟨h.1, h.2.1, h.2.2.1, h.2.2.2.1, h', h.2.2.2.2.2⟩
theorem JOK_W {m : Nat} {B : Nat → Nat → Int} {T Wd Wd' : Nat → Int} {S : Int} (h : JOK m B T Wd S) (h' : ∀ k, k < m → 1 ≤ Wd' k ∧ Wd' k ≤ 60) : JOK m B T Wd' S := ⟨h.1, h.2.1, h.2.2.1, h.2.2.2.1, h.2.2.2.2.1, h'⟩
/-! the class: a set of CUES by the BOOK -/
def bt (M : Int) (k : Nat) : Bool := decide (bA (bR M (k : Int)) 1 = 1)
theorem bt_iff {M : Int} {k : Nat} : bt M k = true ↔ bA (bR M (k : Int)) 1 = 1 := by unfold bt; exact decide_eq_true_iff
def W59 (k j : Nat) : Prop := k = 59 ∨ (k = 58 ∧ j = 3)
theorem takeB_L {M : Int} {m : Nat} (hm : m ≤ 8) {ν0 : Mm} : ∀ (r k fuel : Nat) (ν : Mm), k + r = m → r < fuel → fw W59 ν0 ν → ν 58 3 = ((cN (bt M) k : Nat) : Int) → (∀ j, j < cN (bt M) k → ν 59 j = ((oN (bt M) k j : Nat) : Int)) → ∃ ν', X5_takeBook_L7 M (m : Int) fuel (k : Int) ν = some (0, ν') ∧ fw W59 ν0 ν' ∧ ν' 58 3 = ((cN (bt M) m : Nat) : Int) ∧ ∀ j, j < cN (bt M) m → ν' 59 j = ((oN (bt M) m j : Nat) : Int) := by
  intro r
  induction r with
  | zero =>
    intro k fuel ν hr hf hw h3 h59
    obtain ⟨g, rfl, _⟩ := lt_fuel hf
    have e : k = m := by omega
    subst e
    refine ⟨ν, ?_, hw, h3, h59⟩
    show (if (k : Int) ≤ (k : Int) then _ else _) = _
    rw [if_pos (Int.le_refl _)]
  | succ r ih =>
    intro k fuel ν hr hf hw h3 h59
    obtain ⟨g, rfl, _⟩ := lt_fuel hf
    have hc := cN_le (b := bt M) k
    by_cases c : bA (bR M (k : Int)) 1 = 1
    · have cb := bt_iff.mpr c
      obtain ⟨ν1, hν1⟩ : ∃ x, x = sM (sM ν 59 (cN (bt M) k) (k : Int)) 58 3 ((cN (bt M) (k + 1) : Nat) : Int) := ⟨_, rfl⟩
      have e0 : X5_takeBook_L7 M (m : Int) (g + 1) (k : Int) ν = X5_takeBook_L7 M (m : Int) g ((k + 1 : Nat) : Int) ν1 := by
        show (if (m : Int) ≤ (k : Int) then _ else _) = _
        rw [if_neg (by omega), if_neg (by omega), if_pos c, h3, if_neg (by omega)]
        unfold stA
        rw [if_pos (by show (0 : Int) ≤ ((cN (bt M) k : Nat) : Int) ∧ ((cN (bt M) k : Nat) : Int) < 8; omega), Int.toNat_natCast]
        try dsimp only
        rw [sF_r, sM_a (show (58 : Nat) ≠ 59 by decide), h3, iA_nat (by omega), iA_nat (by omega), hν1, cN_y cb]
      rw [e0]
      refine ih (k + 1) g ν1 (by omega) (by omega) ?_ ?_ (fun j hj => ?_)
      · rw [hν1]
        exact fw_sM (fw_sM hw (Or.inl rfl)) (Or.inr ⟨rfl, rfl⟩)
      · rw [hν1, sM_s]
      · rw [hν1, sM_a (show (59 : Nat) ≠ 58 by decide), sM_if, oN_y cb]
        rw [cN_y cb] at hj
        by_cases d : j = cN (bt M) k
        · rw [if_pos d, if_pos d]
        · rw [if_neg d, if_neg d]; exact h59 j (by omega)
    · have cb : ¬ bt M k = true := fun z => c (bt_iff.mp z)
      have e0 : X5_takeBook_L7 M (m : Int) (g + 1) (k : Int) ν = X5_takeBook_L7 M (m : Int) g ((k + 1 : Nat) : Int) ν := by
        show (if (m : Int) ≤ (k : Int) then _ else _) = _
        rw [if_neg (by omega), if_neg (by omega), if_neg c, iA_nat (by omega)]
      rw [e0]
      refine ih (k + 1) g ν (by omega) (by omega) hw ?_ (fun j hj => ?_)
      · rw [cN_n cb]; exact h3
      · rw [cN_n cb] at hj
        rw [oN_n cb]; exact h59 j hj
theorem takeB {M : Int} {m : Nat} (hm : m ≤ 8) (ν : Mm) : ∃ ν', X5_takeBook M (m : Int) ν = some (0, ν') ∧ fw W59 ν ν' ∧ ν' 58 3 = ((cN (bt M) m : Nat) : Int) ∧ ∀ j, j < cN (bt M) m → ν' 59 j = ((oN (bt M) m j : Nat) : Int) := by
  have h := takeB_L (M := M) hm (ν0 := ν) m 0 FU (sM ν 58 3 0) (by omega) (by show m < 1000000; omega) (fw_sM fw_rf (Or.inr ⟨rfl, rfl⟩)) (by rw [sM_s]; rfl) (fun j hj => absurd hj (Nat.not_lt_zero _))
  have e : X5_takeBook M (m : Int) ν = X5_takeBook_L7 M (m : Int) FU 0 (sM ν 58 3 0) := by
    unfold X5_takeBook
    rw [sF_r]
  rw [e]
  exact h
def Wlb (k j : Nat) : Prop := (k = 58 ∧ 3 ≤ j) ∨ k = 59 ∨ k = 60 ∨ k = 61
/-- LATES of a set of CUES by the BOOK -/
theorem lbb {M : Int} {m : Nat} {B : Nat → Nat → Int} {T Wd : Nat → Int} {cr : Nat → Nat} {S : Int} (hJ : JOK m B T Wd S) {ν : Mm} (hC : JobC 48 ν m B T Wd cr S) : ∃ ν', fw Wlb ν ν' ∧ (feas m B (oN (bt M) m) (cN (bt M) m) → X10_latesByBook M ν = some (sK (laK m B T Wd S (oN (bt M) m)) (cN (bt M) m), ν')) ∧ (¬ feas m B (oN (bt M) m) (cN (bt M) m) → X10_latesByBook M ν = some (-1, ν')) := by
  have hm8 := hJ.2.1
  have hcm := cN_le (b := bt M) m
  obtain ⟨ν1, k1, k2, k3, k4⟩ := takeB (M := M) hm8 ν
  have hC1 : JobC 48 ν1 m B T Wd cr S := JobC_c (by decide) hC (fun k j h1 h2 => k2 k j (by unfold W59; omega))
  obtain ⟨ν2, x1, x2, x3⟩ := goC (l0 := 48) (by decide) hJ (n := cN (bt M) m) (by omega) (o := oN (bt M) m) (fun k hk => oN_lt m k hk) oN_inj hC1 k3 k4
  have f : fw Wlb ν ν2 := fun k j h => by
    rw [x1 k j (fun z => h (by unfold Wgo at z; unfold Wlb; omega)), k2 k j (fun z => h (by unfold W59 at z; unfold Wlb; omega))]
  refine ⟨ν2, f, fun hF => ?_, fun hF => ?_⟩
  · obtain ⟨x4, x5⟩ := x2 hF
    unfold X10_latesByBook
    rw [hC.1, k1, bd_some, x4, bd_some, if_neg (by decide), x5.2.1]
  · have x4 := x3 hF
    unfold X10_latesByBook
    rw [hC.1, k1, bd_some, x4, bd_some, if_pos rfl]
theorem all_bt : ∀ m, m < 9 → ∀ k, k < m → bA (bR (iS (bL 1 ((m : Nat) : Int)) 1) ((k : Nat) : Int)) 1 = 1 := by decide +kernel
def idN (k : Nat) : Nat := k
/-- all CUES by the BOOK: in the class -/
theorem bookC {m : Nat} {B : Nat → Nat → Int} {T Wd : Nat → Int} {cr : Nat → Nat} {S : Int} (hJ : JOK m B T Wd S) {ν : Mm} (hC : JobC 48 ν m B T Wd cr S) : ∃ ν', fw Wlb ν ν' ∧ X1_allCues 48 ν = some (iS (bL 1 (m : Int)) 1, ν) ∧ (feas m B idN m → X10_latesByBook (iS (bL 1 (m : Int)) 1) ν = some (sK (laK m B T Wd S idN) m, ν')) ∧ (¬ feas m B idN m → X10_latesByBook (iS (bL 1 (m : Int)) 1) ν = some (-1, ν')) := by
  have hm8 := hJ.2.1
  have hb : ∀ k, k < m → bt (iS (bL 1 (m : Int)) 1) k = true := fun k hk => bt_iff.mpr (all_bt m (by omega) k hk)
  have hcn := cN_id hb m (Nat.le_refl _)
  have hon : ∀ j, j < m → oN (bt (iS (bL 1 (m : Int)) 1)) m j = idN j := fun j hj => oN_id hb hj
  obtain ⟨ν', g1, g2, g3⟩ := lbb (M := iS (bL 1 (m : Int)) 1) hJ hC
  rw [hcn] at g2 g3
  refine ⟨ν', g1, by unfold X1_allCues; rw [hC.1], fun hF => ?_, fun hF => g3 (fun z => hF ((feas_co hon).mp z))⟩
  rw [g2 ((feas_co hon).mpr hF), sK_c m (fun k hk => la_co hon hk)]
/-! and in the reference -/
def bkV : Nat → Int
  | 0 => 0
  | k + 1 => 10 * bkV k + (k : Int)
theorem bkV_rg : ∀ k, k < 9 → 0 ≤ bkV k ∧ bkV k ≤ 99999999 := by decide +kernel
theorem bkV_PO : ∀ m, m < 9 → bkV m < 10 ^ m ∧ ∀ k, k < m → dgN m (bkV m) k = k := by decide +kernel
theorem book_PO {m : Nat} (hm : m ≤ 8) : PO m (bkV m) := by
  have h := bkV_PO m (by omega)
  exact ⟨(bkV_rg m (by omega)).1, h.1, fun j hj => by rw [h.2 j hj]; exact hj, fun i j hij hj => by rw [h.2 i (by omega), h.2 j hj]; omega⟩
theorem bookM_L {m : Nat} (hm : m ≤ 8) {ξ : Mm} (h37 : ξ 70 37 = (m : Int)) : ∀ (r k fuel : Nat), k + r = m → r < fuel → X11_book_L4 fuel (bkV k) (k : Int) ξ = some (bkV m, ξ) := by
  intro r
  induction r with
  | zero =>
    intro k fuel hr hf
    obtain ⟨g, rfl, _⟩ := lt_fuel hf
    have e : k = m := by omega
    show (if (ξ 70 37) ≤ (k : Int) then _ else _) = _
    rw [h37, if_pos (by omega), e]
  | succ r ih =>
    intro k fuel hr hf
    obtain ⟨g, rfl, _⟩ := lt_fuel hf
    have h1 := bkV_rg k (by omega)
    have e0 : X11_book_L4 (g + 1) (bkV k) (k : Int) ξ = X11_book_L4 g (bkV (k + 1)) ((k + 1 : Nat) : Int) ξ := by
      show (if (ξ 70 37) ≤ (k : Int) then _ else _) = _
      rw [h37, if_neg (by omega)]
      unfold lt_
      try dsimp only
      rw [iM_id (by omega) (by omega), iA_id (by omega) (by omega), iA_nat (by omega)]
      rfl
    rw [e0]
    exact ih (k + 1) g (by omega) (by omega)
theorem bookM {m : Nat} {B : Nat → Nat → Int} {T Wd : Nat → Int} {S : Int} (hJ : JOK m B T Wd S) {ξ : Mm} (hB : Bm ξ) (hM : JobM ξ m B T Wd S) : (∀ ξ0, ξ0 70 37 = (m : Int) → X11_book ξ0 = some (bkV m, ξ0)) ∧ ∃ ξ', Bm ξ' ∧ fw WgM ξ ξ' ∧ JobM ξ' m B T Wd S ∧ (feas m B idN m → X11_go (bkV m) ξ = some (1, ξ') ∧ X11_tellOf (bkV m) 0 ξ' = some (sK (laK m B T Wd S idN) m, ξ')) ∧ (¬ feas m B idN m → X11_go (bkV m) ξ = some (0, ξ')) := by
  have hm8 := hJ.2.1
  have hP := book_PO hm8
  have hd : ∀ j, j < m → dgN m (bkV m) j = idN j := (bkV_PO m (by omega)).2
  refine ⟨fun ξ0 h => ?_, ?_⟩
  · have := bookM_L hm8 h m 0 FU (by omega) (by show m < 1000000; omega)
    exact this
  · obtain ⟨ξ', g0, g1, g2, g3⟩ := goM hJ hP hB hM
    have hM' := JobM_c hM g1
    refine ⟨ξ', g0, g1, hM', fun hF => ?_, fun hF => g3 (fun z => hF ((feas_co hd).mp z))⟩
    have hF' := (feas_co hd).mpr hF
    obtain ⟨g4, g5⟩ := g2 hF'
    refine ⟨g4, ?_⟩
    rw [tellM hJ hP hM' g5 hF']
    unfold tlV
    rw [if_pos rfl, sK_c m (fun k hk => la_co hd hk)]
