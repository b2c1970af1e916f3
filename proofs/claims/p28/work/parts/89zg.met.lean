/-! MET: none LATE, and that can but be by the BOOK -/
def Zr (m : Nat) (B : Nat → Nat → Int) (T Wd : Nat → Int) (S : Int) : Nat → (Nat → Bool) → Nat → Int → Prop
  | 0, _, _, _ => True
  | n + 1, lf, a, t => ∃ i, i < m ∧ lf i = true ∧ B a i ≠ -1 ∧ stO B T Wd S t a i = T i ∧ Zr m B T Wd S n (ofB lf i) i (T i)
def up (lf : Nat → Bool) (k j : Nat) : Bool := lf j && decide (k ≤ j)
def bz (B : Nat → Nat → Int) (T Wd : Nat → Int) (S : Int) (lf : Nat → Bool) : Nat → Nat → Nat → Int → Prop
  | 0, _, _, _ => True
  | r + 1, k, a, t => (lf k = true → B a k ≠ -1 ∧ stO B T Wd S t a k = T k ∧ bz B T Wd S lf r (k + 1) k (T k)) ∧ (¬ lf k = true → bz B T Wd S lf r (k + 1) a t)
theorem up_iff {lf : Nat → Bool} {k j : Nat} : up lf k j = true ↔ (lf j = true ∧ k ≤ j) := by
  unfold up
  rw [Bool.and_eq_true, decide_eq_true_iff]
theorem up_0 {lf : Nat → Bool} : up lf 0 = lf := by
  funext j
  rw [Bool.eq_iff_iff, up_iff]
  exact ⟨fun z => z.1, fun z => ⟨z, Nat.zero_le _⟩⟩
theorem up_y {lf : Nat → Bool} {k : Nat} : ofB (up lf k) k = up lf (k + 1) := by
  funext j
  unfold ofB
  by_cases c : j = k
  · rw [if_pos c, Bool.eq_iff_iff, up_iff]
    exact ⟨fun z => absurd z (by decide), fun z => by omega⟩
  · rw [if_neg c, Bool.eq_iff_iff, up_iff, up_iff]
    exact ⟨fun z => ⟨z.1, by omega⟩, fun z => ⟨z.1, by omega⟩⟩
theorem up_n {lf : Nat → Bool} {k : Nat} (h : ¬ lf k = true) : up lf k = up lf (k + 1) := by
  funext j
  rw [Bool.eq_iff_iff, up_iff, up_iff]
  constructor
  · rintro ⟨z1, z2⟩
    refine ⟨z1, ?_⟩
    by_cases c : j = k
    · rw [c] at z1; exact absurd z1 h
    · omega
  · rintro ⟨z1, z2⟩; exact ⟨z1, by omega⟩
theorem sK_0 {f : Nat → Int} (hf : ∀ k, 0 ≤ f k) : ∀ n, sK f n = 0 ↔ ∀ k, k < n → f k = 0 := by
  intro n
  induction n with
  | zero => exact ⟨fun _ k hk => absurd hk (Nat.not_lt_zero _), fun _ => rfl⟩
  | succ n ih =>
    have h0 : 0 ≤ sK f n := by
      have : ∀ k, 0 ≤ sK f k := by
        intro k
        induction k with
        | zero => exact Int.le_refl _
        | succ k ihk => have := hf k; show 0 ≤ sK f k + f k; omega
      exact this n
    have h1 := hf n
    have e : sK f (n + 1) = sK f n + f n := rfl
    constructor
    · intro h k hk
      by_cases c : k = n
      · rw [c]; omega
      · exact ih.mp (by omega) k (by omega)
    · intro h
      have h2 := ih.mpr (fun k hk => h k (by omega))
      have h3 := h n (by omega)
      omega
section MT
variable {m : Nat} {B : Nat → Nat → Int} {T Wd : Nat → Int} {S : Int}
theorem Z_dead : ∀ (n : Nat) (lf : Nat → Bool) (a : Nat) (t c : Int) (s : Int × Int), ddO m B T Wd S 2 alT s n lf a t c → Zr m B T Wd S n lf a t → ¬ betr c s := by
  intro n
  induction n with
  | zero => intro lf a t c s h _; exact h
  | succ n ih =>
    rintro lf a t c s h ⟨i, h1, h2, h3, h4, h5⟩
    have h6 := h i h1 h2 rfl h3
    rw [h4] at h6
    have e : lateW 2 c (T i - T i) = c := by
      unfold lateW
      rw [if_neg (by decide), if_neg (by decide), if_pos (by omega)]
    rw [e] at h6
    exact ih _ _ _ _ _ h6 h5
theorem Z_from : ∀ (n : Nat) (lf : Nat → Bool) (a : Nat) (t c d : Int) (s : Int × Int), fulO m B T Wd S 2 alT n lf a t c d s = s ∨ (c ≤ (fulO m B T Wd S 2 alT n lf a t c d s).2 ∧ ((fulO m B T Wd S 2 alT n lf a t c d s).2 = c → Zr m B T Wd S n lf a t)) := by
  intro n
  induction n with
  | zero =>
    intro lf a t c d s
    by_cases z : betr c s
    · rw [fulO_0.1 z]; exact Or.inr ⟨Int.le_refl _, fun _ => trivial⟩
    · rw [fulO_0.2 z]; exact Or.inl rfl
  | succ n ih =>
    intro lf a t c d s
    rw [fulO_s]
    refine flO_P (P := fun r => r = s ∨ (c ≤ r.2 ∧ (r.2 = c → Zr m B T Wd S (n + 1) lf a t))) m (Or.inl rfl) (fun i r hi hr => ?_)
    by_cases z : lf i = true ∧ alT n i = true ∧ B a i ≠ -1
    · rw [fst2_y z]
      have hl := stO_T (B := B) (T := T) (Wd := Wd) (S := S) (t := t) (a := a) (i := i)
      have hg := lateW_ge (w := 2) (c := c) hl
      rcases ih (ofB lf i) i (stO B T Wd S t a i) (lateW 2 c (stO B T Wd S t a i - T i)) (10 * d + (i : Int)) r with e | ⟨e1, e2⟩
      · have e : fst1 m B T Wd S 2 alT n lf a t c d i r = r := e
        rw [e]; exact hr
      · refine Or.inr ⟨Int.le_trans hg e1, fun q => ?_⟩
        have q : (fulO m B T Wd S 2 alT n (ofB lf i) i (stO B T Wd S t a i) (lateW 2 c (stO B T Wd S t a i - T i)) (10 * d + (i : Int)) r).2 = c := q
        have h0 : stO B T Wd S t a i - T i ≤ 0 := Classical.byContradiction (fun y => by
          have : lateW 2 c (stO B T Wd S t a i - T i) = c + 1 := by
            unfold lateW
            rw [if_neg (by decide), if_neg (by decide), if_neg y]
          omega)
        have hc : lateW 2 c (stO B T Wd S t a i - T i) = c := by
          unfold lateW
          rw [if_neg (by decide), if_neg (by decide), if_pos h0]
        have hst : stO B T Wd S t a i = T i := by omega
        have h5 := e2 (by rw [q, hc])
        rw [hst] at h5
        exact ⟨i, hi, z.1, z.2.2, hst, h5⟩
    · rw [fst2_n z]; exact hr
theorem st_gt (hJ : JOK m B T Wd S) {a i : Nat} (ha : a ≤ m) (hi : i < m) (hB : B a i ≠ -1) {t : Int} (h : stO B T Wd S t a i = T i) : t < T i := by
  have h1 := hJ.2.2.2.1 a i ha hi
  have h2 := mul_b (a := B a i) (s := S) (by omega) hJ.2.2.1
  have h4 := hJ.2.2.2.2.2 i hi
  unfold stO at h
  rw [mX_eq] at h
  omega
theorem Z_gt (hJ : JOK m B T Wd S) : ∀ (n : Nat) (lf : Nat → Bool) (a : Nat) (t : Int) (k : Nat), a ≤ m → cN lf m = n → k < m → lf k = true → Zr m B T Wd S n lf a t → t < T k := by
  intro n
  induction n with
  | zero => intro lf a t k _ hn hk hl _; exact absurd hl (cN_0 m hn k hk)
  | succ n ih =>
    rintro lf a t k ha hn hk hl ⟨i, h1, h2, h3, h4, h5⟩
    have hg := st_gt hJ ha h1 h3 h4
    by_cases c : k = i
    · rw [c]; exact hg
    · have := ih (ofB lf i) i (T i) k (by omega) (by rw [cN_off h2, if_pos h1, hn]; rfl) hk (by unfold ofB; rw [if_neg c]; exact hl) h5
      omega
theorem Z_bz (hJ : JOK m B T Wd S) (hTm : ∀ k, k + 1 < m → T k ≤ T (k + 1)) {lf : Nat → Bool} : ∀ (r k a : Nat) (t : Int), k + r = m → a ≤ m → (Zr m B T Wd S (cN (up lf k) m) (up lf k) a t ↔ bz B T Wd S lf r k a t) := by
  intro r
  induction r with
  | zero =>
    intro k a t hk ha
    have e : cN (up lf k) m = 0 := cN_z m (fun i hi z => by have := (up_iff.mp z).2; omega)
    rw [e]
    exact ⟨fun _ => trivial, fun _ => trivial⟩
  | succ r ih =>
    intro k a t hk ha
    have hkm : k < m := by omega
    by_cases c : lf k = true
    · have hk' : up lf k k = true := up_iff.mpr ⟨c, Nat.le_refl _⟩
      have hn : cN (up lf k) m = cN (up lf (k + 1)) m + 1 := by
        have h1 := cN_off hk' m
        rw [up_y, if_pos hkm] at h1
        have h2 := cN_lt hkm hk'
        omega
      rw [hn]
      constructor
      · rintro ⟨i, h1, h2, h3, h4, h5⟩
        have hik : i = k := by
          by_cases e : i = k
          · exact e
          · exfalso
            have h6 := (up_iff.mp h2).2
            have h7 := Z_gt hJ _ (ofB (up lf k) i) i (T i) k (by omega) (by rw [cN_off h2, if_pos h1, hn]; rfl) hkm (by unfold ofB; rw [if_neg (fun z => e z.symm)]; exact hk') h5
            have h8 := tm_mono hTm (a := k) (i - k) (by omega)
            have e2 : k + (i - k) = i := by omega
            rw [e2] at h8
            omega
        subst hik
        rw [up_y] at h5
        exact ⟨fun _ => ⟨h3, h4, (ih (i + 1) i (T i) (by omega) (by omega)).mp h5⟩, fun z => absurd c z⟩
      · rintro ⟨h1, _⟩
        obtain ⟨h3, h4, h5⟩ := h1 c
        refine ⟨k, hkm, hk', h3, h4, ?_⟩
        rw [up_y]
        exact (ih (k + 1) k (T k) (by omega) (by omega)).mpr h5
    · rw [up_n c, ih (k + 1) a t (by omega) ha]
      exact ⟨fun z => ⟨fun y => absurd y c, fun _ => z⟩, fun z => z.2 c⟩
theorem bz_rt {lf : Nat → Bool} : ∀ (r k : Nat), k + r = m → (bz B T Wd S lf r k (frO m (oN lf m) (cN lf k)) (rt m B T Wd S (oN lf m) (cN lf k)) ↔ ∀ j, cN lf k ≤ j → j < cN lf m → B (frO m (oN lf m) j) (oN lf m j) ≠ -1 ∧ laK m B T Wd S (oN lf m) j = 0) := by
  intro r
  induction r with
  | zero =>
    intro k hk
    have e : k = m := by omega
    rw [e]
    exact ⟨fun _ j h1 h2 => by omega, fun _ => trivial⟩
  | succ r ih =>
    intro k hk
    have hkm : k < m := by omega
    by_cases c : lf k = true
    · have hok := oN_at m k hkm c
      have hcn := cN_y c
      have hlt := cN_lt hkm c
      have efr : frO m (oN lf m) (cN lf k + 1) = k := hok
      have ert : rt m B T Wd S (oN lf m) (cN lf k + 1) = stO B T Wd S (rt m B T Wd S (oN lf m) (cN lf k)) (frO m (oN lf m) (cN lf k)) k := by
        show mX (rt m B T Wd S (oN lf m) (cN lf k) + B (frO m (oN lf m) (cN lf k)) (oN lf m (cN lf k)) * S + Wd (oN lf m (cN lf k))) (T (oN lf m (cN lf k))) = _
        rw [hok]
        rfl
      have ela : laK m B T Wd S (oN lf m) (cN lf k) = stO B T Wd S (rt m B T Wd S (oN lf m) (cN lf k)) (frO m (oN lf m) (cN lf k)) k - T k := by
        show rt m B T Wd S (oN lf m) (cN lf k + 1) - T (oN lf m (cN lf k)) = _
        rw [ert, hok]
      have h1 := ih (k + 1) (by omega)
      rw [hcn, efr, ert] at h1
      constructor
      · rintro ⟨h2, _⟩ j j1 j2
        obtain ⟨h3, h4, h5⟩ := h2 c
        rw [← h4] at h5
        by_cases e : j = cN lf k
        · rw [e, hok, ela]
          exact ⟨h3, by omega⟩
        · exact h1.mp h5 j (by omega) j2
      · intro h2
        have h3 := h2 (cN lf k) (Nat.le_refl _) hlt
        rw [hok, ela] at h3
        have h4 : stO B T Wd S (rt m B T Wd S (oN lf m) (cN lf k)) (frO m (oN lf m) (cN lf k)) k = T k := by omega
        refine ⟨fun _ => ⟨h3.1, h4, ?_⟩, fun z => absurd c z⟩
        have h5 := h1.mpr (fun j j1 j2 => h2 j (by omega) j2)
        rw [h4] at h5
        exact h5
    · have hcn := cN_n c
      have h1 := ih (k + 1) (by omega)
      rw [hcn] at h1
      rw [← h1]
      exact ⟨fun z => z.2 c, fun z => ⟨fun y => absurd y c, fun _ => z⟩⟩
/-- MET of a set -/
def METp (m : Nat) (B : Nat → Nat → Int) (T Wd : Nat → Int) (S : Int) (lf : Nat → Bool) : Prop := feas m B (oN lf m) (cN lf m) ∧ sK (laK m B T Wd S (oN lf m)) (cN lf m) = 0
theorem la_nn {o : Nat → Nat} (k : Nat) : 0 ≤ laK m B T Wd S o k := by
  have e : rt m B T Wd S o (k + 1) = mX (rt m B T Wd S o k + B (frO m o k) (o k) * S + Wd (o k)) (T (o k)) := rfl
  unfold laK
  rw [e, mX_eq]
  omega
theorem met_iff (hJ : JOK m B T Wd S) (hTm : ∀ k, k + 1 < m → T k ≤ T (k + 1)) {lf : Nat → Bool} : (bst m B T Wd S 2 lf).2 = 0 ↔ METp m B T Wd S lf := by
  have h1 : (bst m B T Wd S 2 lf).2 = 0 ↔ Zr m B T Wd S (cN lf m) lf m 0 := by
    rcases Z_from (m := m) (B := B) (T := T) (Wd := Wd) (S := S) (cN lf m) lf m 0 0 0 (-1, -1) with e | ⟨e1, e2⟩
    · have e : bst m B T Wd S 2 lf = (-1, -1) := e
      have hd := fulO_dead (m := m) (B := B) (T := T) (Wd := Wd) (S := S) (w := 2) (al := alT) (cN lf m) lf m 0 0 0 (-1, -1) (Int.le_refl _)
      have hd : ddO m B T Wd S 2 alT (bst m B T Wd S 2 lf) (cN lf m) lf m 0 0 := hd
      rw [e] at hd ⊢
      exact ⟨fun z => absurd z (by decide), fun z => absurd (Or.inl rfl) (Z_dead _ _ _ _ _ _ hd z)⟩
    · have e1 : 0 ≤ (bst m B T Wd S 2 lf).2 := e1
      refine ⟨e2, fun z => ?_⟩
      have hd : ddO m B T Wd S 2 alT (bst m B T Wd S 2 lf) (cN lf m) lf m 0 0 := fulO_dead (cN lf m) lf m 0 0 0 (-1, -1) (Int.le_refl _)
      have h2 := Z_dead _ _ _ _ _ _ hd z
      have h3 : ¬ (0 : Int) < (bst m B T Wd S 2 lf).2 := fun y => h2 (Or.inr y)
      omega
  have h2 := Z_bz hJ hTm (lf := lf) m 0 m 0 (by omega) (Nat.le_refl _)
  rw [up_0] at h2
  have h3 : bz B T Wd S lf m 0 m 0 ↔ ∀ j, 0 ≤ j → j < cN lf m → B (frO m (oN lf m) j) (oN lf m j) ≠ -1 ∧ laK m B T Wd S (oN lf m) j = 0 := bz_rt (T := T) (Wd := Wd) (S := S) (lf := lf) m 0 (by omega)
  rw [h1, h2, h3]
  unfold METp
  rw [sK_0 la_nn]
  exact ⟨fun z => ⟨fun k hk => (z k (Nat.zero_le _) hk).1, fun k hk => (z k (Nat.zero_le _) hk).2⟩, fun z j _ hj => ⟨z.1 j hj, z.2 j hj⟩⟩
end MT
