/-! the first of the best ORDERS -/
def betr (c : Int) (s : Int × Int) : Prop := s.1 = -1 ∨ c < s.2
def lateW (w c l : Int) : Int := if w = 0 then c + l else if w = 1 then mX c l else if l ≤ 0 then c else c + 1
def stO (B : Nat → Nat → Int) (T Wd : Nat → Int) (S t : Int) (a i : Nat) : Int := mX (t + B a i * S + Wd i) (T i)
def ofB (v : Nat → Bool) (i : Nat) (k : Nat) : Bool := if k = i then false else v k
def flO (f : Nat → Int × Int → Int × Int) : Nat → Int × Int → Int × Int
  | 0, s => s
  | k + 1, s => f k (flO f k s)
theorem flO_id {f : Nat → Int × Int → Int × Int} {s : Int × Int} : ∀ k, (∀ i, i < k → f i s = s) → flO f k s = s := by
  intro k
  induction k with
  | zero => intro _; rfl
  | succ k ih =>
    intro h
    show f k (flO f k s) = s
    rw [ih (fun i hi => h i (by omega))]
    exact h k (by omega)
/-- all ways to go on from a, with the CUES left (n of them; al tells which may come now), the best so far s -/
def fulO (m : Nat) (B : Nat → Nat → Int) (T Wd : Nat → Int) (S w : Int) (al : Nat → Nat → Bool) : Nat → (Nat → Bool) → Nat → Int → Int → Int → Int × Int → Int × Int
  | 0, _, _, _, c, d, s => if s.1 = -1 ∨ c < s.2 then (d, c) else s
  | n + 1, lf, a, t, c, d, s => flO (fun i s => if lf i = true ∧ al n i = true ∧ B a i ≠ -1 then fulO m B T Wd S w al n (ofB lf i) i (stO B T Wd S t a i) (lateW w c (stO B T Wd S t a i - T i)) (10 * d + (i : Int)) s else s) m s
/-- nothing better than s comes of it -/
def ddO (m : Nat) (B : Nat → Nat → Int) (T Wd : Nat → Int) (S w : Int) (al : Nat → Nat → Bool) (s : Int × Int) : Nat → (Nat → Bool) → Nat → Int → Int → Prop
  | 0, _, _, _, c => ¬ betr c s
  | n + 1, lf, a, t, c => ∀ i, i < m → lf i = true → al n i = true → B a i ≠ -1 → ddO m B T Wd S w al s n (ofB lf i) i (stO B T Wd S t a i) (lateW w c (stO B T Wd S t a i - T i))
def impO (s s' : Int × Int) : Prop := ∀ c, ¬ betr c s → ¬ betr c s'
theorem impO_rf {s : Int × Int} : impO s s := fun _ h => h
theorem impO_tr {a b c : Int × Int} (h1 : impO a b) (h2 : impO b c) : impO a c := fun x h => h2 x (h1 x h)
theorem stO_T {B : Nat → Nat → Int} {T Wd : Nat → Int} {S t : Int} {a i : Nat} : 0 ≤ stO B T Wd S t a i - T i := by
  unfold stO
  rw [mX_eq]
  omega
theorem stO_mono {B : Nat → Nat → Int} {T Wd : Nat → Int} {S t t' : Int} {a i : Nat} (h : t ≤ t') : stO B T Wd S t a i ≤ stO B T Wd S t' a i := by
  unfold stO
  rw [mX_eq, mX_eq]
  omega
theorem lateW_ge {w c l : Int} (h : 0 ≤ l) : c ≤ lateW w c l := by
  unfold lateW
  rw [mX_eq]
  by_cases c0 : w = 0
  · rw [if_pos c0]; omega
  · rw [if_neg c0]
    by_cases c1 : w = 1
    · rw [if_pos c1]; omega
    · rw [if_neg c1]
      by_cases c2 : l ≤ 0
      · rw [if_pos c2]; omega
      · rw [if_neg c2]; omega
theorem lateW_mono {w c c' l l' : Int} (h : c ≤ c') (h2 : l ≤ l') : lateW w c l ≤ lateW w c' l' := by
  unfold lateW
  rw [mX_eq, mX_eq]
  by_cases c0 : w = 0
  · rw [if_pos c0, if_pos c0]; omega
  · rw [if_neg c0, if_neg c0]
    by_cases c1 : w = 1
    · rw [if_pos c1, if_pos c1]; omega
    · rw [if_neg c1, if_neg c1]
      by_cases c2 : l ≤ 0
      · rw [if_pos c2]
        by_cases c3 : l' ≤ 0
        · rw [if_pos c3]; omega
        · rw [if_neg c3]; omega
      · rw [if_neg c2, if_neg (by omega)]; omega
section FU_
variable {m : Nat} {B : Nat → Nat → Int} {T Wd : Nat → Int} {S w : Int} {al : Nat → Nat → Bool}
theorem fulO_0 {lf : Nat → Bool} {a : Nat} {t c d : Int} {s : Int × Int} : (betr c s → fulO m B T Wd S w al 0 lf a t c d s = (d, c)) ∧ (¬ betr c s → fulO m B T Wd S w al 0 lf a t c d s = s) :=
  ⟨fun h => if_pos h, fun h => if_neg h⟩
def fst1 (m : Nat) (B : Nat → Nat → Int) (T Wd : Nat → Int) (S w : Int) (al : Nat → Nat → Bool) (n : Nat) (lf : Nat → Bool) (a : Nat) (t c d : Int) (i : Nat) (s : Int × Int) : Int × Int := fulO m B T Wd S w al n (ofB lf i) i (stO B T Wd S t a i) (lateW w c (stO B T Wd S t a i - T i)) (10 * d + (i : Int)) s
def fst2 (m : Nat) (B : Nat → Nat → Int) (T Wd : Nat → Int) (S w : Int) (al : Nat → Nat → Bool) (n : Nat) (lf : Nat → Bool) (a : Nat) (t c d : Int) (i : Nat) (s : Int × Int) : Int × Int := if lf i = true ∧ al n i = true ∧ B a i ≠ -1 then fst1 m B T Wd S w al n lf a t c d i s else s
theorem fulO_s {n : Nat} {lf : Nat → Bool} {a : Nat} {t c d : Int} {s : Int × Int} : fulO m B T Wd S w al (n + 1) lf a t c d s = flO (fst2 m B T Wd S w al n lf a t c d) m s := rfl
theorem fst2_y {n : Nat} {lf : Nat → Bool} {a : Nat} {t c d : Int} {i : Nat} {s : Int × Int} (h : lf i = true ∧ al n i = true ∧ B a i ≠ -1) : fst2 m B T Wd S w al n lf a t c d i s = fst1 m B T Wd S w al n lf a t c d i s := if_pos h
theorem fst2_n {n : Nat} {lf : Nat → Bool} {a : Nat} {t c d : Int} {i : Nat} {s : Int × Int} (h : ¬ (lf i = true ∧ al n i = true ∧ B a i ≠ -1)) : fst2 m B T Wd S w al n lf a t c d i s = s := if_neg h
/-- a ddO one changes nothing -/
theorem ddO_full : ∀ (n : Nat) (lf : Nat → Bool) (a : Nat) (t c d : Int) (s : Int × Int), ddO m B T Wd S w al s n lf a t c → fulO m B T Wd S w al n lf a t c d s = s := by
  intro n
  induction n with
  | zero => intro lf a t c d s h; exact fulO_0.2 h
  | succ n ih =>
    intro lf a t c d s h
    rw [fulO_s]
    refine flO_id m (fun i hi => ?_)
    by_cases z : lf i = true ∧ al n i = true ∧ B a i ≠ -1
    · rw [fst2_y z]
      exact ih _ _ _ _ _ s (h i hi z.1 z.2.1 z.2.2)
    · exact fst2_n z
theorem ddO_imp {s s' : Int × Int} (hi : impO s s') : ∀ (n : Nat) (lf : Nat → Bool) (a : Nat) (t c : Int), ddO m B T Wd S w al s n lf a t c → ddO m B T Wd S w al s' n lf a t c := by
  intro n
  induction n with
  | zero => intro lf a t c h; exact hi c h
  | succ n ih => intro lf a t c h i h1 h2 h3 h4; exact ih _ _ _ _ (h i h1 h2 h3 h4)
theorem ddO_mono {s : Int × Int} : ∀ (n : Nat) (lf : Nat → Bool) (a : Nat) (t t' c c' : Int), t ≤ t' → c ≤ c' → ddO m B T Wd S w al s n lf a t c → ddO m B T Wd S w al s n lf a t' c' := by
  intro n
  induction n with
  | zero =>
    intro lf a t t' c c' _ hc h z
    exact h (z.elim Or.inl (fun y => Or.inr (by omega)))
  | succ n ih =>
    intro lf a t t' c c' ht hc h i h1 h2 h3 h4
    have hs := stO_mono (B := B) (T := T) (Wd := Wd) (S := S) (a := a) (i := i) ht
    exact ih _ _ _ _ _ _ hs (lateW_mono hc (by omega)) (h i h1 h2 h3 h4)
/-- no better cost can come of a cost that is no better -/
theorem ddO_cut {s : Int × Int} : ∀ (n : Nat) (lf : Nat → Bool) (a : Nat) (t c : Int), ¬ betr c s → ddO m B T Wd S w al s n lf a t c := by
  intro n
  induction n with
  | zero => intro lf a t c h; exact h
  | succ n ih =>
    intro lf a t c h i h1 h2 h3 h4
    have hg := lateW_ge (w := w) (c := c) (stO_T (B := B) (T := T) (Wd := Wd) (S := S) (t := t) (a := a) (i := i))
    exact ih _ _ _ _ (fun z => h (z.elim Or.inl (fun y => Or.inr (by omega))))
theorem flO_P {P : Int × Int → Prop} {f : Nat → Int × Int → Int × Int} {s : Int × Int} : ∀ k, P s → (∀ i s, i < k → P s → P (f i s)) → P (flO f k s) := by
  intro k
  induction k with
  | zero => intro h _; exact h
  | succ k ih => intro h h2; exact h2 k _ (by omega) (ih h (fun i s hi => h2 i s (by omega)))
theorem fulO_imp : ∀ (n : Nat) (lf : Nat → Bool) (a : Nat) (t c d : Int) (s : Int × Int), 0 ≤ d → impO s (fulO m B T Wd S w al n lf a t c d s) := by
  intro n
  induction n with
  | zero =>
    intro lf a t c d s hd
    by_cases z : betr c s
    · rw [fulO_0.1 z]
      intro x hx y
      rcases y with y | y
      · have y : d = -1 := y
        omega
      · have y : x < c := y
        exact hx (z.elim Or.inl (fun q => Or.inr (by omega)))
    · rw [fulO_0.2 z]; exact impO_rf
  | succ n ih =>
    intro lf a t c d s hd
    rw [fulO_s]
    refine flO_P (P := fun s' => impO s s') m impO_rf (fun i s' hi hs => ?_)
    by_cases z : lf i = true ∧ al n i = true ∧ B a i ≠ -1
    · rw [fst2_y z]
      exact impO_tr hs (ih _ _ _ _ _ _ (by omega))
    · rw [fst2_n z]; exact hs
/-- behind it, it is ddO -/
theorem fulO_dead : ∀ (n : Nat) (lf : Nat → Bool) (a : Nat) (t c d : Int) (s : Int × Int), 0 ≤ d → ddO m B T Wd S w al (fulO m B T Wd S w al n lf a t c d s) n lf a t c := by
  intro n
  induction n with
  | zero =>
    intro lf a t c d s hd
    show ¬ betr c _
    by_cases z : betr c s
    · rw [fulO_0.1 z]
      rintro (y | y)
      · have y : d = -1 := y
        omega
      · have y : c < c := y
        omega
    · rw [fulO_0.2 z]; exact z
  | succ n ih =>
    intro lf a t c d s hd
    rw [fulO_s]
    -- behind the first k
    have key : ∀ k, k ≤ m → ∀ i, i < k → lf i = true → al n i = true → B a i ≠ -1 → ddO m B T Wd S w al (flO (fst2 m B T Wd S w al n lf a t c d) k s) n (ofB lf i) i (stO B T Wd S t a i) (lateW w c (stO B T Wd S t a i - T i)) := by
      intro k
      induction k with
      | zero => intro _ i hi; exact absurd hi (Nat.not_lt_zero _)
      | succ k ihk =>
        intro hk i hi h2 h3 h4
        show ddO m B T Wd S w al (fst2 m B T Wd S w al n lf a t c d k (flO (fst2 m B T Wd S w al n lf a t c d) k s)) n (ofB lf i) i _ _
        by_cases z : i = k
        · subst z
          rw [fst2_y ⟨h2, h3, h4⟩]
          exact ih _ _ _ _ _ _ (by omega)
        · have h := ihk (by omega) i (by omega) h2 h3 h4
          by_cases y : lf k = true ∧ al n k = true ∧ B a k ≠ -1
          · rw [fst2_y y]
            exact ddO_imp (fulO_imp _ _ _ _ _ _ _ (by omega)) _ _ _ _ _ h
          · rw [fst2_n y]; exact h
    intro i hi h2 h3 h4
    exact key m (Nat.le_refl _) i hi h2 h3 h4
end FU_
theorem cN_off {lf : Nat → Bool} {i : Nat} (hl : lf i = true) : ∀ m, cN (ofB lf i) m = if i < m then cN lf m - 1 else cN lf m := by
  intro m
  induction m with
  | zero => rw [if_neg (Nat.not_lt_zero _)]; rfl
  | succ m ih =>
    by_cases c : m = i
    · subst c
      have h0 : ¬ ofB lf m m = true := by unfold ofB; rw [if_pos rfl]; decide
      rw [cN_n h0, ih, if_neg (Nat.lt_irrefl _), if_pos (Nat.lt_succ_self _), cN_y hl]
      omega
    · have e : ofB lf i m = lf m := by unfold ofB; rw [if_neg c]
      by_cases d : lf m = true
      · have d' : ofB lf i m = true := by rw [e]; exact d
        rw [cN_y d', cN_y d, ih]
        by_cases z : i < m
        · have := cN_lt (b := lf) z hl
          rw [if_pos z, if_pos (by omega)]; omega
        · rw [if_neg z, if_neg (by omega)]
      · have d' : ¬ ofB lf i m = true := by rw [e]; exact d
        rw [cN_n d', cN_n d, ih]
        by_cases z : i < m
        · rw [if_pos z, if_pos (by omega)]
        · rw [if_neg z, if_neg (by omega)]
theorem cN_0 {lf : Nat → Bool} : ∀ m, cN lf m = 0 → ∀ i, i < m → ¬ lf i = true := by
  intro m h i hi z
  have := cN_lt hi z
  omega
theorem cN_z {lf : Nat → Bool} : ∀ m, (∀ i, i < m → ¬ lf i = true) → cN lf m = 0 := by
  intro m
  induction m with
  | zero => intro _; rfl
  | succ m ih =>
    intro h
    rw [cN_n (h m (by omega))]
    exact ih (fun i hi => h i (by omega))
/-- it can't be: nothing is found -/
theorem fulO_no {m : Nat} {B : Nat → Nat → Int} {T Wd : Nat → Int} {S w : Int} {al : Nat → Nat → Bool} (hTR : TRB m B) {b : Nat} (hb : b < m) (hB : B m b = -1) {s : Int × Int} : ∀ (n : Nat) (lf : Nat → Bool) (a : Nat) (t c : Int), cN lf m = n → lf b = true → (a = m ∨ (a < m ∧ B m a ≠ -1)) → ddO m B T Wd S w al s n lf a t c := by
  intro n
  induction n with
  | zero =>
    intro lf a t c hn hl _
    exact absurd hl (cN_0 m hn b hb)
  | succ n ih =>
    intro lf a t c hn hl ha i h1 h2 h3 h4
    have hib : i ≠ b := by
      intro e
      subst e
      rcases ha with z | ⟨z1, z2⟩
      · rw [z] at h4; exact h4 hB
      · exact hTR a i z1 h1 z2 h4 hB
    have hi : B m i ≠ -1 := by
      rcases ha with z | ⟨z1, z2⟩
      · rw [← z]; exact h4
      · exact hTR a i z1 h1 z2 h4
    refine ih (ofB lf i) i _ _ ?_ ?_ (Or.inr ⟨h1, hi⟩)
    · rw [cN_off h2, if_pos h1, hn]; rfl
    · unfold ofB
      rw [if_neg (fun e => hib e.symm)]
      exact hl
