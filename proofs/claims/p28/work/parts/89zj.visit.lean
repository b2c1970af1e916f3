/-! the class's search, whole -/
theorem flO_up {f : Nat → Int × Int → Int × Int} {s : Int × Int} {k : Nat} : ∀ d, (∀ i s', k ≤ i → i < k + d → f i s' = s') → flO f (k + d) s = flO f k s := by
  intro d
  induction d with
  | zero => intro _; rfl
  | succ d ih =>
    intro h
    show f (k + d) (flO f (k + d) s) = flO f k s
    rw [h (k + d) _ (by omega) (by omega)]
    exact ih (fun i s' h1 h2 => h i s' h1 (by omega))
theorem flO_co {f g : Nat → Int × Int → Int × Int} {s : Int × Int} : ∀ k, (∀ i s', i < k → f i s' = g i s') → flO f k s = flO g k s := by
  intro k
  induction k with
  | zero => intro _; rfl
  | succ k ih =>
    intro h
    show f k (flO f k s) = g k (flO g k s)
    rw [ih (fun i s' hi => h i s' (by omega)), h k _ (by omega)]
theorem flO_one {f : Nat → Int × Int → Int × Int} {s : Int × Int} {i m : Nat} (hi : i < m) (h : ∀ j s', j < m → j ≠ i → f j s' = s') : flO f m s = f i s := by
  have h1 := flO_up (f := f) (s := s) (k := i + 1) (m - (i + 1)) (fun j s' k1 k2 => h j s' (by omega) (by omega))
  have e : i + 1 + (m - (i + 1)) = m := by omega
  rw [e] at h1
  rw [h1]
  show f i (flO f i s) = f i s
  rw [flO_id i (fun j hj => h j s (by omega) (by omega))]
section AL
variable {m : Nat} {B : Nat → Nat → Int} {T Wd : Nat → Int} {S w : Int}
theorem fulO_al {al al' : Nat → Nat → Bool} : ∀ (n : Nat) (lf : Nat → Bool) (a : Nat) (t c d : Int) (s : Int × Int), (∀ k i, k < n → al k i = al' k i) → fulO m B T Wd S w al n lf a t c d s = fulO m B T Wd S w al' n lf a t c d s := by
  intro n
  induction n with
  | zero => intro lf a t c d s _; rfl
  | succ n ih =>
    intro lf a t c d s h
    rw [fulO_s, fulO_s]
    refine flO_co m (fun i s' hi => ?_)
    unfold fst2 fst1
    rw [h n i (by omega), ih _ _ _ _ _ _ (fun k i hk => h k i (by omega))]
theorem fulO_sg {al : Nat → Nat → Bool} : ∀ (n : Nat) (lf : Nat → Bool) (a : Nat) (t c d : Int) (s : Int × Int), 0 ≤ d → fulO m B T Wd S w al n lf a t c d s = s ∨ 0 ≤ (fulO m B T Wd S w al n lf a t c d s).1 := by
  intro n
  induction n with
  | zero =>
    intro lf a t c d s hd
    by_cases z : betr c s
    · rw [fulO_0.1 z]; exact Or.inr hd
    · rw [fulO_0.2 z]; exact Or.inl rfl
  | succ n ih =>
    intro lf a t c d s hd
    rw [fulO_s]
    refine flO_P (P := fun r => r = s ∨ 0 ≤ r.1) m (Or.inl rfl) (fun i r hi hr => ?_)
    by_cases z : lf i = true ∧ al n i = true ∧ B a i ≠ -1
    · rw [fst2_y z]
      rcases ih (ofB lf i) i (stO B T Wd S t a i) (lateW w c (stO B T Wd S t a i - T i)) (10 * d + (i : Int)) r (by omega) with e | e
      · have e : fst1 m B T Wd S w al n lf a t c d i r = r := e
        rw [e]; exact hr
      · exact Or.inr e
    · rw [fst2_n z]; exact hr
end AL
section SV
variable {m : Nat} {B : Nat → Nat → Int} {T Wd : Nat → Int} {cr : Nat → Nat} {S w : Int} {F : Nat}
theorem visC_L (hJ : JOK m B T Wd S) {X n q : Nat} {lf : Nat → Bool} (hX : smk X m lf) (hn : cN lf m = n + 1) (hq : q + (n + 1) = m) {a : Nat} (ha : a ≤ m) {t c d : Int} (hR : Rng q t c d) {rec : Int → Int → Int → Int → Int → Int → Mm → Rs} (hrec : ∀ i, i < m → lf i = true → B a i ≠ -1 → ∀ (s : Int × Int) (Y : Nat) (ν1 : Mm), smk Y m (ofB lf i) → EnC ν1 w F → JobC 48 ν1 m B T Wd cr S → Rel ν1 s → Mem m B T Wd S w F ν1 s n → betr (lateW w c (stO B T Wd S t a i - T i)) s → ∃ ν2, rec ((q + 1 : Nat) : Int) (Y : Int) (i : Int) (stO B T Wd S t a i) (lateW w c (stO B T Wd S t a i - T i)) (10 * d + (i : Int)) ν1 = some (0, ν2) ∧ fw Wv ν1 ν2 ∧ Rel ν2 (fst1 m B T Wd S w (alF m F) n lf a t c d i s) ∧ Mem m B T Wd S w F ν2 (fst1 m B T Wd S w (alF m F) n lf a t c d i s) n ∧ keep m ν1 ν2 n) {lo hi : Nat} (hhi : hi ≤ m) (hal : ∀ i, lo ≤ i → i < hi → alF m F n i = true) {s0 : Int × Int} {ν0 : Mm} (hE : EnC ν0 w F) (hC : JobC 48 ν0 m B T Wd cr S) : ∀ (r i fuel : Nat) (ν : Mm), i + r = hi → lo ≤ i → r < fuel → fw Wv ν0 ν → Rel ν (flO (fst2 m B T Wd S w (alF m F) n lf a t c d) i s0) → Mem m B T Wd S w F ν (flO (fst2 m B T Wd S w (alF m F) n lf a t c d) i s0) (n + 1) → keep m ν0 ν (n + 1) → ∃ ν', X6_visit_L66 rec (q : Int) (X : Int) ((aC m a : Nat) : Int) t c d (hi : Int) fuel (i : Int) ν = some (0, ν') ∧ fw Wv ν0 ν' ∧ Rel ν' (flO (fst2 m B T Wd S w (alF m F) n lf a t c d) hi s0) ∧ Mem m B T Wd S w F ν' (flO (fst2 m B T Wd S w (alF m F) n lf a t c d) hi s0) (n + 1) ∧ keep m ν0 ν' (n + 1) := by
  have hm8 := hJ.2.1
  intro r
  induction r with
  | zero =>
    intro i fuel ν hr hl hf hw h1 h2 h3
    obtain ⟨g, rfl, _⟩ := lt_fuel hf
    have e : i = hi := by omega
    subst e
    refine ⟨ν, ?_, hw, h1, h2, h3⟩
    show (if (i : Int) ≤ (i : Int) then _ else _) = _
    rw [if_pos (Int.le_refl _)]
  | succ r ih =>
    intro i fuel ν hr hl hf hw h1 h2 h3
    obtain ⟨g, rfl, _⟩ := lt_fuel hf
    have him : i < m := by omega
    have hEν := EnC_v hE hw
    have hCν := JobC_v hC hw
    have hbit : bA (bR (X : Int) (i : Int)) 1 = 1 ↔ ¬ lf i = true := by
      rw [bt1 (by omega), hX.2 i (by omega)]
      exact ⟨fun z => z.2, fun z => ⟨him, z⟩⟩
    have hfl : flO (fst2 m B T Wd S w (alF m F) n lf a t c d) (i + 1) s0 = fst2 m B T Wd S w (alF m F) n lf a t c d i (flO (fst2 m B T Wd S w (alF m F) n lf a t c d) i s0) := rfl
    have skip : ¬ (lf i = true ∧ alF m F n i = true ∧ B a i ≠ -1) → X6_visit_L66 rec (q : Int) (X : Int) ((aC m a : Nat) : Int) t c d (hi : Int) (g + 1) (i : Int) ν = X6_visit_L66 rec (q : Int) (X : Int) ((aC m a : Nat) : Int) t c d (hi : Int) g ((i + 1 : Nat) : Int) ν := by
      intro hno
      show (if (hi : Int) ≤ (i : Int) then _ else _) = _
      rw [if_neg (by omega)]
      by_cases c1 : lf i = true
      · have c2 : B a i = -1 := Classical.byContradiction (fun z => hno ⟨c1, hal i hl (by omega), z⟩)
        rw [if_neg (fun z => hbit.mp z c1), mR62 hEν.1, comesC hJ hCν ha him hR (by omega), if_pos c2, bd_some]
        unfold X6_visit_J99
        rw [if_pos rfl, iA_nat (by omega)]
      · rw [if_pos (hbit.mpr c1)]
        unfold X6_visit_J99
        rw [if_pos rfl, iA_nat (by omega)]
    by_cases z : lf i = true ∧ alF m F n i = true ∧ B a i ≠ -1
    · obtain ⟨z1, _, z3⟩ := z
      obtain ⟨_, r4, _⟩ := rng_s (w := w) hJ ha him z3 hR (by omega)
      obtain ⟨ν2, g1, g2, g3, g4, g5⟩ := folC hJ hX hn hq ha him z1 z3 hR hEν hCν h1 h2 (rec := rec) (fun Y ν1 => hrec i him z1 z3 _ Y ν1)
      obtain ⟨q1, q2, q3⟩ := hR
      have p8 : (10 : Int) ^ (q + 1) ≤ 100000000 := p10_mono (b := 8) (by omega)
      have p9 : (10 : Int) ^ (q + 1) = 10 ^ q * 10 := p10_succ q
      have t3 : iA (iM 10 d) (i : Int) = 10 * d + (i : Int) := by
        rw [iM_id (by omega) (by omega), iA_id (by omega) (by omega)]
      have e0 : X6_visit_L66 rec (q : Int) (X : Int) ((aC m a : Nat) : Int) t c d (hi : Int) (g + 1) (i : Int) ν = X6_visit_L66 rec (q : Int) (X : Int) ((aC m a : Nat) : Int) t c d (hi : Int) g ((i + 1 : Nat) : Int) ν2 := by
        show (if (hi : Int) ≤ (i : Int) then _ else _) = _
        rw [if_neg (by omega), if_neg (fun y => hbit.mp y z1), mR62 hEν.1, comesC hJ hCν ha him ⟨q1, q2, q3⟩ (by omega), if_neg z3, bd_some]
        unfold X6_visit_J99
        rw [if_neg (by omega), t3, g1, bd_some, iA_nat (by omega)]
      rw [e0]
      have ef : flO (fst2 m B T Wd S w (alF m F) n lf a t c d) (i + 1) s0 = fst1 m B T Wd S w (alF m F) n lf a t c d i (flO (fst2 m B T Wd S w (alF m F) n lf a t c d) i s0) := by
        rw [hfl, fst2_y ⟨z1, hal i hl (by omega), z3⟩]
      exact ih (i + 1) g ν2 (by omega) (by omega) (by omega) (fw_tr hw g2) (by rw [ef]; exact g3) (by rw [ef]; exact g4) (fun Z l lf' k1 k2 k3 => by
        have y1 := h3 Z l lf' k1 k2 k3
        have y2 := g5 Z l lf' k1 k2 k3
        exact ⟨by rw [y2.1, y1.1], by rw [y2.2, y1.2]⟩)
    · rw [skip z]
      have ef : flO (fst2 m B T Wd S w (alF m F) n lf a t c d) (i + 1) s0 = flO (fst2 m B T Wd S w (alF m F) n lf a t c d) i s0 := by
        rw [hfl, fst2_n z]
      exact ih (i + 1) g ν (by omega) (by omega) (by omega) hw (by rw [ef]; exact h1) (by rw [ef]; exact h2) h3
theorem alF_y {n i q : Nat} (hq : q + (n + 1) = m) (h : F ≤ q ∨ i = q) : alF m F n i = true := by
  unfold alF
  exact decide_eq_true (fun z => by omega)
theorem alF_n {n i q : Nat} (hq : q + (n + 1) = m) (h : q < F) (hi : i ≠ q) : ¬ alF m F n i = true := by
  unfold alF
  rw [decide_eq_true_iff]
  intro z
  exact hi (by have := z (by omega); omega)
theorem visC (hJ : JOK m B T Wd S) (hF : F ≤ m) : ∀ (n fuel q X : Nat) (lf : Nat → Bool) (a : Nat) (t c d : Int) (ν : Mm) (s : Int × Int), q + n = m → n < fuel → smk X m lf → cN lf m = n → a ≤ m → Rng q t c d → EnC ν w F → JobC 48 ν m B T Wd cr S → Rel ν s → Mem m B T Wd S w F ν s n → betr c s → ∃ ν', X6_visit fuel (q : Int) (X : Int) ((aC m a : Nat) : Int) t c d ν = some (0, ν') ∧ fw Wv ν ν' ∧ Rel ν' (fulO m B T Wd S w (alF m F) n lf a t c d s) ∧ Mem m B T Wd S w F ν' (fulO m B T Wd S w (alF m F) n lf a t c d s) n ∧ keep m ν ν' n := by
  have hm8 := hJ.2.1
  intro n
  induction n with
  | zero =>
    intro fuel q X lf a t c d ν s hq hf hX hn ha hR hE hC hS hM hb
    obtain ⟨g, rfl, _⟩ := lt_fuel hf
    obtain ⟨q1, q2, q3⟩ := hR
    refine ⟨sM (sM ν 62 7 c) 62 8 d, ?_, fw_sM (fw_sM fw_rf (Or.inl ⟨rfl, Or.inl rfl⟩)) (Or.inl ⟨rfl, Or.inr rfl⟩), ?_, fun Z l lf' h1 h2 h3 => absurd h3 (Nat.not_lt_zero _), fun Z l lf' h1 h2 h3 => ⟨?_, ?_⟩⟩
    · show mR ν 62 4 (11, 7) _ = _
      rw [mR62 hE.1, hC.1, if_neg (by omega), sF_r, sF_r]
    · rw [fulO_0.1 hb]
      refine Or.inr ⟨q3.1, ?_, ?_, q2.1, ?_⟩
      · rw [sM_j (by decide), sM_s]
      · rw [sM_s]
      · show c < 1000000000
        omega
    · rw [sM_a (by decide), sM_a (by decide)]
    · rw [sM_a (by decide), sM_a (by decide)]
  | succ n ih =>
    intro fuel q X lf a t c d ν s hq hf hX hn ha hR hE hC hS hM hb
    obtain ⟨g, rfl, _⟩ := lt_fuel hf
    have hrec : ∀ i, i < m → lf i = true → B a i ≠ -1 → ∀ (s : Int × Int) (Y : Nat) (ν1 : Mm), smk Y m (ofB lf i) → EnC ν1 w F → JobC 48 ν1 m B T Wd cr S → Rel ν1 s → Mem m B T Wd S w F ν1 s n → betr (lateW w c (stO B T Wd S t a i - T i)) s → ∃ ν2, (fun w0 w1 w2 w3 w4 w5 μq => X6_visit g w0 w1 w2 w3 w4 w5 μq) ((q + 1 : Nat) : Int) (Y : Int) (i : Int) (stO B T Wd S t a i) (lateW w c (stO B T Wd S t a i - T i)) (10 * d + (i : Int)) ν1 = some (0, ν2) ∧ fw Wv ν1 ν2 ∧ Rel ν2 (fst1 m B T Wd S w (alF m F) n lf a t c d i s) ∧ Mem m B T Wd S w F ν2 (fst1 m B T Wd S w (alF m F) n lf a t c d i s) n ∧ keep m ν1 ν2 n := by
      intro i hi h1 h2 s' Y ν1 y1 y2 y3 y4 y5 y6
      obtain ⟨r1, _⟩ := rng_s (w := w) hJ ha hi h2 hR (by omega)
      have ea : aC m i = i := if_neg (by omega)
      have h := ih g (q + 1) Y (ofB lf i) i _ _ _ ν1 s' (by omega) (by omega) y1 (by rw [cN_off h1, if_pos hi, hn]; rfl) (by omega) r1 y2 y3 y4 y5 y6
      rw [ea] at h
      exact h
    have main : ∀ lo hi : Nat, lo ≤ hi → hi ≤ m → (∀ i, lo ≤ i → i < hi → alF m F n i = true) → (∀ i, i < m → ¬ (lo ≤ i ∧ i < hi) → ¬ alF m F n i = true) → ∃ ν', X6_visit_L66 (fun w0 w1 w2 w3 w4 w5 μq => X6_visit g w0 w1 w2 w3 w4 w5 μq) (q : Int) (X : Int) ((aC m a : Nat) : Int) t c d (hi : Int) FU (lo : Int) ν = some (0, ν') ∧ fw Wv ν ν' ∧ Rel ν' (fulO m B T Wd S w (alF m F) (n + 1) lf a t c d s) ∧ Mem m B T Wd S w F ν' (fulO m B T Wd S w (alF m F) (n + 1) lf a t c d s) (n + 1) ∧ keep m ν ν' (n + 1) := by
      intro lo hi h1 h2 h3 h4
      have hid : ∀ i s', i < m → ¬ (lo ≤ i ∧ i < hi) → fst2 m B T Wd S w (alF m F) n lf a t c d i s' = s' := fun i s' hi hn => fst2_n (fun z => h4 i hi hn z.2.1)
      have e1 : flO (fst2 m B T Wd S w (alF m F) n lf a t c d) lo s = s := flO_id lo (fun i hi => hid i s (by omega) (by omega))
      have e2 : flO (fst2 m B T Wd S w (alF m F) n lf a t c d) m s = flO (fst2 m B T Wd S w (alF m F) n lf a t c d) hi s := by
        have h := flO_up (f := fst2 m B T Wd S w (alF m F) n lf a t c d) (s := s) (k := hi) (m - hi) (fun i s' k1 k2 => hid i s' (by omega) (by omega))
        have e : hi + (m - hi) = m := by omega
        rw [e] at h
        exact h
      have h := visC_L hJ hX hn (by omega) ha hR hrec h2 (lo := lo) h3 (s0 := s) hE hC (hi - lo) lo FU ν (by omega) (Nat.le_refl _) (by show hi - lo < 1000000; omega) fw_rf (by rw [e1]; exact hS) (by rw [e1]; exact hM) (fun _ _ _ _ _ _ => ⟨rfl, rfl⟩)
      rw [← e2, ← fulO_s] at h
      exact h
    have eq1 : iA (q : Int) 1 = ((q + 1 : Nat) : Int) := iA_nat (by omega)
    by_cases cF : F ≤ q
    · obtain ⟨ν', g1, g2⟩ := main 0 m (Nat.zero_le _) (Nat.le_refl _) (fun i _ _ => alF_y (q := q) (by omega) (Or.inl cF)) (fun i hi hn => absurd ⟨Nat.zero_le _, hi⟩ hn)
      refine ⟨ν', ?_, g2⟩
      show mR ν 62 4 (11, 7) _ = _
      rw [mR62 hE.1, hC.1, if_pos (by omega), hE.2.2, if_pos (by omega)]
      unfold X6_visit_J37
      rw [hE.2.2, if_pos (by omega), mR62 hE.1, hC.1]
      exact g1
    · obtain ⟨ν', g1, g2⟩ := main q (q + 1) (by omega) (by omega) (fun i h1 h2 => alF_y (q := q) (by omega) (Or.inr (by omega))) (fun i hi hn => alF_n (q := q) (by omega) (by omega) (by omega))
      refine ⟨ν', ?_, g2⟩
      show mR ν 62 4 (11, 7) _ = _
      rw [mR62 hE.1, hC.1, if_pos (by omega), hE.2.2, if_neg (by omega)]
      unfold X6_visit_J37
      rw [hE.2.2, if_neg (by omega), eq1]
      exact g1
/-! can it be -/
theorem h8C : ((aC m m : Nat) : Int) = 8 := by
  unfold aC
  rw [if_pos rfl]
  rfl
theorem canC_L (hJ : JOK m B T Wd S) {ν : Mm} (hC : JobC 48 ν m B T Wd cr S) : ∀ (r i fuel : Nat), i + r = m → r < fuel → (∀ b, b < i → B m b ≠ -1) → ((∀ b, b < m → B m b ≠ -1) → X1_canBe_L2 48 fuel (i : Int) ν = some (1, ν)) ∧ ((∃ b, b < m ∧ B m b = -1) → X1_canBe_L2 48 fuel (i : Int) ν = some (0, ν)) := by
  have hm8 := hJ.2.1
  intro r
  induction r with
  | zero =>
    intro i fuel hr hf hb
    obtain ⟨g, rfl, _⟩ := lt_fuel hf
    constructor
    · intro _
      show (if (ν 48 5) ≤ (i : Int) then _ else _) = _
      rw [hC.1, if_pos (by omega)]
    · rintro ⟨b, b1, b2⟩
      exact absurd b2 (hb b (by omega))
  | succ r ih =>
    intro i fuel hr hf hb
    obtain ⟨g, rfl, _⟩ := lt_fuel hf
    have hs := stepsC hJ hC (Nat.le_refl m) (show i < m by omega)
    rw [h8C] at hs
    have e0 : X1_canBe_L2 48 (g + 1) (i : Int) ν = if B m i = -1 then some (0, ν) else X1_canBe_L2 48 g ((i + 1 : Nat) : Int) ν := by
      show (if (ν 48 5) ≤ (i : Int) then _ else _) = _
      rw [hC.1, if_neg (by omega), hs, bd_some, iA_nat (by omega)]
    rw [e0]
    by_cases c : B m i = -1
    · rw [if_pos c]
      exact ⟨fun z => absurd c (z i (by omega)), fun _ => rfl⟩
    · rw [if_neg c]
      exact ih (i + 1) g (by omega) (by omega) (fun b hb2 => by
        by_cases e : b = i
        · rw [e]; exact c
        · exact hb b (by omega))
theorem canC (hJ : JOK m B T Wd S) {ν : Mm} (hC : JobC 48 ν m B T Wd cr S) : ((∀ b, b < m → B m b ≠ -1) → X1_canBe 48 ν = some (1, ν)) ∧ ((∃ b, b < m ∧ B m b = -1) → X1_canBe 48 ν = some (0, ν)) :=
  canC_L hJ hC m 0 FU (by omega) (by show m < 1000000; have := hJ.2.1; omega) (fun b hb => absurd hb (Nat.not_lt_zero _))
/-! forgotten -/
def W34 (k _ : Nat) : Prop := k = 63 ∨ k = 64
theorem forC_L {N : Nat} (hN : N ≤ 2048) {ν0 : Mm} : ∀ (r i fuel : Nat) (ν : Mm), i + r = N → r < fuel → fw W34 ν0 ν → (∀ j, j < i → ν 63 j = 1000000000 ∧ ν 64 j = 1000000000) → ∃ ν', X6_forget_L15 (N : Int) fuel (i : Int) ν = some (0, ν') ∧ fw W34 ν0 ν' ∧ ∀ j, j < N → ν' 63 j = 1000000000 ∧ ν' 64 j = 1000000000 := by
  intro r
  induction r with
  | zero =>
    intro i fuel ν hr hf hw h
    obtain ⟨g, rfl, _⟩ := lt_fuel hf
    refine ⟨ν, ?_, hw, fun j hj => h j (by omega)⟩
    show (if (N : Int) ≤ (i : Int) then _ else _) = _
    rw [if_pos (by omega)]
  | succ r ih =>
    intro i fuel ν hr hf hw h
    obtain ⟨g, rfl, _⟩ := lt_fuel hf
    have i20 : (0 : Int) ≤ (i : Int) ∧ (i : Int) < ((2048 : Nat) : Int) := ⟨by omega, by omega⟩
    have e0 : X6_forget_L15 (N : Int) (g + 1) (i : Int) ν = X6_forget_L15 (N : Int) g ((i + 1 : Nat) : Int) (sM (sM ν 63 i 1000000000) 64 i 1000000000) := by
      show (if (N : Int) ≤ (i : Int) then _ else _) = _
      rw [if_neg (by omega), if_neg (by show ¬ (2048 : Int) ≤ (i : Int); omega)]
      unfold stA
      rw [if_pos (by exact i20)]
      try dsimp only
      rw [if_pos (by rw [a64]; exact i20), Int.toNat_natCast, iA_nat (by omega)]
      try dsimp only
    rw [e0]
    exact ih (i + 1) g _ (by omega) (by omega) (fw_sM (fw_sM hw (Or.inl rfl)) (Or.inr rfl)) (fun j hj => by
      rw [sM_a (by decide), sM_if, sM_if, sM_a (by decide)]
      by_cases e : j = i
      · rw [if_pos e, if_pos e]; exact ⟨rfl, rfl⟩
      · rw [if_neg e, if_neg e]; exact h j (by omega))
theorem mRg {l0 : Nat} (h0 : kD l0 = (11, 7)) {ν : Mm} (h : ν 62 4 = (l0 : Int)) (f : Nat → Rs) : mR ν 62 4 (11, 7) f = f l0 := by
  unfold mR
  rw [h, Int.toNat_natCast]
  try dsimp only
  exact if_pos h0
theorem forC {l0 : Nat} (h0 : kD l0 = (11, 7)) (hm : m ≤ 8) {ν : Mm} (h4 : ν 62 4 = (l0 : Int)) (h5 : ν l0 5 = (m : Int)) : ∃ ν', X6_forget ν = some (0, ν') ∧ fw W34 ν ν' ∧ ∀ j, j < 8 * 2 ^ m → ν' 63 j = 1000000000 ∧ ν' 64 j = 1000000000 := by
  have h2 := pow_256 hm
  have hv := all_v m (by omega)
  have e1 : iM (iA (iS (bL 1 (m : Int)) 1) 1) 8 = ((8 * 2 ^ m : Nat) : Int) := by
    rw [hv, iA_id (by omega) (by omega), iM_id (by omega) (by omega)]
    omega
  obtain ⟨ν', g1, g2, g3⟩ := forC_L (N := 8 * 2 ^ m) (by omega) (ν0 := ν) (8 * 2 ^ m) 0 FU ν (by omega) (by show 8 * 2 ^ m < 1000000; omega) fw_rf (fun j hj => absurd hj (Nat.not_lt_zero _))
  refine ⟨ν', ?_, g2, g3⟩
  unfold X6_forget
  rw [mRg h0 h4]
  unfold X1_allCues
  rw [h5, bd_some, e1]
  exact g1
/-- the best ORDER whose first F CUES are as in the BOOK -/
def bsF (m : Nat) (B : Nat → Nat → Int) (T Wd : Nat → Int) (S w : Int) (F : Nat) : Int × Int := fulO m B T Wd S w (alF m F) m (fun _ => true) m 0 0 0 (-1, -1)
theorem bsF_sg : bsF m B T Wd S w F = (-1, -1) ∨ 0 ≤ (bsF m B T Wd S w F).1 := fulO_sg _ _ _ _ _ _ _ (Int.le_refl _)
theorem cN_all : cN (fun _ => true) m = m := cN_id (b := fun _ => true) (fun _ _ => rfl) m (Nat.le_refl _)
def Wsk (k j : Nat) : Prop := (k = 62 ∧ 4 ≤ j) ∨ k = 63 ∨ k = 64
theorem smk_0 (hm : m ≤ 8) : smk 0 m (fun _ => true) := ⟨Nat.two_pow_pos m, fun d hd => by
  have : ((0 : Nat) : Int) = 0 := rfl
  rw [this, gb_zero d hd]
  exact ⟨fun z => absurd z (by decide), fun z => absurd rfl z.2⟩⟩
theorem seekC (hJ : JOK m B T Wd S) (hTR : TRB m B) (hF : F ≤ m) {ν : Mm} (hC : JobC 48 ν m B T Wd cr S) : ∃ ν', fw Wsk ν ν' ∧ ((bsF m B T Wd S w F).1 = -1 → X6_seek 48 w (F : Int) ν = some (0, ν')) ∧ ((bsF m B T Wd S w F).1 ≠ -1 → X6_seek 48 w (F : Int) ν = some (1, ν') ∧ ν' 62 8 = (bsF m B T Wd S w F).1 ∧ ν' 62 7 = (bsF m B T Wd S w F).2) := by
  have hm8 := hJ.2.1
  obtain ⟨ν5, hν5⟩ : ∃ x, x = sM (sM (sM (sM (sM ν 62 4 48) 62 5 w) 62 6 (F : Int)) 62 7 1000000000) 62 8 0 := ⟨_, rfl⟩
  have f5 : fw Wsk ν ν5 := by
    rw [hν5]
    exact fw_sM (fw_sM (fw_sM (fw_sM (fw_sM fw_rf (Or.inl ⟨rfl, by decide⟩)) (Or.inl ⟨rfl, by decide⟩)) (Or.inl ⟨rfl, by decide⟩)) (Or.inl ⟨rfl, by decide⟩)) (Or.inl ⟨rfl, by decide⟩)
  have hE5 : EnC ν5 w F := by
    refine ⟨?_, ?_, ?_⟩
    · rw [hν5, sM_j (by decide), sM_j (by decide), sM_j (by decide), sM_j (by decide), sM_s]
    · rw [hν5, sM_j (by decide), sM_j (by decide), sM_j (by decide), sM_s]
    · rw [hν5, sM_j (by decide), sM_j (by decide), sM_s]
  have h7 : ν5 62 7 = 1000000000 := by rw [hν5, sM_j (by decide), sM_s]
  have hC5 : JobC 48 ν5 m B T Wd cr S := JobC_c (by decide) hC (fun k j k1 k2 => f5 k j (by unfold Wsk; omega))
  have e0 : X6_seek 48 w (F : Int) ν = bd (X1_canBe 48 ν5) fun v8 μ9 => if v8 = 0 then (some (0, μ9)) else (bd (X6_forget μ9) fun v12 μ13 => bd (X6_visit RD 0 0 8 0 0 0 μ13) fun v15 μ16 => if (μ16 62 7) = 1000000000 then (some (0, μ16)) else (some (1, μ16))) := by
    unfold X6_seek
    rw [sF_r, sF_r, sF_r, sF_r, sF_r]
    have e48 : ((48 : Nat) : Int) = 48 := rfl
    rw [e48, ← hν5, mR62 hE5.1]
  have hcan := canC hJ hC5
  by_cases hb : ∀ b, b < m → B m b ≠ -1
  · rw [hcan.1 hb, bd_some, if_neg (by decide)] at e0
    obtain ⟨ν6, g1, g2, g3⟩ := forC (l0 := 48) (by decide) hm8 (ν := ν5) hE5.1 hC5.1
    have o6 : ∀ k j, ¬ W34 k j → ν6 k j = ν5 k j := g2
    have hE6 : EnC ν6 w F := ⟨by rw [o6 62 4 (by unfold W34; omega)]; exact hE5.1, by rw [o6 62 5 (by unfold W34; omega)]; exact hE5.2.1, by rw [o6 62 6 (by unfold W34; omega)]; exact hE5.2.2⟩
    have hC6 : JobC 48 ν6 m B T Wd cr S := JobC_c (by decide) hC5 (fun k j k1 k2 => o6 k j (by unfold W34; omega))
    have hS6 : Rel ν6 (-1, -1) := Or.inl ⟨rfl, by rw [o6 62 7 (by unfold W34; omega)]; exact h7⟩
    have hM6 : Mem m B T Wd S w F ν6 (-1, -1) m := fun X l lf h1 h2 h3 => Or.inl (g3 (8 * X + l) (by have := h1.1; omega))
    obtain ⟨ν', v1, v2, v3, v4, v5⟩ := visC (w := w) hJ hF m RD 0 0 (fun _ => true) m 0 0 0 ν6 (-1, -1) (by omega) (by show m < 12; omega) (smk_0 hm8) cN_all (Nat.le_refl _) ⟨by omega, by omega, by decide⟩ hE6 hC6 hS6 hM6 (Or.inl rfl)
    have v1 : X6_visit RD 0 0 8 0 0 0 ν6 = some (0, ν') := by
      have h := v1
      rw [h8C] at h
      exact h
    rw [g1, bd_some, v1, bd_some] at e0
    have f' : fw Wsk ν ν' := fun k j hn => by
      rw [v2 k j (fun z => hn (by unfold Wv at z; unfold Wsk; omega)), o6 k j (fun z => hn (by unfold W34 at z; unfold Wsk; omega)), f5 k j hn]
    refine ⟨ν', f', fun hz => ?_, fun hz => ?_⟩
    · rcases v3 with ⟨_, y⟩ | ⟨y, _⟩
      · rw [e0, if_pos y]
      · have y : 0 ≤ (bsF m B T Wd S w F).1 := y
        omega
    · rcases v3 with ⟨y, _⟩ | ⟨y1, y2, y3, y4, y5⟩
      · exact absurd y hz
      · have y2 : ν' 62 7 = (bsF m B T Wd S w F).2 := y2
        have y3 : ν' 62 8 = (bsF m B T Wd S w F).1 := y3
        have y5 : (bsF m B T Wd S w F).2 < 1000000000 := y5
        exact ⟨by rw [e0, if_neg (by omega)], y3, y2⟩
  · have hb' : ∃ b, b < m ∧ B m b = -1 := Classical.byContradiction (fun z => hb (fun b h1 h2 => z ⟨b, h1, h2⟩))
    rw [hcan.2 hb', bd_some, if_pos rfl] at e0
    obtain ⟨b, b1, b2⟩ := hb'
    have hno : bsF m B T Wd S w F = (-1, -1) := ddO_full _ _ _ _ _ _ _ (fulO_no hTR b1 b2 m (fun _ => true) m 0 0 cN_all rfl (Or.inl rfl))
    refine ⟨ν5, f5, fun _ => e0, fun z => absurd ?_ z⟩
    rw [hno]
theorem toldC (hJ : JOK m B T Wd S) (hTR : TRB m B) (hF : F ≤ m) {ν : Mm} (hC : JobC 48 ν m B T Wd cr S) (l3 : Int) : ∃ ν', fw Wsk ν ν' ∧ X10_told w (F : Int) l3 ν = some (if l3 = 0 then (bsF m B T Wd S w F).1 else (bsF m B T Wd S w F).2, ν') := by
  obtain ⟨ν', f, h1, h2⟩ := seekC (w := w) hJ hTR hF hC
  refine ⟨ν', f, ?_⟩
  unfold X10_told
  by_cases c : (bsF m B T Wd S w F).1 = -1
  · have e : bsF m B T Wd S w F = (-1, -1) := bsF_sg.resolve_right (by omega)
    rw [h1 c, bd_some, if_pos rfl, e]
    by_cases c3 : l3 = 0
    · rw [if_pos c3]
    · rw [if_neg c3]
  · obtain ⟨y1, y2, y3⟩ := h2 c
    rw [y1, bd_some, if_neg (by decide)]
    by_cases c3 : l3 = 0
    · rw [if_pos c3, if_pos c3, y2]
    · rw [if_neg c3, if_neg c3, y3]
end SV
