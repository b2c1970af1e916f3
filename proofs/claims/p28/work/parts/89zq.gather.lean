/-! the least LATES of every set of CUES: the class's gather -/
section AT
variable (m : Nat) (B : Nat → Nat → Int) (T Wd : Nat → Int) (S : Int)
/-- v is what some ORDER of the CUES of lf costs, from a on -/
def att : Nat → (Nat → Bool) → Nat → Int → Int → Int → Prop
  | 0, _, _, _, c, v => v = c
  | n + 1, lf, a, t, c, v => ∃ i, i < m ∧ lf i = true ∧ B a i ≠ -1 ∧ att n (ofB lf i) i (stO B T Wd S t a i) (lateW 0 c (stO B T Wd S t a i - T i)) v
end AT
def rem (lf y : Nat → Bool) (i : Nat) : Bool := lf i && y i
theorem rem_iff {lf y : Nat → Bool} {i : Nat} : rem lf y i = true ↔ (lf i = true ∧ y i = true) := by unfold rem; rw [Bool.and_eq_true]
theorem rem_off {lf y : Nat → Bool} {i : Nat} : rem (ofB lf i) y = ofB (rem lf y) i := by
  funext k
  unfold rem ofB
  by_cases c : k = i
  · rw [if_pos c, if_pos c, Bool.false_and]
  · rw [if_neg c, if_neg c]
def supY (m : Nat) (lf y : Nat → Bool) : Prop := ∀ i, i < m → ¬ lf i = true → y i = true
def setY (Y m : Nat) (y : Nat → Bool) : Prop := Y < 2 ^ m ∧ ∀ d, d < 32 → (gb (Y : Int) d = true ↔ d < m ∧ y d = true)
section GA
variable {m : Nat} {B : Nat → Nat → Int} {T Wd : Nat → Int} {cr : Nat → Nat} {S : Int}
theorem att_mono : ∀ (n : Nat) (lf : Nat → Bool) (a : Nat) (t t' c c' v : Int), t ≤ t' → c ≤ c' → att m B T Wd S n lf a t' c' v → ∃ u, u ≤ v ∧ att m B T Wd S n lf a t c u := by
  intro n
  induction n with
  | zero =>
    intro lf a t t' c c' v _ hc h
    have h : v = c' := h
    exact ⟨c, by omega, rfl⟩
  | succ n ih =>
    rintro lf a t t' c c' v ht hc ⟨i, h1, h2, h3, h4⟩
    have hs := stO_mono (B := B) (T := T) (Wd := Wd) (S := S) (a := a) (i := i) ht
    obtain ⟨u, u1, u2⟩ := ih _ _ _ _ _ _ _ hs (lateW_mono (w := 0) (l := stO B T Wd S t a i - T i) (l' := stO B T Wd S t' a i - T i) hc (by omega)) h4
    exact ⟨u, u1, i, h1, h2, h3, u2⟩
theorem att_co : ∀ (n : Nat) (lf lf' : Nat → Bool) (a : Nat) (t c v : Int), (∀ i, i < m → (lf i = true ↔ lf' i = true)) → att m B T Wd S n lf a t c v → att m B T Wd S n lf' a t c v := by
  intro n
  induction n with
  | zero => intro lf lf' a t c v _ h; exact h
  | succ n ih =>
    rintro lf lf' a t c v h ⟨i, h1, h2, h3, h4⟩
    exact ⟨i, h1, (h i h1).mp h2, h3, ih _ _ _ _ _ _ (ofB_co h i) h4⟩
theorem att_b (hJ : JOK m B T Wd S) : ∀ (n q : Nat) (lf : Nat → Bool) (a : Nat) (t c v : Int), q + n ≤ 8 → a ≤ m → Rng q t c 0 → att m B T Wd S n lf a t c v → 0 ≤ v ∧ v ≤ 48000 := by
  intro n
  induction n with
  | zero =>
    intro q lf a t c v hq ha hR h
    have h : v = c := h
    obtain ⟨_, r2, _⟩ := hR
    omega
  | succ n ih =>
    rintro q lf a t c v hq ha hR ⟨i, h1, h2, h3, h4⟩
    obtain ⟨⟨r1, r2, r3⟩, _, _⟩ := rng_s (w := 0) hJ ha h1 h3 hR (by omega)
    exact ih (q + 1) _ _ _ _ _ (by omega) (by omega) ⟨r1, r2, Int.le_refl _, p10_pos _⟩ h4
/-- what the search finds is the least of these -/
theorem fulO_att : ∀ (n : Nat) (lf : Nat → Bool) (a : Nat) (t c d : Int) (s : Int × Int), fulO m B T Wd S 0 alT n lf a t c d s = s ∨ att m B T Wd S n lf a t c (fulO m B T Wd S 0 alT n lf a t c d s).2 := by
  intro n
  induction n with
  | zero =>
    intro lf a t c d s
    by_cases z : betr c s
    · rw [fulO_0.1 z]; exact Or.inr rfl
    · rw [fulO_0.2 z]; exact Or.inl rfl
  | succ n ih =>
    intro lf a t c d s
    rw [fulO_s]
    refine flO_P (P := fun r => r = s ∨ att m B T Wd S (n + 1) lf a t c r.2) m (Or.inl rfl) (fun i r hi hr => ?_)
    by_cases z : lf i = true ∧ alT n i = true ∧ B a i ≠ -1
    · rw [fst2_y z]
      rcases ih (ofB lf i) i (stO B T Wd S t a i) (lateW 0 c (stO B T Wd S t a i - T i)) (10 * d + (i : Int)) r with e | e
      · have e : fst1 m B T Wd S 0 alT n lf a t c d i r = r := e
        rw [e]; exact hr
      · exact Or.inr ⟨i, hi, z.1, z.2.2, e⟩
    · rw [fst2_n z]; exact hr
theorem ddO_att {s : Int × Int} : ∀ (n : Nat) (lf : Nat → Bool) (a : Nat) (t c v : Int), ddO m B T Wd S 0 alT s n lf a t c → att m B T Wd S n lf a t c v → ¬ betr v s := by
  intro n
  induction n with
  | zero =>
    intro lf a t c v h hv
    have hv : v = c := hv
    rw [hv]; exact h
  | succ n ih =>
    rintro lf a t c v h ⟨i, h1, h2, h3, h4⟩
    exact ih _ _ _ _ _ (h i h1 h2 rfl h3) h4
theorem bst_att {y : Nat → Bool} : (bst m B T Wd S 0 y = (-1, -1) ∧ ∀ v, ¬ att m B T Wd S (cN y m) y m 0 0 v) ∨ (0 ≤ (bst m B T Wd S 0 y).1 ∧ att m B T Wd S (cN y m) y m 0 0 (bst m B T Wd S 0 y).2 ∧ ∀ v, att m B T Wd S (cN y m) y m 0 0 v → (bst m B T Wd S 0 y).2 ≤ v) := by
  have hd : ddO m B T Wd S 0 alT (bst m B T Wd S 0 y) (cN y m) y m 0 0 := fulO_dead (cN y m) y m 0 0 0 (-1, -1) (Int.le_refl _)
  rcases fulO_sg (m := m) (B := B) (T := T) (Wd := Wd) (S := S) (w := 0) (al := alT) (cN y m) y m 0 0 0 (-1, -1) (Int.le_refl _) with e | e
  · have e : bst m B T Wd S 0 y = (-1, -1) := e
    refine Or.inl ⟨e, fun v hv => ddO_att _ _ _ _ _ _ hd hv (Or.inl ?_)⟩
    rw [e]
  · have e : 0 ≤ (bst m B T Wd S 0 y).1 := e
    refine Or.inr ⟨e, ?_, fun v hv => ?_⟩
    · rcases fulO_att (m := m) (B := B) (T := T) (Wd := Wd) (S := S) (cN y m) y m 0 0 0 (-1, -1) with z | z
      · have z : bst m B T Wd S 0 y = (-1, -1) := z
        rw [z] at e
        exact absurd e (by decide)
      · exact z
    · have := ddO_att _ _ _ _ _ _ hd hv
      exact Classical.byContradiction (fun z => this (Or.inr (by omega)))
/-! the job l0 -/
theorem stepsG {l0 : Nat} (h0 : kD l0 = (11, 7)) (hJ : JOK m B T Wd S) {ν : Mm} (hC : JobC l0 ν m B T Wd cr S) {a i : Nat} (ha : a ≤ m) (hi : i < m) : X1_stepsBetween l0 ((aC m a : Nat) : Int) (i : Int) ν = some (B a i, ν) := by
  have hm8 := hJ.2.1
  have h8 := aC_8 hm8 ha
  have hv : ν (l0 + 4) (8 * aC m a + i) = B a i := by
    unfold aC
    by_cases c : a = m
    · rw [if_pos c, c]; exact hC.2.2.2.2 i hi
    · rw [if_neg c]; exact hC.2.2.2.1 a i (by omega) hi
  exact sbC_x h0 (off8r h8 (by omega)) (by omega) hv
theorem comesG {l0 : Nat} (h0 : kD l0 = (11, 7)) (hJ : JOK m B T Wd S) {ν : Mm} (hC : JobC l0 ν m B T Wd cr S) {a i q : Nat} (ha : a ≤ m) (hi : i < m) {t c d : Int} (hR : Rng q t c d) (hq : q + 1 ≤ 8) : X1_comes l0 t ((aC m a : Nat) : Int) (i : Int) ν = if B a i = -1 then some (-1, ν) else some (t + B a i * S, ν) := by
  unfold X1_comes
  rw [stepsG h0 hJ hC ha hi, bd_some, hC.2.1]
  by_cases c : B a i = -1
  · rw [if_pos c, if_pos c]
  · obtain ⟨_, r4, _⟩ := rng_s (w := 0) hJ ha hi c hR hq
    obtain ⟨q1, _, _⟩ := hR
    rw [if_neg c, if_neg c, iM_id (by omega) (by omega), iA_id (by omega) (by omega)]
theorem donG {l0 : Nat} (h0 : kD l0 = (11, 7)) {ν : Mm} (hC : JobC l0 ν m B T Wd cr S) {i : Nat} (hi : i < m) (hm : m ≤ 8) {x : Int} (hx : -2147483648 ≤ x + Wd i ∧ x + Wd i ≤ 2147483647) : X1_dones l0 x (i : Int) ν = some (mX (x + Wd i) (T i), ν) := by
  obtain ⟨j1, j2, j3, j4, j5, j6⟩ := jb_60 h0
  have i8 : (0 : Int) ≤ (i : Int) ∧ (i : Int) < ((8 : Nat) : Int) := ⟨by omega, by omega⟩
  have g := hC.2.2.1 i hi
  have e1 : X1_wound l0 x (i : Int) ν = some (x + Wd i, ν) := by
    unfold X1_wound ldA
    rw [if_pos (by rw [j3]; exact i8), Int.toNat_natCast]
    try dsimp only
    rw [g.2.2, iA_id hx.1 hx.2]
  unfold X1_dones
  rw [e1, bd_some]
  unfold ldA
  rw [if_pos (by rw [j2]; exact i8), Int.toNat_natCast]
  try dsimp only
  rw [g.2.1]
/-! gather -/
def Wga (lt k _ : Nat) : Prop := k = 63 ∨ k = 64 ∨ k = lt
/-- the costs told so far are costs of ORDERS -/
def sndG (m : Nat) (B : Nat → Nat → Int) (T Wd : Nat → Int) (S : Int) (lt : Nat) (ν : Mm) : Prop := ∀ Y y, setY Y m y → ν lt Y = 1000000000 ∨ att m B T Wd S (cN y m) y m 0 0 (ν lt Y)
def cplG (m : Nat) (B : Nat → Nat → Int) (T Wd : Nat → Int) (S : Int) (lt : Nat) (ν : Mm) (lf : Nat → Bool) (a : Nat) (t c : Int) : Prop := ∀ Y y, setY Y m y → supY m lf y → ∀ v, att m B T Wd S (cN (rem lf y) m) (rem lf y) a t c v → ν lt Y ≤ v
def rchG (m : Nat) (B : Nat → Nat → Int) (T Wd : Nat → Int) (S : Int) (lf : Nat → Bool) (a : Nat) (t c : Int) : Prop := ∀ y, supY m lf y → ∀ v, att m B T Wd S (cN (rem lf y) m) (rem lf y) a t c v → att m B T Wd S (cN y m) y m 0 0 v
def okG (m : Nat) (B : Nat → Nat → Int) (T Wd : Nat → Int) (S : Int) (lt : Nat) (ν : Mm) (X l : Nat) (lf : Nat → Bool) : Prop := (ν 63 (8 * X + l) = 1000000000 ∧ ν 64 (8 * X + l) = 1000000000) ∨ cplG m B T Wd S lt ν lf l (ν 63 (8 * X + l)) (ν 64 (8 * X + l))
def memG (m : Nat) (B : Nat → Nat → Int) (T Wd : Nat → Int) (S : Int) (lt : Nat) (ν : Mm) (n : Nat) : Prop := ∀ X l lf, smk X m lf → l < 8 → cN lf m < n → okG m B T Wd S lt ν X l lf
def dwn (lt : Nat) (ν ν' : Mm) : Prop := ∀ Y, ν' lt Y ≤ ν lt Y
theorem dwn_tr {lt : Nat} {a b c : Mm} (h1 : dwn lt a b) (h2 : dwn lt b c) : dwn lt a c := fun Y => Int.le_trans (h2 Y) (h1 Y)
theorem cplG_d {lt : Nat} {ν ν' : Mm} {lf : Nat → Bool} {a : Nat} {t c : Int} (h : cplG m B T Wd S lt ν lf a t c) (hd : dwn lt ν ν') : cplG m B T Wd S lt ν' lf a t c := fun Y y h1 h2 v h3 => Int.le_trans (hd Y) (h Y y h1 h2 v h3)
theorem okG_c {lt : Nat} {ν ν' : Mm} {X l : Nat} {lf : Nat → Bool} (h : okG m B T Wd S lt ν X l lf) (e : ν' 63 (8 * X + l) = ν 63 (8 * X + l) ∧ ν' 64 (8 * X + l) = ν 64 (8 * X + l)) (hd : dwn lt ν ν') : okG m B T Wd S lt ν' X l lf := by
  unfold okG
  rw [e.1, e.2]
  rcases h with h | h
  · exact Or.inl h
  · exact Or.inr (cplG_d h hd)
theorem sup_off {lf y : Nat → Bool} {i : Nat} (hi : i < m) (h : supY m (ofB lf i) y) : supY m lf y ∧ y i = true := by
  constructor
  · intro k hk hn
    refine h k hk ?_
    unfold ofB
    by_cases c : k = i
    · rw [if_pos c]; decide
    · rw [if_neg c]; exact hn
  · refine h i hi ?_
    unfold ofB
    rw [if_pos rfl]; decide
theorem off_sup {lf y : Nat → Bool} {i : Nat} (h : supY m lf y) (hy : y i = true) : supY m (ofB lf i) y := by
  intro k hk hn
  by_cases c : k = i
  · rw [c]; exact hy
  · refine h k hk (fun z => hn ?_)
    unfold ofB
    rw [if_neg c]; exact z
theorem rchG_s {lf : Nat → Bool} {a i : Nat} {t c : Int} (hi : i < m) (hl : lf i = true) (hB : B a i ≠ -1) (h : rchG m B T Wd S lf a t c) : rchG m B T Wd S (ofB lf i) i (stO B T Wd S t a i) (lateW 0 c (stO B T Wd S t a i - T i)) := by
  intro y hy v hv
  obtain ⟨h1, h2⟩ := sup_off hi hy
  refine h y h1 v ?_
  have hr : rem lf y i = true := rem_iff.mpr ⟨hl, h2⟩
  have hc := cN_off hr m
  rw [if_pos hi] at hc
  have hlt := cN_lt hi hr
  have e : cN (rem lf y) m = cN (ofB (rem lf y) i) m + 1 := by omega
  rw [e]
  rw [rem_off] at hv
  exact ⟨i, hi, hr, hB, hv⟩
/-- one CUE that may come now -/
theorem folG {l0 : Nat} (h0 : kD l0 = (11, 7)) {lt : Nat} (hlt : lt = 65 ∨ lt = 66) (hJ : JOK m B T Wd S) {X n q : Nat} {lf : Nat → Bool} (hX : smk X m lf) (hn : cN lf m = n + 1) (hq : q + (n + 1) = m) {a i : Nat} (ha : a ≤ m) (hi : i < m) (hl : lf i = true) (hB : B a i ≠ -1) {t c : Int} (hR : Rng q t c 0) {ν : Mm} (hE : ν 62 4 = (l0 : Int)) (hC : JobC l0 ν m B T Wd cr S) (hS : sndG m B T Wd S lt ν) (hM : memG m B T Wd S lt ν (n + 1)) {rec : Int → Int → Int → Int → Int → Nat → Mm → Rs} (hrec : ∀ (Y : Nat) (ν1 : Mm), smk Y m (ofB lf i) → ν1 62 4 = (l0 : Int) → JobC l0 ν1 m B T Wd cr S → sndG m B T Wd S lt ν1 → memG m B T Wd S lt ν1 n → ∃ ν2, rec ((q + 1 : Nat) : Int) (Y : Int) (i : Int) (stO B T Wd S t a i) (lateW 0 c (stO B T Wd S t a i - T i)) lt ν1 = some (0, ν2) ∧ fw (Wga lt) ν1 ν2 ∧ dwn lt ν1 ν2 ∧ sndG m B T Wd S lt ν2 ∧ cplG m B T Wd S lt ν2 (ofB lf i) i (stO B T Wd S t a i) (lateW 0 c (stO B T Wd S t a i - T i)) ∧ memG m B T Wd S lt ν2 n ∧ keep m ν1 ν2 n) : ∃ ν2, X6_gatherBehind_o rec (q : Int) (bO (X : Int) (bL 1 (i : Int))) (i : Int) (t + B a i * S) c lt ν = some (0, ν2) ∧ fw (Wga lt) ν ν2 ∧ dwn lt ν ν2 ∧ sndG m B T Wd S lt ν2 ∧ cplG m B T Wd S lt ν2 (ofB lf i) i (stO B T Wd S t a i) (lateW 0 c (stO B T Wd S t a i - T i)) ∧ memG m B T Wd S lt ν2 (n + 1) ∧ keep m ν ν2 (n + 1) := by
  have hm8 := hJ.2.1
  obtain ⟨j1, j2, j3, j4, j5, j6⟩ := jb_60 h0
  obtain ⟨⟨r1, r2, r3⟩, r4, r5⟩ := rng_s (w := 0) hJ ha hi hB hR (by omega)
  have h3 := hJ.2.2.2.2.1 i hi
  have h4 := hJ.2.2.2.2.2 i hi
  obtain ⟨q1, q2, q3⟩ := hR
  obtain ⟨Y, y1, y2⟩ := smk_put hm8 hX hi
  have hY : Y < 256 := by have := pow_256 hm8; have := y2.1; omega
  have hnl : cN (ofB lf i) m = n := by rw [cN_off hl, if_pos hi, hn]; rfl
  have i8 : (0 : Int) ≤ (i : Int) ∧ (i : Int) < ((8 : Nat) : Int) := ⟨by omega, by omega⟩
  have eT : ν (l0 + 2) i = T i := (hC.2.2.1 i hi).2.1
  have ed : X1_dones l0 (t + B a i * S) (i : Int) ν = some (stO B T Wd S t a i, ν) := donG h0 hC hi hm8 (by omega)
  have elw : lateW 0 c (stO B T Wd S t a i - T i) = c + (stO B T Wd S t a i - T i) := if_pos rfl
  have hb1 : -2147483648 ≤ c + stO B T Wd S t a i ∧ c + stO B T Wd S t a i ≤ 2147483647 := by omega
  have hb2 : -2147483648 ≤ c + stO B T Wd S t a i - T i ∧ c + stO B T Wd S t a i - T i ≤ 2147483647 := by omega
  have hc8 : lateW 0 c (stO B T Wd S t a i - T i) ≤ 48000 := by omega
  have ht8 : stO B T Wd S t a i ≤ 48000 := by omega
  have ew : c + stO B T Wd S t a i - T i = lateW 0 c (stO B T Wd S t a i - T i) := by rw [elw]; omega
  have e0 : X6_gatherBehind_o rec (q : Int) (bO (X : Int) (bL 1 (i : Int))) (i : Int) (t + B a i * S) c lt ν = bd (X6_isNew (Y : Int) (i : Int) (stO B T Wd S t a i) (lateW 0 c (stO B T Wd S t a i - T i)) ν) fun v11 μ12 => if v11 = 0 then some (0, μ12) else bd (rec ((q + 1 : Nat) : Int) (Y : Int) (i : Int) (stO B T Wd S t a i) (lateW 0 c (stO B T Wd S t a i - T i)) lt μ12) fun v15 μ16 => some (0, μ16) := by
    have eq1 : iA (q : Int) 1 = ((q + 1 : Nat) : Int) := iA_nat (by omega)
    have e1 : iA c (stO B T Wd S t a i) = c + stO B T Wd S t a i := iA_id hb1.1 hb1.2
    have e2 : iS (c + stO B T Wd S t a i) (T i) = c + stO B T Wd S t a i - T i := iS_id hb2.1 hb2.2
    unfold X6_gatherBehind_o
    rw [mRg h0 hE, ed, bd_some, mRg h0 hE]
    unfold ldA lt_
    rw [if_pos (by rw [j2]; exact i8), Int.toNat_natCast]
    try dsimp only
    rw [eT, e1, e2, ew, y1, eq1]
  rw [nwC hY (by omega)] at e0
  by_cases c2 : ν 63 (8 * Y + i) ≤ stO B T Wd S t a i ∧ ν 64 (8 * Y + i) ≤ lateW 0 c (stO B T Wd S t a i - T i)
  · rw [if_pos c2, bd_some, if_pos rfl] at e0
    refine ⟨ν, e0, fw_rf, fun _ => Int.le_refl _, hS, ?_, hM, fun _ _ _ _ _ _ => ⟨rfl, rfl⟩⟩
    rcases hM Y i (ofB lf i) y2 (by omega) (by omega) with z | z
    · exact absurd c2.1 (by omega)
    · intro Z y z1 z2 v z3
      obtain ⟨u, u1, u2⟩ := att_mono _ _ _ _ _ _ _ _ c2.1 c2.2 z3
      exact Int.le_trans (z Z y z1 z2 u u2) u1
  · rw [if_neg c2, bd_some, if_neg (by decide)] at e0
    obtain ⟨ν1, hν1⟩ : ∃ x, x = sM (sM ν 63 (8 * Y + i) (stO B T Wd S t a i)) 64 (8 * Y + i) (lateW 0 c (stO B T Wd S t a i - T i)) := ⟨_, rfl⟩
    rw [← hν1] at e0
    have f1 : fw (Wga lt) ν ν1 := by
      rw [hν1]
      exact fw_sM (fw_sM fw_rf (Or.inl rfl)) (Or.inr (Or.inl rfl))
    have e63 : ∀ j, ν1 63 j = if j = 8 * Y + i then stO B T Wd S t a i else ν 63 j := fun j => by rw [hν1, sM_a (by decide), sM_if]
    have e64 : ∀ j, ν1 64 j = if j = 8 * Y + i then lateW 0 c (stO B T Wd S t a i - T i) else ν 64 j := fun j => by rw [hν1, sM_if, sM_a (by decide)]
    have eo : ∀ k j, k ≠ 63 → k ≠ 64 → ν1 k j = ν k j := fun k j g1 g2 => by rw [hν1, sM_a g2, sM_a g1]
    have elt : ∀ j, ν1 lt j = ν lt j := fun j => eo lt j (by omega) (by omega)
    have d1 : dwn lt ν ν1 := fun j => by rw [elt]; exact Int.le_refl _
    have hS1 : sndG m B T Wd S lt ν1 := fun Z y hz => by rw [elt]; exact hS Z y hz
    have hun : ∀ Z l, l < 8 → ¬ (Z = Y ∧ l = i) → ν1 63 (8 * Z + l) = ν 63 (8 * Z + l) ∧ ν1 64 (8 * Z + l) = ν 64 (8 * Z + l) := fun Z l hl8 hne => by
      rw [e63, e64, if_neg (fun z => hne (by omega)), if_neg (fun z => hne (by omega))]
      exact ⟨rfl, rfl⟩
    have same : ∀ lf', smk Y m lf' → cN lf' m = n := fun lf' h' => by rw [cN_co m (smk_cN hm8 h' y2), hnl]
    have hM1 : memG m B T Wd S lt ν1 n := fun Z l lf' k1 k2 k3 => okG_c (hM Z l lf' k1 k2 (by omega)) (hun Z l k2 (fun z => by
      have := same lf' (by rw [← z.1]; exact k1)
      omega)) d1
    obtain ⟨ν2, g1, g2, g3, g4, g5, g6, g7⟩ := hrec Y ν1 y2 (by rw [eo 62 4 (by decide) (by decide)]; exact hE) (JobC_c h0 hC (fun k j k1 k2 => eo k j (by omega) (by omega))) hS1 hM1
    refine ⟨ν2, ?_, fw_tr f1 g2, dwn_tr d1 g3, g4, g5, ?_, ?_⟩
    · rw [e0, g1, bd_some]
    · intro Z l lf' k1 k2 k3
      by_cases c3 : cN lf' m < n
      · exact g6 Z l lf' k1 k2 c3
      · have hk := g7 Z l lf' k1 k2 (by omega)
        by_cases c4 : Z = Y ∧ l = i
        · have hiff := smk_cN hm8 k1 (by rw [c4.1]; exact y2)
          refine Or.inr ?_
          rw [hk.1, hk.2, c4.1, c4.2, e63, e64, if_pos rfl, if_pos rfl]
          intro Z2 y z1 z2 v z3
          have hr : ∀ x, x < m → (rem lf' y x = true ↔ rem (ofB lf i) y x = true) := fun x hx => by rw [rem_iff, rem_iff, hiff x hx]
          rw [cN_co m hr] at z3
          exact g5 Z2 y z1 (fun x hx hnx => z2 x hx (fun w => hnx ((hiff x hx).mp w))) v (att_co _ _ _ _ _ _ _ hr z3)
        · have hk2 := hun Z l k2 c4
          exact okG_c (hM Z l lf' k1 k2 k3) ⟨by rw [hk.1, hk2.1], by rw [hk.2, hk2.2]⟩ (dwn_tr d1 g3)
    · intro Z l lf' k1 k2 k3
      have hk := g7 Z l lf' k1 k2 (by omega)
      have hk2 := hun Z l k2 (fun z => by
        have := same lf' (by rw [← z.1]; exact k1)
        omega)
      exact ⟨by rw [hk.1, hk2.1], by rw [hk.2, hk2.2]⟩
def cplK (m : Nat) (B : Nat → Nat → Int) (T Wd : Nat → Int) (S : Int) (lt : Nat) (ν : Mm) (lf : Nat → Bool) (a : Nat) (t c : Int) (k : Nat) : Prop := ∀ i, i < k → lf i = true → B a i ≠ -1 → cplG m B T Wd S lt ν (ofB lf i) i (stO B T Wd S t a i) (lateW 0 c (stO B T Wd S t a i - T i))
theorem gaC_L {l0 : Nat} (h0 : kD l0 = (11, 7)) {lt : Nat} (hlt : lt = 65 ∨ lt = 66) (hJ : JOK m B T Wd S) {X n q : Nat} {lf : Nat → Bool} (hX : smk X m lf) (hn : cN lf m = n) (hq : q + n = m) {a : Nat} (ha : a ≤ m) {t c : Int} (hR : Rng q t c 0) {rec : Int → Int → Int → Int → Int → Nat → Mm → Rs} (hrec : ∀ i, i < m → lf i = true → B a i ≠ -1 → ∀ (Y : Nat) (ν1 : Mm), smk Y m (ofB lf i) → ν1 62 4 = (l0 : Int) → JobC l0 ν1 m B T Wd cr S → sndG m B T Wd S lt ν1 → memG m B T Wd S lt ν1 (n - 1) → ∃ ν2, rec ((q + 1 : Nat) : Int) (Y : Int) (i : Int) (stO B T Wd S t a i) (lateW 0 c (stO B T Wd S t a i - T i)) lt ν1 = some (0, ν2) ∧ fw (Wga lt) ν1 ν2 ∧ dwn lt ν1 ν2 ∧ sndG m B T Wd S lt ν2 ∧ cplG m B T Wd S lt ν2 (ofB lf i) i (stO B T Wd S t a i) (lateW 0 c (stO B T Wd S t a i - T i)) ∧ memG m B T Wd S lt ν2 (n - 1) ∧ keep m ν1 ν2 (n - 1)) {ν0 : Mm} (hE : ν0 62 4 = (l0 : Int)) (hC : JobC l0 ν0 m B T Wd cr S) : ∀ (r i fuel : Nat) (ν : Mm), i + r = m → r < fuel → fw (Wga lt) ν0 ν → dwn lt ν0 ν → sndG m B T Wd S lt ν → memG m B T Wd S lt ν n → keep m ν0 ν n → cplK m B T Wd S lt ν lf a t c i → ∃ ν', X6_gather_L39 rec (q : Int) (X : Int) ((aC m a : Nat) : Int) t c lt fuel (i : Int) ν = some (0, ν') ∧ fw (Wga lt) ν0 ν' ∧ dwn lt ν0 ν' ∧ sndG m B T Wd S lt ν' ∧ memG m B T Wd S lt ν' n ∧ keep m ν0 ν' n ∧ cplK m B T Wd S lt ν' lf a t c m := by
  have hm8 := hJ.2.1
  obtain ⟨j1, j2, j3, j4, j5, j6⟩ := jb_60 h0
  intro r
  induction r with
  | zero =>
    intro i fuel ν hr hf hw h1 h2 h3 h4 h5
    obtain ⟨g, rfl, _⟩ := lt_fuel hf
    have e : i = m := by omega
    have hEν : ν 62 4 = (l0 : Int) := by rw [hw 62 4 (by unfold Wga; omega)]; exact hE
    have h5' : ν l0 5 = (m : Int) := by rw [hw l0 5 (by unfold Wga; omega)]; exact hC.1
    rw [e] at h5
    refine ⟨ν, ?_, hw, h1, h2, h3, h4, h5⟩
    show mR ν 62 4 (11, 7) _ = _
    rw [mRg h0 hEν, h5', if_pos (by omega)]
  | succ r ih =>
    intro i fuel ν hr hf hw h1 h2 h3 h4 h5
    obtain ⟨g, rfl, _⟩ := lt_fuel hf
    have him : i < m := by omega
    have hEν : ν 62 4 = (l0 : Int) := by rw [hw 62 4 (by unfold Wga; omega)]; exact hE
    have hCν : JobC l0 ν m B T Wd cr S := JobC_c h0 hC (fun k j k1 k2 => hw k j (by unfold Wga; omega))
    have hbit : bA (bR (X : Int) (i : Int)) 1 = 1 ↔ ¬ lf i = true := by
      rw [bt1 (by omega), hX.2 i (by omega)]
      exact ⟨fun z => z.2, fun z => ⟨him, z⟩⟩
    by_cases z : lf i = true ∧ B a i ≠ -1
    · obtain ⟨z1, z3⟩ := z
      have hn1 : cN lf m = (n - 1) + 1 := by
        have := cN_lt him z1
        omega
      have hnn : n - 1 + 1 = n := by omega
      have hrq : q + 1 ≤ 8 := by omega
      obtain ⟨_, r4, _⟩ := rng_s (w := 0) hJ ha him z3 hR hrq
      have hcm := comesG h0 hJ hCν ha him hR hrq
      obtain ⟨q1, q2, q3⟩ := hR
      obtain ⟨ν2, g1, g2, g3, g4, g5, g6, g7⟩ := folG h0 hlt hJ hX hn1 (by omega) ha him z1 z3 ⟨q1, q2, q3⟩ hEν hCν h2 (by rw [hnn]; exact h3) (rec := rec) (hrec i him z1 z3)
      rw [hnn] at g6 g7
      have e0 : X6_gather_L39 rec (q : Int) (X : Int) ((aC m a : Nat) : Int) t c lt (g + 1) (i : Int) ν = X6_gather_L39 rec (q : Int) (X : Int) ((aC m a : Nat) : Int) t c lt g ((i + 1 : Nat) : Int) ν2 := by
        show mR ν 62 4 (11, 7) _ = _
        rw [mRg h0 hEν, hCν.1, if_neg (by omega), if_neg (fun y => hbit.mp y z1), mRg h0 hEν, hcm, if_neg z3, bd_some]
        unfold X6_gather_J77
        rw [if_neg (by omega), g1, bd_some, iA_nat (by omega)]
      rw [e0]
      refine ih (i + 1) g ν2 (by omega) (by omega) (fw_tr hw g2) (dwn_tr h1 g3) g4 g6 (fun Z l lf' k1 k2 k3 => by
        have y1 := h4 Z l lf' k1 k2 k3
        have y2 := g7 Z l lf' k1 k2 k3
        exact ⟨by rw [y2.1, y1.1], by rw [y2.2, y1.2]⟩) (fun x hx hlx hBx => ?_)
      by_cases cx : x = i
      · rw [cx]; exact g5
      · exact cplG_d (h5 x (by omega) hlx hBx) g3
    · have e0 : X6_gather_L39 rec (q : Int) (X : Int) ((aC m a : Nat) : Int) t c lt (g + 1) (i : Int) ν = X6_gather_L39 rec (q : Int) (X : Int) ((aC m a : Nat) : Int) t c lt g ((i + 1 : Nat) : Int) ν := by
        show mR ν 62 4 (11, 7) _ = _
        rw [mRg h0 hEν, hCν.1, if_neg (by omega)]
        by_cases c1 : lf i = true
        · have c2 : B a i = -1 := Classical.byContradiction (fun y => z ⟨c1, y⟩)
          have hn1 := cN_lt him c1
          rw [if_neg (fun y => hbit.mp y c1), mRg h0 hEν, comesG h0 hJ hCν ha him hR (by omega), if_pos c2, bd_some]
          unfold X6_gather_J77
          rw [if_pos rfl, iA_nat (by omega)]
        · rw [if_pos (hbit.mpr c1)]
          unfold X6_gather_J77
          rw [if_pos rfl, iA_nat (by omega)]
      rw [e0]
      refine ih (i + 1) g ν (by omega) (by omega) hw h1 h2 h3 h4 (fun x hx hlx hBx => ?_)
      by_cases cx : x = i
      · rw [cx] at hlx hBx; exact absurd ⟨hlx, hBx⟩ z
      · exact h5 x (by omega) hlx hBx
theorem setY_u {X Y : Nat} {y : Nat → Bool} {lf : Nat → Bool} (hm : m ≤ 8) (hX : smk X m lf) (hY : setY Y m y) (h : ∀ i, i < m → (y i = true ↔ ¬ lf i = true)) : Y = X := by
  have h2 := pow_256 hm
  have hx := hX.1
  have hy := hY.1
  have e : (Y : Int) = (X : Int) := gb_ext ⟨by omega, by omega⟩ ⟨by omega, by omega⟩ (fun d hd => by
    rw [hY.2 d hd, hX.2 d hd]
    exact ⟨fun z => ⟨z.1, (h d z.1).mp z.2⟩, fun z => ⟨z.1, (h d z.1).mpr z.2⟩⟩)
  omega
theorem cpl_node {lt : Nat} (hm : m ≤ 8) {X : Nat} {lf : Nat → Bool} (hX : smk X m lf) {a : Nat} {t c : Int} {ν : Mm} (h1 : ν lt X ≤ c) (h2 : cplK m B T Wd S lt ν lf a t c m) : cplG m B T Wd S lt ν lf a t c := by
  intro Y y hY hs v hv
  cases hc : cN (rem lf y) m with
  | zero =>
    rw [hc] at hv
    have hv : v = c := hv
    have e : Y = X := setY_u hm hX hY (fun i hi => by
      constructor
      · intro z1 z2
        exact cN_0 m hc i hi (rem_iff.mpr ⟨z2, z1⟩)
      · intro z; exact hs i hi z)
    rw [e, hv]; exact h1
  | succ k =>
    rw [hc] at hv
    obtain ⟨i, hi, hr, hB, hv⟩ := hv
    obtain ⟨r1, r2⟩ := rem_iff.mp hr
    have hcc := cN_off hr m
    rw [if_pos hi, hc] at hcc
    have e : k = cN (rem (ofB lf i) y) m := by rw [rem_off, hcc]; rfl
    rw [e, ← rem_off] at hv
    exact h2 i hi r1 hB Y y hY (off_sup hs r2) v hv
theorem gaC {l0 : Nat} (h0 : kD l0 = (11, 7)) {lt : Nat} (hlt : lt = 65 ∨ lt = 66) (hJ : JOK m B T Wd S) : ∀ (n fuel q X : Nat) (lf : Nat → Bool) (a : Nat) (t c : Int) (ν : Mm), q + n = m → n < fuel → smk X m lf → cN lf m = n → a ≤ m → Rng q t c 0 → rchG m B T Wd S lf a t c → ν 62 4 = (l0 : Int) → JobC l0 ν m B T Wd cr S → sndG m B T Wd S lt ν → memG m B T Wd S lt ν n → ∃ ν', X6_gather fuel (q : Int) (X : Int) ((aC m a : Nat) : Int) t c lt ν = some (0, ν') ∧ fw (Wga lt) ν ν' ∧ dwn lt ν ν' ∧ sndG m B T Wd S lt ν' ∧ cplG m B T Wd S lt ν' lf a t c ∧ memG m B T Wd S lt ν' n ∧ keep m ν ν' n := by
  have hm8 := hJ.2.1
  obtain ⟨j1, j2, j3, j4, j5, j6⟩ := jb_60 h0
  have haN : aN lt = 256 := by rcases hlt with e | e <;> rw [e] <;> decide +kernel
  intro n
  induction n with
  | zero =>
    intro fuel q X lf a t c ν hq hf hX hn ha hR hRc hE hC hS hM
    obtain ⟨g, rfl, _⟩ := lt_fuel hf
    have hX256 : X < 256 := by have := pow_256 hm8; have := hX.1; omega
    have i256 : (0 : Int) ≤ (X : Int) ∧ (X : Int) < ((256 : Nat) : Int) := ⟨by omega, by omega⟩
    obtain ⟨ν0, hν0⟩ : ∃ x, x = sM ν lt X (mN (ν lt X) c) := ⟨_, rfl⟩
    have o0 : ∀ k j, k ≠ lt → ν0 k j = ν k j := fun k j hk => by rw [hν0, sM_a hk]
    have l0' : ∀ j, ν0 lt j = if j = X then mN (ν lt X) c else ν lt j := fun j => by rw [hν0, sM_if]
    have hd0 : dwn lt ν ν0 := fun j => by
      rw [l0' j]
      by_cases e : j = X
      · rw [if_pos e, e, mN_eq]; omega
      · rw [if_neg e]; exact Int.le_refl _
    have hE0 : ν0 62 4 = (l0 : Int) := by rw [o0 62 4 (by omega)]; exact hE
    have hC0 : JobC l0 ν0 m B T Wd cr S := JobC_c h0 hC (fun k j k1 k2 => o0 k j (by omega))
    have hS0 : sndG m B T Wd S lt ν0 := by
      intro Y y hY
      rw [l0' Y]
      by_cases e : Y = X
      · rw [if_pos e, mN_eq]
        by_cases le : ν lt X ≤ c
        · have : min (ν lt X) c = ν lt X := by omega
          rw [this, ← e]; exact hS Y y hY
        · have : min (ν lt X) c = c := by omega
          rw [this]
          refine Or.inr (hRc y ?_ c ?_)
          · intro i hi hl
            have h1 := (hX.2 i (by omega)).mpr ⟨hi, hl⟩
            rw [← e] at h1
            exact ((hY.2 i (by omega)).mp h1).2
          · have h0c : cN (rem lf y) m = 0 := cN_z m (fun i hi z => by
              obtain ⟨z1, z2⟩ := rem_iff.mp z
              have h1 := (hY.2 i (by omega)).mpr ⟨hi, z2⟩
              rw [e] at h1
              exact ((hX.2 i (by omega)).mp h1).2 z1)
            rw [h0c]; rfl
      · rw [if_neg e]; exact hS Y y hY
    have hM0 : memG m B T Wd S lt ν0 0 := fun _ _ _ _ _ h => absurd h (Nat.not_lt_zero _)
    obtain ⟨ν', g1, g2, g3, g4, g5, g6, g7⟩ := gaC_L h0 hlt hJ hX hn hq ha hR (rec := fun w0 w1 w2 w3 w4 w5 μq => X6_gather g w0 w1 w2 w3 w4 w5 μq) (fun i hi h1 _ => absurd h1 (cN_0 m hn i hi)) hE0 hC0 m 0 FU ν0 (by omega) (by show m < 1000000; omega) fw_rf (fun _ => Int.le_refl _) hS0 hM0 (fun _ _ _ _ _ _ => ⟨rfl, rfl⟩) (fun i hi => absurd hi (Nat.not_lt_zero _))
    refine ⟨ν', ?_, fun k j hn' => ?_, dwn_tr hd0 g3, g4, cpl_node hm8 hX ?_ g7, g5, fun Z l lf' k1 k2 k3 => ?_⟩
    · show (if (X : Int) < 0 then _ else _) = _
      rw [if_neg (Int.not_lt.mpr i256.1), haN, if_neg (Int.not_le.mpr i256.2), mRg h0 hE, hC.1, if_pos (by omega)]
      unfold ldA stA
      rw [if_pos (by rw [haN]; exact i256), Int.toNat_natCast]
      try dsimp only
      rw [if_pos (by rw [haN]; exact i256), ← hν0]
      exact g1
    · rw [g2 k j hn', o0 k j (fun z => hn' (Or.inr (Or.inr z)))]
    · have h1 := g3 X
      rw [l0' X, if_pos rfl, mN_eq] at h1
      omega
    · have y2 := g6 Z l lf' k1 k2 k3
      rw [o0 63 _ (by omega), o0 64 _ (by omega)] at y2
      exact y2
  | succ n ih =>
    intro fuel q X lf a t c ν hq hf hX hn ha hR hRc hE hC hS hM
    obtain ⟨g, rfl, _⟩ := lt_fuel hf
    have hX256 : X < 256 := by have := pow_256 hm8; have := hX.1; omega
    have i256 : (0 : Int) ≤ (X : Int) ∧ (X : Int) < ((256 : Nat) : Int) := ⟨by omega, by omega⟩
    obtain ⟨ν0, hν0⟩ : ∃ x, x = sM ν lt X (mN (ν lt X) c) := ⟨_, rfl⟩
    have o0 : ∀ k j, k ≠ lt → ν0 k j = ν k j := fun k j hk => by rw [hν0, sM_a hk]
    have l0' : ∀ j, ν0 lt j = if j = X then mN (ν lt X) c else ν lt j := fun j => by rw [hν0, sM_if]
    have hd0 : dwn lt ν ν0 := fun j => by
      rw [l0' j]
      by_cases e : j = X
      · rw [if_pos e, e, mN_eq]; omega
      · rw [if_neg e]; exact Int.le_refl _
    have hE0 : ν0 62 4 = (l0 : Int) := by rw [o0 62 4 (by omega)]; exact hE
    have hC0 : JobC l0 ν0 m B T Wd cr S := JobC_c h0 hC (fun k j k1 k2 => o0 k j (by omega))
    have hS0 : sndG m B T Wd S lt ν0 := by
      intro Y y hY
      rw [l0' Y]
      by_cases e : Y = X
      · rw [if_pos e, mN_eq]
        by_cases le : ν lt X ≤ c
        · have : min (ν lt X) c = ν lt X := by omega
          rw [this, ← e]; exact hS Y y hY
        · have : min (ν lt X) c = c := by omega
          rw [this]
          refine Or.inr (hRc y ?_ c ?_)
          · intro i hi hl
            have h1 := (hX.2 i (by omega)).mpr ⟨hi, hl⟩
            rw [← e] at h1
            exact ((hY.2 i (by omega)).mp h1).2
          · have h0c : cN (rem lf y) m = 0 := cN_z m (fun i hi z => by
              obtain ⟨z1, z2⟩ := rem_iff.mp z
              have h1 := (hY.2 i (by omega)).mpr ⟨hi, z2⟩
              rw [e] at h1
              exact ((hX.2 i (by omega)).mp h1).2 z1)
            rw [h0c]; rfl
      · rw [if_neg e]; exact hS Y y hY
    have hM0 : memG m B T Wd S lt ν0 (n + 1) := fun Z l lf' k1 k2 k3 => okG_c (hM Z l lf' k1 k2 k3) ⟨o0 63 _ (by omega), o0 64 _ (by omega)⟩ hd0
    obtain ⟨ν', g1, g2, g3, g4, g5, g6, g7⟩ := gaC_L h0 hlt hJ hX hn hq ha hR (rec := fun w0 w1 w2 w3 w4 w5 μq => X6_gather g w0 w1 w2 w3 w4 w5 μq) (fun i hi h1 h2 Y ν1 y1 y2 y3 y4 y5 => by
      obtain ⟨⟨r1, r2, r3⟩, _, _⟩ := rng_s (w := 0) hJ ha hi h2 hR (by omega)
      have ea : aC m i = i := if_neg (by omega)
      have h := ih g (q + 1) Y (ofB lf i) i _ _ ν1 (by omega) (by omega) y1 (by rw [cN_off h1, if_pos hi, hn]; rfl) (by omega) ⟨r1, r2, Int.le_refl _, p10_pos _⟩ (rchG_s hi h1 h2 hRc) y2 y3 y4 y5
      rw [ea] at h
      exact h) hE0 hC0 m 0 FU ν0 (by omega) (by show m < 1000000; omega) fw_rf (fun _ => Int.le_refl _) hS0 hM0 (fun _ _ _ _ _ _ => ⟨rfl, rfl⟩) (fun i hi => absurd hi (Nat.not_lt_zero _))
    refine ⟨ν', ?_, fun k j hn' => ?_, dwn_tr hd0 g3, g4, cpl_node hm8 hX ?_ g7, g5, fun Z l lf' k1 k2 k3 => ?_⟩
    · show (if (X : Int) < 0 then _ else _) = _
      rw [if_neg (Int.not_lt.mpr i256.1), haN, if_neg (Int.not_le.mpr i256.2), mRg h0 hE, hC.1, if_pos (by omega)]
      unfold ldA stA
      rw [if_pos (by rw [haN]; exact i256), Int.toNat_natCast]
      try dsimp only
      rw [if_pos (by rw [haN]; exact i256), ← hν0]
      exact g1
    · rw [g2 k j hn', o0 k j (fun z => hn' (Or.inr (Or.inr z)))]
    · have h1 := g3 X
      rw [l0' X, if_pos rfl, mN_eq] at h1
      omega
    · have y2 := g6 Z l lf' k1 k2 k3
      rw [o0 63 _ (by omega), o0 64 _ (by omega)] at y2
      exact y2
/-! weighed -/
theorem weC_L {lt : Nat} (hlt : lt = 65 ∨ lt = 66) {K : Mm → Rs} {ν0 : Mm} : ∀ (r i fuel : Nat) (ν : Mm), i + r = 256 → r < fuel → fw (fun k _ => k = lt) ν0 ν → (∀ j, j < i → ν lt j = 1000000000) → ∃ ν', X6_weigh_L7 lt K fuel (i : Int) ν = K ν' ∧ fw (fun k _ => k = lt) ν0 ν' ∧ ∀ j, j < 256 → ν' lt j = 1000000000 := by
  have haN : aN lt = 256 := by rcases hlt with e | e <;> rw [e] <;> decide +kernel
  intro r
  induction r with
  | zero =>
    intro i fuel ν hr hf hw h
    obtain ⟨g, rfl, _⟩ := lt_fuel hf
    refine ⟨ν, ?_, hw, fun j hj => h j (by omega)⟩
    show (if ((aN lt : Nat) : Int) ≤ (i : Int) then _ else _) = _
    rw [haN, if_pos (Int.ofNat_le.mpr (by omega))]
  | succ r ih =>
    intro i fuel ν hr hf hw h
    obtain ⟨g, rfl, _⟩ := lt_fuel hf
    have i256 : (0 : Int) ≤ (i : Int) ∧ (i : Int) < ((256 : Nat) : Int) := ⟨by omega, by omega⟩
    have e0 : X6_weigh_L7 lt K (g + 1) (i : Int) ν = X6_weigh_L7 lt K g ((i + 1 : Nat) : Int) (sM ν lt i 1000000000) := by
      show (if ((aN lt : Nat) : Int) ≤ (i : Int) then _ else _) = _
      rw [haN, if_neg (Int.not_le.mpr i256.2)]
      unfold stA
      rw [if_pos (by rw [haN]; exact i256), Int.toNat_natCast, iA_nat (by omega)]
    rw [e0]
    exact ih (i + 1) g _ (by omega) (by omega) (fw_sM hw rfl) (fun j hj => by
      rw [sM_if]
      by_cases e : j = i
      · rw [if_pos e]
      · rw [if_neg e]; exact h j (by omega))
def Wwe (lt k j : Nat) : Prop := (k = 62 ∧ j = 4) ∨ Wga lt k j
theorem weighC {l0 : Nat} (h0 : kD l0 = (11, 7)) {lt : Nat} (hlt : lt = 65 ∨ lt = 66) (hJ : JOK m B T Wd S) {ν : Mm} (hC : JobC l0 ν m B T Wd cr S) : ∃ ν', X6_weigh l0 lt ν = some (0, ν') ∧ fw (Wwe lt) ν ν' ∧ ∀ Y y, setY Y m y → ν' lt Y = if (bst m B T Wd S 0 y).2 = -1 then 1000000000 else (bst m B T Wd S 0 y).2 := by
  have hm8 := hJ.2.1
  obtain ⟨j1, j2, j3, j4, j5, j6⟩ := jb_60 h0
  obtain ⟨ν1, hν1⟩ : ∃ x, x = sM ν 62 4 (l0 : Int) := ⟨_, rfl⟩
  have o1 : ∀ k j, ¬ (k = 62 ∧ j = 4) → ν1 k j = ν k j := fun k j hn => by rw [hν1]; unfold sM; rw [if_neg hn]
  have hE1 : ν1 62 4 = (l0 : Int) := by rw [hν1, sM_s]
  have hC1 : JobC l0 ν1 m B T Wd cr S := JobC_c h0 hC (fun k j k1 k2 => o1 k j (by omega))
  obtain ⟨ν2, e2, f2, g2⟩ := weC_L hlt (K := fun μ5 => bd (X6_forget μ5) fun v6 μ7 => bd (X6_gather RD 0 0 8 0 0 lt μ7) fun v9 μ10 => some (0, μ10)) (ν0 := ν1) 256 0 FU ν1 (by decide) (by decide) fw_rf (fun j hj => absurd hj (Nat.not_lt_zero _))
  have e2 : X6_weigh_L7 lt (fun μ5 => bd (X6_forget μ5) fun v6 μ7 => bd (X6_gather RD 0 0 8 0 0 lt μ7) fun v9 μ10 => some (0, μ10)) FU 0 ν1 = bd (X6_forget ν2) fun v6 μ7 => bd (X6_gather RD 0 0 8 0 0 lt μ7) fun v9 μ10 => some (0, μ10) := e2
  have hE2 : ν2 62 4 = (l0 : Int) := by rw [f2 62 4 (by omega)]; exact hE1
  have hC2 : JobC l0 ν2 m B T Wd cr S := JobC_c h0 hC1 (fun k j k1 k2 => f2 k j (by omega))
  obtain ⟨ν3, e3, f3, g3⟩ := forC h0 hm8 hE2 hC2.1
  have o3 : ∀ k j, ¬ W34 k j → ν3 k j = ν2 k j := f3
  have hE3 : ν3 62 4 = (l0 : Int) := by rw [o3 62 4 (by unfold W34; omega)]; exact hE2
  have hC3 : JobC l0 ν3 m B T Wd cr S := JobC_c h0 hC2 (fun k j k1 k2 => o3 k j (by unfold W34; omega))
  have hlt3 : ∀ j, j < 256 → ν3 lt j = 1000000000 := fun j hj => by rw [o3 lt j (by unfold W34; omega)]; exact g2 j hj
  have h256 := pow_256 hm8
  have hS3 : sndG m B T Wd S lt ν3 := fun Y y hY => Or.inl (hlt3 Y (by have := hY.1; omega))
  have hM3 : memG m B T Wd S lt ν3 m := fun X l lf k1 k2 k3 => Or.inl (g3 (8 * X + l) (by have := k1.1; omega))
  have hRc : rchG m B T Wd S (fun _ => true) m 0 0 := by
    intro y hy v hv
    have hr : ∀ x, x < m → (rem (fun _ => true) y x = true ↔ y x = true) := fun x hx => by rw [rem_iff]; exact ⟨fun z => z.2, fun z => ⟨rfl, z⟩⟩
    rw [cN_co m hr] at hv
    exact att_co _ _ _ _ _ _ _ hr hv
  obtain ⟨ν4, e4, f4, _, g4, g5, _⟩ := gaC h0 hlt hJ m RD 0 0 (fun _ => true) m 0 0 ν3 (by omega) (by show m < 12; omega) (smk_0 hm8) cN_all (Nat.le_refl _) ⟨by omega, by omega, by decide⟩ hRc hE3 hC3 hS3 hM3
  have e4 : X6_gather RD 0 0 8 0 0 lt ν3 = some (0, ν4) := by
    have h := e4
    rw [h8C] at h
    exact h
  refine ⟨ν4, ?_, fun k j hn => ?_, fun Y y hY => ?_⟩
  · unfold X6_weigh
    rw [sF_r, ← hν1, e2, e3, bd_some, e4, bd_some]
  · unfold Wwe Wga at hn
    rw [f4 k j (by unfold Wga; omega), o3 k j (by unfold W34; omega), f2 k j (by omega), o1 k j (by omega)]
  · have hcp : ∀ v, att m B T Wd S (cN y m) y m 0 0 v → ν4 lt Y ≤ v := fun v hv => by
      have hr : ∀ x, x < m → (y x = true ↔ rem (fun _ => true) y x = true) := fun x hx => by rw [rem_iff]; exact ⟨fun z => ⟨rfl, z⟩, fun z => z.2⟩
      rw [cN_co m hr] at hv
      exact g5 Y y hY (fun i _ hn => absurd rfl hn) v (att_co _ _ _ _ _ _ _ hr hv)
    have hcn := cN_le (b := y) m
    have hab : ∀ v, att m B T Wd S (cN y m) y m 0 0 v → 0 ≤ v ∧ v ≤ 48000 := fun v hv => att_b hJ (cN y m) 0 y m 0 0 v (by omega) (Nat.le_refl _) ⟨by omega, by omega, by decide⟩ hv
    rcases bst_att (m := m) (B := B) (T := T) (Wd := Wd) (S := S) (y := y) with ⟨z1, z2⟩ | ⟨z1, z2, z3⟩
    · rw [z1, if_pos rfl]
      exact (g4 Y y hY).resolve_right (z2 _)
    · have hb := hab _ z2
      rw [if_neg (by omega)]
      have h1 := hcp _ z2
      rcases g4 Y y hY with w | w
      · omega
      · have := z3 _ w
        omega
end GA
