/-! the class's search -/
theorem bA_lt {a : Nat} (ha : a < 256) (b : Int) : 0 ≤ bA (a : Int) b ∧ bA (a : Int) b ≤ (a : Int) := by
  have h2 : (Int32.ofInt (a : Int)).toBitVec.toNat = a := (by decide +kernel : ∀ k, k < 256 → (Int32.ofInt ((k : Nat) : Int)).toBitVec.toNat = k) a ha
  have h4 : ((Int32.ofInt (a : Int)).toBitVec &&& (Int32.ofInt b).toBitVec).toNat ≤ a := by
    rw [BitVec.toNat_and, h2]
    exact Nat.and_le_left
  have h3 : (bA (a : Int) b) = (((Int32.ofInt (a : Int)).toBitVec &&& (Int32.ofInt b).toBitVec).toNat : Int) := by
    show ((Int32.ofInt (a : Int)).toBitVec &&& (Int32.ofInt b).toBitVec).toInt = _
    rw [BitVec.toInt_eq_toNat_cond, if_pos (by omega)]
  rw [h3]
  omega
def smk (X m : Nat) (lf : Nat → Bool) : Prop := X < 2 ^ m ∧ ∀ d, d < 32 → (gb (X : Int) d = true ↔ d < m ∧ ¬ lf d = true)
theorem low_set {m : Nat} (hm : m ≤ 8) {Y : Int} (hY : rI Y) (h : ∀ d, d < 32 → gb Y d = true → d < m) : ∃ X : Nat, Y = (X : Int) ∧ X < 2 ^ m := by
  have h2 := pow_256 hm
  have hv := all_v m (by omega)
  have e : bA (((2 ^ m - 1 : Nat)) : Int) Y = Y := by
    refine gb_ext (bA_r _ _) hY (fun d hd => ?_)
    rw [← hv, gb_and, gb_all m (by omega) d hd, Bool.and_eq_true, decide_eq_true_iff]
    exact ⟨fun z => z.2, fun z => ⟨h d hd z, z⟩⟩
  have hb := bA_lt (a := 2 ^ m - 1) (by omega) Y
  rw [e] at hb
  exact ⟨Y.toNat, by omega, by omega⟩
theorem smk_put {X m : Nat} {lf : Nat → Bool} (hm : m ≤ 8) (h : smk X m lf) {i : Nat} (hi : i < m) : ∃ Y : Nat, bO (X : Int) (bL 1 (i : Int)) = (Y : Int) ∧ smk Y m (ofB lf i) := by
  have hb : ∀ d, d < 32 → (gb (bO (X : Int) (bL 1 (i : Int))) d = true ↔ d < m ∧ ¬ ofB lf i d = true) := fun d hd => by
    rw [gb_put (by omega) _ hd, h.2 d hd]
    unfold ofB
    by_cases c : d = i
    · rw [if_pos c]
      exact ⟨fun _ => ⟨by omega, by decide⟩, fun _ => Or.inr c⟩
    · rw [if_neg c]
      exact ⟨fun z => z.resolve_right c, fun z => Or.inl z⟩
  obtain ⟨Y, e1, e2⟩ := low_set hm (bO_r _ _) (fun d hd z => ((hb d hd).mp z).1)
  exact ⟨Y, e1, e2, fun d hd => by rw [← e1]; exact hb d hd⟩
theorem smk_cN {X m : Nat} {lf lf' : Nat → Bool} (hm : m ≤ 8) (h : smk X m lf) (h' : smk X m lf') : ∀ i, i < m → (lf i = true ↔ lf' i = true) := fun i hi => by
  have h1 := h.2 i (by omega)
  have h2 := h'.2 i (by omega)
  by_cases c : lf i = true
  · by_cases d : lf' i = true
    · exact ⟨fun _ => d, fun _ => c⟩
    · exact absurd c (h1.mp (h2.mpr ⟨hi, d⟩)).2
  · by_cases d : lf' i = true
    · exact absurd d (h2.mp (h1.mpr ⟨hi, c⟩)).2
    · exact ⟨fun z => absurd z c, fun z => absurd z d⟩
theorem cN_co {b b' : Nat → Bool} : ∀ m, (∀ i, i < m → (b i = true ↔ b' i = true)) → cN b m = cN b' m := by
  intro m
  induction m with
  | zero => intro _; rfl
  | succ m ih =>
    intro h
    have h1 := ih (fun i hi => h i (by omega))
    by_cases c : b m = true
    · rw [cN_y c, cN_y ((h m (by omega)).mp c), h1]
    · rw [cN_n c, cN_n (fun z => c ((h m (by omega)).mpr z)), h1]
def aC (m a : Nat) : Nat := if a = m then 8 else a
def Wv (k j : Nat) : Prop := (k = 62 ∧ (j = 7 ∨ j = 8)) ∨ k = 63 ∨ k = 64
def EnC (ν : Mm) (w : Int) (F : Nat) : Prop := ν 62 4 = 48 ∧ ν 62 5 = w ∧ ν 62 6 = (F : Int)
theorem EnC_v {ν ν' : Mm} {w : Int} {F : Nat} (h : EnC ν w F) (f : fw Wv ν ν') : EnC ν' w F :=
  ⟨by rw [f 62 4 (by unfold Wv; omega)]; exact h.1, by rw [f 62 5 (by unfold Wv; omega)]; exact h.2.1, by rw [f 62 6 (by unfold Wv; omega)]; exact h.2.2⟩
theorem mR62 {ν : Mm} (h : ν 62 4 = 48) (f : Nat → Rs) : mR ν 62 4 (11, 7) f = f 48 := by
  unfold mR
  rw [h]
  exact if_pos (by decide)
def Rel (ν : Mm) (s : Int × Int) : Prop := (s.1 = -1 ∧ ν 62 7 = 1000000000) ∨ (0 ≤ s.1 ∧ ν 62 7 = s.2 ∧ ν 62 8 = s.1 ∧ 0 ≤ s.2 ∧ s.2 < 1000000000)
theorem Rel_b {ν : Mm} {s : Int × Int} (h : Rel ν s) {c : Int} (hc : c ≤ 48000) : betr c s ↔ c < ν 62 7 := by
  rcases h with ⟨h1, h2⟩ | ⟨h1, h2, _, _, _⟩
  · rw [h2]
    exact ⟨fun _ => by omega, fun _ => Or.inl h1⟩
  · rw [h2]
    exact ⟨fun z => z.elim (fun y => by omega) id, fun z => Or.inr z⟩
theorem Rel_c {ν ν' : Mm} {s : Int × Int} (h : Rel ν s) (e7 : ν' 62 7 = ν 62 7) (e8 : ν' 62 8 = ν 62 8) : Rel ν' s := by
  unfold Rel
  rw [e7, e8]
  exact h
section SC
variable {m : Nat} {B : Nat → Nat → Int} {T Wd : Nat → Int} {cr : Nat → Nat} {S w : Int} {F : Nat}
def alF (m F n i : Nat) : Bool := decide (m - (n + 1) < F → i = m - (n + 1))
theorem JobC_v {ν ν' : Mm} (hC : JobC 48 ν m B T Wd cr S) (f : fw Wv ν ν') : JobC 48 ν' m B T Wd cr S := JobC_c (by decide) hC (fun k j h1 h2 => f k j (by unfold Wv; omega))
theorem aC_8 (hm : m ≤ 8) {a : Nat} (ha : a ≤ m) : aC m a ≤ 8 := by
  unfold aC
  by_cases c : a = m
  · rw [if_pos c]; exact Nat.le_refl _
  · rw [if_neg c]; omega
theorem stepsC_v {ν : Mm} (hC : JobC 48 ν m B T Wd cr S) {a i : Nat} (ha : a ≤ m) (hi : i < m) : ν (48 + 4) (8 * aC m a + i) = B a i := by
  unfold aC
  by_cases c : a = m
  · rw [if_pos c, c]; exact hC.2.2.2.2 i hi
  · rw [if_neg c]; exact hC.2.2.2.1 a i (by omega) hi
theorem stepsC (hJ : JOK m B T Wd S) {ν : Mm} (hC : JobC 48 ν m B T Wd cr S) {a i : Nat} (ha : a ≤ m) (hi : i < m) : X1_stepsBetween 48 ((aC m a : Nat) : Int) (i : Int) ν = some (B a i, ν) := by
  have hm8 := hJ.2.1
  have h8 := aC_8 hm8 ha
  exact sbC_x (l0 := 48) (by decide) (off8r h8 (by omega)) (by omega) (stepsC_v hC ha hi)
theorem comesC (hJ : JOK m B T Wd S) {ν : Mm} (hC : JobC 48 ν m B T Wd cr S) {a i q : Nat} (ha : a ≤ m) (hi : i < m) {t c d : Int} (hR : Rng q t c d) (hq : q + 1 ≤ 8) : X1_comes 48 t ((aC m a : Nat) : Int) (i : Int) ν = if B a i = -1 then some (-1, ν) else some (t + B a i * S, ν) := by
  unfold X1_comes
  rw [stepsC hJ hC ha hi, bd_some, hC.2.1]
  by_cases c : B a i = -1
  · rw [if_pos c, if_pos c]
  · obtain ⟨_, r4, _⟩ := rng_s (w := 0) hJ ha hi c hR hq
    obtain ⟨q1, _, _⟩ := hR
    rw [if_neg c, if_neg c, iM_id (by omega) (by omega), iA_id (by omega) (by omega)]
theorem donC {ν : Mm} (hC : JobC 48 ν m B T Wd cr S) {i : Nat} (hi : i < m) (hm : m ≤ 8) {x : Int} (hx : -2147483648 ≤ x + Wd i ∧ x + Wd i ≤ 2147483647) : X1_dones 48 x (i : Int) ν = some (mX (x + Wd i) (T i), ν) := by
  have i8 : (0 : Int) ≤ (i : Int) ∧ (i : Int) < 8 := by omega
  have g := hC.2.2.1 i hi
  have e1 : X1_wound 48 x (i : Int) ν = some (x + Wd i, ν) := by
    unfold X1_wound ldA
    rw [if_pos (by exact i8), Int.toNat_natCast]
    try dsimp only
    show some (iA x (ν 51 i), ν) = _
    have g3 : ν 51 i = Wd i := g.2.2
    rw [g3, iA_id hx.1 hx.2]
  unfold X1_dones
  rw [e1, bd_some]
  unfold ldA
  rw [if_pos (by exact i8), Int.toNat_natCast]
  try dsimp only
  show some (mX (x + Wd i) (ν 50 i), ν) = _
  have g2 : ν 50 i = T i := g.2.1
  rw [g2]
theorem wlC {ν : Mm} (h5 : ν 62 5 = w) {c l : Int} (hc : 0 ≤ c ∧ c ≤ 48000) (hl : 0 ≤ l ∧ l ≤ 6000) : X6_withLate c l ν = some (lateW w c l, ν) := by
  unfold X6_withLate lateW
  rw [h5]
  by_cases c0 : w = 0
  · rw [if_pos c0, if_pos c0, iA_id (by omega) (by omega)]
  · rw [if_neg c0, if_neg c0]
    by_cases c1 : w = 1
    · rw [if_pos c1, if_pos c1]
    · rw [if_neg c1, if_neg c1]
      by_cases c2 : l ≤ 0
      · rw [if_pos c2, if_pos c2]
      · rw [if_neg c2, if_neg c2, iA_id (by omega) (by omega)]
theorem off8X {X l : Nat} (hX : X < 256) (hl : l < 8) : iA (iM (X : Int) 8) (l : Int) = ((8 * X + l : Nat) : Int) := by
  rw [iM_id (by omega) (by omega), iA_id (by omega) (by omega)]
  omega
theorem a63 : aN 63 = 2048 := by decide +kernel
theorem a64 : aN 64 = 2048 := by decide +kernel
theorem nw_50 {ν : Mm} {x : Nat} (hx : x < 2048) {t c : Int} : X6_isNew_J50 t c (x : Int) ν = some (1, sM (sM ν 63 x t) 64 x c) := by
  have i20 : (0 : Int) ≤ (x : Int) ∧ (x : Int) < ((2048 : Nat) : Int) := ⟨Int.natCast_nonneg x, Int.ofNat_lt.mpr hx⟩
  unfold X6_isNew_J50 stA
  rw [if_pos (by rw [a63]; exact i20)]
  try dsimp only
  rw [if_pos (by rw [a64]; exact i20), Int.toNat_natCast]
theorem nw_x {ν : Mm} {a b : Int} {x : Nat} (e : iA (iM a 8) b = (x : Int)) (hx : x < 2048) {t c : Int} : X6_isNew a b t c ν = if ν 63 x ≤ t ∧ ν 64 x ≤ c then some (0, ν) else some (1, sM (sM ν 63 x t) 64 x c) := by
  have i20 : (0 : Int) ≤ (x : Int) ∧ (x : Int) < ((2048 : Nat) : Int) := ⟨Int.natCast_nonneg x, Int.ofNat_lt.mpr hx⟩
  unfold X6_isNew lt_
  try dsimp only
  rw [e, if_neg (Int.not_lt.mpr i20.1), a63, if_pos i20.2]
  unfold ldA
  rw [if_pos (by rw [a63]; exact i20), Int.toNat_natCast]
  try dsimp only
  clear e
  by_cases c1 : t < ν 63 x
  · rw [if_pos c1, if_neg (fun z => by omega)]; exact nw_50 hx
  · rw [if_neg c1, if_pos (by rw [a64]; exact i20)]
    try dsimp only
    by_cases c2 : c < ν 64 x
    · rw [if_pos c2, if_neg (fun z => by omega)]; exact nw_50 hx
    · rw [if_neg c2, if_pos ⟨by omega, by omega⟩]
theorem nwC {ν : Mm} {X l : Nat} (hX : X < 256) (hl : l < 8) {t c : Int} : X6_isNew (X : Int) (l : Int) t c ν = if ν 63 (8 * X + l) ≤ t ∧ ν 64 (8 * X + l) ≤ c then some (0, ν) else some (1, sM (sM ν 63 (8 * X + l) t) 64 (8 * X + l) c) := nw_x (off8X hX hl) (by omega)
theorem ofB_co {lf lf' : Nat → Bool} (h : ∀ i, i < m → (lf i = true ↔ lf' i = true)) (k : Nat) : ∀ i, i < m → (ofB lf k i = true ↔ ofB lf' k i = true) := fun i hi => by
  unfold ofB
  by_cases c : i = k
  · rw [if_pos c, if_pos c]
  · rw [if_neg c, if_neg c]; exact h i hi
theorem ddO_lf2 {al : Nat → Nat → Bool} {s : Int × Int} : ∀ (n : Nat) (lf lf' : Nat → Bool) (a : Nat) (t c : Int), (∀ i, i < m → (lf i = true ↔ lf' i = true)) → ddO m B T Wd S w al s n lf' a t c → ddO m B T Wd S w al s n lf a t c := by
  intro n
  induction n with
  | zero => intro lf lf' a t c _ hd; exact hd
  | succ n ih =>
    intro lf lf' a t c h hd i h1 h2 h3 h4
    exact ih _ _ _ _ _ (ofB_co h i) (hd i h1 ((h i h1).mp h2) h3 h4)
theorem ddO_lf {al : Nat → Nat → Bool} {s : Int × Int} {lf lf' : Nat → Bool} (h : ∀ i, i < m → (lf i = true ↔ lf' i = true)) (n a : Nat) (t c : Int) (hd : ddO m B T Wd S w al s n lf' a t c) : ddO m B T Wd S w al s n lf a t c := ddO_lf2 n lf lf' a t c h hd
/-- what is kept of sets with less than n CUES to come is true -/
def okE (m : Nat) (B : Nat → Nat → Int) (T Wd : Nat → Int) (S w : Int) (F : Nat) (ν : Mm) (s : Int × Int) (X l : Nat) (lf : Nat → Bool) : Prop := (ν 63 (8 * X + l) = 1000000000 ∧ ν 64 (8 * X + l) = 1000000000) ∨ ddO m B T Wd S w (alF m F) s (cN lf m) lf l (ν 63 (8 * X + l)) (ν 64 (8 * X + l))
def Mem (m : Nat) (B : Nat → Nat → Int) (T Wd : Nat → Int) (S w : Int) (F : Nat) (ν : Mm) (s : Int × Int) (n : Nat) : Prop := ∀ X l lf, smk X m lf → l < 8 → cN lf m < n → okE m B T Wd S w F ν s X l lf
def keep (m : Nat) (ν ν' : Mm) (n : Nat) : Prop := ∀ X l lf, smk X m lf → l < 8 → n ≤ cN lf m → ν' 63 (8 * X + l) = ν 63 (8 * X + l) ∧ ν' 64 (8 * X + l) = ν 64 (8 * X + l)
theorem okE_c {ν ν' : Mm} {s s' : Int × Int} {X l : Nat} {lf : Nat → Bool} (h : okE m B T Wd S w F ν s X l lf) (e : ν' 63 (8 * X + l) = ν 63 (8 * X + l) ∧ ν' 64 (8 * X + l) = ν 64 (8 * X + l)) (hi : impO s s') : okE m B T Wd S w F ν' s' X l lf := by
  unfold okE
  rw [e.1, e.2]
  rcases h with h | h
  · exact Or.inl h
  · exact Or.inr (ddO_imp hi _ _ _ _ _ h)
/-- one CUE that may come now -/
theorem folC (hJ : JOK m B T Wd S) {X n q : Nat} {lf : Nat → Bool} (hX : smk X m lf) (hn : cN lf m = n + 1) (hq : q + (n + 1) = m) {a i : Nat} (ha : a ≤ m) (hi : i < m) (hl : lf i = true) (hB : B a i ≠ -1) {t c d : Int} (hR : Rng q t c d) {ν : Mm} {s : Int × Int} (hE : EnC ν w F) (hC : JobC 48 ν m B T Wd cr S) (hS : Rel ν s) (hM : Mem m B T Wd S w F ν s (n + 1)) {rec : Int → Int → Int → Int → Int → Int → Mm → Rs} (hrec : ∀ (Y : Nat) (ν1 : Mm), smk Y m (ofB lf i) → EnC ν1 w F → JobC 48 ν1 m B T Wd cr S → Rel ν1 s → Mem m B T Wd S w F ν1 s n → betr (lateW w c (stO B T Wd S t a i - T i)) s → ∃ ν2, rec ((q + 1 : Nat) : Int) (Y : Int) (i : Int) (stO B T Wd S t a i) (lateW w c (stO B T Wd S t a i - T i)) (10 * d + (i : Int)) ν1 = some (0, ν2) ∧ fw Wv ν1 ν2 ∧ Rel ν2 (fst1 m B T Wd S w (alF m F) n lf a t c d i s) ∧ Mem m B T Wd S w F ν2 (fst1 m B T Wd S w (alF m F) n lf a t c d i s) n ∧ keep m ν1 ν2 n) : ∃ ν2, X6_follow_o rec (q : Int) (bO (X : Int) (bL 1 (i : Int))) (i : Int) (t + B a i * S) c (10 * d + (i : Int)) ν = some (0, ν2) ∧ fw Wv ν ν2 ∧ Rel ν2 (fst1 m B T Wd S w (alF m F) n lf a t c d i s) ∧ Mem m B T Wd S w F ν2 (fst1 m B T Wd S w (alF m F) n lf a t c d i s) (n + 1) ∧ keep m ν ν2 (n + 1) := by
  have hm8 := hJ.2.1
  obtain ⟨⟨r1, r2, r3⟩, r4, r5⟩ := rng_s (w := w) hJ ha hi hB hR (by omega)
  have h3 := hJ.2.2.2.2.1 i hi
  have h4 := hJ.2.2.2.2.2 i hi
  obtain ⟨q1, q2, q3⟩ := hR
  obtain ⟨Y, y1, y2⟩ := smk_put hm8 hX hi
  have hY : Y < 256 := by have := pow_256 hm8; have := y2.1; omega
  have hnl : cN (ofB lf i) m = n := by rw [cN_off hl, if_pos hi, hn]; rfl
  have i8 : (0 : Int) ≤ (i : Int) ∧ (i : Int) < 8 := by omega
  have eT : ν 50 i = T i := (hC.2.2.1 i hi).2.1
  have ed : X1_dones 48 (t + B a i * S) (i : Int) ν = some (stO B T Wd S t a i, ν) := donC hC hi hm8 (by omega)
  have hcb : 0 ≤ c ∧ c ≤ 48000 := by omega
  have hb1 : -2147483648 ≤ stO B T Wd S t a i - T i ∧ stO B T Wd S t a i - T i ≤ 2147483647 := by omega
  have hc8 : lateW w c (stO B T Wd S t a i - T i) ≤ 48000 := by omega
  have e0 : X6_follow_o rec (q : Int) (bO (X : Int) (bL 1 (i : Int))) (i : Int) (t + B a i * S) c (10 * d + (i : Int)) ν = if ν 62 7 ≤ lateW w c (stO B T Wd S t a i - T i) then some (0, ν) else bd (X6_isNew (Y : Int) (i : Int) (stO B T Wd S t a i) (lateW w c (stO B T Wd S t a i - T i)) ν) fun v14 μ15 => if v14 = 0 then some (0, μ15) else bd (rec ((q + 1 : Nat) : Int) (Y : Int) (i : Int) (stO B T Wd S t a i) (lateW w c (stO B T Wd S t a i - T i)) (10 * d + (i : Int)) μ15) fun v18 μ19 => some (0, μ19) := by
    have eq1 : iA (q : Int) 1 = ((q + 1 : Nat) : Int) := iA_nat (by omega)
    have el : iS (stO B T Wd S t a i) (T i) = stO B T Wd S t a i - T i := iS_id hb1.1 hb1.2
    unfold X6_follow_o
    rw [mR62 hE.1, ed, bd_some, mR62 hE.1]
    unfold ldA
    rw [if_pos (by exact i8), Int.toNat_natCast]
    try dsimp only
    show (bd (X6_withLate c (iS (stO B T Wd S t a i) (ν 50 i)) ν) fun v10 μ11 => _) = _
    rw [eT, el, wlC hE.2.1 hcb r5, bd_some, y1, eq1]
  -- nothing comes of it
  have none1 : ∀ ν2, ν2 = ν → ddO m B T Wd S w (alF m F) s n (ofB lf i) i (stO B T Wd S t a i) (lateW w c (stO B T Wd S t a i - T i)) → fw Wv ν ν2 ∧ Rel ν2 (fst1 m B T Wd S w (alF m F) n lf a t c d i s) ∧ Mem m B T Wd S w F ν2 (fst1 m B T Wd S w (alF m F) n lf a t c d i s) (n + 1) ∧ keep m ν ν2 (n + 1) := by
    intro ν2 e hd
    have e1 : fst1 m B T Wd S w (alF m F) n lf a t c d i s = s := ddO_full _ _ _ _ _ _ _ hd
    rw [e, e1]
    exact ⟨fw_rf, hS, hM, fun _ _ _ _ _ _ => ⟨rfl, rfl⟩⟩
  by_cases c1 : ν 62 7 ≤ lateW w c (stO B T Wd S t a i - T i)
  · have hd := ddO_cut (m := m) (B := B) (T := T) (Wd := Wd) (S := S) (w := w) (al := alF m F) (s := s) n (ofB lf i) i (stO B T Wd S t a i) (lateW w c (stO B T Wd S t a i - T i)) (fun z => by
      have := (Rel_b hS hc8).mp z
      omega)
    exact ⟨ν, by rw [e0, if_pos c1], none1 ν rfl hd⟩
  · have hbt : betr (lateW w c (stO B T Wd S t a i - T i)) s := (Rel_b hS hc8).mpr (by omega)
    rw [if_neg c1, nwC hY (by omega)] at e0
    by_cases c2 : ν 63 (8 * Y + i) ≤ stO B T Wd S t a i ∧ ν 64 (8 * Y + i) ≤ lateW w c (stO B T Wd S t a i - T i)
    · rw [if_pos c2, bd_some, if_pos rfl] at e0
      rcases hM Y i (ofB lf i) y2 (by omega) (by omega) with z | z
      · omega
      · rw [hnl] at z
        exact ⟨ν, e0, none1 ν rfl (ddO_mono _ _ _ _ _ _ _ c2.1 c2.2 z)⟩
    · rw [if_neg c2, bd_some, if_neg (by decide)] at e0
      obtain ⟨ν1, hν1⟩ : ∃ x, x = sM (sM ν 63 (8 * Y + i) (stO B T Wd S t a i)) 64 (8 * Y + i) (lateW w c (stO B T Wd S t a i - T i)) := ⟨_, rfl⟩
      rw [← hν1] at e0
      have f1 : fw Wv ν ν1 := by
        rw [hν1]
        exact fw_sM (fw_sM fw_rf (Or.inr (Or.inl rfl))) (Or.inr (Or.inr rfl))
      have e63 : ∀ j, ν1 63 j = if j = 8 * Y + i then stO B T Wd S t a i else ν 63 j := fun j => by rw [hν1, sM_a (by decide), sM_if]
      have e64 : ∀ j, ν1 64 j = if j = 8 * Y + i then lateW w c (stO B T Wd S t a i - T i) else ν 64 j := fun j => by rw [hν1, sM_if, sM_a (by decide)]
      have e62 : ∀ j, ν1 62 j = ν 62 j := fun j => by rw [hν1, sM_a (by decide), sM_a (by decide)]
      have hun : ∀ Z l, l < 8 → ¬ (Z = Y ∧ l = i) → ν1 63 (8 * Z + l) = ν 63 (8 * Z + l) ∧ ν1 64 (8 * Z + l) = ν 64 (8 * Z + l) := fun Z l hl8 hne => by
        rw [e63, e64, if_neg (fun z => hne (by omega)), if_neg (fun z => hne (by omega))]
        exact ⟨rfl, rfl⟩
      have same : ∀ lf', smk Y m lf' → cN lf' m = n := fun lf' h' => by rw [cN_co m (smk_cN hm8 h' y2), hnl]
      have hM1 : Mem m B T Wd S w F ν1 s n := fun Z l lf' h1 h2 h3 => okE_c (hM Z l lf' h1 h2 (by omega)) (hun Z l h2 (fun z => by
        have := same lf' (by rw [← z.1]; exact h1)
        omega)) impO_rf
      obtain ⟨ν2, g1, g2, g3, g4, g5⟩ := hrec Y ν1 y2 (EnC_v hE f1) (JobC_v hC f1) (Rel_c hS (e62 7) (e62 8)) hM1 hbt
      refine ⟨ν2, ?_, fw_tr f1 g2, g3, ?_, ?_⟩
      · rw [e0, g1, bd_some]
      · intro Z l lf' h1 h2 h3
        by_cases c3 : cN lf' m < n
        · exact g4 Z l lf' h1 h2 c3
        · have hk := g5 Z l lf' h1 h2 (by omega)
          by_cases c4 : Z = Y ∧ l = i
          · -- the one just tried
            have hfd : ddO m B T Wd S w (alF m F) (fst1 m B T Wd S w (alF m F) n lf a t c d i s) n (ofB lf i) i (stO B T Wd S t a i) (lateW w c (stO B T Wd S t a i - T i)) := fulO_dead _ _ _ _ _ _ _ (by omega)
            have hiff := smk_cN hm8 h1 (by rw [c4.1]; exact y2)
            refine Or.inr ?_
            rw [hk.1, hk.2, c4.1, c4.2, e63, e64, if_pos rfl, if_pos rfl]
            have hcn : cN lf' m = n := same lf' (by rw [← c4.1]; exact h1)
            rw [hcn]
            exact ddO_lf hiff n i _ _ hfd
          · have hk2 := hun Z l h2 c4
            exact okE_c (hM Z l lf' h1 h2 h3) ⟨by rw [hk.1, hk2.1], by rw [hk.2, hk2.2]⟩ (fulO_imp _ _ _ _ _ _ _ (by omega))
      · intro Z l lf' h1 h2 h3
        have hk := g5 Z l lf' h1 h2 (by omega)
        have hk2 := hun Z l h2 (fun z => by
          have := same lf' (by rw [← z.1]; exact h1)
          omega)
        exact ⟨by rw [hk.1, hk2.1], by rw [hk.2, hk2.2]⟩
end SC
