/-! FIT in the class: its visit -/
def WfC (k j : Nat) : Prop := k = 67 ∧ (j = 5 ∨ j = 6)
def EnF (ν : Mm) (w : Int) (N : Nat) (ts tc : Nat → Int) : Prop := ν 67 3 = 48 ∧ ν 67 4 = w ∧ ThC ν N ts tc
theorem EnF_c {ν ν' : Mm} {w : Int} {N : Nat} {ts tc : Nat → Int} (h : EnF ν w N ts tc) (f : fw WfC ν ν') : EnF ν' w N ts tc :=
  ⟨by rw [f 67 3 (by unfold WfC; omega)]; exact h.1, by rw [f 67 4 (by unfold WfC; omega)]; exact h.2.1, by rw [f 67 2 (by unfold WfC; omega)]; exact h.2.2.1, fun j hj => by rw [f 68 j (by unfold WfC; omega), f 69 j (by unfold WfC; omega)]; exact h.2.2.2 j hj⟩
theorem mR67 {ν : Mm} (h : ν 67 3 = 48) (f : Nat → Rs) : mR ν 67 3 (11, 7) f = f 48 := by
  unfold mR
  rw [h]
  exact if_pos (by decide)
def resF (ν : Mm) (w f : Int) (A : List Int) : Prop := ν 67 6 = (A.foldl (stF w) (f, -1)).2 ∧ ((A.foldl (stF w) (f, -1)).2 = -1 → ν 67 5 = f + (A.length : Int))
theorem FTc_ap {g : Nat → List Int} {i : Nat} : ∀ d, ∃ R, FTc g (i + d) = FTc g i ++ R := by
  intro d
  induction d with
  | zero => exact ⟨[], by rw [List.append_nil]; rfl⟩
  | succ d ih =>
    obtain ⟨R, h⟩ := ih
    refine ⟨R ++ g (i + d), ?_⟩
    show FTc g (i + d) ++ g (i + d) = _
    rw [h, List.append_assoc]
theorem fo_pair {w f : Int} {A : List Int} (h : (A.foldl (stF w) (f, -1)).2 = -1) : A.foldl (stF w) (f, -1) = (f + (A.length : Int), -1) := by
  have h1 := fo1 (w := w) A (f, -1)
  have e : A.foldl (stF w) (f, -1) = ((A.foldl (stF w) (f, -1)).1, (A.foldl (stF w) (f, -1)).2) := rfl
  rw [e, h, h1]
theorem fo_keep {w f : Int} {A R : List Int} (h : (A.foldl (stF w) (f, -1)).2 ≠ -1) : ((A ++ R).foldl (stF w) (f, -1)).2 = (A.foldl (stF w) (f, -1)).2 := by
  have hw : w < f + (A.length : Int) := Classical.byContradiction (fun z => h (fo2 A (f, -1) (Or.inr (by show f + (A.length : Int) ≤ w; omega))))
  rw [List.foldl_append]
  refine fo2 R _ (Or.inl ?_)
  rw [fo1]
  exact hw
section VF
variable {m : Nat} {B : Nat → Nat → Int} {T Wd : Nat → Int} {S : Int} {cr : Nat → Nat} {N : Nat} {ts tc : Nat → Int} {w : Int}
theorem visF_L (hJ : JOK m B T Wd S) (hFB : FB m B cr) (hA : ∀ a b, a ≤ m → b < m → B a b ≠ -1) (hN : N ≤ 10) {n k : Nat} {o : Nat → Nat} {lf : Nat → Bool} {X : Nat} {H f : Int} (hk : n + 1 + k = m) (hX : smk X m lf) (ho : ∀ x, x < k → o x < m) (hH : hmk H N (hrd m B T Wd S cr ts tc o k)) (hf0 : 0 ≤ f ∧ f + ((8 ^ (n + 1) : Nat) : Int) ≤ 20000000) (hw : w = -1 ∨ f ≤ w) {rec : Int → Int → Int → Int → Int → Int → Mm → Rs} (hrec : ∀ i, i < m → lf i = true → ∀ (Y : Nat) (H1 : Int) (ν1 : Mm) (f1 : Int), smk Y m (ofB lf i) → hmk H1 N (hrd m B T Wd S cr ts tc (uN o k i) (k + 1)) → EnF ν1 w N ts tc → JobC 48 ν1 m B T Wd cr S → ν1 67 5 = f1 → ν1 67 6 = -1 → 0 ≤ f1 → f1 + ((8 ^ n : Nat) : Int) ≤ 20000000 → (w = -1 ∨ f1 ≤ w) → ∃ ν2, rec ((k + 1 : Nat) : Int) H1 (Y : Int) (i : Int) (stO B T Wd S (rt m B T Wd S o k) (frO m o k) i) (10 * dig o k + (i : Int)) ν1 = some (0, ν2) ∧ fw WfC ν1 ν2 ∧ resF ν2 w f1 (FTo m B T Wd S cr N ts tc n (ofB lf i) (k + 1) (uN o k i))) {ν0 : Mm} (hE : EnF ν0 w N ts tc) (hC : JobC 48 ν0 m B T Wd cr S) : ∀ (r i fuel : Nat) (ν : Mm), i + r = m → r < fuel → fw WfC ν0 ν → resF ν w f (FTc (fun i => if lf i = true then FTo m B T Wd S cr N ts tc n (ofB lf i) (k + 1) (uN o k i) else []) i) → ∃ ν', X8_visit_L62 rec (k : Int) H (X : Int) ((aC m (frO m o k) : Nat) : Int) (rt m B T Wd S o k) (dig o k) fuel (i : Int) ν = some (0, ν') ∧ fw WfC ν0 ν' ∧ resF ν' w f (FTc (fun i => if lf i = true then FTo m B T Wd S cr N ts tc n (ofB lf i) (k + 1) (uN o k i) else []) m) := by
  have hm8 := hJ.2.1
  obtain ⟨G, hG⟩ : ∃ G : Nat → List Int, G = fun i => if lf i = true then FTo m B T Wd S cr N ts tc n (ofB lf i) (k + 1) (uN o k i) else [] := ⟨_, rfl⟩
  rw [← hG]
  have hGy : ∀ i, lf i = true → G i = FTo m B T Wd S cr N ts tc n (ofB lf i) (k + 1) (uN o k i) := fun i hi => by rw [hG]; exact if_pos hi
  have hGn : ∀ i, ¬ lf i = true → G i = [] := fun i hi => by rw [hG]; exact if_neg hi
  have hlen : ∀ x, x ≤ m → (FTc G x).length ≤ x * 8 ^ n := fun x hx => FTc_len x (fun i hi => by
    by_cases c : lf i = true
    · rw [hGy i c]; exact FTo_len hm8 _ _ _ _
    · rw [hGn i c]; exact Nat.zero_le _)
  have hfk : feas m B o k := fun j hj => hA _ _ (fr_le ho hj) (ho j hj)
  have hrt := rt_b hJ ho k (Nat.le_refl _) hfk
  have hdg := dig_b (o := o) k (fun j hj => by have := ho j hj; omega)
  have hfr : frO m o k ≤ m := by
    unfold frO
    by_cases c : k = 0
    · rw [if_pos c]; exact Nat.le_refl _
    · rw [if_neg c]; exact Nat.le_of_lt (ho (k - 1) (by omega))
  have hR : Rng k (rt m B T Wd S o k) 0 0 := ⟨hrt, by omega, Int.le_refl _, p10_pos _⟩
  have p8 : (10 : Int) ^ k ≤ 10000000 := p10_mono (b := 7) (by omega)
  intro r
  induction r with
  | zero =>
    intro i fuel ν hr hfu hfw hres
    obtain ⟨g, rfl, _⟩ := lt_fuel hfu
    have e : i = m := by omega
    have hEν := EnF_c hE hfw
    have hCν : JobC 48 ν m B T Wd cr S := JobC_c (by decide) hC (fun k j k1 k2 => hfw k j (by unfold WfC; omega))
    rw [e] at hres
    refine ⟨ν, ?_, hfw, hres⟩
    show mR ν 67 3 (11, 7) _ = _
    rw [mR67 hEν.1, hCν.1, if_pos (by omega)]
  | succ r ih =>
    intro i fuel ν hr hfu hfw hres
    obtain ⟨g, rfl, _⟩ := lt_fuel hfu
    have him : i < m := by omega
    have hEν := EnF_c hE hfw
    have hCν : JobC 48 ν m B T Wd cr S := JobC_c (by decide) hC (fun k j k1 k2 => hfw k j (by unfold WfC; omega))
    have hbit : bA (bR (X : Int) (i : Int)) 1 = 1 ↔ ¬ lf i = true := by
      rw [bt1 (by omega), hX.2 i (by omega)]
      exact ⟨fun z => z.2, fun z => ⟨him, z⟩⟩
    have eF : FTc G (i + 1) = FTc G i ++ G i := rfl
    obtain ⟨r6, r5⟩ := hres
    by_cases cg : ((FTc G i).foldl (stF w) (f, -1)).2 = -1
    · have f5 := r5 cg
      rw [cg] at r6
      have hpair := fo_pair cg
      have e0 : X8_visit_L62 rec (k : Int) H (X : Int) ((aC m (frO m o k) : Nat) : Int) (rt m B T Wd S o k) (dig o k) (g + 1) (i : Int) ν = if (bA (bR (X : Int) (i : Int)) 1) = 1 then (X8_visit_J109 rec (fun w7 μq => X8_visit_L62 rec (k : Int) H (X : Int) ((aC m (frO m o k) : Nat) : Int) (rt m B T Wd S o k) (dig o k) g w7 μq) (k : Int) H (X : Int) ((aC m (frO m o k) : Nat) : Int) (rt m B T Wd S o k) (dig o k) (i : Int) (-1) ν) else (X8_visit_J109 rec (fun w7 μq => X8_visit_L62 rec (k : Int) H (X : Int) ((aC m (frO m o k) : Nat) : Int) (rt m B T Wd S o k) (dig o k) g w7 μq) (k : Int) H (X : Int) ((aC m (frO m o k) : Nat) : Int) (rt m B T Wd S o k) (dig o k) (i : Int) (rt m B T Wd S o k + B (frO m o k) i * S) ν) := by
        show mR ν 67 3 (11, 7) _ = _
        rw [mR67 hEν.1, hCν.1, if_neg (by omega), r6, if_pos rfl, mR67 hEν.1, comesC hJ hCν hfr him hR (by omega), if_neg (hA _ _ hfr him), bd_some]
      by_cases c1 : lf i = true
      · rw [if_neg (fun z => hbit.mp z c1)] at e0
        obtain ⟨⟨q1, q2, q3⟩, r4, _⟩ := rng_s (w := 0) hJ hfr him (hA _ _ hfr him) hR (by omega)
        have h3 := hJ.2.2.2.2.1 i him
        have h4 := hJ.2.2.2.2.2 i him
        obtain ⟨Y, y1, y2⟩ := smk_put hm8 hX him
        have i8 : (0 : Int) ≤ (i : Int) ∧ (i : Int) < 8 := by omega
        have ecr : ν 49 i = ((cr i : Nat) : Int) := (hCν.2.2.1 i him).1
        have ed : X1_dones 48 (rt m B T Wd S o k + B (frO m o k) i * S) (i : Int) ν = some (stO B T Wd S (rt m B T Wd S o k) (frO m o k) i, ν) := donC hCν him hm8 (by omega)
        obtain ⟨H', k1, k2⟩ := heC hN hEν.2.2 (c := ((cr i : Nat) : Int)) (x := rt m B T Wd S o k + B (frO m o k) i * S) (y := stO B T Wd S (rt m B T Wd S o k) (frO m o k) i)
        have hH1 : hmk (bO H H') N (hrd m B T Wd S cr ts tc (uN o k i) (k + 1)) := hmk_c (hmk_or hH k2) (fun d => hrd_u.symm)
        obtain ⟨ms1, ms2⟩ := msC hN hEν.2.2 (y := stO B T Wd S (rt m B T Wd S o k) (frO m o k) i) hH1
        have et : iA (iM 10 (dig o k)) (i : Int) = 10 * dig o k + (i : Int) := by
          rw [iM_id (by omega) (by omega), iA_id (by omega) (by omega)]
        have ek : iA (k : Int) 1 = ((k + 1 : Nat) : Int) := by clear et; exact iA_nat (by omega)
        have ei : iA (i : Int) 1 = ((i + 1 : Nat) : Int) := by clear et ek; exact iA_nat (by omega)
        have hne : ¬ rt m B T Wd S o k + B (frO m o k) i * S = -1 := by clear et ek ei; omega
        have hl := hlen i (by clear et ek ei; omega)
        have h8 : (i + 1) * 8 ^ n ≤ 8 ^ (n + 1) := by
          have h1 : (i + 1) * 8 ^ n ≤ 8 * 8 ^ n := Nat.mul_le_mul_right _ (by clear et ek ei; omega)
          have h2 : 8 ^ (n + 1) = 8 * 8 ^ n := by rw [Nat.pow_succ, Nat.mul_comm]
          clear et ek ei
          omega
        have h9 : (i + 1) * 8 ^ n = i * 8 ^ n + 8 ^ n := Nat.succ_mul _ _
        have hfb : 0 ≤ f + ((FTc G i).length : Int) ∧ f + ((FTc G i).length : Int) + ((8 ^ n : Nat) : Int) ≤ 20000000 := by
          clear et ek ei
          omega
        have hfw2 : w = -1 ∨ f + ((FTc G i).length : Int) ≤ w := by
          rcases hw with z | z
          · exact Or.inl z
          · refine Or.inr (Classical.byContradiction (fun y => ?_))
            have h := fo3 (w := w) (FTc G i) (f, -1) z (by show w < f + ((FTc G i).length : Int); clear et ek ei; omega) (fun x hx => by
              obtain ⟨x1, x2, x3⟩ := FTc_mem i hx
              by_cases c : lf x1 = true
              · rw [hGy x1 c] at x3
                exact FTo_nn n _ _ _ (by clear et ek ei; omega) hm8 (fun j hj => by
                  by_cases e : j = k
                  · rw [e, uN_k]; clear et ek ei; omega
                  · rw [uN_o (by clear et ek ei; omega)]; exact ho j (by clear et ek ei; omega)) x x3
              · rw [hGn x1 c] at x3; exact absurd x3 (List.not_mem_nil))
            rw [cg] at h
            exact absurd h (by decide)
        have efol : X8_follow_o rec (k : Int) H (bO (X : Int) (bL 1 (i : Int))) (i : Int) (rt m B T Wd S o k + B (frO m o k) i * S) (10 * dig o k + (i : Int)) ν = bd (X8_isMissed (bO H H') (stO B T Wd S (rt m B T Wd S o k) (frO m o k) i) ν) fun v13 μ14 => if v13 = 0 then (bd (rec ((k + 1 : Nat) : Int) (bO H H') (Y : Int) (i : Int) (stO B T Wd S (rt m B T Wd S o k) (frO m o k) i) (10 * dig o k + (i : Int)) μ14) fun v17 μ18 => some (0, μ18)) else (some (0, μ14)) := by
          unfold X8_follow_o
          rw [mR67 hEν.1, ed, bd_some, mR67 hEν.1]
          unfold ldA
          rw [if_pos (by exact i8), Int.toNat_natCast]
          show (bd (X8_heardAt (ν 49 i) _ _ ν) fun v10 μ11 => _) = _
          rw [ecr, k1, bd_some, y1, ek]
        have fin : ∀ ν2, X8_follow_o rec (k : Int) H (bO (X : Int) (bL 1 (i : Int))) (i : Int) (rt m B T Wd S o k + B (frO m o k) i * S) (10 * dig o k + (i : Int)) ν = some (0, ν2) → fw WfC ν ν2 → resF ν2 w (f + ((FTc G i).length : Int)) (G i) → ∃ ν', X8_visit_L62 rec (k : Int) H (X : Int) ((aC m (frO m o k) : Nat) : Int) (rt m B T Wd S o k) (dig o k) (g + 1) (i : Int) ν = some (0, ν') ∧ fw WfC ν0 ν' ∧ resF ν' w f (FTc G m) := by
          intro ν2 hf2 f2 hr2
          obtain ⟨ν', z1, z2, z3⟩ := ih (i + 1) g ν2 (by clear et ek ei; omega) (by clear et ek ei; omega) (fw_tr hfw f2) (by
            obtain ⟨u1, u2⟩ := hr2
            have hfold : (FTc G (i + 1)).foldl (stF w) (f, -1) = (G i).foldl (stF w) (f + ((FTc G i).length : Int), -1) := by
              rw [eF, List.foldl_append, hpair]
            have hln : ((FTc G (i + 1)).length : Int) = ((FTc G i).length : Int) + ((G i).length : Int) := by
              rw [eF, List.length_append]; rfl
            refine ⟨by rw [hfold]; exact u1, fun y => ?_⟩
            rw [hfold] at y
            rw [u2 y, hln]
            clear et ek ei
            omega)
          refine ⟨ν', ?_, z2, z3⟩
          rw [e0]
          unfold X8_visit_J109
          rw [if_neg hne, et, hf2, bd_some, ei]
          exact z1
        by_cases cm : ∃ d, d < N ∧ ts d ≤ stO B T Wd S (rt m B T Wd S o k) (frO m o k) i ∧ ¬ hrd m B T Wd S cr ts tc (uN o k i) (k + 1) d
        · have hg0 : G i = [] := by
            obtain ⟨d, d1, d2, d3⟩ := cm
            rw [hGy i c1]
            exact FTo_ms hJ hFB d1 n _ _ _ (by clear et ek ei; omega) (by clear et ek ei; omega) (fun j hj => by
              by_cases e : j = k
              · rw [e, uN_k]; exact him
              · rw [uN_o (by clear et ek ei; omega)]; exact ho j (by clear et ek ei; omega)) (by rw [rt_1]; exact d2) d3
          refine fin ν ?_ fw_rf ?_
          · rw [efol, ms1 cm, bd_some, if_neg (by decide)]
          · rw [hg0]
            refine ⟨r6, fun _ => ?_⟩
            rw [f5]
            show _ = f + ((FTc G i).length : Int) + ((0 : Nat) : Int)
            clear et ek ei
            omega
        · have cm' : ∀ d, d < N → ¬ (ts d ≤ stO B T Wd S (rt m B T Wd S o k) (frO m o k) i ∧ ¬ hrd m B T Wd S cr ts tc (uN o k i) (k + 1) d) := fun d hd z => cm ⟨d, hd, z⟩
          obtain ⟨ν2, g1, g2, g3⟩ := hrec i him c1 Y (bO H H') ν (f + ((FTc G i).length : Int)) y2 hH1 hEν hCν f5 r6 hfb.1 hfb.2 hfw2
          refine fin ν2 ?_ g2 ?_
          · rw [efol, ms2 cm', bd_some, if_pos rfl, g1, bd_some]
          · rw [hGy i c1]; exact g3
      · have hg0 := hGn i c1
        have e1 : X8_visit_L62 rec (k : Int) H (X : Int) ((aC m (frO m o k) : Nat) : Int) (rt m B T Wd S o k) (dig o k) (g + 1) (i : Int) ν = X8_visit_L62 rec (k : Int) H (X : Int) ((aC m (frO m o k) : Nat) : Int) (rt m B T Wd S o k) (dig o k) g ((i + 1 : Nat) : Int) ν := by
          rw [e0, if_pos (hbit.mpr c1)]
          unfold X8_visit_J109
          rw [if_pos rfl, iA_nat (by omega)]
        rw [e1]
        refine ih (i + 1) g ν (by omega) (by omega) hfw ?_
        rw [eF, hg0, List.append_nil]
        exact ⟨by rw [cg]; exact r6, fun _ => f5⟩
    · -- it has been found
      obtain ⟨R, hR2⟩ := FTc_ap (g := G) (i := i) (m - i)
      have em : i + (m - i) = m := by omega
      rw [em] at hR2
      have hk2 := fo_keep (R := R) cg
      rw [← hR2] at hk2
      refine ⟨ν, ?_, hfw, by rw [hk2]; exact r6, fun y => absurd (by rw [← hk2]; exact y) cg⟩
      show mR ν 67 3 (11, 7) _ = _
      rw [mR67 hEν.1, hCν.1, if_neg (by omega), if_neg (by rw [r6]; exact cg)]
theorem visF (hJ : JOK m B T Wd S) (hFB : FB m B cr) (hA : ∀ a b, a ≤ m → b < m → B a b ≠ -1) (hN : N ≤ 10) (hwr : -1 ≤ w ∧ w ≤ 2147483647) : ∀ (n fuel k : Nat) (o : Nat → Nat) (lf : Nat → Bool) (X : Nat) (H : Int) (ν : Mm) (f : Int), n + k = m → n < fuel → smk X m lf → cN lf m = n → (∀ x, x < k → o x < m) → hmk H N (hrd m B T Wd S cr ts tc o k) → EnF ν w N ts tc → JobC 48 ν m B T Wd cr S → ν 67 5 = f → ν 67 6 = -1 → 0 ≤ f → f + ((8 ^ n : Nat) : Int) ≤ 20000000 → (w = -1 ∨ f ≤ w) → ∃ ν', X8_visit fuel (k : Int) H (X : Int) ((aC m (frO m o k) : Nat) : Int) (rt m B T Wd S o k) (dig o k) ν = some (0, ν') ∧ fw WfC ν ν' ∧ resF ν' w f (FTo m B T Wd S cr N ts tc n lf k o) := by
  have hm8 := hJ.2.1
  intro n
  induction n with
  | zero =>
    intro fuel k o lf X H ν f hk hfu hX hn ho hH hE hC h5 h6 hf0 hf8 hw
    obtain ⟨g, rfl, _⟩ := lt_fuel hfu
    have ekm : k = m := by omega
    have hfk : feas m B o k := fun j hj => hA _ _ (fr_le ho hj) (ho j hj)
    have hall := hmk_all hN hH
    have h8 : ((8 ^ 0 : Nat) : Int) = 1 := rfl
    rw [h8] at hf8
    have eJ : ∀ ν1 : Mm, EnF ν1 w N ts tc → JobC 48 ν1 m B T Wd cr S → X8_visit_J29 (fun w0 w1 w2 w3 w4 w5 μq => X8_visit g w0 w1 w2 w3 w4 w5 μq) (k : Int) H (X : Int) ((aC m (frO m o k) : Nat) : Int) (rt m B T Wd S o k) (dig o k) ν1 = if H = iS (bL 1 (N : Int)) 1 then some (0, sM ν1 67 6 (dig o k)) else some (0, ν1) := by
      intro ν1 hE1 hC1
      unfold X8_visit_J29
      rw [mR67 hE1.1, hC1.1, if_neg (by omega), hE1.2.2.1, sF_r]
    by_cases cH : H = iS (bL 1 (N : Int)) 1
    · have hAll := hall.mp cH
      have hL : FTo m B T Wd S cr N ts tc 0 lf k o = [dig o k] := FTo_0.1 ⟨hfk, hAll⟩
      have hdg := dig_b (o := o) k (fun j hj => by have := ho j hj; omega)
      have e0s : iS (m : Int) (k : Int) = ((0 : Nat) : Int) := by rw [iS_id (by omega) (by omega)]; omega
      have hpa := paC (n := 0) (by decide) (ν := ν) hE.2.1 h5 (by omega) hwr
      have e1f : ((facN 0 : Nat) : Int) = 1 := rfl
      rw [e1f] at hpa
      have e0 : X8_visit (g + 1) (k : Int) H (X : Int) ((aC m (frO m o k) : Nat) : Int) (rt m B T Wd S o k) (dig o k) ν = bd (X8_passesOver ((0 : Nat) : Int) ν) fun v23 μ24 => if v23 = 0 then (X8_visit_J29 (fun w0 w1 w2 w3 w4 w5 μq => X8_visit g w0 w1 w2 w3 w4 w5 μq) (k : Int) H (X : Int) ((aC m (frO m o k) : Nat) : Int) (rt m B T Wd S o k) (dig o k) μ24) else (some (0, μ24)) := by
        show (if H = (iS (bL 1 (ν 67 2)) 1) then _ else _) = _
        rw [hE.2.2.1, if_pos cH, mR67 hE.1, hC.1, e0s]
      clear e0s
      have hfold : ([dig o k].foldl (stF w) (f, -1)).2 = if f = w then dig o k else -1 := rfl
      by_cases cw : w = -1 ∨ 1 ≤ w - f
      · rw [hpa, if_pos cw, bd_some, if_neg (by decide)] at e0
        refine ⟨_, e0, fw_sM fw_rf ⟨rfl, Or.inl rfl⟩, ?_⟩
        rw [hL]
        refine ⟨?_, fun _ => ?_⟩
        · rw [hfold, if_neg (by omega), sM_j (by decide)]; exact h6
        · rw [sM_s]; rfl
      · rw [hpa, if_neg cw, bd_some, if_pos rfl, eJ ν hE hC, if_pos cH] at e0
        have hfw : f = w := by omega
        refine ⟨_, e0, fw_sM fw_rf ⟨rfl, Or.inr rfl⟩, ?_⟩
        rw [hL]
        refine ⟨?_, fun y => ?_⟩
        · rw [hfold, if_pos hfw, sM_s]
        · rw [hfold, if_pos hfw] at y
          omega
    · have hL : FTo m B T Wd S cr N ts tc 0 lf k o = [] := FTo_0.2 (fun z => cH (hall.mpr z.2))
      refine ⟨ν, ?_, fw_rf, ?_⟩
      · show (if H = (iS (bL 1 (ν 67 2)) 1) then _ else _) = _
        rw [hE.2.2.1, if_neg cH, eJ ν hE hC, if_neg cH]
      · rw [hL]
        refine ⟨h6, fun _ => ?_⟩
        rw [h5]
        show f = f + ((0 : Nat) : Int)
        omega
  | succ n ih =>
    intro fuel k o lf X H ν f hk hfu hX hn ho hH hE hC h5 h6 hf0 hf8 hw
    obtain ⟨g, rfl, _⟩ := lt_fuel hfu
    have hall := hmk_all hN hH
    obtain ⟨ν', l1, l2, l3⟩ := visF_L hJ hFB hA hN (n := n) (f := f) hk hX ho hH ⟨hf0, hf8⟩ hw (rec := fun w0 w1 w2 w3 w4 w5 μq => X8_visit g w0 w1 w2 w3 w4 w5 μq) (fun i hi h1 Y H1 ν1 f1 y1 y2 y3 y4 y5 y6 y7 y8 y9 => by
      have efr : frO m (uN o k i) (k + 1) = i := by
        have e : frO m (uN o k i) (k + 1) = uN o k i (k + 1 - 1) := if_neg (by omega)
        have e2 : k + 1 - 1 = k := by omega
        rw [e, e2, uN_k]
      have ea : aC m i = i := if_neg (by omega)
      have edg : dig (uN o k i) (k + 1) = 10 * dig o k + (i : Int) := by
        show 10 * dig (uN o k i) k + ((uN o k i k : Nat) : Int) = _
        rw [uN_k, dig_u (o := uN o k i) (o' := o) k (fun j hj => uN_o hj)]
      have h := ih g (k + 1) (uN o k i) (ofB lf i) Y H1 ν1 f1 (by omega) (by omega) y1 (by rw [cN_off h1, if_pos hi, hn]; rfl) (fun x hx => by
        by_cases e : x = k
        · rw [e, uN_k]; exact hi
        · rw [uN_o (by omega)]; exact ho x (by omega)) y2 y3 y4 y5 y6 y7 y8 y9
      rw [efr, ea, rt_1, edg] at h
      exact h) hE hC m 0 FU ν (by omega) (by show m < 1000000; omega) fw_rf ⟨h6, fun _ => by
        rw [h5]
        show f = f + ((0 : Nat) : Int)
        omega⟩
    have eJ : X8_visit_J29 (fun w0 w1 w2 w3 w4 w5 μq => X8_visit g w0 w1 w2 w3 w4 w5 μq) (k : Int) H (X : Int) ((aC m (frO m o k) : Nat) : Int) (rt m B T Wd S o k) (dig o k) ν = some (0, ν') := by
      unfold X8_visit_J29
      rw [mR67 hE.1, hC.1, if_pos (by omega)]
      exact l1
    by_cases cH : H = iS (bL 1 (N : Int)) 1
    · have hAll := hall.mp cH
      have hLl := FTo_all (T := T) (Wd := Wd) (S := S) (cr := cr) (N := N) (ts := ts) (tc := tc) hA (n + 1) lf k o hn hk ho hAll
      have hle := FTo_len (B := B) (T := T) (Wd := Wd) (S := S) (cr := cr) (N := N) (ts := ts) (tc := tc) hm8 (n + 1) lf k o
      rw [hLl] at hle
      have hpa := paC (n := n + 1) (by omega) (ν := ν) hE.2.1 h5 (by omega) hwr
      have e0s : iS (m : Int) (k : Int) = ((n + 1 : Nat) : Int) := by rw [iS_id (by omega) (by omega)]; omega
      have e0 : X8_visit (g + 1) (k : Int) H (X : Int) ((aC m (frO m o k) : Nat) : Int) (rt m B T Wd S o k) (dig o k) ν = bd (X8_passesOver ((n + 1 : Nat) : Int) ν) fun v23 μ24 => if v23 = 0 then (X8_visit_J29 (fun w0 w1 w2 w3 w4 w5 μq => X8_visit g w0 w1 w2 w3 w4 w5 μq) (k : Int) H (X : Int) ((aC m (frO m o k) : Nat) : Int) (rt m B T Wd S o k) (dig o k) μ24) else (some (0, μ24)) := by
        show (if H = (iS (bL 1 (ν 67 2)) 1) then _ else _) = _
        rw [hE.2.2.1, if_pos cH, mR67 hE.1, hC.1, e0s]
      clear e0s
      by_cases cw : w = -1 ∨ ((facN (n + 1) : Nat) : Int) ≤ w - f
      · rw [hpa, if_pos cw, bd_some, if_neg (by decide)] at e0
        have hno : ((FTo m B T Wd S cr N ts tc (n + 1) lf k o).foldl (stF w) (f, -1)).2 = -1 := fo2 _ _ (by
          rw [hLl]
          show w < f ∨ f + ((facN (n + 1) : Nat) : Int) ≤ w
          omega)
        refine ⟨_, e0, fw_sM fw_rf ⟨rfl, Or.inl rfl⟩, ?_, fun _ => ?_⟩
        · rw [hno, sM_j (by decide)]; exact h6
        · rw [sM_s, hLl]
      · rw [hpa, if_neg cw, bd_some, if_pos rfl, eJ] at e0
        exact ⟨ν', e0, l2, l3⟩
    · refine ⟨ν', ?_, l2, l3⟩
      show (if H = (iS (bL 1 (ν 67 2)) 1) then _ else _) = _
      rw [hE.2.2.1, if_neg cH]
      exact eJ
/-- all of it -/
theorem fitC (hJ : JOK m B T Wd S) (hFB : FB m B cr) (hTR : TRB m B) (hA : (∀ b, b < m → B m b ≠ -1) → ∀ a b, a ≤ m → b < m → B a b ≠ -1) (hN : N ≤ 10) (hwr : -1 ≤ w ∧ w ≤ 2147483647) {ν : Mm} (hC : JobC 48 ν m B T Wd cr S) (hT : ThC ν N ts tc) : ∃ ν', X8_fitting 48 w ν = some (if w = -1 then ((FTo m B T Wd S cr N ts tc m (fun _ => true) 0 (fun _ => 0)).length : Int) else ((FTo m B T Wd S cr N ts tc m (fun _ => true) 0 (fun _ => 0)).foldl (stF w) (0, -1)).2, ν') := by
  have hm8 := hJ.2.1
  obtain ⟨ν1, hν1⟩ : ∃ x, x = sM (sM (sM (sM ν 67 3 48) 67 4 w) 67 5 0) 67 6 (-1) := ⟨_, rfl⟩
  have o1 : ∀ k j, k ≠ 67 → ν1 k j = ν k j := fun k j hk => by rw [hν1, sM_a hk, sM_a hk, sM_a hk, sM_a hk]
  have hE1 : EnF ν1 w N ts tc := by
    refine ⟨?_, ?_, ?_, fun j hj => by rw [o1 68 j (by decide), o1 69 j (by decide)]; exact hT.2 j hj⟩
    · rw [hν1, sM_j (by decide), sM_j (by decide), sM_j (by decide), sM_s]
    · rw [hν1, sM_j (by decide), sM_j (by decide), sM_s]
    · rw [hν1, sM_j (by decide), sM_j (by decide), sM_j (by decide), sM_j (by decide)]; exact hT.1
  have h5 : ν1 67 5 = 0 := by rw [hν1, sM_j (by decide), sM_s]
  have h6 : ν1 67 6 = -1 := by rw [hν1, sM_s]
  have hC1 : JobC 48 ν1 m B T Wd cr S := JobC_c (by decide) hC (fun k j k1 k2 => o1 k j (by omega))
  have e0 : X8_fitting 48 w ν = bd (X1_canBe 48 ν1) fun v7 μ8 => if v7 = 0 then (X8_fitting_J41 w μ8) else (bd (X8_visit RD 0 0 0 8 0 0 μ8) fun v12 μ13 => X8_fitting_J41 w μ13) := by
    unfold X8_fitting
    have e48 : ((48 : Nat) : Int) = 48 := rfl
    rw [sF_r, sF_r, sF_r, sF_r, e48, ← hν1, mR67 hE1.1]
  have hcan := canC hJ hC1
  by_cases hb : ∀ b, b < m → B m b ≠ -1
  · have hH0 : hmk 0 N (hrd m B T Wd S cr ts tc (fun _ => 0) 0) := ⟨show (-2147483648 : Int) ≤ 0 ∧ (0 : Int) ≤ 2147483647 by decide, fun d hd => ⟨fun z => absurd z (by rw [gb_zero d hd]; decide), fun z => z.2.elim (fun x y => absurd y.1 (Nat.not_lt_zero _))⟩⟩
    have h8m : 8 ^ m ≤ 8 ^ 8 := Nat.pow_le_pow_right (by decide) hm8
    have h88 : 8 ^ 8 = 16777216 := by decide
    obtain ⟨ν2, v1, _, v3, v4⟩ := visF hJ hFB (hA hb) hN hwr m RD 0 (fun _ => 0) (fun _ => true) 0 0 ν1 0 (by omega) (by show m < 12; omega) (smk_0 hm8) cN_all (fun x hx => absurd hx (Nat.not_lt_zero _)) hH0 hE1 hC1 h5 h6 (Int.le_refl _) (by omega) (by omega)
    have v1 : X8_visit RD 0 0 0 8 0 0 ν1 = some (0, ν2) := by
      have h := v1
      have e : frO m (fun _ => 0) 0 = m := rfl
      rw [e, h8C] at h
      exact h
    refine ⟨ν2, ?_⟩
    rw [e0, hcan.1 hb, bd_some, if_neg (by decide), v1, bd_some]
    unfold X8_fitting_J41
    by_cases c : w = -1
    · rw [if_pos c, if_pos c, v4 (fo2 _ _ (Or.inl (by show w < 0; omega)))]
      rw [Int.zero_add]
    · rw [if_neg c, if_neg c, v3]
  · have hb' : ∃ b, b < m ∧ B m b = -1 := Classical.byContradiction (fun z => hb (fun b h1 h2 => z ⟨b, h1, h2⟩))
    obtain ⟨b, b1, b2⟩ := hb'
    have hno := FTo_no (T := T) (Wd := Wd) (S := S) (cr := cr) (N := N) (ts := ts) (tc := tc) hTR b1 b2 m (fun _ => true) 0 (fun _ => 0) cN_all (fun x hx => absurd hx (Nat.not_lt_zero _)) (Or.inl rfl)
    refine ⟨ν1, ?_⟩
    rw [e0, hcan.2 ⟨b, b1, b2⟩, bd_some, if_pos rfl, hno]
    unfold X8_fitting_J41
    by_cases c : w = -1
    · rw [if_pos c, if_pos c, h5]
      rfl
    · rw [if_neg c, if_neg c, h6]
      rfl
end VF
