/-! THE READER OF PLAYS -/
/-- a CUE at p, no less than prev: its letter, its number, where it ends -/
def cueS (t : Nat → Int) (n p : Nat) (prev : Int) : Option (Int × Int × Nat) :=
  if 65 ≤ pk t n p ∧ pk t n p ≤ 72 then
    (if 48 ≤ pk t n (sk t n p + 1) ∧ pk t n (sk t n p + 1) ≤ 57 then
      (if prev ≤ (nmF t n 3 (sk t n (sk t n p + 1)) 0).1 then some (pk t n p - 65, (nmF t n 3 (sk t n (sk t n p + 1)) 0).1, (nmF t n 3 (sk t n (sk t n p + 1)) 0).2) else none)
    else none)
  else none
/-- what comes behind a CUE: r more at most -/
def plN (t : Nat → Int) (n : Nat) : Nat → Nat → Int → Option (List (Int × Int))
  | 0, p, _ => if pk t n p = -1 then some [] else none
  | r + 1, p, prev => if pk t n p = 44 then
      (match cueS t n (sk t n p + 1) prev with
        | none => none
        | some q => match plN t n r q.2.2 q.2.1 with
          | none => none
          | some l => some ((q.1, q.2.1) :: l))
    else if pk t n p = -1 then some [] else none
def plS (t : Nat → Int) (n : Nat) : Option (List (Int × Int)) := match cueS t n 0 (-1) with
  | none => none
  | some q => match plN t n 7 q.2.2 q.2.1 with
    | none => none
    | some l => some ((q.1, q.2.1) :: l)
theorem nm3 {t : Nat → Int} {n : Nat} (p : Nat) : 0 ≤ (nmF t n 3 p 0).1 ∧ (nmF t n 3 p 0).1 ≤ 999 := by
  have h : ∀ (m p d : Nat) (v : Int), d + m = 3 → 0 ≤ v → v ≤ 10 ^ d - 1 → 0 ≤ (nmF t n m p v).1 ∧ (nmF t n m p v).1 ≤ 999 := by
    intro m
    induction m with
    | zero => intro p d v hd h1 h2; have : d = 3 := by omega
              subst this; exact ⟨h1, by have e : (10 : Int) ^ 3 = 1000 := by decide
                                        show v ≤ 999; omega⟩
    | succ m ih =>
      intro p d v hd h1 h2
      unfold nmF
      by_cases c : p < n ∧ 48 ≤ t p ∧ t p ≤ 57
      · rw [if_pos c]
        exact ih (p + 1) (d + 1) _ (by omega) (by omega) (by rw [p10_succ]; omega)
      · rw [if_neg c]
        have h3 : (10 : Int) ^ d ≤ 10 ^ 3 := p10_mono (by omega)
        have e : (10 : Int) ^ 3 = 1000 := by decide
        exact ⟨h1, by show v ≤ 999; omega⟩
  exact h 3 p 0 0 (by omega) (by decide) (by decide)
theorem cueS_b {t : Nat → Int} {n p : Nat} {prev : Int} {q : Int × Int × Nat} (h : cueS t n p prev = some q) : 0 ≤ q.1 ∧ q.1 ≤ 7 ∧ 0 ≤ q.2.1 ∧ q.2.1 ≤ 999 ∧ q.2.2 ≤ n := by
  unfold cueS at h
  by_cases c1 : 65 ≤ pk t n p ∧ pk t n p ≤ 72
  · rw [if_pos c1] at h
    by_cases c2 : 48 ≤ pk t n (sk t n p + 1) ∧ pk t n (sk t n p + 1) ≤ 57
    · rw [if_pos c2] at h
      by_cases c3 : prev ≤ (nmF t n 3 (sk t n (sk t n p + 1)) 0).1
      · rw [if_pos c3] at h
        have hv := nm3 (t := t) (n := n) (sk t n (sk t n p + 1))
        have hl := pk_ne (t := t) (n := n) (p := sk t n p + 1) (by omega)
        have hb := nmF_b (t := t) (n := n) 3 (sk t n (sk t n p + 1)) 0 (by omega)
        cases h
        exact ⟨by show 0 ≤ pk t n p - 65; omega, by show pk t n p - 65 ≤ 7; omega, hv.1, hv.2, hb.2.1⟩
      · rw [if_neg c3] at h; cases h
    · rw [if_neg c2] at h; cases h
  · rw [if_neg c1] at h; cases h
/-! the class -/
def stc (ν : Mm) (l0 k : Nat) (c v : Int) : Mm := sM (sM (sM ν (l0 + 1) k c) (l0 + 2) k v) l0 2 ((k + 1 : Nat) : Int)
/-- the cells of a PLAY alone have changed -/
def fP (l0 : Nat) (ν ν' : Mm) : Prop := fw (fun k _ => l0 ≤ k ∧ k ≤ l0 + 2) ν ν'
theorem fP_rf {l0 : Nat} {ν : Mm} : fP l0 ν ν := fw_rf
theorem fP_s {l0 : Nat} {ν ν' : Mm} (h : fP l0 ν ν') {c j : Nat} {v : Int} (hc : l0 ≤ c ∧ c ≤ l0 + 2) : fP l0 ν (sM ν' c j v) := fw_sM h hc
theorem Tx_fP {t : Nat → Int} {n l0 : Nat} {ν ν' : Mm} (hk : kD l0 = (13, 3)) (h : Tx t n ν) (hf : fP l0 ν ν') : Tx t n ν' := by
  obtain ⟨h1, x, h2, h3, h4, h5⟩ := h
  have hp := kPr hk
  have hx := kTr h3
  refine ⟨h1, x, ?_, h3, ?_, fun j hj => ?_⟩
  · rw [hf 3 0 (by omega)]; exact h2
  · rw [hf x 1 (by omega)]; exact h4
  · rw [hf (x + 1) j (by omega)]; exact h5 j hj
theorem J64_eq {l0 k : Nat} (hk : kD l0 = (13, 3)) (hk8 : k < 8) {ν : Mm} {p : Nat} {f c v : Int} (hc : 65 ≤ c ∧ c ≤ 72) : X3_readCue_J64 l0 (k : Int) c v (cr ν p f) = some (0, cr (stc ν l0 k (c - 65) v) p f) := by
  have hp := kPr hk
  have a1 : aN (l0 + 1) = 8 := (bA_3_1 hk (by omega) 0).2.2
  have a2 : aN (l0 + 2) = 8 := (bA_3_2 hk (by omega) 0).2.2
  unfold X3_readCue_J64 stA sF
  dsimp only
  rw [if_pos (by rw [a1]; omega), if_pos (by rw [a2]; omega), Int.toNat_natCast, cr_s (by omega), cr_s (by omega), iA_nat (by omega), cr_s (by omega), iS_id (by omega) (by omega)]
  rfl
theorem cueC {t : Nat → Int} {n : Nat} (hT : ∀ j, j < n → 1 ≤ t j ∧ t j ≤ 255) {l0 k : Nat} (hk : kD l0 = (13, 3)) (hk8 : k < 8) {ν : Mm} (h : Tx t n ν) {p : Nat} (hp : p ≤ n) {prev : Int} (hprev : if k = 0 then prev = -1 else prev = ν (l0 + 2) (k - 1)) :
    ∃ ν' p' f, X3_readCue l0 (k : Int) (cr ν p (-1)) = some (0, cr ν' p' f) ∧ fP l0 ν ν' ∧ match cueS t n p prev with
      | none => f ≠ -1
      | some q => f = -1 ∧ ν' = stc ν l0 k q.1 q.2.1 ∧ p' = q.2.2 := by
  have hl := kPr hk
  have a2 : aN (l0 + 2) = 8 := (bA_3_2 hk (by omega) 0).2.2
  have hfs : ∀ c v, fP l0 ν (stc ν l0 k c v) := fun c v => fP_s (fP_s (fP_s fP_rf (by omega)) (by omega)) (by omega)
  unfold X3_readCue cueS
  rw [peek_eq h hp, bd_some]
  by_cases c1 : pk t n p < 65
  · rw [if_pos c1, if_neg (by omega), cr_1, refuse_eq, bd_some]
    exact ⟨_, _, _, rfl, fP_rf, by show ((sk t n p : Nat) : Int) ≠ -1; omega⟩
  · rw [if_neg c1]
    by_cases c2 : pk t n p ≤ 72
    · have hq := pk_ne (t := t) (n := n) (p := p) (by omega)
      rw [if_pos c2, if_pos ⟨by omega, c2⟩, pass_eq h hq.1, bd_some]
      have hn := number_eq h hT (M := 3) (by decide) (p := sk t n p + 1) (by omega)
      rw [show ((3 : Nat) : Int) = 3 from rfl] at hn
      rw [hn]
      by_cases c3 : 48 ≤ pk t n (sk t n p + 1) ∧ pk t n (sk t n p + 1) ≤ 57
      · rw [if_pos c3, if_pos c3, bd_some]
        have hv := nm3 (t := t) (n := n) (sk t n (sk t n p + 1))
        have hl2 := pk_ne (t := t) (n := n) (p := sk t n p + 1) (by omega)
        have hb := nmF_b (t := t) (n := n) 3 (sk t n (sk t n p + 1)) 0 (by omega)
        have hb2 : sk t n (sk t n p + 1) < (nmF t n 3 (sk t n (sk t n p + 1)) 0).2 := by
          have hd : sk t n (sk t n p + 1) < n ∧ 48 ≤ t (sk t n (sk t n p + 1)) ∧ t (sk t n (sk t n p + 1)) ≤ 57 := by rw [← hl2.2]; exact ⟨hl2.1, c3⟩
          unfold nmF
          rw [if_pos hd]
          exact Nat.lt_of_lt_of_le (Nat.lt_succ_self _) (nmF_b (t := t) (n := n) 2 (sk t n (sk t n p + 1) + 1) _ (by omega)).1
        by_cases c4 : k = 0
        · rw [if_pos c4] at hprev
          rw [if_pos (by omega), if_pos (by omega), J64_eq hk hk8 ⟨by omega, c2⟩]
          exact ⟨_, _, _, rfl, hfs _ _, rfl, rfl, rfl⟩
        · rw [if_neg c4] at hprev
          have ek : iS (k : Int) 1 = ((k - 1 : Nat) : Int) := by rw [iS_id (by omega) (by omega)]; omega
          rw [if_neg (by omega), ek]
          unfold ldA
          rw [if_pos (by rw [a2]; omega), Int.toNat_natCast]
          dsimp only
          rw [cr_c (c := l0 + 2) (by omega), ← hprev]
          by_cases c5 : prev ≤ (nmF t n 3 (sk t n (sk t n p + 1)) 0).1
          · rw [if_pos c5, if_pos c5, J64_eq hk hk8 ⟨by omega, c2⟩]
            exact ⟨_, _, _, rfl, hfs _ _, rfl, rfl, rfl⟩
          · rw [if_neg c5, if_neg c5, cr_1, refuse_eq, bd_some, J64_eq hk hk8 ⟨by omega, c2⟩]
            refine ⟨_, _, _, rfl, hfs _ _, ?_⟩
            show iS _ 1 ≠ -1
            have h160 := h.1
            rw [iS_id (by omega) (by omega)]
            omega
      · rw [if_neg c3, if_neg c3, bd_some]
        have hf2 : ((sk t n (sk t n p + 1) : Nat) : Int) ≠ -1 := by omega
        by_cases c4 : k = 0
        · rw [if_pos (by omega), J64_eq hk hk8 ⟨by omega, c2⟩]
          exact ⟨_, _, _, rfl, hfs _ _, hf2⟩
        · have ek : iS (k : Int) 1 = ((k - 1 : Nat) : Int) := by rw [iS_id (by omega) (by omega)]; omega
          rw [if_neg (by omega), ek]
          unfold ldA
          rw [if_pos (by rw [a2]; omega)]
          dsimp only
          by_cases c5 : cr ν (sk t n (sk t n p + 1)) ((sk t n (sk t n p + 1) : Nat) : Int) (l0 + 2) (((k - 1 : Nat) : Int)).toNat ≤ 0
          · rw [if_pos c5, J64_eq hk hk8 ⟨by omega, c2⟩]
            exact ⟨_, _, _, rfl, hfs _ _, hf2⟩
          · rw [if_neg c5, refuse_F hf2, bd_some, J64_eq hk hk8 ⟨by omega, c2⟩]
            exact ⟨_, _, _, rfl, hfs _ _, hf2⟩
    · rw [if_neg c2, if_neg (by omega), cr_1, refuse_eq, bd_some]
      exact ⟨_, _, _, rfl, fP_rf, by show ((sk t n p : Nat) : Int) ≠ -1; omega⟩
/-- what a PLAY's cell holds from its CUE k on -/
def hasP (ν : Mm) (l0 k : Nat) (l : List (Int × Int)) : Prop := ν l0 2 = ((k + l.length : Nat) : Int) ∧ ∀ i, i < l.length → ν (l0 + 1) (k + i) = (l.getD i (0, 0)).1 ∧ ν (l0 + 2) (k + i) = (l.getD i (0, 0)).2
theorem stc_at {ν : Mm} {l0 k : Nat} {c v : Int} (j : Nat) : stc ν l0 k c v (l0 + 1) j = (if j = k then c else ν (l0 + 1) j) ∧ stc ν l0 k c v (l0 + 2) j = (if j = k then v else ν (l0 + 2) j) ∧ stc ν l0 k c v l0 2 = ((k + 1 : Nat) : Int) := by
  unfold stc
  refine ⟨?_, ?_, ?_⟩
  · rw [sM_a (by omega), sM_a (by omega), sM_if]
  · rw [sM_a (by omega), sM_if]; by_cases h : j = k
    · rw [if_pos h, if_pos h]
    · rw [if_neg h, if_neg h, sM_a (by omega)]
  · rw [sM_s]
theorem readC_L {t : Nat → Int} {n : Nat} (hT : ∀ j, j < n → 1 ≤ t j ∧ t j ≤ 255) {l0 : Nat} (hk : kD l0 = (13, 3)) : ∀ (r fuel k p : Nat) (ν : Mm) (prev : Int), k + r = 8 → 1 ≤ k → r < fuel → Tx t n ν → p ≤ n → prev = ν (l0 + 2) (k - 1) → ν l0 2 = (k : Int) →
    ∃ ν' p' f, X3_read_L13 l0 (fun μ13 => bd (X4_needEnd μ13) fun v14 μ15 => some (μ15 3 2, μ15)) fuel (k : Int) (cr ν p (-1)) = some (f, cr ν' p' f) ∧ fP l0 ν ν' ∧ (∀ j, j < k → ν' (l0 + 1) j = ν (l0 + 1) j ∧ ν' (l0 + 2) j = ν (l0 + 2) j ∨ f ≠ -1) ∧ match plN t n r p prev with
      | none => f ≠ -1
      | some l => f = -1 ∧ hasP ν' l0 k l := by
  intro r
  induction r with
  | zero =>
    intro fuel k p ν prev hkr hk1 hf h hp hpr hsz
    obtain ⟨f', rfl, -⟩ := lt_fuel hf
    rw [X3_read_L13, if_pos (by omega), needEnd_eq h hp]
    unfold plN
    by_cases c : pk t n p = -1
    · rw [if_pos c, if_pos c, bd_some, cr_2]
      exact ⟨ν, _, -1, rfl, fP_rf, fun j _ => Or.inl ⟨rfl, rfl⟩, rfl, by rw [hsz]; rfl, fun i hi => absurd hi (Nat.not_lt_zero i)⟩
    · rw [if_neg c, if_neg c, bd_some, cr_2]
      exact ⟨ν, _, _, rfl, fP_rf, fun j _ => Or.inl ⟨rfl, rfl⟩, by show ((sk t n p : Nat) : Int) ≠ -1; omega⟩
  | succ r ih =>
    intro fuel k p ν prev hkr hk1 hf h hp hpr hsz
    obtain ⟨f', rfl, hf'⟩ := lt_fuel hf
    have h160 := h.1
    rw [X3_read_L13, if_neg (by omega), take_eq h hp 44 (by decide)]
    unfold plN
    by_cases c : pk t n p = 44
    · have hq := pk_ne (t := t) (n := n) (p := p) (by omega)
      rw [if_pos c, if_pos c, bd_some, if_neg (by decide)]
      obtain ⟨ν1, p1, f1, e1, e2, e3⟩ := cueC hT hk (k := k) (by omega) h (p := sk t n p + 1) (by omega) (prev := prev) (by rw [if_neg (by omega)]; exact hpr)
      rw [e1, bd_some, iA_nat (by omega)]
      revert e3
      cases hc : cueS t n (sk t n p + 1) prev with
      | none =>
        intro e3
        obtain ⟨f'', rfl, -⟩ := lt_fuel (d := 0) (n := f') (by omega)
        have e3 : f1 ≠ -1 := e3
        have hend : ∀ g, g < 9 → X3_read_L13 l0 (fun μ13 => bd (X4_needEnd μ13) fun v14 μ15 => some (μ15 3 2, μ15)) (f'' + 1) ((g : Nat) : Int) (cr ν1 p1 f1) = some (f1, cr ν1 p1 f1) := by
          intro g hg
          rw [X3_read_L13]
          by_cases c8 : 8 ≤ ((g : Nat) : Int)
          · rw [if_pos c8, needEnd_F e3, bd_some, cr_2]
          · rw [if_neg c8, take_F e3 (by decide), bd_some, if_pos rfl, needEnd_F e3, bd_some, cr_2]
        rw [hend (k + 1) (by omega)]
        exact ⟨ν1, p1, f1, rfl, e2, fun j _ => Or.inr e3, e3⟩
      | some q =>
        intro e3
        obtain ⟨rfl, rfl, rfl⟩ := e3
        have hb := cueS_b hc
        have hat := fun j => stc_at (ν := ν) (l0 := l0) (k := k) (c := q.1) (v := q.2.1) j
        obtain ⟨ν2, p2, f2, g1, g2, g3, g4⟩ := ih f' (k + 1) q.2.2 (stc ν l0 k q.1 q.2.1) q.2.1 (by omega) (by omega) (by omega) (Tx_fP hk h e2) hb.2.2.2.2 (by rw [(hat _).2.1, if_pos (by omega)]) (hat 0).2.2
        refine ⟨ν2, p2, f2, g1, fw_tr e2 g2, fun j hj => ?_, ?_⟩
        · rcases g3 j (by omega) with ⟨g5, g6⟩ | g5
          · refine Or.inl ⟨?_, ?_⟩
            · rw [g5, (hat j).1, if_neg (by omega)]
            · rw [g6, (hat j).2.1, if_neg (by omega)]
          · exact Or.inr g5
        · dsimp only
          revert g4
          cases hn : plN t n r q.2.2 q.2.1 with
          | none => intro g4; exact g4
          | some l =>
            intro g4
            obtain ⟨g5, g6, g7⟩ := g4
            refine ⟨g5, ?_, fun i hi => ?_⟩
            · rw [g6]; show _ = ((k + (l.length + 1) : Nat) : Int); omega
            · cases i with
              | zero =>
                rcases g3 k (by omega) with ⟨g8, g9⟩ | g8
                · show ν2 (l0 + 1) k = _ ∧ ν2 (l0 + 2) k = _
                  rw [g8, g9, (hat k).1, (hat k).2.1, if_pos rfl, if_pos rfl]
                  exact ⟨rfl, rfl⟩
                · exact absurd g5 g8
              | succ i =>
                have hi' : i < l.length := by
                  have : i + 1 < l.length + 1 := hi
                  omega
                have := g7 i hi'
                have e : k + (i + 1) = k + 1 + i := by omega
                rw [e]
                exact this
    · rw [if_neg c, if_neg c, bd_some, if_pos rfl]
      have h2 : sk t n p ≤ n := sk_le p hp
      rw [needEnd_eq h h2, pk_sk, sk_sk]
      by_cases c2 : pk t n p = -1
      · rw [if_pos c2, if_pos c2, bd_some, cr_2]
        exact ⟨ν, _, -1, rfl, fP_rf, fun j _ => Or.inl ⟨rfl, rfl⟩, rfl, by rw [hsz]; rfl, fun i hi => absurd hi (Nat.not_lt_zero i)⟩
      · rw [if_neg c2, if_neg c2, bd_some, cr_2]
        exact ⟨ν, _, _, rfl, fP_rf, fun j _ => Or.inl ⟨rfl, rfl⟩, by show ((sk t n p : Nat) : Int) ≠ -1; omega⟩
theorem playC {t : Nat → Int} {n : Nat} (hT : ∀ j, j < n → 1 ≤ t j ∧ t j ≤ 255) {l0 : Nat} (hk : kD l0 = (13, 3)) {ν : Mm} (h : Tx t n ν) :
    ∃ ν' p' f, X3_read l0 (cr ν 0 (-1)) = some (f, cr ν' p' f) ∧ fP l0 ν ν' ∧ match plS t n with
      | none => f ≠ -1
      | some l => f = -1 ∧ hasP ν' l0 0 l := by
  have hl := kPr hk
  have h160 := h.1
  unfold X3_read sF plS
  dsimp only
  rw [cr_s (by omega)]
  have hf0 : fP l0 ν (sM ν l0 2 0) := fP_s fP_rf (by omega)
  have h0 := Tx_fP hk h hf0
  obtain ⟨ν1, p1, f1, e1, e2, e3⟩ := cueC hT hk (k := 0) (by omega) h0 (p := 0) (by omega) (prev := -1) (by rw [if_pos rfl])
  have e1' : X3_readCue l0 0 (cr (sM ν l0 2 0) 0 (-1)) = some (0, cr ν1 p1 f1) := e1
  rw [e1', bd_some]
  revert e3
  cases hc : cueS t n 0 (-1) with
  | none =>
    intro e3
    have e3 : f1 ≠ -1 := e3
    have : X3_read_L13 l0 (fun μ13 => bd (X4_needEnd μ13) fun v14 μ15 => some (μ15 3 2, μ15)) (999999 + 1) 1 (cr ν1 p1 f1) = some (f1, cr ν1 p1 f1) := by
      rw [X3_read_L13, if_neg (by decide), take_F e3 (by decide), bd_some, if_pos rfl, needEnd_F e3, bd_some, cr_2]
    exact ⟨ν1, p1, f1, this, fw_tr hf0 e2, e3⟩
  | some q =>
    intro e3
    obtain ⟨rfl, rfl, rfl⟩ := e3
    have hb := cueS_b hc
    have hat := fun j => stc_at (ν := sM ν l0 2 0) (l0 := l0) (k := 0) (c := q.1) (v := q.2.1) j
    obtain ⟨ν2, p2, f2, g1, g2, g3, g4⟩ := readC_L hT hk 7 FU 1 q.2.2 (stc (sM ν l0 2 0) l0 0 q.1 q.2.1) q.2.1 (by omega) (by omega) (by decide) (Tx_fP hk h0 e2) hb.2.2.2.2 (by rw [(hat _).2.1, if_pos rfl]) (hat 0).2.2
    refine ⟨ν2, p2, f2, g1, fw_tr hf0 (fw_tr e2 g2), ?_⟩
    dsimp only
    revert g4
    cases hn : plN t n 7 q.2.2 q.2.1 with
    | none => intro g4; exact g4
    | some l =>
      intro g4
      obtain ⟨g5, g6, g7⟩ := g4
      refine ⟨g5, ?_, fun i hi => ?_⟩
      · rw [g6]; show _ = ((0 + (l.length + 1) : Nat) : Int); omega
      · cases i with
        | zero =>
          rcases g3 0 (by omega) with ⟨g8, g9⟩ | g8
          · show ν2 (l0 + 1) 0 = _ ∧ ν2 (l0 + 2) 0 = _
            rw [g8, g9, (hat 0).1, (hat 0).2.1, if_pos rfl, if_pos rfl]
            exact ⟨rfl, rfl⟩
          · exact absurd g5 g8
        | succ i =>
          have hi' : i < l.length := by
            have : i + 1 < l.length + 1 := hi
            omega
          have := g7 i hi'
          have e : 0 + (i + 1) = 1 + i := by omega
          rw [e]
          exact this
/-! THE READER OF PLAYS, the reference's -/
theorem in_eq (v a b : Int) (μ : Mm) : X11_in v a b μ = some (b2 (a ≤ v ∧ v ≤ b), μ) := by
  unfold X11_in
  by_cases h1 : v < a
  · rw [if_pos h1, b2_f (fun h => by omega)]
  · rw [if_neg h1]
    by_cases h2 : b < v
    · rw [if_pos h2, b2_f (fun h => by omega)]
    · rw [if_neg h2, b2_t (by omega)]
def stm (μ : Mm) (l k : Nat) (c v : Int) : Mm := sM (sM (sM μ 83 (8 * l + k) c) 84 (8 * l + k) v) 85 l ((k + 1 : Nat) : Int)
/-- what the reader of the PLAY l may write -/
def wPl (l k j : Nat) : Prop := (k = 70 ∧ (j = 3 ∨ j = 4)) ∨ ((k = 83 ∨ k = 84) ∧ 8 * l ≤ j ∧ j < 8 * l + 8) ∨ (k = 85 ∧ j = l)
def fM (l : Nat) (μ μ' : Mm) : Prop := Bm μ' ∧ fw (wPl l) μ μ'
theorem fM_s {l : Nat} {μ μ' : Mm} (h : fM l μ μ') {c j : Nat} {v : Int} (hw : wPl l c j) (hv : (bm c j).1 ≤ v ∧ v ≤ (bm c j).2) : fM l μ (sM μ' c j v) := ⟨Bm_sM h.1 hv, fw_sM h.2 hw⟩
theorem Tm_fM {t : Nat → Int} {n l : Nat} {μ μ' : Mm} (h : Tm t n μ) (hf : fM l μ μ') : Tm t n μ' :=
  ⟨h.1, by rw [hf.2 70 2 (by unfold wPl; omega)]; exact h.2.1, fun j hj => by rw [hf.2 71 j (by unfold wPl; omega)]; exact h.2.2 j hj⟩
theorem iA_off {l k : Nat} (hl : l ≤ 5) (hk : k ≤ 8) : iA (iM 8 (l : Int)) (k : Int) = ((8 * l + k : Nat) : Int) := by
  rw [iM_id (by omega) (by omega), iA_id (by omega) (by omega)]; omega
theorem cueM {t : Nat → Int} {n : Nat} (hT : ∀ j, j < n → 1 ≤ t j ∧ t j ≤ 255) {l k : Nat} (hl : l ≤ 5) (hk8 : k < 8) {μ : Mm} (hB : Bm μ) (h : Tm t n μ) (hw : μ 70 4 = -1) (hm : μ 85 l = (k : Int)) {p : Nat} (hp : p ≤ n) {prev : Int} (hprev : if k = 0 then prev = -1 else prev = μ 84 (8 * l + k - 1)) :
    ∃ μ' a, X11_cueText (l : Int) (ma μ p) = some (0, ma μ' a) ∧ a ≤ n + 1 ∧ fM l μ μ' ∧ match cueS t n p prev with
      | none => μ' 70 4 ≠ -1
      | some q => if q.2.2 < n ∧ 48 ≤ t q.2.2 ∧ t q.2.2 ≤ 57 then μ' 70 4 ≠ -1 else μ' = stm μ l k q.1 q.2.1 ∧ a = q.2.2 := by
  have h160 := h.1
  have hq0 := sk_le (t := t) (n := n) p hp
  have hf0 : fM l μ μ := ⟨hB, fw_rf⟩
  have hpk : -1 ≤ pk t n p ∧ pk t n p ≤ 255 := by
    unfold pk
    by_cases c : sk t n p < n
    · rw [if_pos c]; have := hT _ c; omega
    · rw [if_neg c]; omega
  have e65 : iS (pk t n p) 65 = pk t n p - 65 := iS_id (by omega) (by omega)
  unfold X11_cueText cueS
  unfold ldA lt_
  rw [if_pos (by show (0 : Int) ≤ (l : Int) ∧ (l : Int) < 6; omega), Int.toNat_natCast, ma_c (by decide), hm]
  dsimp only
  rw [iA_off hl (by omega), look_eq h (by omega), bd_some]
  unfold stA
  rw [if_pos (by show (0 : Int) ≤ ((8 * l + k : Nat) : Int) ∧ ((8 * l + k : Nat) : Int) < 48; omega), Int.toNat_natCast]
  dsimp only
  rw [if_pos (by show (0 : Int) ≤ ((8 * l + k : Nat) : Int) ∧ ((8 * l + k : Nat) : Int) < 48; omega), e65, ma_s (by omega), ma_c (by decide), sM_s, in_eq, bd_some]
  have f1 : fM l μ (sM μ 83 (8 * l + k) (pk t n p - 65)) := fM_s hf0 (by unfold wPl; omega) (show (-2147483648 : Int) ≤ _ ∧ _ ≤ (2147483647 : Int) by omega)
  have hw1 : sM μ 83 (8 * l + k) (pk t n p - 65) 70 4 = -1 := by rw [sM_a (by decide)]; exact hw
  have hbad : ∀ (x : Mm) (a : Nat), fM l μ x → x 70 4 = -1 → a ≤ n + 1 → fM l μ (sM x 70 4 (a : Int)) ∧ sM x 70 4 (a : Int) 70 4 ≠ -1 := by
    intro x a hx _ ha
    exact ⟨fM_s hx (by unfold wPl; omega) (show (-1 : Int) ≤ (a : Int) ∧ (a : Int) ≤ 1000 by omega), by rw [sM_s]; omega⟩
  by_cases c1 : 65 ≤ pk t n p ∧ pk t n p ≤ 72
  · rw [if_pos c1, b2_t (by omega), if_neg (by decide)]
    have hq := pk_ne (t := t) (n := n) (p := p) (by omega)
    unfold sF
    dsimp only
    rw [ma_3, iA_nat (by omega), ma_ma, look_eq (Tm_fM h f1) (by omega), bd_some, mdig, bd_some]
    have hs2 := sk_le (t := t) (n := n) (sk t n p + 1) (by omega)
    by_cases c2 : 48 ≤ pk t n (sk t n p + 1) ∧ pk t n (sk t n p + 1) ≤ 57
    · rw [if_pos c2, b2_t c2, if_neg (by decide)]
      have hl2 := pk_ne (t := t) (n := n) (p := sk t n p + 1) (by omega)
      have hL := cueN_L (Tm_fM h f1) hT (l1 := (l : Int)) (l2 := ((8 * l + k : Nat) : Int)) (fun v36 μ37 => X11_cueText_J120 (l : Int) ((8 * l + k : Nat) : Int) v36 μ37) 3 FU (sk t n (sk t n p + 1)) 0 0 (by omega) (by decide) (by decide) (by decide) (by omega)
      have hL' : X11_cueText_L75 (l : Int) ((8 * l + k : Nat) : Int) (fun v36 μ37 => X11_cueText_J120 (l : Int) ((8 * l + k : Nat) : Int) v36 μ37) FU 0 0 (ma (sM μ 83 (8 * l + k) (pk t n p - 65)) (sk t n (sk t n p + 1))) = X11_cueText_J120 (l : Int) ((8 * l + k : Nat) : Int) (nmF t n 3 (sk t n (sk t n p + 1)) 0).1 (ma (sM μ 83 (8 * l + k) (pk t n p - 65)) (nmF t n 3 (sk t n (sk t n p + 1)) 0).2) := hL
      rw [hL']
      have hv := nm3 (t := t) (n := n) (sk t n (sk t n p + 1))
      have hb := nmF_b (t := t) (n := n) 3 (sk t n (sk t n p + 1)) 0 hs2
      revert hv hb
      generalize (nmF t n 3 (sk t n (sk t n p + 1)) 0).1 = v
      generalize (nmF t n 3 (sk t n (sk t n p + 1)) 0).2 = e
      intro hv hb
      unfold X11_cueText_J120 stA
      rw [if_pos (by show (0 : Int) ≤ ((8 * l + k : Nat) : Int) ∧ ((8 * l + k : Nat) : Int) < 48; omega), Int.toNat_natCast]
      dsimp only
      rw [ma_s (by omega)]
      have f2 : fM l μ (sM (sM μ 83 (8 * l + k) (pk t n p - 65)) 84 (8 * l + k) v) := fM_s f1 (by unfold wPl; omega) (show (-2147483648 : Int) ≤ _ ∧ _ ≤ (2147483647 : Int) by omega)
      have hw2 : sM (sM μ 83 (8 * l + k) (pk t n p - 65)) 84 (8 * l + k) v 70 4 = -1 := by rw [sM_a (by decide)]; exact hw1
      have h85 : sM (sM μ 83 (8 * l + k) (pk t n p - 65)) 84 (8 * l + k) v 85 l = (k : Int) := by rw [sM_a (by decide), sM_a (by decide)]; exact hm
      rw [here_eq (Tm_fM h f2), bd_some, mdig, bd_some]
      have hJ : ∀ (x : Mm) (a : Nat), x 85 l = (k : Int) → X11_cueText_J179 (l : Int) (ma x a) = some (0, ma (sM x 85 l ((k + 1 : Nat) : Int)) a) := by
        intro x a hx
        unfold X11_cueText_J179 ldA stA
        rw [if_pos (by show (0 : Int) ≤ (l : Int) ∧ (l : Int) < 6; omega), Int.toNat_natCast, ma_c (by decide), hx]
        dsimp only
        rw [if_pos (by show (0 : Int) ≤ (l : Int) ∧ (l : Int) < 6; omega), iA_nat (by omega), ma_s (by omega)]
      have f85 : ∀ x, fM l μ x → fM l μ (sM x 85 l ((k + 1 : Nat) : Int)) := fun x hx => fM_s hx (by unfold wPl; omega) (show (0 : Int) ≤ ((k + 1 : Nat) : Int) ∧ ((k + 1 : Nat) : Int) ≤ 8 by omega)
      by_cases c3 : e < n ∧ 48 ≤ t e ∧ t e ≤ 57
      · rw [if_pos c3.1, b2_t c3.2, if_neg (by decide), bad_eq hw2, bd_some]
        have hx := hbad _ e f2 hw2 (by omega)
        rw [hJ _ _ (by rw [sM_a (by decide)]; exact h85)]
        refine ⟨_, e, rfl, by omega, f85 _ hx.1, ?_⟩
        by_cases c4 : prev ≤ v
        · rw [if_pos c4]
          show (if e < n ∧ 48 ≤ t e ∧ t e ≤ 57 then _ else _)
          rw [if_pos c3, sM_a (by decide)]
          exact hx.2
        · rw [if_neg c4]
          show sM (sM _ 70 4 (e : Int)) 85 l _ 70 4 ≠ -1
          rw [sM_a (by decide)]
          exact hx.2
      · have hnd : ¬ (48 ≤ (if e < n then t e else -1) ∧ (if e < n then t e else -1) ≤ 57) := by
          intro z
          by_cases c4 : e < n
          · rw [if_pos c4] at z; exact c3 ⟨c4, z⟩
          · rw [if_neg c4] at z; omega
        rw [b2_f hnd, if_pos rfl]
        unfold ldA
        rw [if_pos (by show (0 : Int) ≤ (l : Int) ∧ (l : Int) < 6; omega), Int.toNat_natCast, ma_c (c := 85) (by decide), h85]
        dsimp only
        by_cases c5 : k = 0
        · rw [if_pos c5] at hprev
          rw [if_pos (by omega), hJ _ _ h85, if_pos (by omega)]
          refine ⟨_, e, rfl, by omega, f85 _ f2, ?_⟩
          show (if e < n ∧ 48 ≤ t e ∧ t e ≤ 57 then _ else _)
          rw [if_neg c3]
          exact ⟨rfl, rfl⟩
        · rw [if_neg c5] at hprev
          have ek : iS ((8 * l + k : Nat) : Int) 1 = ((8 * l + k - 1 : Nat) : Int) := by rw [iS_id (by omega) (by omega)]; omega
          have e84 : sM (sM μ 83 (8 * l + k) (pk t n p - 65)) 84 (8 * l + k) v 84 (8 * l + k - 1) = prev := by
            rw [sM_j (by omega), sM_a (by decide), hprev]
          rw [if_neg (by omega), ek, if_pos (by show (0 : Int) ≤ ((8 * l + k - 1 : Nat) : Int) ∧ ((8 * l + k - 1 : Nat) : Int) < 48; omega), Int.toNat_natCast, ma_c (c := 84) (by decide), e84]
          by_cases c4 : prev ≤ v
          · rw [if_pos c4, if_pos c4, hJ _ _ h85]
            refine ⟨_, e, rfl, by omega, f85 _ f2, ?_⟩
            show (if e < n ∧ 48 ≤ t e ∧ t e ≤ 57 then _ else _)
            rw [if_neg c3]
            exact ⟨rfl, rfl⟩
          · rw [if_neg c4, if_neg c4]
            have hnz : 0 < e := by
              have hd : sk t n (sk t n p + 1) < n := hl2.1
              have := sk_ge (t := t) (n := n) (sk t n p + 1)
              omega
            have e1 : iS (e : Int) 1 = ((e - 1 : Nat) : Int) := by rw [iS_id (by omega) (by omega)]; omega
            unfold sF
            dsimp only
            rw [ma_3, e1, ma_ma, bad_eq hw2, bd_some]
            have hx := hbad _ (e - 1) f2 hw2 (by omega)
            rw [hJ _ _ (by rw [sM_a (by decide)]; exact h85)]
            refine ⟨_, e - 1, rfl, by omega, f85 _ hx.1, ?_⟩
            show sM (sM _ 70 4 ((e - 1 : Nat) : Int)) 85 l _ 70 4 ≠ -1
            rw [sM_a (by decide)]
            exact hx.2
    · rw [if_neg c2, b2_f c2, if_pos rfl, bad_eq hw1, bd_some]
      have hx := hbad _ (sk t n (sk t n p + 1)) f1 hw1 (by omega)
      exact ⟨_, _, rfl, by omega, hx.1, hx.2⟩
  · rw [if_neg c1, b2_f (by omega), if_pos rfl, bad_eq hw1, bd_some]
    have hx := hbad _ (sk t n p) f1 hw1 (by omega)
    exact ⟨_, _, rfl, by omega, hx.1, hx.2⟩
def hasM (μ : Mm) (l k : Nat) (L : List (Int × Int)) : Prop := μ 85 l = ((k + L.length : Nat) : Int) ∧ ∀ i, i < L.length → μ 83 (8 * l + (k + i)) = (L.getD i (0, 0)).1 ∧ μ 84 (8 * l + (k + i)) = (L.getD i (0, 0)).2
theorem stm_at {μ : Mm} {l k : Nat} {c v : Int} (j : Nat) : stm μ l k c v 83 j = (if j = 8 * l + k then c else μ 83 j) ∧ stm μ l k c v 84 j = (if j = 8 * l + k then v else μ 84 j) ∧ stm μ l k c v 85 l = ((k + 1 : Nat) : Int) ∧ stm μ l k c v 70 4 = μ 70 4 := by
  unfold stm
  refine ⟨?_, ?_, ?_, ?_⟩
  · rw [sM_a (by decide), sM_a (by decide), sM_if]
  · rw [sM_a (by decide), sM_if, sM_a (by decide)]
  · rw [sM_s]
  · rw [sM_a (by decide), sM_a (by decide), sM_a (by decide)]
theorem plN_dig {t : Nat → Int} {n : Nat} (r : Nat) {e : Nat} (v : Int) (h : e < n ∧ 48 ≤ t e ∧ t e ≤ 57) : plN t n r e v = none := by
  have hs : sk t n e = e := sk_id (fun c => by omega)
  have hp : pk t n e = t e := by unfold pk; rw [hs, if_pos h.1]
  cases r with
  | zero => unfold plN; rw [hp, if_neg (by omega)]
  | succ r => unfold plN; rw [hp, if_neg (by omega), if_neg (by omega)]
theorem atEnd_eq {t : Nat → Int} {n : Nat} {μ : Mm} (h : Tm t n μ) {p : Nat} (hp : p < 100000) (hw : μ 70 4 = -1) : X11_atEnd (ma μ p) = if pk t n p = -1 then some (-1, ma μ (sk t n p)) else some (((sk t n p : Nat) : Int), ma (sM μ 70 4 ((sk t n p : Nat) : Int)) (sk t n p)) := by
  unfold X11_atEnd
  rw [ma_j (by decide), if_pos hw, look_eq h hp, bd_some]
  by_cases c : pk t n p = -1
  · rw [if_pos c, if_pos c, ma_j (by decide), hw]
  · rw [if_neg c, if_neg c, bad_eq hw, bd_some, ma_j (by decide), sM_s]
theorem atEnd_F {μ : Mm} (hw : μ 70 4 ≠ -1) : X11_atEnd μ = some (μ 70 4, μ) := by
  unfold X11_atEnd
  rw [if_neg hw]
theorem ma_add0 {μ : Mm} {p : Nat} (hp : p < 100000) : sM (ma μ p) 70 3 (iA (ma μ p 70 3) 0) = ma μ p := by
  rw [ma_3, iA_id (by omega) (by omega), Int.add_zero, ma_ma]
def KM : Mm → Rs := fun μ21 => bd (X11_atEnd μ21) fun v22 μ23 => some (v22, μ23)
def plC (t : Nat → Int) (n r p : Nat) (prev : Int) : Option (List (Int × Int)) := match cueS t n p prev with
  | none => none
  | some q => match plN t n r q.2.2 q.2.1 with
    | none => none
    | some L => some ((q.1, q.2.1) :: L)
/-- what reading on from the CUE k at p comes to: r more at most behind it -/
def CM (t : Nat → Int) (n l r fuel k p : Nat) (μ : Mm) (prev : Int) : Prop := ∃ f μ' a, X11_readPlay_L19 (l : Int) KM fuel 1 (ma μ p) = some (f, ma μ' a) ∧ a ≤ n + 1 ∧ fM l μ μ' ∧ μ' 70 4 = f ∧ (f = -1 → ∀ j, j < 8 * l + k → μ' 83 j = μ 83 j ∧ μ' 84 j = μ 84 j) ∧ match plC t n r p prev with
      | none => f ≠ -1
      | some L => f = -1 ∧ hasM μ' l k L
theorem exitL {t : Nat → Int} {n l fuel : Nat} {x : Mm} {b : Nat} (hx : Tm t n x) (hb : b ≤ n + 1) : X11_readPlay_J68 (fun w2 μq => X11_readPlay_L19 (l : Int) KM (fuel + 1) w2 μq) (l : Int) (ma x b) = KM (ma x b) := by
  have h160 := hx.1
  unfold X11_readPlay_J68 X11_readPlay_J69 sF
  rw [if_pos rfl]
  dsimp only
  rw [ma_add0 (by omega), X11_readPlay_L19, if_pos rfl]
theorem KM_F {x : Mm} {b : Nat} (hw : x 70 4 ≠ -1) : KM (ma x b) = some (x 70 4, ma x b) := by
  unfold KM
  rw [atEnd_F (by rw [ma_j (by decide)]; exact hw), bd_some, ma_j (by decide)]
theorem KM_eq {t : Nat → Int} {n l : Nat} {μ x : Mm} (hx : Tm t n x) {b : Nat} (hb : b ≤ n) (hw : x 70 4 = -1) (hf : fM l μ x) : ∃ f x' a, KM (ma x b) = some (f, ma x' a) ∧ a ≤ n + 1 ∧ fM l μ x' ∧ x' 70 4 = f ∧ (∀ k j, k ≠ 70 → x' k j = x k j) ∧ if pk t n b = -1 then f = -1 else f ≠ -1 := by
  have h160 := hx.1
  have hs := sk_le (t := t) (n := n) b hb
  unfold KM
  rw [atEnd_eq hx (by omega) hw]
  by_cases c : pk t n b = -1
  · rw [if_pos c, bd_some]
    exact ⟨_, _, _, rfl, by omega, hf, hw, fun k j _ => rfl, by rw [if_pos c]⟩
  · rw [if_neg c, bd_some]
    exact ⟨_, _, _, rfl, by omega, fM_s hf (by unfold wPl; omega) (show (-1 : Int) ≤ ((sk t n b : Nat) : Int) ∧ ((sk t n b : Nat) : Int) ≤ 1000 by omega), by rw [sM_s], fun k j hk => sM_a hk, by rw [if_neg c]; omega⟩
theorem stepM {t : Nat → Int} {n : Nat} (hT : ∀ j, j < n → 1 ≤ t j ∧ t j ≤ 255) {l : Nat} (hl : l ≤ 5) {r fuel k p : Nat} {μ : Mm} {prev : Int} (hkr : k + r = 7) (hf : 0 < fuel) (hB : Bm μ) (h : Tm t n μ) (hw : μ 70 4 = -1) (hm : μ 85 l = (k : Int)) (hp : p ≤ n) (hprev : if k = 0 then prev = -1 else prev = μ 84 (8 * l + k - 1))
    (next : 1 ≤ r → ∀ (x : Mm) (p1 : Nat) (v : Int), Bm x → Tm t n x → x 70 4 = -1 → x 85 l = ((k + 1 : Nat) : Int) → p1 ≤ n → v = x 84 (8 * l + (k + 1) - 1) → CM t n l (r - 1) fuel (k + 1) p1 x v) : CM t n l r (fuel + 1) k p μ prev := by
  have h160 := h.1
  obtain ⟨f2, rfl⟩ : ∃ f2, fuel = f2 + 1 := ⟨fuel - 1, by omega⟩
  obtain ⟨μ1, a1, e1, ea, e2, e3⟩ := cueM hT hl (k := k) (by omega) hB h hw hm hp hprev
  have hT1 := Tm_fM h e2
  unfold CM
  rw [X11_readPlay_L19, if_neg (by decide), ma_j (by decide), if_pos hw, e1, bd_some, ma_j (by decide)]
  unfold plC
  have bad : μ1 70 4 ≠ -1 → plC t n r p prev = none → CM t n l r (f2 + 1 + 1) k p μ prev := by
    intro hne hc
    unfold CM
    rw [X11_readPlay_L19, if_neg (by decide), ma_j (by decide), if_pos hw, e1, bd_some, ma_j (by decide), if_neg hne, exitL hT1 ea, KM_F hne, hc]
    exact ⟨_, _, _, rfl, ea, e2, rfl, fun e => absurd e hne, hne⟩
  have bad' : μ1 70 4 ≠ -1 → plC t n r p prev = none → _ := bad
  revert e3
  cases hc : cueS t n p prev with
  | none =>
    intro e3
    have e3 : μ1 70 4 ≠ -1 := e3
    rw [if_neg e3, exitL hT1 ea, KM_F e3]
    exact ⟨_, _, _, rfl, ea, e2, rfl, fun e => absurd e e3, e3⟩
  | some q =>
    intro e3
    dsimp only at e3 ⊢
    have hb := cueS_b hc
    by_cases cd : q.2.2 < n ∧ 48 ≤ t q.2.2 ∧ t q.2.2 ≤ 57
    · rw [if_pos cd] at e3
      rw [plN_dig r q.2.1 cd, if_neg e3, exitL hT1 ea, KM_F e3]
      exact ⟨_, _, _, rfl, ea, e2, rfl, fun e => absurd e e3, e3⟩
    · rw [if_neg cd] at e3
      obtain ⟨rfl, rfl⟩ := e3
      have hat := fun j => stm_at (μ := μ) (l := l) (k := k) (c := q.1) (v := q.2.1) j
      have hw1 : stm μ l k q.1 q.2.1 70 4 = -1 := by rw [(hat 0).2.2.2]; exact hw
      have hs := sk_le (t := t) (n := n) q.2.2 hb.2.2.2.2
      rw [if_pos hw1, look_eq hT1 (by omega), bd_some]
      have h85 : ∀ g : Int → Rs, ldA (ma (stm μ l k q.1 q.2.1) (sk t n q.2.2)) 85 (l : Int) g = g ((k + 1 : Nat) : Int) := by
        intro g
        unfold ldA
        rw [if_pos (by show (0 : Int) ≤ (l : Int) ∧ (l : Int) < 6; omega), Int.toNat_natCast, ma_c (by decide), (hat 0).2.2.1]
      have hasOne : ∀ (x : Mm), (∀ k j, k ≠ 70 → x k j = stm μ l k q.1 q.2.1 k j) → True := fun _ _ => trivial
      -- the end behind this CUE
      have fin : plN t n r q.2.2 q.2.1 = (if pk t n q.2.2 = -1 then some [] else none) → ∃ f μ' a, KM (ma (stm μ l k q.1 q.2.1) (sk t n q.2.2)) = some (f, ma μ' a) ∧ a ≤ n + 1 ∧ fM l μ μ' ∧ μ' 70 4 = f ∧ (f = -1 → ∀ j, j < 8 * l + k → μ' 83 j = μ 83 j ∧ μ' 84 j = μ 84 j) ∧ match (match plN t n r q.2.2 q.2.1 with | none => none | some L => some ((q.1, q.2.1) :: L)) with
          | none => f ≠ -1
          | some L => f = -1 ∧ hasM μ' l k L := by
        intro hN
        obtain ⟨f, x, a, g1, g2, g3, g4, g5, g6⟩ := KM_eq hT1 hs hw1 e2
        rw [pk_sk] at g6
        refine ⟨f, x, a, g1, g2, g3, g4, fun _ j hj => ?_, ?_⟩
        · rw [g5 83 j (by decide), g5 84 j (by decide), (hat j).1, (hat j).2.1, if_neg (by omega), if_neg (by omega)]
          exact ⟨rfl, rfl⟩
        · rw [hN]
          by_cases c : pk t n q.2.2 = -1
          · rw [if_pos c] at g6 ⊢
            refine ⟨g6, ?_, fun i hi => ?_⟩
            · rw [g5 85 l (by decide), (hat 0).2.2.1]; rfl
            · have : i = 0 := by
                have : i < 0 + 1 := hi
                omega
              subst this
              show x 83 (8 * l + k) = _ ∧ x 84 (8 * l + k) = _
              rw [g5 83 _ (by decide), g5 84 _ (by decide), (hat _).1, (hat _).2.1, if_pos rfl, if_pos rfl]
              exact ⟨rfl, rfl⟩
          · rw [if_neg c] at g6 ⊢
            exact g6
      by_cases c44 : pk t n q.2.2 = 44
      · rw [if_pos c44, h85]
        by_cases c8 : r = 0
        · rw [if_pos (by omega), exitL hT1 (by omega)]
          refine fin ?_
          rw [c8]; rfl
        · rw [if_neg (by omega)]
          have hq := pk_ne (t := t) (n := n) (p := q.2.2) (by omega)
          unfold X11_readPlay_J69 sF
          rw [if_neg (by decide)]
          dsimp only
          rw [ma_3, iA_nat (by omega), ma_ma]
          obtain ⟨f, x, a, g1, g2, g3, g4, g5, g6⟩ := next (by omega) (stm μ l k q.1 q.2.1) (sk t n q.2.2 + 1) q.2.1 e2.1 hT1 hw1 (hat 0).2.2.1 (by omega) (by rw [(hat _).2.1, if_pos (by omega)])
          refine ⟨f, x, a, g1, g2, ⟨g3.1, fw_tr e2.2 g3.2⟩, g4, fun hf j hj => ?_, ?_⟩
          · have := g5 hf j (by omega)
            rw [this.1, this.2, (hat j).1, (hat j).2.1, if_neg (by omega), if_neg (by omega)]
            exact ⟨rfl, rfl⟩
          · obtain ⟨r', rfl⟩ : ∃ r', r = r' + 1 := ⟨r - 1, by omega⟩
            have hN : plN t n (r' + 1) q.2.2 q.2.1 = plC t n r' (sk t n q.2.2 + 1) q.2.1 := by
              rw [plN, if_pos c44]
              rfl
            rw [hN]
            rw [Nat.add_sub_cancel] at g6
            revert g6
            cases hC : plC t n r' (sk t n q.2.2 + 1) q.2.1 with
            | none => intro g6; exact g6
            | some L =>
              intro g6
              obtain ⟨g7, g8, g9⟩ := g6
              refine ⟨g7, ?_, fun i hi => ?_⟩
              · rw [g8]; show _ = ((k + (L.length + 1) : Nat) : Int); omega
              · cases i with
                | zero =>
                  have := g5 g7 (8 * l + k) (by omega)
                  show x 83 (8 * l + k) = _ ∧ x 84 (8 * l + k) = _
                  rw [this.1, this.2, (hat _).1, (hat _).2.1, if_pos rfl, if_pos rfl]
                  exact ⟨rfl, rfl⟩
                | succ i =>
                  have hi' : i < L.length := by
                    have : i + 1 < L.length + 1 := hi
                    omega
                  have := g9 i hi'
                  have e : k + (i + 1) = k + 1 + i := by omega
                  rw [e]
                  exact this
      · rw [if_neg c44, exitL hT1 (by omega)]
        refine fin ?_
        cases r with
        | zero => rfl
        | succ r => rw [plN, if_neg c44]
theorem readM_L {t : Nat → Int} {n : Nat} (hT : ∀ j, j < n → 1 ≤ t j ∧ t j ≤ 255) {l : Nat} (hl : l ≤ 5) : ∀ (r fuel k p : Nat) (μ : Mm) (prev : Int), k + r = 7 → r + 1 < fuel → Bm μ → Tm t n μ → μ 70 4 = -1 → μ 85 l = (k : Int) → p ≤ n → (if k = 0 then prev = -1 else prev = μ 84 (8 * l + k - 1)) → CM t n l r fuel k p μ prev := by
  intro r
  induction r with
  | zero =>
    intro fuel k p μ prev hkr hf hB h hw hm hp hpr
    obtain ⟨f1, rfl, hf1⟩ := lt_fuel (d := 1) hf
    exact stepM hT hl hkr (by omega) hB h hw hm hp hpr (fun h => absurd h (by omega))
  | succ r ih =>
    intro fuel k p μ prev hkr hf hB h hw hm hp hpr
    obtain ⟨f1, rfl, hf1⟩ := lt_fuel (d := r + 2) hf
    refine stepM hT hl hkr (by omega) hB h hw hm hp hpr (fun _ x p1 v h1 h2 h3 h4 h5 h6 => ?_)
    exact ih f1 (k + 1) p1 x v (by omega) (by omega) h1 h2 h3 h4 h5 (by rw [if_neg (by omega)]; exact h6)
theorem playM {t : Nat → Int} {n : Nat} (hT : ∀ j, j < n → 1 ≤ t j ∧ t j ≤ 255) {l : Nat} (hl : l ≤ 5) {μ : Mm} (hB : Bm μ) (h : Tm t n μ) :
    ∃ f μ' a, X11_readPlay (l : Int) μ = some (f, ma μ' a) ∧ a ≤ n + 1 ∧ fM l μ μ' ∧ μ' 70 4 = f ∧ match plS t n with
      | none => f ≠ -1
      | some L => f = -1 ∧ hasM μ' l 0 L := by
  have h160 := h.1
  unfold X11_readPlay sF stA
  dsimp only
  rw [if_pos (by show (0 : Int) ≤ (l : Int) ∧ (l : Int) < 6; omega), Int.toNat_natCast]
  have e0 : sM (sM (sM μ 70 3 0) 70 4 (-1)) 85 l 0 = ma (sM (sM μ 70 4 (-1)) 85 l 0) 0 := by
    have : sM μ 70 3 0 = ma μ 0 := rfl
    rw [this, ma_s (by decide), ma_s (by omega)]
  rw [e0]
  have f0 : fM l μ (sM (sM μ 70 4 (-1)) 85 l 0) := fM_s (fM_s ⟨hB, fw_rf⟩ (by unfold wPl; omega) (show (-1 : Int) ≤ -1 ∧ (-1 : Int) ≤ 1000 by omega)) (by unfold wPl; omega) (show (0 : Int) ≤ 0 ∧ (0 : Int) ≤ 8 by omega)
  obtain ⟨f, x, a, g1, g2, g3, g4, _, g6⟩ := readM_L hT hl 7 FU 0 0 (sM (sM μ 70 4 (-1)) 85 l 0) (-1) (by omega) (by decide) f0.1 (Tm_fM h f0) (by rw [sM_a (by decide), sM_s]) (by rw [sM_s]; rfl) (by omega) (by rw [if_pos rfl])
  exact ⟨f, x, a, g1, g2, ⟨g3.1, fw_tr f0.2 g3.2⟩, g4, g6⟩
/-! THE READER OF CELLARS, the class's -/
/-- what a sign stands for: 0 a dot, 1 a POST, 2 START, 3 and more a CRANK; -1 none -/
def sg (x : Int) : Int := if x = 46 then 0 else if x = 35 then 1 else if x = 42 then 2 else if 65 ≤ x ∧ x ≤ 72 then x - 62 else -1
theorem sg_b (x : Int) : -1 ≤ sg x ∧ sg x ≤ 10 := by
  unfold sg
  split
  · omega
  · split
    · omega
    · split
      · omega
      · split <;> omega
theorem cellOf_eq (x : Int) (μ : Mm) : X0_cellOf x μ = some (sg x, μ) := by
  unfold X0_cellOf sg
  by_cases h1 : x = 35
  · rw [if_pos h1, if_neg (by omega), if_pos h1]
  · rw [if_neg h1]
    by_cases h2 : x = 42
    · rw [if_pos h2, if_neg (by omega), if_neg h1, if_pos h2]
    · rw [if_neg h2]
      by_cases h3 : x = 46
      · rw [if_pos h3, if_pos h3]
      · rw [if_neg h3, if_neg h3, if_neg h1, if_neg h2]
        by_cases h4 : x < 65
        · rw [if_pos h4, if_neg (by omega)]
        · rw [if_neg h4]
          by_cases h5 : 72 < x
          · rw [if_pos h5, if_neg (by omega)]
          · rw [if_neg h5, if_pos (by omega), iA_id (by omega) (by omega), iS_id (by omega) (by omega)]
            congr 2
            omega
/-- places; where each thing lies (-1 nowhere); how many CRANKS, POSTS -/
abbrev CS : Type := (Nat → Int) × (Nat → Int) × Int × Int
def ups (σ : CS) (pl : Nat) (v : Int) : CS := (fun j => if j = pl then v else σ.1 j, fun j => if 2 ≤ v ∧ j = v.toNat then (pl : Int) else σ.2.1 j, σ.2.2.1 + (if 3 ≤ v then 1 else 0), σ.2.2.2 + (if v = 1 then 1 else 0))
def rowS (t : Nat → Int) (n : Nat) : Nat → Nat → Nat → CS → Option (Nat × Nat × CS)
  | 0, p, pl, σ => some (p, pl, σ)
  | k + 1, p, pl, σ => if sg (pk t n p) = -1 then some (p, pl, σ) else if 2 ≤ sg (pk t n p) ∧ σ.2.1 (sg (pk t n p)).toNat ≠ -1 then none else rowS t n k (sk t n p + 1) (pl + 1) (ups σ pl (sg (pk t n p)))
def endS (σ : CS) : Prop := σ.2.1 2 ≠ -1 ∧ σ.2.2.1 ≠ 0
def CelC (ν : Mm) (l0 : Nat) (σ : CS) : Prop := (∀ j, j < 60 → ν (l0 + 1) j = σ.1 j) ∧ ν l0 3 = σ.2.1 2 ∧ (∀ c, c < 8 → ν (l0 + 2) c = σ.2.1 (3 + c)) ∧ ν l0 5 = σ.2.2.1 ∧ ν l0 6 = σ.2.2.2
def bdS (σ : CS) (pl : Nat) : Prop := 0 ≤ σ.2.2.1 ∧ σ.2.2.1 ≤ pl ∧ 0 ≤ σ.2.2.2 ∧ σ.2.2.2 ≤ pl
theorem bdS_u {σ : CS} {pl : Nat} {v : Int} (h : bdS σ pl) : bdS (ups σ pl v) (pl + 1) := by
  unfold bdS ups at *
  dsimp only
  by_cases h1 : 3 ≤ v
  · rw [if_pos h1, if_neg (by omega)]; omega
  · rw [if_neg h1]
    by_cases h2 : v = 1
    · rw [if_pos h2]; omega
    · rw [if_neg h2]; omega
def wC (l0 k j : Nat) : Prop := (k = l0 ∧ (j = 3 ∨ j = 5 ∨ j = 6)) ∨ k = l0 + 1 ∨ k = l0 + 2
def fC (l0 : Nat) (ν ν' : Mm) : Prop := fw (wC l0) ν ν'
theorem fC_s {l0 : Nat} {ν ν' : Mm} (h : fC l0 ν ν') {c j : Nat} {v : Int} (hc : wC l0 c j) : fC l0 ν (sM ν' c j v) := fw_sM h hc
theorem Tx_fC {t : Nat → Int} {n l0 : Nat} {ν ν' : Mm} (hk : kD l0 = (10, 9)) (h : Tx t n ν) (hf : fC l0 ν ν') : Tx t n ν' := by
  obtain ⟨h1, x, h2, h3, h4, h5⟩ := h
  have hp := kCr hk
  have hx := kTr h3
  refine ⟨h1, x, ?_, h3, ?_, fun j hj => ?_⟩
  · rw [hf 3 0 (by unfold wC; omega)]; exact h2
  · rw [hf x 1 (by unfold wC; omega)]; exact h4
  · rw [hf (x + 1) j (by unfold wC; omega)]; exact h5 j hj
theorem putC {t : Nat → Int} {n : Nat} {l0 : Nat} (hk : kD l0 = (10, 9)) {ν : Mm} {σ : CS} (h : Tx t n ν) (hC : CelC ν l0 σ) {pl q : Nat} (hpl : pl < 60) (hq : q < n) {v : Int} (hv : 0 ≤ v ∧ v ≤ 10) (hb : bdS σ pl) :
    ∃ ν' p' f, X0_put l0 (pl : Int) v (cr ν q (-1)) = some (0, cr ν' p' f) ∧ fC l0 ν ν' ∧ if 2 ≤ v ∧ σ.2.1 v.toNat ≠ -1 then f ≠ -1 else f = -1 ∧ p' = q + 1 ∧ CelC ν' l0 (ups σ pl v) := by
  have hl := kCr' hk
  have a1 : aN (l0 + 1) = 60 := (bA_0_1 hk (by omega) 0).2.2
  have a2 : aN (l0 + 2) = 8 := (bA_0_2 hk (by omega) 0).2.2
  have h160 := h.1
  obtain ⟨c1, c2, c3, c4, c5⟩ := hC
  obtain ⟨b1, b2, b3, b4⟩ := hb
  -- the two ways of the join
  have no : ∀ l4, X0_put_J41 l0 (pl : Int) v l4 1 (cr ν q (-1)) = some (0, cr ν q (q : Int)) := by
    intro l4
    unfold X0_put_J41
    rw [if_neg (by decide), cr_1, refuse_eq, bd_some]
  have yes : ∀ l4, l4 = v - 3 → ∃ ν', X0_put_J41 l0 (pl : Int) v l4 0 (cr ν q (-1)) = some (0, cr ν' (q + 1) (-1)) ∧ fC l0 ν ν' ∧ CelC ν' l0 (ups σ pl v) := by
    intro l4 e4
    unfold X0_put_J41 stA sF
    dsimp only
    rw [if_pos rfl, pass_eq h hq, bd_some, if_pos (by rw [a1]; omega), Int.toNat_natCast, cr_s (by omega)]
    have base : ∀ j, j < 60 → sM ν (l0 + 1) pl v (l0 + 1) j = (ups σ pl v).1 j := by
      intro j hj
      rw [sM_if]
      show _ = if j = pl then v else σ.1 j
      by_cases e : j = pl
      · rw [if_pos e, if_pos e]
      · rw [if_neg e, if_neg e]; exact c1 j hj
    have f1 : fC l0 ν (sM ν (l0 + 1) pl v) := fC_s fw_rf (by unfold wC; omega)
    by_cases v2 : v = 2
    · rw [if_pos v2, cr_s (by omega)]
      refine ⟨_, rfl, fC_s f1 (by unfold wC; omega), fun j hj => ?_, ?_, fun c hc => ?_, ?_, ?_⟩
      · rw [sM_a (by omega)]; exact base j hj
      · rw [sM_s]
        show _ = if 2 ≤ v ∧ 2 = v.toNat then (pl : Int) else σ.2.1 2
        rw [if_pos (by omega)]
      · rw [sM_a (by omega), sM_a (by omega), c3 c hc]
        show _ = if 2 ≤ v ∧ 3 + c = v.toNat then (pl : Int) else σ.2.1 (3 + c)
        rw [if_neg (by omega)]
      · rw [sM_j (by decide), sM_a (by omega), c4]
        show _ = σ.2.2.1 + (if 3 ≤ v then 1 else 0)
        rw [if_neg (by omega)]; omega
      · rw [sM_j (by decide), sM_a (by omega), c5]
        show _ = σ.2.2.2 + (if v = 1 then 1 else 0)
        rw [if_neg (by omega)]; omega
    · rw [if_neg v2]
      by_cases v1 : v = 1
      · rw [if_pos v1, cr_c (by omega), cr_s (by omega)]
        refine ⟨_, rfl, fC_s f1 (by unfold wC; omega), fun j hj => ?_, ?_, fun c hc => ?_, ?_, ?_⟩
        · rw [sM_a (by omega)]; exact base j hj
        · rw [sM_j (by decide), sM_a (by omega), c2]
          show _ = if 2 ≤ v ∧ 2 = v.toNat then (pl : Int) else σ.2.1 2
          rw [if_neg (by omega)]
        · rw [sM_a (by omega), sM_a (by omega), c3 c hc]
          show _ = if 2 ≤ v ∧ 3 + c = v.toNat then (pl : Int) else σ.2.1 (3 + c)
          rw [if_neg (by omega)]
        · rw [sM_j (by decide), sM_a (by omega), c4]
          show _ = σ.2.2.1 + (if 3 ≤ v then 1 else 0)
          rw [if_neg (by omega)]; omega
        · rw [sM_s, sM_a (by omega), c5, iA_id (by omega) (by omega)]
          show _ = σ.2.2.2 + (if v = 1 then 1 else 0)
          rw [if_pos v1]
      · rw [if_neg v1]
        by_cases v0 : l4 < 0
        · rw [if_pos v0]
          refine ⟨_, rfl, f1, base, ?_, fun c hc => ?_, ?_, ?_⟩
          · rw [sM_a (by omega), c2]
            show _ = if 2 ≤ v ∧ 2 = v.toNat then (pl : Int) else σ.2.1 2
            rw [if_neg (by omega)]
          · rw [sM_a (by omega), c3 c hc]
            show _ = if 2 ≤ v ∧ 3 + c = v.toNat then (pl : Int) else σ.2.1 (3 + c)
            rw [if_neg (by omega)]
          · rw [sM_a (by omega), c4]
            show _ = σ.2.2.1 + (if 3 ≤ v then 1 else 0)
            rw [if_neg (by omega)]; omega
          · rw [sM_a (by omega), c5]
            show _ = σ.2.2.2 + (if v = 1 then 1 else 0)
            rw [if_neg (by omega)]; omega
        · rw [if_neg v0, if_pos (by rw [a2]; omega), cr_s (by omega), cr_c (by omega), cr_s (by omega)]
          refine ⟨_, rfl, fC_s (fC_s f1 (by unfold wC; omega)) (by unfold wC; omega), fun j hj => ?_, ?_, fun c hc => ?_, ?_, ?_⟩
          · rw [sM_a (by omega), sM_a (by omega)]; exact base j hj
          · rw [sM_j (by decide), sM_a (by omega), sM_a (by omega), c2]
            show _ = if 2 ≤ v ∧ 2 = v.toNat then (pl : Int) else σ.2.1 2
            rw [if_neg (by omega)]
          · rw [sM_a (by omega), sM_if]
            show _ = if 2 ≤ v ∧ 3 + c = v.toNat then (pl : Int) else σ.2.1 (3 + c)
            by_cases e : c = l4.toNat
            · rw [if_pos e, if_pos (by omega)]
            · rw [if_neg e, if_neg (by omega), sM_a (by omega), c3 c hc]
          · rw [sM_s, sM_a (by omega), sM_a (by omega), c4, iA_id (by omega) (by omega)]
            show _ = σ.2.2.1 + (if 3 ≤ v then 1 else 0)
            rw [if_pos (by omega)]
          · rw [sM_j (by decide), sM_a (by omega), sM_a (by omega), c5]
            show _ = σ.2.2.2 + (if v = 1 then 1 else 0)
            rw [if_neg (by omega)]; omega
  have e3 : iS v 3 = v - 3 := iS_id (by omega) (by omega)
  have hq1 : (q : Int) ≠ -1 := by omega
  unfold X0_put
  rw [e3]
  by_cases v2 : v = 2
  · rw [if_pos v2, cr_c (by omega), c2]
    have e2 : v.toNat = 2 := by omega
    by_cases g : σ.2.1 2 = -1
    · rw [if_pos g]
      obtain ⟨ν', g1, g2, g3⟩ := yes (v - 3) rfl
      refine ⟨ν', q + 1, -1, g1, g2, ?_⟩
      rw [if_neg (by rw [e2]; exact fun z => z.2 g)]
      exact ⟨rfl, rfl, g3⟩
    · rw [if_neg g, no]
      refine ⟨ν, q, (q : Int), rfl, fw_rf, ?_⟩
      rw [if_pos ⟨by omega, by rw [e2]; exact g⟩]
      exact hq1
  · rw [if_neg v2]
    unfold X0_placeOf
    by_cases v3 : v - 3 < 0
    · rw [if_pos v3, bd_some, if_pos rfl]
      obtain ⟨ν', g1, g2, g3⟩ := yes (v - 3) rfl
      refine ⟨ν', q + 1, -1, g1, g2, ?_⟩
      rw [if_neg (by omega)]
      exact ⟨rfl, rfl, g3⟩
    · rw [if_neg v3, if_neg (by omega)]
      unfold ldA
      rw [if_pos (by rw [a2]; omega), cr_c (by omega), c3 _ (by omega), bd_some]
      have e5 : 3 + (v - 3).toNat = v.toNat := by omega
      rw [e5]
      by_cases g : σ.2.1 v.toNat = -1
      · rw [if_pos g]
        obtain ⟨ν', g1, g2, g3⟩ := yes (v - 3) rfl
        refine ⟨ν', q + 1, -1, g1, g2, ?_⟩
        rw [if_neg (fun z => z.2 g)]
        exact ⟨rfl, rfl, g3⟩
      · rw [if_neg g, no]
        refine ⟨ν, q, (q : Int), rfl, fw_rf, ?_⟩
        rw [if_pos ⟨by omega, g⟩]
        exact hq1
theorem rowC_F {l0 : Nat} {r m f : Int} {K : Int → Mm → Rs} (hf : f ≠ -1) {ν : Mm} {p fuel : Nat} {j : Int} : X0_readRow_L17 l0 r m K K (fuel + 1) j (cr ν p f) = K j (cr ν p f) := by
  rw [X0_readRow_L17]
  by_cases c : m ≤ j
  · rw [if_pos c]
  · rw [if_neg c, peek_F hf, bd_some, cellOf_eq, bd_some, if_pos (by decide)]
theorem rowC {t : Nat → Int} {n : Nat} {l0 : Nat} (hk : kD l0 = (10, 9)) {r m : Nat} (hr : 10 * r + m ≤ 60) (hm : m ≤ 9) {K : Int → Mm → Rs} : ∀ (k fuel j p : Nat) (ν : Mm) (σ : CS), j + k = m → k + 1 < fuel → Tx t n ν → CelC ν l0 σ → bdS σ (10 * r + j) → p ≤ n →
    ∃ ν' p' f j', X0_readRow_L17 l0 (r : Int) (m : Int) K K fuel (j : Int) (cr ν p (-1)) = K ((j' : Nat) : Int) (cr ν' p' f) ∧ j' ≤ m ∧ fC l0 ν ν' ∧ match rowS t n k p (10 * r + j) σ with
      | none => f ≠ -1
      | some q => f = -1 ∧ q.2.1 = 10 * r + j' ∧ (p' = q.1 ∨ p' = sk t n q.1) ∧ q.1 ≤ n ∧ CelC ν' l0 q.2.2 ∧ bdS q.2.2 (10 * r + j') := by
  intro k
  induction k with
  | zero =>
    intro fuel j p ν σ hj hf h hC hb hp
    obtain ⟨f', rfl, -⟩ := lt_fuel hf
    rw [X0_readRow_L17, if_pos (by omega)]
    exact ⟨ν, p, -1, j, rfl, by omega, fw_rf, rfl, rfl, Or.inl rfl, hp, hC, hb⟩
  | succ k ih =>
    intro fuel j p ν σ hj hf h hC hb hp
    obtain ⟨f', rfl, hf'⟩ := lt_fuel (d := k + 2) hf
    have h160 := h.1
    rw [X0_readRow_L17, if_neg (by omega), peek_eq h hp, bd_some, cellOf_eq, bd_some]
    unfold rowS
    by_cases c : sg (pk t n p) = -1
    · rw [if_pos c, if_pos c]
      exact ⟨ν, sk t n p, -1, j, rfl, by omega, fw_rf, rfl, rfl, Or.inr rfl, hp, hC, hb⟩
    · have hs := sg_b (pk t n p)
      have hq : sk t n p < n := by
        refine (pk_ne (t := t) (n := n) (p := p) (fun e => c ?_)).1
        rw [e]; rfl
      have epl : iA (iM 10 (r : Int)) (j : Int) = ((10 * r + j : Nat) : Int) := by
        rw [iM_id (by omega) (by omega), iA_id (by omega) (by omega)]; omega
      rw [if_neg c, if_neg c, epl]
      obtain ⟨ν1, p1, f1, e1, e2, e3⟩ := putC hk h hC (pl := 10 * r + j) (by omega) hq (v := sg (pk t n p)) (by omega) hb
      rw [e1, bd_some, iA_nat (by omega)]
      by_cases g : 2 ≤ sg (pk t n p) ∧ σ.2.1 (sg (pk t n p)).toNat ≠ -1
      · rw [if_pos g] at e3
        rw [if_pos g]
        obtain ⟨f'', rfl, -⟩ := lt_fuel (d := 0) (n := f') (by omega)
        rw [rowC_F e3]
        exact ⟨ν1, p1, f1, j + 1, rfl, by omega, e2, e3⟩
      · rw [if_neg g] at e3
        rw [if_neg g]
        obtain ⟨rfl, rfl, g3⟩ := e3
        obtain ⟨ν2, p2, f2, j2, k1, k2, k3, k4⟩ := ih f' (j + 1) (sk t n p + 1) ν1 (ups σ (10 * r + j) (sg (pk t n p))) (by omega) (by omega) (Tx_fC hk h e2) g3 (bdS_u hb) (by omega)
        exact ⟨ν2, p2, f2, j2, k1, k2, fw_tr e2 k3, k4⟩
/-! THE READER OF CELLARS, the class's: rows, and all of it -/
def rowStep (t : Nat → Int) (n r w p : Nat) (σ : CS) : Option (Nat × Nat × CS) := match rowS t n (if r = 0 then 9 else w) p (10 * r) σ with
  | none => none
  | some q => if q.2.1 - 10 * r < 2 ∨ q.2.1 - 10 * r < (if r = 0 then q.2.1 - 10 * r else w) then none else some (q.1, if r = 0 then q.2.1 - 10 * r else w, q.2.2)
def celN (t : Nat → Int) (n : Nat) : Nat → Nat → Nat → Nat → CS → Option (Nat × Nat × CS)
  | 0, r, p, w, σ => if pk t n p = -1 ∧ σ.2.1 2 ≠ -1 ∧ σ.2.2.1 ≠ 0 then some (r + 1, w, σ) else none
  | left + 1, r, p, w, σ => if pk t n p = 47 then
      (match rowStep t n (r + 1) w (sk t n p + 1) σ with
        | none => none
        | some q => celN t n left (r + 1) q.1 q.2.1 q.2.2)
    else if pk t n p = -1 ∧ σ.2.1 2 ≠ -1 ∧ σ.2.2.1 ≠ 0 then some (r + 1, w, σ) else none
def σ0 : CS := (fun _ => -1, fun _ => -1, 0, 0)
def celS (t : Nat → Int) (n : Nat) : Option (Nat × Nat × CS) := match rowStep t n 0 0 0 σ0 with
  | none => none
  | some q => celN t n 5 0 q.1 q.2.1 q.2.2
def wD (l0 k j : Nat) : Prop := (k = l0 ∧ 3 ≤ j ∧ j ≤ 6) ∨ k = l0 + 1 ∨ k = l0 + 2
def fD (l0 : Nat) (ν ν' : Mm) : Prop := fw (wD l0) ν ν'
theorem fD_C {l0 : Nat} {ν ν' : Mm} (h : fC l0 ν ν') : fD l0 ν ν' := fun k j hn => h k j (fun z => hn (by unfold wC at z; unfold wD; omega))
theorem Tx_fD {t : Nat → Int} {n l0 : Nat} {ν ν' : Mm} (hk : kD l0 = (10, 9)) (h : Tx t n ν) (hf : fD l0 ν ν') : Tx t n ν' := by
  obtain ⟨h1, x, h2, h3, h4, h5⟩ := h
  have hp := kCr hk
  have hx := kTr h3
  refine ⟨h1, x, ?_, h3, ?_, fun j hj => ?_⟩
  · rw [hf 3 0 (by unfold wD; omega)]; exact h2
  · rw [hf x 1 (by unfold wD; omega)]; exact h4
  · rw [hf (x + 1) j (by unfold wD; omega)]; exact h5 j hj
theorem CelC_4 {ν : Mm} {l0 : Nat} {σ : CS} (h : CelC ν l0 σ) {v : Int} : CelC (sM ν l0 4 v) l0 σ := by
  obtain ⟨h1, h2, h3, h4, h5⟩ := h
  exact ⟨fun j hj => by rw [sM_a (by omega)]; exact h1 j hj, by rw [sM_j (by decide)]; exact h2, fun c hc => by rw [sM_a (by omega)]; exact h3 c hc, by rw [sM_j (by decide)]; exact h4, by rw [sM_j (by decide)]; exact h5⟩
theorem J71_F {l0 : Nat} (hl : l0 ≠ 3) {ν : Mm} {p : Nat} {f j : Int} (hf : f ≠ -1) : X0_readRow_J71 l0 j (cr ν p f) = some (0, cr ν p f) := by
  unfold X0_readRow_J71
  by_cases c : j < 2
  · rw [if_pos c, refuse_F hf, bd_some]
  · rw [if_neg c]
    by_cases c2 : cr ν p f l0 4 ≤ j
    · rw [if_pos c2]
    · rw [if_neg c2, refuse_F hf, bd_some]
theorem readRowC {t : Nat → Int} {n : Nat} {l0 : Nat} (hk : kD l0 = (10, 9)) {r w : Nat} (hr : r ≤ 5) (hw : w ≤ 9) {ν : Mm} {σ : CS} (h : Tx t n ν) (hC : CelC ν l0 σ) (h4 : r = 0 ∨ ν l0 4 = (w : Int)) (hb : bdS σ (10 * r)) {p : Nat} (hp : p ≤ n) :
    ∃ ν' p' f, X0_readRow l0 (r : Int) (cr ν p (-1)) = some (0, cr ν' p' f) ∧ fD l0 ν ν' ∧ match rowStep t n r w p σ with
      | none => f ≠ -1
      | some q => f = -1 ∧ (p' = q.1 ∨ p' = sk t n q.1) ∧ q.1 ≤ n ∧ CelC ν' l0 q.2.2 ∧ ν' l0 4 = (q.2.1 : Int) ∧ q.2.1 ≤ 9 ∧ bdS q.2.2 (10 * (r + 1)) := by
  have hl := kCr' hk
  have hl3 : l0 ≠ 3 := by omega
  have e0 : X0_readRow l0 (r : Int) (cr ν p (-1)) = X0_readRow_L17 l0 (r : Int) ((if r = 0 then 9 else w : Nat) : Int) (fun v13 μ14 => X0_readRow_J61 l0 (r : Int) v13 μ14) (fun v13 μ14 => X0_readRow_J61 l0 (r : Int) v13 μ14) FU ((0 : Nat) : Int) (cr ν p (-1)) := by
    unfold X0_readRow X0_readRow_J13
    by_cases c : r = 0
    · rw [if_pos (by omega), if_pos c]; rfl
    · rw [if_neg (by omega), if_neg c, cr_c hl3, h4.resolve_left c]; rfl
  obtain ⟨ν1, p1, f1, j1, e1, e2, e3, e4⟩ := rowC hk (r := r) (m := if r = 0 then 9 else w) (by split <;> omega) (by split <;> omega) (K := fun v13 μ14 => X0_readRow_J61 l0 (r : Int) v13 μ14) (if r = 0 then 9 else w) FU 0 p ν σ (by omega) (by show _ < 1000000; split <;> omega) h hC hb hp
  rw [e0, e1]
  have em : (if r = 0 then 9 else w) ≤ 9 := by split <;> omega
  -- the width that holds behind the row
  have hJ : ∃ ν2, X0_readRow_J61 l0 (r : Int) (j1 : Int) (cr ν1 p1 f1) = X0_readRow_J71 l0 (j1 : Int) (cr ν2 p1 f1) ∧ fD l0 ν ν2 ∧ (∀ σ', CelC ν1 l0 σ' → CelC ν2 l0 σ') ∧ ν2 l0 4 = ((if r = 0 then j1 else w : Nat) : Int) := by
    unfold X0_readRow_J61
    by_cases c : r = 0
    · rw [if_pos (by omega), if_pos c]
      unfold sF
      dsimp only
      rw [cr_s hl3]
      exact ⟨_, rfl, fw_sM (fD_C e3) (by unfold wD; omega), fun _ h => CelC_4 h, by rw [sM_s]⟩
    · rw [if_neg (by omega), if_neg c]
      refine ⟨ν1, rfl, fD_C e3, fun _ h => h, ?_⟩
      rw [e3 l0 4 (by unfold wC; omega)]; exact h4.resolve_left c
  obtain ⟨ν2, g1, g2, g3, g4⟩ := hJ
  rw [g1]
  unfold rowStep
  rw [Nat.add_zero] at e4
  revert e4
  cases hR : rowS t n (if r = 0 then 9 else w) p (10 * r) σ with
  | none =>
    intro e4
    have e4 : f1 ≠ -1 := e4
    rw [J71_F hl3 e4]
    exact ⟨ν2, p1, f1, rfl, g2, e4⟩
  | some q =>
    intro e4
    obtain ⟨rfl, k2, k3, k4, k5, k6⟩ := e4
    dsimp only
    have ej : q.2.1 - 10 * r = j1 := by omega
    rw [ej]
    unfold X0_readRow_J71
    rw [cr_c hl3, g4]
    have hp1 : (p1 : Int) ≠ -1 := by omega
    by_cases c1 : j1 < 2
    · rw [if_pos (by omega), if_pos (Or.inl c1), cr_1, refuse_eq, bd_some]
      exact ⟨ν2, p1, _, rfl, g2, hp1⟩
    · rw [if_neg (by omega)]
      by_cases c2 : j1 < (if r = 0 then j1 else w)
      · rw [if_neg (by omega), if_pos (Or.inr c2), cr_1, refuse_eq, bd_some]
        exact ⟨ν2, p1, _, rfl, g2, hp1⟩
      · rw [if_pos (by omega), if_neg (by omega)]
        refine ⟨ν2, p1, -1, rfl, g2, rfl, k3, k4, g3 _ k5, g4, by show (if r = 0 then j1 else w) ≤ 9; split <;> omega, ?_⟩
        show bdS q.2.2 (10 * (r + 1))
        unfold bdS at k6 ⊢
        omega
/-! clear -/
def wK (l0 k j : Nat) : Prop := (k = l0 ∧ 3 ≤ j ∧ j ≤ 7) ∨ k = l0 + 1 ∨ k = l0 + 2 ∨ k = l0 + 3
theorem clr_L2 {l0 : Nat} (hk : kD l0 = (10, 9)) (K : Mm → Rs) : ∀ (d fuel : Nat) (ν : Mm), d ≤ 60 → d < fuel → ∃ ν', X0_clear_L2 l0 K fuel (60 - (d : Int)) ν = K ν' ∧ (∀ k j, k ≠ l0 + 1 → ν' k j = ν k j) ∧ (∀ j : Nat, 60 ≤ j + d → j < 60 → ν' (l0 + 1) j = -1) ∧ (∀ j : Nat, j + d < 60 → ν' (l0 + 1) j = ν (l0 + 1) j) := by
  have hl := kCr' hk
  have a1 : aN (l0 + 1) = 60 := (bA_0_1 hk (by omega) 0).2.2
  intro d
  induction d with
  | zero =>
    intro fuel ν _ hf
    obtain ⟨m, rfl, -⟩ := lt_fuel hf
    refine ⟨ν, ?_, fun _ _ _ => rfl, fun j h1 h2 => by omega, fun _ _ => rfl⟩
    rw [X0_clear_L2, if_pos (by omega)]
  | succ d ih =>
    intro fuel ν hd hf
    obtain ⟨m, rfl, hm⟩ := lt_fuel hf
    obtain ⟨ν', e1, e2, e3, e4⟩ := ih m (sM ν (l0 + 1) (60 - (d + 1)) (-1)) (by omega) (by omega)
    refine ⟨ν', ?_, fun k j hk => ?_, fun j h1 h2 => ?_, fun j h1 => ?_⟩
    · rw [X0_clear_L2, if_neg (by omega)]
      unfold stA
      rw [if_pos (by rw [a1]; omega)]
      have ea : iA (60 - ((d + 1 : Nat) : Int)) 1 = 60 - (d : Int) := by rw [iA_id (by omega) (by omega)]; omega
      have eb : (60 - ((d + 1 : Nat) : Int)).toNat = 60 - (d + 1) := by omega
      rw [ea, eb]
      exact e1
    · rw [e2 k j hk, sM_a hk]
    · by_cases hj : 60 ≤ j + d
      · exact e3 j hj h2
      · rw [e4 j (by omega), sM_if, if_pos (by omega)]
    · rw [e4 j (by omega), sM_if, if_neg (by omega)]
theorem clr_L23 {l0 : Nat} (hk : kD l0 = (10, 9)) (K : Mm → Rs) : ∀ (d fuel : Nat) (ν : Mm), d ≤ 8 → d < fuel → ∃ ν', X0_clear_L23 l0 K fuel (8 - (d : Int)) ν = K ν' ∧ (∀ k j, k ≠ l0 + 2 → k ≠ l0 + 3 → ν' k j = ν k j) ∧ (∀ j : Nat, 8 ≤ j + d → j < 8 → ν' (l0 + 2) j = -1 ∧ ν' (l0 + 3) j = 3) ∧ (∀ j : Nat, j + d < 8 → ν' (l0 + 2) j = ν (l0 + 2) j ∧ ν' (l0 + 3) j = ν (l0 + 3) j) := by
  have hl := kCr' hk
  have a2 : aN (l0 + 2) = 8 := (bA_0_2 hk (by omega) 0).2.2
  have a3 : aN (l0 + 3) = 8 := (bA_0_3 hk (by omega) 0).2.2
  intro d
  induction d with
  | zero =>
    intro fuel ν _ hf
    obtain ⟨m, rfl, -⟩ := lt_fuel hf
    refine ⟨ν, ?_, fun _ _ _ _ => rfl, fun j h1 h2 => by omega, fun _ _ => ⟨rfl, rfl⟩⟩
    rw [X0_clear_L23, if_pos (by omega)]
  | succ d ih =>
    intro fuel ν hd hf
    obtain ⟨m, rfl, hm⟩ := lt_fuel hf
    obtain ⟨ν', e1, e2, e3, e4⟩ := ih m (sM (sM ν (l0 + 2) (8 - (d + 1)) (-1)) (l0 + 3) (8 - (d + 1)) 3) (by omega) (by omega)
    refine ⟨ν', ?_, fun k j hk hk2 => ?_, fun j h1 h2 => ?_, fun j h1 => ?_⟩
    · rw [X0_clear_L23, if_neg (by omega)]
      unfold stA
      rw [if_pos (by rw [a2]; omega)]
      dsimp only
      rw [if_pos (by rw [a3]; omega)]
      have ea : iA (8 - ((d + 1 : Nat) : Int)) 1 = 8 - (d : Int) := by rw [iA_id (by omega) (by omega)]; omega
      have eb : (8 - ((d + 1 : Nat) : Int)).toNat = 8 - (d + 1) := by omega
      rw [ea, eb]
      exact e1
    · rw [e2 k j hk hk2, sM_a hk2, sM_a hk]
    · by_cases hj : 8 ≤ j + d
      · exact e3 j hj h2
      · have := e4 j (by omega)
        rw [this.1, this.2, sM_a (by omega), sM_if, sM_if, if_pos (by omega), if_pos (by omega)]
        exact ⟨rfl, rfl⟩
    · have := e4 j (by omega)
      rw [this.1, this.2, sM_a (by omega), sM_if, sM_if, if_neg (by omega), if_neg (by omega), sM_a (by omega)]
      exact ⟨rfl, rfl⟩
theorem clearC {l0 : Nat} (hk : kD l0 = (10, 9)) (ν : Mm) : ∃ ν', X0_clear l0 ν = some (0, ν') ∧ fw (wK l0) ν ν' ∧ CelC ν' l0 σ0 ∧ ν' l0 4 = 0 ∧ ν' l0 7 = 1 ∧ ∀ j, j < 8 → ν' (l0 + 3) j = 3 := by
  have hl := kCr' hk
  unfold X0_clear
  obtain ⟨ν1, e1, e2, e3, -⟩ := clr_L2 hk (fun μ4 => X0_clear_L23 l0 (fun μ10 => sF μ10 l0 3 (-1) fun μ11 => sF μ11 l0 4 0 fun μ12 => sF μ12 l0 5 0 fun μ13 => sF μ13 l0 6 0 fun μ14 => sF μ14 l0 7 1 fun μ15 => some (0, μ15)) FU 0 μ4) 60 FU ν (by omega) (by decide)
  obtain ⟨ν2, g1, g2, g3, -⟩ := clr_L23 hk (fun μ10 => sF μ10 l0 3 (-1) fun μ11 => sF μ11 l0 4 0 fun μ12 => sF μ12 l0 5 0 fun μ13 => sF μ13 l0 6 0 fun μ14 => sF μ14 l0 7 1 fun μ15 => some (0, μ15)) 8 FU ν1 (by omega) (by decide)
  refine ⟨_, e1.trans g1, ?_, ⟨fun j hj => ?_, ?_, fun c hc => ?_, ?_, ?_⟩, ?_, ?_, fun j hj => ?_⟩
  · intro k j hn
    unfold wK at hn
    have hne : ∀ q, (3 ≤ q ∧ q ≤ 7) → ¬ (k = l0 ∧ j = q) := fun q hq e => hn (Or.inl ⟨e.1, by omega⟩)
    unfold sM
    rw [if_neg (hne 7 (by omega)), if_neg (hne 6 (by omega)), if_neg (hne 5 (by omega)), if_neg (hne 4 (by omega)), if_neg (hne 3 (by omega)), g2 k j (by omega) (by omega), e2 k j (by omega)]
  · rw [sM_a (by omega), sM_a (by omega), sM_a (by omega), sM_a (by omega), sM_a (by omega), g2 _ _ (by omega) (by omega)]
    exact e3 j (by omega) hj
  · rw [sM_j (by decide), sM_j (by decide), sM_j (by decide), sM_j (by decide), sM_s]; rfl
  · rw [sM_a (by omega), sM_a (by omega), sM_a (by omega), sM_a (by omega), sM_a (by omega), (g3 c (by omega) hc).1]; rfl
  · rw [sM_j (by decide), sM_j (by decide), sM_s]; rfl
  · rw [sM_j (by decide), sM_s]; rfl
  · rw [sM_j (by decide), sM_j (by decide), sM_j (by decide), sM_s]
  · rw [sM_s]
  · rw [sM_a (by omega), sM_a (by omega), sM_a (by omega), sM_a (by omega), sM_a (by omega), (g3 j (by omega) hj).2]
/-! all rows -/
theorem J39_F {l0 : Nat} (hl : l0 ≠ 3) {ν : Mm} {p : Nat} {f : Int} (hf : f ≠ -1) : X0_read_J39 l0 (cr ν p f) = some (f, cr ν p f) := by
  unfold X0_read_J39
  rw [needEnd_F hf, bd_some]
  by_cases c : cr ν p f l0 3 = -1
  · rw [if_pos c, cr_1, refuse_F hf, bd_some, cr_2]
  · rw [if_neg c]
    by_cases c2 : cr ν p f l0 5 = 0
    · rw [if_pos c2, cr_1, refuse_F hf, bd_some, cr_2]
    · rw [if_neg c2, cr_2]
theorem J39_eq {t : Nat → Int} {n l0 : Nat} (hl : l0 ≠ 3) {ν : Mm} {σ : CS} (h : Tx t n ν) (hC : CelC ν l0 σ) {p : Nat} (hp : p ≤ n) : ∃ p' f, X0_read_J39 l0 (cr ν p (-1)) = some (f, cr ν p' f) ∧ if pk t n p = -1 ∧ σ.2.1 2 ≠ -1 ∧ σ.2.2.1 ≠ 0 then f = -1 else f ≠ -1 := by
  have hq : ((sk t n p : Nat) : Int) ≠ -1 := by omega
  unfold X0_read_J39
  rw [needEnd_eq h hp]
  by_cases c : pk t n p = -1
  · rw [if_pos c, bd_some, cr_c hl, hC.2.1]
    by_cases c2 : σ.2.1 2 = -1
    · rw [if_pos c2, cr_1, refuse_eq, bd_some, cr_2]
      exact ⟨_, _, rfl, by rw [if_neg (fun z => z.2.1 c2)]; exact hq⟩
    · rw [if_neg c2, cr_c hl, hC.2.2.2.1]
      by_cases c3 : σ.2.2.1 = 0
      · rw [if_pos c3, cr_1, refuse_eq, bd_some, cr_2]
        exact ⟨_, _, rfl, by rw [if_neg (fun z => z.2.2 c3)]; exact hq⟩
      · rw [if_neg c3, cr_2]
        exact ⟨_, _, rfl, by rw [if_pos ⟨c, c2, c3⟩]⟩
  · rw [if_neg c, bd_some, cr_c hl]
    refine ⟨sk t n p, ((sk t n p : Nat) : Int), ?_, by rw [if_neg (fun z => c z.1)]; exact hq⟩
    by_cases c2 : ν l0 3 = -1
    · rw [if_pos c2, cr_1, refuse_F hq, bd_some, cr_2]
    · rw [if_neg c2]
      by_cases c3 : cr ν (sk t n p) ((sk t n p : Nat) : Int) l0 5 = 0
      · rw [if_pos c3, cr_1, refuse_F hq, bd_some, cr_2]
      · rw [if_neg c3, cr_2]
theorem celC_L {t : Nat → Int} {n l0 : Nat} (hk : kD l0 = (10, 9)) : ∀ (left fuel r p p0 w : Nat) (ν : Mm) (σ : CS), r + left = 5 → left < fuel → Tx t n ν → CelC ν l0 σ → ν l0 4 = (w : Int) → w ≤ 9 → bdS σ (10 * (r + 1)) → p ≤ n → (p0 = p ∨ p0 = sk t n p) →
    ∃ ν' p' f, X0_read_L12 l0 (fun μ15 => X0_read_J39 l0 μ15) fuel ((r + 1 : Nat) : Int) (cr ν p0 (-1)) = some (f, cr ν' p' f) ∧ fD l0 ν ν' ∧ match celN t n left r p w σ with
      | none => f ≠ -1
      | some q => f = -1 ∧ CelC ν' l0 q.2.2 ∧ ν' l0 4 = (q.2.1 : Int) := by
  have hl := kCr' hk
  have hl3 : l0 ≠ 3 := by omega
  intro left
  induction left with
  | zero =>
    intro fuel r p p0 w ν σ hrl hf h hC hw hw9 hb hp hp0
    obtain ⟨f', rfl, -⟩ := lt_fuel hf
    have hpp : p0 ≤ n ∧ pk t n p0 = pk t n p := by
      rcases hp0 with rfl | rfl
      · exact ⟨hp, rfl⟩
      · exact ⟨sk_le p hp, pk_sk p⟩
    obtain ⟨p', f, e1, e2⟩ := J39_eq hl3 h hC hpp.1
    rw [X0_read_L12, if_pos (by omega), e1]
    refine ⟨ν, p', f, rfl, fw_rf, ?_⟩
    rw [hpp.2] at e2
    unfold celN
    by_cases c : pk t n p = -1 ∧ σ.2.1 2 ≠ -1 ∧ σ.2.2.1 ≠ 0
    · rw [if_pos c] at e2 ⊢
      exact ⟨e2, hC, hw⟩
    · rw [if_neg c] at e2 ⊢
      exact e2
  | succ left ih =>
    intro fuel r p p0 w ν σ hrl hf h hC hw hw9 hb hp hp0
    obtain ⟨f', rfl, hf'⟩ := lt_fuel hf
    have h160 := h.1
    have hpp : p0 ≤ n ∧ pk t n p0 = pk t n p ∧ sk t n p0 = sk t n p := by
      rcases hp0 with rfl | rfl
      · exact ⟨hp, rfl, rfl⟩
      · exact ⟨sk_le p hp, pk_sk p, sk_sk p⟩
    rw [X0_read_L12, if_neg (by omega), take_eq h hpp.1 47 (by decide), hpp.2.1, hpp.2.2]
    unfold celN
    by_cases c : pk t n p = 47
    · have hq := pk_ne (t := t) (n := n) (p := p) (by omega)
      rw [if_pos c, if_pos c, bd_some, if_neg (by decide)]
      obtain ⟨ν1, p1, f1, e1, e2, e3⟩ := readRowC hk (r := r + 1) (w := w) (by omega) hw9 h hC (Or.inr hw) hb (p := sk t n p + 1) (by omega)
      rw [e1, bd_some, iA_nat (by omega)]
      revert e3
      cases hR : rowStep t n (r + 1) w (sk t n p + 1) σ with
      | none =>
        intro e3
        have e3 : f1 ≠ -1 := e3
        obtain ⟨f'', rfl, -⟩ := lt_fuel (d := 0) (n := f') (by omega)
        have : X0_read_L12 l0 (fun μ15 => X0_read_J39 l0 μ15) (f'' + 1) ((r + 1 + 1 : Nat) : Int) (cr ν1 p1 f1) = some (f1, cr ν1 p1 f1) := by
          rw [X0_read_L12]
          by_cases c8 : (6 : Int) ≤ ((r + 1 + 1 : Nat) : Int)
          · rw [if_pos c8, J39_F hl3 e3]
          · rw [if_neg c8, take_F e3 (by decide), bd_some, if_pos rfl, J39_F hl3 e3]
        rw [this]
        exact ⟨ν1, p1, f1, rfl, e2, e3⟩
      | some q =>
        intro e3
        obtain ⟨rfl, k2, k3, k4, k5, k6, k7⟩ := e3
        dsimp only
        obtain ⟨ν2, p2, f2, g1, g2, g3⟩ := ih f' (r + 1) q.1 p1 q.2.1 ν1 q.2.2 (by omega) hf' (Tx_fD hk h e2) k4 k5 k6 k7 k3 k2
        exact ⟨ν2, p2, f2, g1, fw_tr e2 g2, g3⟩
    · rw [if_neg c, if_neg c, bd_some, if_pos rfl]
      obtain ⟨p', f, e1, e2⟩ := J39_eq hl3 h hC (p := sk t n p) (sk_le p hp)
      rw [e1]
      refine ⟨ν, p', f, rfl, fw_rf, ?_⟩
      rw [pk_sk] at e2
      by_cases c : pk t n p = -1 ∧ σ.2.1 2 ≠ -1 ∧ σ.2.2.1 ≠ 0
      · rw [if_pos c] at e2 ⊢
        exact ⟨e2, hC, hw⟩
      · rw [if_neg c] at e2 ⊢
        exact e2
theorem cellarC {t : Nat → Int} {n l0 : Nat} (hk : kD l0 = (10, 9)) {ν : Mm} (h : Tx t n ν) :
    ∃ ν' p' f, X0_read l0 (cr ν 0 (-1)) = some (f, cr ν' p' f) ∧ fw (wK l0) ν ν' ∧ ν' l0 7 = 1 ∧ (∀ j, j < 8 → ν' (l0 + 3) j = 3) ∧ match celS t n with
      | none => f ≠ -1
      | some q => f = -1 ∧ CelC ν' l0 q.2.2 ∧ ν' l0 4 = (q.2.1 : Int) := by
  have hl := kCr' hk
  have hl3 : l0 ≠ 3 := by omega
  obtain ⟨ν1, e1, e2, e3, e4, e5, e6⟩ := clearC hk (cr ν 0 (-1))
  have c1 : ν1 3 1 = ((0 : Nat) : Int) := by rw [e2 3 1 (by unfold wK; omega), cr_1]
  have c2 : ν1 3 2 = -1 := by rw [e2 3 2 (by unfold wK; omega), cr_2]
  have hs := cr_self c1 c2
  have hT1 : Tx t n ν1 := by
    obtain ⟨h1, x, h2, h3, h4, h5⟩ := h
    have hx := kTr h3
    refine ⟨h1, x, ?_, h3, ?_, fun j hj => ?_⟩
    · rw [e2 3 0 (by unfold wK; omega), cr_0]; exact h2
    · rw [e2 x 1 (by have := kCr hk; unfold wK; omega), cr_c (by omega)]; exact h4
    · rw [e2 (x + 1) j (by have := kCr hk; unfold wK; omega), cr_c (by omega)]; exact h5 j hj
  have hfr : ∀ x, fD l0 ν1 x → ∃ y, (∀ p f, cr x p f = cr y p f) ∧ fw (wK l0) ν y ∧ (∀ k j, k ≠ 3 → y k j = x k j) := by
    intro x hx
    refine ⟨fun k j => if k = 3 then ν k j else x k j, fun p f => ?_, fun k j hn => ?_, fun k j hk3 => if_neg hk3⟩
    · funext k j
      unfold cr sM
      by_cases c1 : k = 3 ∧ j = 2
      · rw [if_pos c1, if_pos c1]
      · rw [if_neg c1, if_neg c1]
        by_cases c2 : k = 3 ∧ j = 1
        · rw [if_pos c2, if_pos c2]
        · rw [if_neg c2, if_neg c2]
          show x k j = if k = 3 then ν k j else x k j
          by_cases c3 : k = 3
          · rw [if_pos c3, hx k j (by unfold wD; omega), e2 k j (by unfold wK; omega), c3]
            unfold cr sM
            rw [if_neg (by omega), if_neg (by omega)]
          · rw [if_neg c3]
    · by_cases c3 : k = 3
      · exact if_pos c3
      · show (if k = 3 then ν k j else x k j) = ν k j
        rw [if_neg c3, hx k j (by unfold wK at hn; unfold wD; omega), e2 k j hn, cr_c c3]
  have c7 : ∀ x, fD l0 ν1 x → x l0 7 = 1 ∧ ∀ j, j < 8 → x (l0 + 3) j = 3 := fun x hx => ⟨by rw [hx l0 7 (by unfold wD; omega)]; exact e5, fun j hj => by rw [hx (l0 + 3) j (by unfold wD; omega)]; exact e6 j hj⟩
  have hCel : ∀ x y σ, (∀ k j, k ≠ 3 → y k j = x k j) → CelC x l0 σ → CelC y l0 σ := by
    intro x y σ hy ⟨a1, a2, a3, a4, a5⟩
    exact ⟨fun j hj => by rw [hy _ _ (by omega)]; exact a1 j hj, by rw [hy _ _ hl3]; exact a2, fun c hc => by rw [hy _ _ (by omega)]; exact a3 c hc, by rw [hy _ _ hl3]; exact a4, by rw [hy _ _ hl3]; exact a5⟩
  unfold X0_read
  rw [e1, bd_some, ← hs]
  have hb0 : bdS σ0 (10 * 0) := ⟨by decide, by decide, by decide, by decide⟩
  obtain ⟨ν2, p2, f2, g1, g2, g3⟩ := readRowC hk (r := 0) (w := 0) (by omega) (by omega) hT1 e3 (Or.inl rfl) hb0 (p := 0) (by omega)
  have g1' : X0_readRow l0 0 (cr ν1 0 (-1)) = some (0, cr ν2 p2 f2) := g1
  rw [g1', bd_some]
  unfold celS
  revert g3
  cases hR : rowStep t n 0 0 0 σ0 with
  | none =>
    intro g3
    have g3 : f2 ≠ -1 := g3
    have : X0_read_L12 l0 (fun μ15 => X0_read_J39 l0 μ15) (999999 + 1) 1 (cr ν2 p2 f2) = some (f2, cr ν2 p2 f2) := by
      rw [X0_read_L12, if_neg (by decide), take_F g3 (by decide), bd_some, if_pos rfl, J39_F hl3 g3]
    obtain ⟨y, y1, y2, y3⟩ := hfr ν2 g2
    refine ⟨y, p2, f2, ?_, y2, by rw [y3 _ _ hl3]; exact (c7 ν2 g2).1, fun j hj => by rw [y3 _ _ (by omega)]; exact (c7 ν2 g2).2 j hj, g3⟩
    rw [← y1]; exact this
  | some q =>
    intro g3
    obtain ⟨rfl, k2, k3, k4, k5, k6, k7⟩ := g3
    dsimp only
    obtain ⟨ν3, p3, f3, i1, i2, i3⟩ := celC_L hk 5 FU 0 q.1 p2 q.2.1 ν2 q.2.2 (by omega) (by decide) (Tx_fD hk hT1 g2) k4 k5 k6 k7 k3 k2
    have hx := fw_tr g2 i2
    obtain ⟨y, y1, y2, y3⟩ := hfr ν3 hx
    refine ⟨y, p3, f3, ?_, y2, by rw [y3 _ _ hl3]; exact (c7 ν3 hx).1, fun j hj => by rw [y3 _ _ (by omega)]; exact (c7 ν3 hx).2 j hj, ?_⟩
    · rw [← y1]; exact i1
    · revert i3
      cases celN t n 5 0 q.1 q.2.1 q.2.2 with
      | none => intro i3; exact i3
      | some z => intro i3; exact ⟨i3.1, hCel ν3 y _ y3 i3.2.1, by rw [y3 _ _ hl3]; exact i3.2.2⟩
/-! THE READER OF CELLARS, the reference's -/
theorem signOf_eq {x : Int} (hx : -1 ≤ x ∧ x ≤ 255) (μ : Mm) : X11_signOf x μ = some (sg x, μ) := by
  unfold X11_signOf sg
  by_cases h3 : x = 46
  · rw [if_pos h3, if_pos h3]
  · rw [if_neg h3, if_neg h3]
    by_cases h1 : x = 35
    · rw [if_pos h1, if_pos h1]
    · rw [if_neg h1, if_neg h1]
      by_cases h2 : x = 42
      · rw [if_pos h2, if_pos h2]
      · rw [if_neg h2, if_neg h2, iS_id (a := x) (by omega) (by omega), in_eq, bd_some]
        by_cases h4 : 65 ≤ x ∧ x ≤ 72
        · rw [b2_t (by omega), if_neg (by decide), if_pos h4, iA_id (by omega) (by omega), iS_id (by omega) (by omega)]
          congr 2
          omega
        · rw [b2_f (by omega), if_pos rfl, if_neg h4]
theorem pk_b {t : Nat → Int} {n : Nat} (hT : ∀ j, j < n → 1 ≤ t j ∧ t j ≤ 255) (p : Nat) : -1 ≤ pk t n p ∧ pk t n p ≤ 255 := by
  unfold pk
  by_cases c : sk t n p < n
  · rw [if_pos c]; have := hT _ c; omega
  · rw [if_neg c]; omega
theorem bit_set_n : ∀ c, c < 8 → ∀ x, x < 256 → bA (bR ((x : Nat) : Int) ((c : Nat) : Int)) 1 ≠ 1 → 0 ≤ bO ((x : Nat) : Int) (bL 1 ((c : Nat) : Int)) ∧ bO ((x : Nat) : Int) (bL 1 ((c : Nat) : Int)) ≤ 255 ∧ pc (bO ((x : Nat) : Int) (bL 1 ((c : Nat) : Int))) = pc ((x : Nat) : Int) + 1 := by decide +kernel
theorem bit_oth : ∀ c, c < 8 → ∀ d, d < 8 → c ≠ d → bA (bR (bL 1 ((c : Nat) : Int)) ((d : Nat) : Int)) 1 ≠ 1 := by decide +kernel
theorem bit_or {d : Nat} (hd : d < 10) (s x : Int) : bA (bR (bO s x) ((d : Nat) : Int)) 1 = 1 ↔ bA (bR s ((d : Nat) : Int)) 1 = 1 ∨ bA (bR x ((d : Nat) : Int)) 1 = 1 := by
  rw [bit_iff hd, bit_iff hd, bit_iff hd, bO_bits, BitVec.getLsbD_or, Bool.or_eq_true]
theorem bO_0 : ∀ x, x < 256 → bO ((x : Nat) : Int) 0 = ((x : Nat) : Int) := by decide +kernel
theorem pc_00 : pc 0 = 0 ∧ ∀ c, c < 8 → bA (bR 0 ((c : Nat) : Int)) 1 ≠ 1 := by decide +kernel
def CelM (μ : Mm) (σ : CS) : Prop := (∀ q, q < 60 → σ.1 q ≠ -1 → μ 81 q = σ.1 q) ∧ μ 70 21 = (if σ.2.1 2 = -1 then 0 else 1) ∧ (0 ≤ μ 70 20 ∧ μ 70 20 ≤ 255) ∧ (∀ c, c < 8 → (bA (bR (μ 70 20) ((c : Nat) : Int)) 1 = 1 ↔ σ.2.1 (3 + c) ≠ -1)) ∧ pc (μ 70 20) = σ.2.2.1
def wR (k j : Nat) : Prop := (k = 70 ∧ (j = 3 ∨ j = 4 ∨ (18 ≤ j ∧ j ≤ 21))) ∨ k = 81
def fR (μ μ' : Mm) : Prop := Bm μ' ∧ fw wR μ μ'
theorem fR_s {μ μ' : Mm} (h : fR μ μ') {c j : Nat} {v : Int} (hw : wR c j) (hv : (bm c j).1 ≤ v ∧ v ≤ (bm c j).2) : fR μ (sM μ' c j v) := ⟨Bm_sM h.1 hv, fw_sM h.2 hw⟩
theorem fR_tr {μ μ' μ'' : Mm} (h : fR μ μ') (h2 : fR μ' μ'') : fR μ μ'' := ⟨h2.1, fw_tr h.2 h2.2⟩
theorem Tm_fR {t : Nat → Int} {n : Nat} {μ μ' : Mm} (h : Tm t n μ) (hf : fR μ μ') : Tm t n μ' :=
  ⟨h.1, by rw [hf.2 70 2 (by unfold wR; omega)]; exact h.2.1, fun j hj => by rw [hf.2 71 j (by unfold wR; omega)]; exact h.2.2 j hj⟩
/-- one thing more lies in the row -/
def plm (μ : Mm) (pl : Nat) (v : Int) (b : Int) : Mm := sM (sM (sM μ 70 21 (if v = 2 ∨ μ 70 21 ≠ 0 then 1 else 0)) 70 20 b) 81 pl v
theorem CelM_u {μ : Mm} {σ : CS} (hC : CelM μ σ) {pl : Nat} (hpl : pl < 60) {v b : Int} (hv : 0 ≤ v ∧ v ≤ 10) (hn : ¬ (2 ≤ v ∧ σ.2.1 v.toNat ≠ -1)) (hb : b = if v < 3 then bO (μ 70 20) 0 else bO (μ 70 20) (bL 1 (v - 3))) : CelM (plm μ pl v b) (ups σ pl v) ∧ 0 ≤ b ∧ b ≤ 255 := by
  obtain ⟨c1, c2, c3, c4, c5⟩ := hC
  have hx : μ 70 20 = (((μ 70 20).toNat : Nat) : Int) := by omega
  have bits : (0 ≤ b ∧ b ≤ 255) ∧ (∀ c, c < 8 → (bA (bR b ((c : Nat) : Int)) 1 = 1 ↔ (ups σ pl v).2.1 (3 + c) ≠ -1)) ∧ pc b = (ups σ pl v).2.2.1 := by
    by_cases g : v < 3
    · have e : b = μ 70 20 := by
        rw [hb, if_pos g, hx]; exact bO_0 _ (by omega)
      rw [e]
      refine ⟨c3, fun c hc => ?_, ?_⟩
      · rw [c4 c hc]
        show _ ↔ (if 2 ≤ v ∧ 3 + c = v.toNat then (pl : Int) else σ.2.1 (3 + c)) ≠ -1
        rw [if_neg (by omega)]
      · rw [c5]
        show _ = σ.2.2.1 + (if 3 ≤ v then 1 else 0)
        rw [if_neg (by omega)]; omega
    · have e3 : v - 3 = (((v - 3).toNat : Nat) : Int) := by omega
      have hfree : bA (bR (μ 70 20) (((v - 3).toNat : Nat) : Int)) 1 ≠ 1 := by
        intro z
        have := (c4 (v - 3).toNat (by omega)).mp z
        have e5 : 3 + (v - 3).toNat = v.toNat := by omega
        rw [e5] at this
        exact hn ⟨by omega, this⟩
      have hset := bit_set_n (v - 3).toNat (by omega) (μ 70 20).toNat (by omega) (by rw [← hx]; exact hfree)
      rw [← hx, ← e3] at hset
      rw [if_neg g] at hb
      rw [← hb] at hset
      refine ⟨⟨hset.1, hset.2.1⟩, fun c hc => ?_, ?_⟩
      · rw [hb, bit_or (by omega), c4 c hc]
        show _ ↔ (if 2 ≤ v ∧ 3 + c = v.toNat then (pl : Int) else σ.2.1 (3 + c)) ≠ -1
        by_cases e : c = (v - 3).toNat
        · rw [if_pos (by omega)]
          constructor
          · intro _; omega
          · intro _; rw [e3, e]; exact Or.inr (bit_self _ (by omega))
        · rw [if_neg (by omega)]
          constructor
          · rintro (h | h)
            · exact h
            · rw [e3] at h
              exact absurd h (bit_oth _ (by omega) c hc (fun z => e z.symm))
          · exact Or.inl
      · rw [hset.2.2, c5]
        show _ = σ.2.2.1 + (if 3 ≤ v then 1 else 0)
        rw [if_pos (by omega)]
  unfold plm
  refine ⟨⟨fun q hq hne => ?_, ?_, ?_, ?_, ?_⟩, bits.1.1, bits.1.2⟩
  · rw [sM_if]
    show _ = if q = pl then v else σ.1 q
    by_cases e : q = pl
    · rw [if_pos e, if_pos e]
    · have hne : (if q = pl then v else σ.1 q) ≠ -1 := hne
      rw [if_neg e] at hne
      rw [if_neg e, if_neg e, sM_a (by decide), sM_a (by decide)]
      exact c1 q hq hne
  · rw [sM_a (by decide), sM_j (by decide), sM_s, c2]
    show _ = if (if 2 ≤ v ∧ 2 = v.toNat then (pl : Int) else σ.2.1 2) = -1 then 0 else 1
    by_cases e : v = 2
    · rw [if_pos (Or.inl e), if_neg (by rw [if_pos (by omega)]; omega)]
    · rw [if_neg (c := 2 ≤ v ∧ 2 = v.toNat) (by omega)]
      by_cases e2 : σ.2.1 2 = -1
      · rw [if_pos e2, if_neg (by omega)]
      · rw [if_neg e2, if_pos (by omega)]
  · rw [sM_a (by decide), sM_s]; exact bits.1
  · intro c hc
    rw [sM_a (by decide), sM_s]; exact bits.2.1 c hc
  · rw [sM_a (by decide), sM_s]; exact bits.2.2
def K83 : Mm → Rs := fun μ47 => bd (X11_bad μ47) fun v48 μ49 => some (0, μ49)
theorem rowM {t : Nat → Int} {n : Nat} (hT : ∀ j, j < n → 1 ≤ t j ∧ t j ≤ 255) {r m w : Nat} (hr : 10 * r + m ≤ 60) (hm9 : m ≤ 9) (hm : m = if r = 0 then 9 else w) (K : Int → Mm → Rs) : ∀ (k fuel j p : Nat) (μ : Mm) (σ : CS), j + k = m → k + 1 < fuel → Bm μ → Tm t n μ → μ 70 4 = -1 → CelM μ σ → μ 70 18 = (r : Int) → (r = 0 ∨ μ 70 19 = (w : Int)) → p ≤ n →
    match rowS t n k p (10 * r + j) σ with
      | none => ∃ μ' a, X11_rowText_L10 K K83 fuel (j : Int) (sg (pk t n p)) (ma μ (sk t n p)) = some (0, ma μ' a) ∧ a ≤ n ∧ fR μ μ' ∧ μ' 70 4 ≠ -1
      | some q => if sg (pk t n q.1) = -1 then ∃ μ' j', X11_rowText_L10 K K83 fuel (j : Int) (sg (pk t n p)) (ma μ (sk t n p)) = K ((j' : Nat) : Int) (ma μ' (sk t n q.1)) ∧ q.2.1 = 10 * r + j' ∧ j' ≤ m ∧ q.1 ≤ n ∧ fR μ μ' ∧ μ' 70 4 = -1 ∧ CelM μ' q.2.2 ∧ μ' 70 18 = (r : Int) ∧ (r = 0 ∨ μ' 70 19 = (w : Int))
        else ∃ μ' a, X11_rowText_L10 K K83 fuel (j : Int) (sg (pk t n p)) (ma μ (sk t n p)) = some (0, ma μ' a) ∧ a ≤ n ∧ fR μ μ' ∧ μ' 70 4 ≠ -1 := by
  intro k
  induction k with
  | zero =>
    intro fuel j p μ σ hj hf hB h hw hC h18 h19 hp
    obtain ⟨f', rfl, -⟩ := lt_fuel hf
    have hq := sk_le (t := t) (n := n) p hp
    unfold rowS
    dsimp only
    have hs := sg_b (pk t n p)
    rw [X11_rowText_L10, ma_j (by decide), if_pos hw]
    by_cases c : sg (pk t n p) = -1
    · rw [if_pos c, if_pos c]
      exact ⟨μ, j, rfl, rfl, by omega, hp, ⟨hB, fw_rf⟩, hw, hC, h18, h19⟩
    · rw [if_neg c, if_neg c]
      have h160 := h.1
      have hbad : K83 (ma μ (sk t n p)) = some (0, ma (sM μ 70 4 ((sk t n p : Nat) : Int)) (sk t n p)) := by
        unfold K83; rw [bad_eq hw, bd_some]
      have fin : ∃ μ' a, K83 (ma μ (sk t n p)) = some (0, ma μ' a) ∧ a ≤ n ∧ fR μ μ' ∧ μ' 70 4 ≠ -1 := ⟨_, _, hbad, hq, fR_s ⟨hB, fw_rf⟩ (by unfold wR; omega) (show (-1 : Int) ≤ ((sk t n p : Nat) : Int) ∧ ((sk t n p : Nat) : Int) ≤ 1000 by omega), by rw [sM_s]; omega⟩
      have h53 : ∀ k10 : Int → Int → Mm → Rs, X11_rowText_J53 k10 (fun μq => K83 μq) (j : Int) (sg (pk t n p)) (ma μ (sk t n p)) = K83 (ma μ (sk t n p)) := by
        intro k10; unfold X11_rowText_J53 X11_rowText_J58; rw [if_neg (by decide)]
      have h57 : ∀ k10 : Int → Int → Mm → Rs, X11_rowText_J57 k10 (fun μq => K83 μq) (j : Int) (sg (pk t n p)) (ma μ (sk t n p)) = K83 (ma μ (sk t n p)) := by
        intro k10
        unfold X11_rowText_J57 X11_rowText_J58
        rw [if_pos rfl, ma_j (by decide), h18]
        by_cases c0 : r = 0
        · unfold X11_rowText_J80
          rw [if_pos (by omega), if_pos (by rw [if_pos c0] at hm; omega)]
        · unfold X11_rowText_J80
          rw [if_neg (by omega), ma_j (by decide), h19.resolve_left c0, if_pos (by rw [if_neg c0] at hm; omega)]
      have h35 : ∀ k10 : Int → Int → Mm → Rs, X11_rowText_J35 k10 (fun μq => K83 μq) (j : Int) (sg (pk t n p)) (ma μ (sk t n p)) = K83 (ma μ (sk t n p)) := by
        intro k10
        unfold X11_rowText_J35
        by_cases c3 : sg (pk t n p) < 3
        · rw [if_pos c3]; exact h57 _
        · rw [if_neg c3]
          unfold X11_has
          by_cases c4 : bA (bR (ma μ (sk t n p) 70 20) (iS (sg (pk t n p)) 3)) 1 = 1
          · rw [if_pos c4, bd_some, if_neg (by decide)]; exact h53 _
          · rw [if_neg c4, bd_some, if_pos rfl]; exact h57 _
      by_cases c2 : sg (pk t n p) = 2
      · rw [if_pos c2]
        by_cases c3 : ma μ (sk t n p) 70 21 = 0
        · rw [if_pos c3, h35]; exact fin
        · rw [if_neg c3, h53]; exact fin
      · rw [if_neg c2, h35]; exact fin
  | succ k ih =>
    intro fuel j p μ σ hj hf hB h hw hC h18 h19 hp
    obtain ⟨f', rfl, hf'⟩ := lt_fuel (d := k + 2) hf
    have hq := sk_le (t := t) (n := n) p hp
    have hs := sg_b (pk t n p)
    have h160 := h.1
    unfold rowS
    rw [X11_rowText_L10, ma_j (by decide), if_pos hw]
    by_cases c : sg (pk t n p) = -1
    · rw [if_pos c, if_pos c]
      dsimp only
      rw [if_pos c]
      exact ⟨μ, j, rfl, rfl, by omega, hp, ⟨hB, fw_rf⟩, hw, hC, h18, h19⟩
    · rw [if_neg c, if_neg c]
      have hqn : sk t n p < n := by
        refine (pk_ne (t := t) (n := n) (p := p) (fun e => c ?_)).1
        rw [e]; rfl
      have hbad : K83 (ma μ (sk t n p)) = some (0, ma (sM μ 70 4 ((sk t n p : Nat) : Int)) (sk t n p)) := by
        unfold K83; rw [bad_eq hw, bd_some]
      have fin : ∃ μ' a, K83 (ma μ (sk t n p)) = some (0, ma μ' a) ∧ a ≤ n ∧ fR μ μ' ∧ μ' 70 4 ≠ -1 := ⟨_, _, hbad, hq, fR_s ⟨hB, fw_rf⟩ (by unfold wR; omega) (show (-1 : Int) ≤ ((sk t n p : Nat) : Int) ∧ ((sk t n p : Nat) : Int) ≤ 1000 by omega), by rw [sM_s]; omega⟩
      have h53 : X11_rowText_J53 (fun w1 w2 μq => X11_rowText_L10 K K83 f' w1 w2 μq) (fun μq => K83 μq) (j : Int) (sg (pk t n p)) (ma μ (sk t n p)) = K83 (ma μ (sk t n p)) := by
        unfold X11_rowText_J53 X11_rowText_J58; rw [if_neg (by decide)]
      obtain ⟨c1, c2, c3, c4, c5⟩ := id hC
      have b60 : (0 : Int) ≤ ((10 * r + j : Nat) : Int) ∧ ((10 * r + j : Nat) : Int) < ((aN 81 : Nat) : Int) := by show _ ∧ _ < (60 : Int); omega
      have bsk : sk t n p < 100000 := by omega
      have bsk1 : sk t n p + 1 < 100000 := by omega
      have bj : j < 100000 := by omega
      -- the memory with one thing more
      have stepE : ∀ b : Int, b = (if sg (pk t n p) < 3 then bO (μ 70 20) 0 else bO (μ 70 20) (bL 1 (sg (pk t n p) - 3))) → X11_rowText_J57 (fun w1 w2 μq => X11_rowText_L10 K K83 f' w1 w2 μq) (fun μq => K83 μq) (j : Int) (sg (pk t n p)) (ma μ (sk t n p)) = X11_rowText_L10 K K83 f' ((j + 1 : Nat) : Int) (sg (pk t n (sk t n p + 1))) (ma (plm μ (10 * r + j) (sg (pk t n p)) b) (sk t n (sk t n p + 1))) := by
        intro b hb
        have J106 : ∀ s : Int, s = (if sg (pk t n p) = 2 ∨ μ 70 21 ≠ 0 then 1 else 0) → X11_rowText_J106 (fun w1 w2 μq => X11_rowText_L10 K K83 f' w1 w2 μq) (j : Int) (sg (pk t n p)) s (ma μ (sk t n p)) = X11_rowText_L10 K K83 f' ((j + 1 : Nat) : Int) (sg (pk t n (sk t n p + 1))) (ma (plm μ (10 * r + j) (sg (pk t n p)) b) (sk t n (sk t n p + 1))) := by
          intro s hs1
          have hs01 : s = 0 ∨ s = 1 := by rw [hs1]; split <;> omega
          unfold X11_rowText_J106 sZ
          rw [if_pos hs01, ma_s (by decide)]
          dsimp only
          have J128 : ∀ x : Int, b = bO (μ 70 20) x → X11_rowText_J128 (fun w1 w2 μq => X11_rowText_L10 K K83 f' w1 w2 μq) (j : Int) (sg (pk t n p)) (ma (sM μ 70 21 s) (sk t n p) 70 20) x (ma (sM μ 70 21 s) (sk t n p)) = X11_rowText_L10 K K83 f' ((j + 1 : Nat) : Int) (sg (pk t n (sk t n p + 1))) (ma (plm μ (10 * r + j) (sg (pk t n p)) b) (sk t n (sk t n p + 1))) := by
            intro x hx
            have q20 : ma (sM μ 70 21 s) (sk t n p) 70 20 = μ 70 20 := by rw [ma_j (by decide), sM_j (by decide)]
            have q18 : ma (sM (sM μ 70 21 s) 70 20 b) (sk t n p) 70 18 = (r : Int) := by rw [ma_j (by decide), sM_j (by decide), sM_j (by decide)]; exact h18
            unfold X11_rowText_J128 sF stA
            dsimp only
            rw [q20, ← hx, ma_s (c := 70) (j := 20) (by decide), q18]
            have epl : iA (iM 10 (r : Int)) (j : Int) = ((10 * r + j : Nat) : Int) := by
              rw [iM_id (by omega) (by omega), iA_id (by omega) (by omega)]; omega
            rw [epl, if_pos b60, Int.toNat_natCast, ma_s (c := 81) (fun e => absurd e.1 (by decide)), ma_3, iA_nat (p := sk t n p) bsk, ma_ma]
            have hpl : sM (sM (sM μ 70 21 s) 70 20 b) 81 (10 * r + j) (sg (pk t n p)) = plm μ (10 * r + j) (sg (pk t n p)) b := by
              unfold plm; rw [hs1]
            rw [hpl]
            have hTm : Tm t n (plm μ (10 * r + j) (sg (pk t n p)) b) := by
              unfold plm
              exact Tm_s (Tm_s (Tm_s h (by decide) (by decide)) (by decide) (by decide)) (fun e => absurd e.1 (by decide)) (by decide)
            rw [look_eq hTm bsk1, bd_some, signOf_eq (pk_b hT _), bd_some, iA_nat (p := j) bj]
          by_cases g3 : sg (pk t n p) < 3
          · rw [if_pos g3] at hb
            rw [if_pos g3]
            exact J128 0 hb
          · rw [if_neg g3] at hb
            rw [if_neg g3, iS_id (by omega) (by omega)]
            exact J128 _ hb
        have J80 : ∀ s1 : Int, (j : Int) ≠ s1 → X11_rowText_J80 (fun w1 w2 μq => X11_rowText_L10 K K83 f' w1 w2 μq) (fun μq => K83 μq) (j : Int) (sg (pk t n p)) (j : Int) s1 (ma μ (sk t n p)) = X11_rowText_L10 K K83 f' ((j + 1 : Nat) : Int) (sg (pk t n (sk t n p + 1))) (ma (plm μ (10 * r + j) (sg (pk t n p)) b) (sk t n (sk t n p + 1))) := by
          intro s1 hne
          unfold X11_rowText_J80 X11_rowText_J101
          rw [if_neg hne, ma_j (by decide)]
          by_cases g1 : μ 70 21 = 0
          · rw [if_pos g1]
            by_cases g2 : sg (pk t n p) = 2
            · rw [if_pos g2]; exact J106 1 (by rw [if_pos (Or.inl g2)])
            · rw [if_neg g2]; exact J106 0 (by rw [if_neg (by omega)])
          · rw [if_neg g1]; exact J106 1 (by rw [if_pos (Or.inr g1)])
        unfold X11_rowText_J57 X11_rowText_J58
        rw [if_pos rfl, ma_j (by decide), h18]
        by_cases c0 : r = 0
        · rw [if_pos (by omega)]
          exact J80 9 (by rw [if_pos c0] at hm; omega)
        · rw [if_neg (by omega), ma_j (by decide), h19.resolve_left c0]
          exact J80 _ (by rw [if_neg c0] at hm; omega)
      by_cases g : 2 ≤ sg (pk t n p) ∧ σ.2.1 (sg (pk t n p)).toNat ≠ -1
      · rw [if_pos g]
        dsimp only
        by_cases g2 : sg (pk t n p) = 2
        · have e2 : (sg (pk t n p)).toNat = 2 := by omega
          have : ma μ (sk t n p) 70 21 ≠ 0 := by
            rw [ma_j (by decide), c2, if_neg (by rw [e2] at g; exact g.2)]; decide
          rw [if_pos g2, if_neg this, h53]
          exact fin
        · rw [if_neg g2]
          unfold X11_rowText_J35 X11_has
          have e3 : sg (pk t n p) - 3 = (((sg (pk t n p) - 3).toNat : Nat) : Int) := by omega
          have e5 : 3 + (sg (pk t n p) - 3).toNat = (sg (pk t n p)).toNat := by omega
          rw [if_neg (by omega), ma_j (by decide), iS_id (by omega) (by omega), e3, if_pos ((c4 _ (by omega)).mpr (by rw [e5]; exact g.2)), bd_some, if_neg (by decide)]
          rw [h53]
          exact fin
      · rw [if_neg g]
        obtain ⟨hC1, hb1, hb2⟩ := CelM_u hC (pl := 10 * r + j) (by omega) (v := sg (pk t n p)) (b := if sg (pk t n p) < 3 then bO (μ 70 20) 0 else bO (μ 70 20) (bL 1 (sg (pk t n p) - 3))) (by omega) g rfl
        have hE := stepE _ rfl
        revert hE hC1 hb1 hb2
        generalize (if sg (pk t n p) < 3 then bO (μ 70 20) 0 else bO (μ 70 20) (bL 1 (sg (pk t n p) - 3))) = b
        intro hC1 hb1 hb2 hE
        have hL : (if sg (pk t n p) = 2 then (if ma μ (sk t n p) 70 21 = 0 then X11_rowText_J35 (fun w1 w2 μq => X11_rowText_L10 K K83 f' w1 w2 μq) (fun μq => K83 μq) (j : Int) (sg (pk t n p)) (ma μ (sk t n p)) else X11_rowText_J53 (fun w1 w2 μq => X11_rowText_L10 K K83 f' w1 w2 μq) (fun μq => K83 μq) (j : Int) (sg (pk t n p)) (ma μ (sk t n p))) else X11_rowText_J35 (fun w1 w2 μq => X11_rowText_L10 K K83 f' w1 w2 μq) (fun μq => K83 μq) (j : Int) (sg (pk t n p)) (ma μ (sk t n p))) = X11_rowText_L10 K K83 f' ((j + 1 : Nat) : Int) (sg (pk t n (sk t n p + 1))) (ma (plm μ (10 * r + j) (sg (pk t n p)) b) (sk t n (sk t n p + 1))) := by
          by_cases g2 : sg (pk t n p) = 2
          · have e2 : (sg (pk t n p)).toNat = 2 := by omega
            have h0 : σ.2.1 2 = -1 := by
              by_cases z : σ.2.1 2 = -1
              · exact z
              · exact absurd ⟨by omega, by rw [e2]; exact z⟩ g
            have : ma μ (sk t n p) 70 21 = 0 := by
              rw [ma_j (by decide), c2, if_pos h0]
            rw [if_pos g2, if_pos this]
            unfold X11_rowText_J35
            rw [if_pos (by omega)]
            exact hE
          · rw [if_neg g2]
            unfold X11_rowText_J35 X11_has
            by_cases g3 : sg (pk t n p) < 3
            · rw [if_pos g3]; exact hE
            · have e3 : sg (pk t n p) - 3 = (((sg (pk t n p) - 3).toNat : Nat) : Int) := by omega
              have e5 : 3 + (sg (pk t n p) - 3).toNat = (sg (pk t n p)).toNat := by omega
              rw [if_neg g3, ma_j (by decide), iS_id (by omega) (by omega), e3, if_neg (fun z => g ⟨by omega, by have := (c4 _ (by omega)).mp z; rw [e5] at this; exact this⟩), bd_some, if_pos rfl]
              exact hE
        rw [hL]
        have f1 : fR μ (plm μ (10 * r + j) (sg (pk t n p)) b) := by
          unfold plm
          refine fR_s (fR_s (fR_s ⟨hB, fw_rf⟩ (by unfold wR; omega) ?_) (by unfold wR; omega) ?_) (by unfold wR; omega) ?_
          · show (0 : Int) ≤ (if _ then 1 else 0) ∧ (if _ then 1 else 0) ≤ (1 : Int)
            split <;> omega
          · show (-2147483648 : Int) ≤ b ∧ b ≤ 2147483647
            omega
          · show (-1 : Int) ≤ _ ∧ _ ≤ (10 : Int)
            omega
        have p70 : ∀ q, q ≠ 20 → q ≠ 21 → plm μ (10 * r + j) (sg (pk t n p)) b 70 q = μ 70 q := fun q h20 h21 => by
          unfold plm; rw [sM_a (by decide), sM_j h20, sM_j h21]
        have := ih f' (j + 1) (sk t n p + 1) (plm μ (10 * r + j) (sg (pk t n p)) b) (ups σ (10 * r + j) (sg (pk t n p))) (by omega) (by omega) f1.1 (Tm_fR h f1) (by rw [p70 4 (by decide) (by decide)]; exact hw) hC1 (by rw [p70 18 (by decide) (by decide)]; exact h18) (by rw [p70 19 (by decide) (by decide)]; exact h19) (by omega)
        have ea : 10 * r + j + 1 = 10 * r + (j + 1) := rfl
        rw [ea]
        revert this
        cases rowS t n k (sk t n p + 1) (10 * r + (j + 1)) (ups σ (10 * r + j) (sg (pk t n p))) with
        | none =>
          rintro ⟨μ', a, g1, g2, g3, g4⟩
          exact ⟨μ', a, g1, g2, fR_tr f1 g3, g4⟩
        | some q =>
          dsimp only
          by_cases z : sg (pk t n q.1) = -1
          · rw [if_pos z, if_pos z]
            rintro ⟨μ', j', g1, g2, g3, g4, g5, g6⟩
            exact ⟨μ', j', g1, g2, g3, g4, fR_tr f1 g5, g6⟩
          · rw [if_neg z, if_neg z]
            rintro ⟨μ', a, g1, g2, g3, g4⟩
            exact ⟨μ', a, g1, g2, fR_tr f1 g3, g4⟩
/-! THE READER OF CELLARS, the reference's: all of it -/
theorem J198_eq {μ : Mm} {r j w a : Nat} (hr : r ≤ 5) (h18 : μ 70 18 = (r : Int)) (h19 : r = 0 ∨ μ 70 19 = (w : Int)) : X11_rowText_J198 (j : Int) (ma μ a) = some (0, ma (sM (sM μ 70 19 ((if r = 0 then j else w : Nat) : Int)) 70 18 ((r + 1 : Nat) : Int)) a) := by
  unfold X11_rowText_J198 sF
  dsimp only
  rw [ma_j (by decide), h18]
  by_cases c : r = 0
  · rw [if_pos (by omega), if_pos c, ma_s (by decide), ma_j (by decide), sM_j (by decide), h18, iA_nat (by omega), ma_s (by decide)]
  · rw [if_neg (by omega), if_neg c, ma_j (j := 19) (by decide), h19.resolve_left c, ma_s (by decide), ma_j (by decide), sM_j (by decide), h18, iA_nat (by omega), ma_s (by decide)]
theorem rowTextM {t : Nat → Int} {n : Nat} (hT : ∀ j, j < n → 1 ≤ t j ∧ t j ≤ 255) {r w : Nat} (hr : r ≤ 5) (hw9 : r = 0 ∨ (2 ≤ w ∧ w ≤ 9)) {μ : Mm} {σ : CS} (hB : Bm μ) (h : Tm t n μ) (hw : μ 70 4 = -1) (hC : CelM μ σ) (h18 : μ 70 18 = (r : Int)) (h19 : r = 0 ∨ μ 70 19 = (w : Int)) {p : Nat} (hp : p ≤ n) :
    match rowStep t n r w p σ with
      | none => ∃ μ' a, X11_rowText (ma μ p) = some (0, ma μ' a) ∧ a ≤ n ∧ fR μ μ' ∧ μ' 70 4 ≠ -1
      | some q => if sg (pk t n q.1) = -1 then ∃ μ', X11_rowText (ma μ p) = some (0, ma μ' (sk t n q.1)) ∧ q.1 ≤ n ∧ fR μ μ' ∧ μ' 70 4 = -1 ∧ CelM μ' q.2.2 ∧ μ' 70 18 = ((r + 1 : Nat) : Int) ∧ μ' 70 19 = (q.2.1 : Int) ∧ 2 ≤ q.2.1 ∧ q.2.1 ≤ 9
        else ∃ μ' a, X11_rowText (ma μ p) = some (0, ma μ' a) ∧ a ≤ n ∧ fR μ μ' ∧ μ' 70 4 ≠ -1 := by
  have h160 := h.1
  have e0 : X11_rowText (ma μ p) = X11_rowText_L10 (fun v34 μ35 => X11_rowText_J171 v34 μ35) K83 FU ((0 : Nat) : Int) (sg (pk t n p)) (ma μ (sk t n p)) := by
    unfold X11_rowText
    rw [look_eq h (by omega), bd_some, signOf_eq (pk_b hT p), bd_some]
    rfl
  have hm9 : (if r = 0 then 9 else w) ≤ 9 := by split <;> omega
  have hm60 : 10 * r + (if r = 0 then 9 else w) ≤ 60 := by split <;> omega
  have hR := rowM hT (r := r) (w := w) hm60 hm9 rfl (fun v34 μ35 => X11_rowText_J171 v34 μ35) (if r = 0 then 9 else w) FU 0 p μ σ (by omega) (by show _ < 1000000; omega) hB h hw hC h18 h19 hp
  rw [Nat.add_zero] at hR
  rw [e0]
  unfold rowStep
  revert hR
  cases rowS t n (if r = 0 then 9 else w) p (10 * r) σ with
  | none => exact id
  | some q =>
    dsimp only
    by_cases z : sg (pk t n q.1) = -1
    · rw [if_pos z]
      rintro ⟨μ1, j', g1, g2, g3, g4, g5, g6, g7, g8, g9⟩
      rw [g1]
      have ej : q.2.1 - 10 * r = j' := by omega
      rw [ej]
      have hs := sk_le (t := t) (n := n) q.1 g4
      have bad : ∃ μ' a, X11_rowText_J194 (j' : Int) (ma μ1 (sk t n q.1)) = some (0, ma μ' a) ∧ a ≤ n ∧ fR μ μ' ∧ μ' 70 4 ≠ -1 := by
        unfold X11_rowText_J194
        have f1 : fR μ (sM μ1 70 4 ((sk t n q.1 : Nat) : Int)) := fR_s g5 (by unfold wR; omega) (show (-1 : Int) ≤ ((sk t n q.1 : Nat) : Int) ∧ ((sk t n q.1 : Nat) : Int) ≤ 1000 by omega)
        rw [bad_eq g6, bd_some, J198_eq hr (by rw [sM_j (by decide)]; exact g8) (by rw [sM_j (by decide)]; exact g9)]
        refine ⟨_, _, rfl, hs, fR_s (fR_s f1 (by unfold wR; omega) ?_) (by unfold wR; omega) ?_, ?_⟩
        · show (0 : Int) ≤ ((if r = 0 then j' else w : Nat) : Int) ∧ ((if r = 0 then j' else w : Nat) : Int) ≤ 9
          split <;> omega
        · show (0 : Int) ≤ ((r + 1 : Nat) : Int) ∧ ((r + 1 : Nat) : Int) ≤ 7
          omega
        · rw [sM_j (by decide), sM_j (by decide), sM_s]; omega
      have good : 2 ≤ (if r = 0 then j' else w) → (if r = 0 then j' else w) ≤ 9 → ∃ μ', X11_rowText_J198 (j' : Int) (ma μ1 (sk t n q.1)) = some (0, ma μ' (sk t n q.1)) ∧ q.1 ≤ n ∧ fR μ μ' ∧ μ' 70 4 = -1 ∧ CelM μ' q.2.2 ∧ μ' 70 18 = ((r + 1 : Nat) : Int) ∧ μ' 70 19 = ((if r = 0 then j' else w : Nat) : Int) ∧ 2 ≤ (if r = 0 then j' else w) ∧ (if r = 0 then j' else w) ≤ 9 := by
        intro w2 w9
        rw [J198_eq hr g8 g9]
        refine ⟨_, rfl, g4, fR_s (fR_s g5 (by unfold wR; omega) ?_) (by unfold wR; omega) ?_, ?_, ?_, ?_, ?_, w2, w9⟩
        · show (0 : Int) ≤ ((if r = 0 then j' else w : Nat) : Int) ∧ ((if r = 0 then j' else w : Nat) : Int) ≤ 9
          omega
        · show (0 : Int) ≤ ((r + 1 : Nat) : Int) ∧ ((r + 1 : Nat) : Int) ≤ 7
          omega
        · rw [sM_j (by decide), sM_j (by decide)]; exact g6
        · obtain ⟨a1, a2, a3, a4, a5⟩ := g7
          refine ⟨fun x hx hne => by rw [sM_a (by decide), sM_a (by decide)]; exact a1 x hx hne, by rw [sM_j (by decide), sM_j (by decide)]; exact a2, by rw [sM_j (by decide), sM_j (by decide)]; exact a3, fun c hc => by rw [sM_j (by decide), sM_j (by decide)]; exact a4 c hc, by rw [sM_j (by decide), sM_j (by decide)]; exact a5⟩
        · rw [sM_s]
        · rw [sM_j (by decide), sM_s]
      have hJ : X11_rowText_J171 (j' : Int) (ma μ1 (sk t n q.1)) = if j' < 2 ∨ j' < (if r = 0 then j' else w) then X11_rowText_J194 (j' : Int) (ma μ1 (sk t n q.1)) else X11_rowText_J198 (j' : Int) (ma μ1 (sk t n q.1)) := by
        unfold X11_rowText_J171
        rw [ma_j (by decide), g8]
        by_cases c0 : r = 0
        · rw [if_pos (by omega), if_pos c0]
          by_cases c2 : j' < 2
          · rw [if_neg (by omega), if_pos (Or.inl c2)]
          · rw [if_pos (by omega), if_neg (by omega)]
        · rw [if_neg (by omega), if_neg c0, ma_j (by decide), g9.resolve_left c0]
          by_cases c2 : j' < w
          · rw [if_neg (by omega), if_pos (Or.inr c2)]
          · rw [if_pos (by omega), if_neg (by omega)]
      rw [hJ]
      by_cases cc : j' < 2 ∨ j' < (if r = 0 then j' else w)
      · rw [if_pos cc, if_pos cc]
        exact bad
      · rw [if_neg cc, if_neg cc]
        dsimp only
        rw [if_pos z]
        by_cases c0 : r = 0
        · rw [if_pos c0] at good g3 cc ⊢
          exact good (by omega) g3
        · rw [if_neg c0] at good cc ⊢
          exact good (by omega) (by omega)
    · rw [if_neg z]
      rintro ⟨μ', a, g1, g2, g3, g4⟩
      rw [g1]
      by_cases c : q.2.1 - 10 * r < 2 ∨ q.2.1 - 10 * r < (if r = 0 then q.2.1 - 10 * r else w)
      · rw [if_pos c]
        exact ⟨μ', a, rfl, g2, g3, g4⟩
      · rw [if_neg c]
        dsimp only
        rw [if_neg z]
        exact ⟨μ', a, rfl, g2, g3, g4⟩
theorem celN_sg {t : Nat → Int} {n left r p w : Nat} {σ : CS} (h : sg (pk t n p) ≠ -1) : celN t n left r p w σ = none := by
  have h1 : pk t n p ≠ 47 := fun e => h (by rw [e]; rfl)
  have h2 : pk t n p ≠ -1 := fun e => h (by rw [e]; rfl)
  cases left with
  | zero => rw [celN, if_neg (fun z => h2 z.1)]
  | succ left => rw [celN, if_neg h1, if_neg (fun z => h2 z.1)]
theorem pc_pos : ∀ x, x < 256 → (pc ((x : Nat) : Int) = 0 ↔ x = 0) := by decide +kernel
def K96 : Mm → Rs := fun μ21 => X11_readCellar_J96 μ21
theorem K96_F {x : Mm} {b : Nat} (hw : x 70 4 ≠ -1) : K96 (ma x b) = some (x 70 4, ma x b) := by
  unfold K96 X11_readCellar_J96
  rw [ma_j (by decide), if_neg hw]
theorem K96_eq {t : Nat → Int} {n : Nat} {x : Mm} {σ : CS} (hx : Tm t n x) (hB : Bm x) {b : Nat} (hb : b ≤ n) (hw : x 70 4 = -1) (hC : CelM x σ) : ∃ f x' a, K96 (ma x b) = some (f, ma x' a) ∧ a ≤ n + 1 ∧ fR x x' ∧ x' 70 4 = f ∧ if pk t n b = -1 ∧ σ.2.1 2 ≠ -1 ∧ σ.2.2.1 ≠ 0 then f = -1 ∧ x' = x else f ≠ -1 := by
  have h160 := hx.1
  have hs := sk_le (t := t) (n := n) b hb
  have hbad : K96 (ma x b) = some (((sk t n b : Nat) : Int), ma (sM x 70 4 ((sk t n b : Nat) : Int)) (sk t n b)) → ∃ f x' a, K96 (ma x b) = some (f, ma x' a) ∧ a ≤ n + 1 ∧ fR x x' ∧ x' 70 4 = f ∧ f ≠ -1 := fun e => ⟨_, _, _, e, by omega, fR_s ⟨hB, fw_rf⟩ (by unfold wR; omega) (show (-1 : Int) ≤ ((sk t n b : Nat) : Int) ∧ ((sk t n b : Nat) : Int) ≤ 1000 by omega), by rw [sM_s], by omega⟩
  have wrap : ∀ {P : Prop} [Decidable P], ¬ P → (∃ f x' a, K96 (ma x b) = some (f, ma x' a) ∧ a ≤ n + 1 ∧ fR x x' ∧ x' 70 4 = f ∧ f ≠ -1) → ∃ f x' a, K96 (ma x b) = some (f, ma x' a) ∧ a ≤ n + 1 ∧ fR x x' ∧ x' 70 4 = f ∧ if P then f = -1 ∧ x' = x else f ≠ -1 := by
    intro P _ hP ⟨f, x', a, g1, g2, g3, g4, g5⟩
    exact ⟨f, x', a, g1, g2, g3, g4, by rw [if_neg hP]; exact g5⟩
  obtain ⟨c1, c2, c3, c4, c5⟩ := hC
  have hbadE : X11_bad (ma x (sk t n b)) = some (0, ma (sM x 70 4 ((sk t n b : Nat) : Int)) (sk t n b)) := bad_eq hw
  have hx20 : x 70 20 = (((x 70 20).toNat : Nat) : Int) := by omega
  have hpc := pc_pos (x 70 20).toNat (by omega)
  rw [← hx20, c5] at hpc
  have main : K96 (ma x b) = (if pk t n b = -1 then (if x 70 21 = 0 then some (((sk t n b : Nat) : Int), ma (sM x 70 4 ((sk t n b : Nat) : Int)) (sk t n b)) else (if x 70 20 = 0 then some (((sk t n b : Nat) : Int), ma (sM x 70 4 ((sk t n b : Nat) : Int)) (sk t n b)) else some (-1, ma x (sk t n b)))) else some (((sk t n b : Nat) : Int), ma (sM x 70 4 ((sk t n b : Nat) : Int)) (sk t n b))) := by
    unfold K96 X11_readCellar_J96
    rw [ma_j (by decide), if_pos hw, look_eq hx (by omega), bd_some, hbadE, ma_j (by decide), ma_j (by decide), ma_j (by decide), hw, bd_some, ma_j (by decide), sM_s]
  by_cases d1 : pk t n b = -1
  · by_cases d2 : σ.2.1 2 = -1
    · refine wrap (fun z => z.2.1 d2) (hbad ?_)
      rw [main, if_pos d1, if_pos (by rw [c2, if_pos d2])]
    · by_cases d3 : σ.2.2.1 = 0
      · refine wrap (fun z => z.2.2 d3) (hbad ?_)
        rw [main, if_pos d1, if_neg (by rw [c2, if_neg d2]; decide), if_pos (by have := hpc.mp d3; omega)]
      · refine ⟨-1, x, sk t n b, ?_, by omega, ⟨hB, fw_rf⟩, hw, ?_⟩
        · rw [main, if_pos d1, if_neg (by rw [c2, if_neg d2]; decide), if_neg (fun e => d3 (hpc.mpr (by omega)))]
        · rw [if_pos ⟨d1, d2, d3⟩]; exact ⟨rfl, rfl⟩
  · refine wrap (fun z => d1 z.1) (hbad ?_)
    rw [main, if_neg d1]
/-- what reading on from the row r at p comes to -/
def KC (t : Nat → Int) (n left fuel r p w : Nat) (μ : Mm) (σ : CS) : Prop := ∃ f μ' a, X11_readCellar_L27 K96 fuel 1 (ma μ p) = some (f, ma μ' a) ∧ a ≤ n + 1 ∧ fR μ μ' ∧ μ' 70 4 = f ∧ match (match rowStep t n r w p σ with | none => none | some q => celN t n left r q.1 q.2.1 q.2.2) with
      | none => f ≠ -1
      | some q => f = -1 ∧ CelM μ' q.2.2 ∧ μ' 70 18 = (q.1 : Int) ∧ μ' 70 19 = (q.2.1 : Int)
theorem exitC {t : Nat → Int} {n fuel : Nat} {x : Mm} {b : Nat} (hx : Tm t n x) (hb : b ≤ n + 1) : X11_readCellar_J73 (fun w1 μq => X11_readCellar_L27 K96 (fuel + 1) w1 μq) (ma x b) = K96 (ma x b) := by
  have h160 := hx.1
  unfold X11_readCellar_J73 X11_readCellar_J74 sF
  rw [if_pos rfl]
  dsimp only
  rw [ma_add0 (by omega), X11_readCellar_L27, if_pos rfl]
theorem stepK {t : Nat → Int} {n : Nat} (hT : ∀ j, j < n → 1 ≤ t j ∧ t j ≤ 255) {left fuel r p w : Nat} {μ : Mm} {σ : CS} (hr : r + left = 5) (hf : 0 < fuel) (hB : Bm μ) (h : Tm t n μ) (hw : μ 70 4 = -1) (hC : CelM μ σ) (h18 : μ 70 18 = (r : Int)) (h19 : r = 0 ∨ μ 70 19 = (w : Int)) (hw9 : r = 0 ∨ (2 ≤ w ∧ w ≤ 9)) (hp : p ≤ n)
    (next : 1 ≤ left → ∀ (x : Mm) (p1 w1 : Nat) (σ1 : CS), Bm x → Tm t n x → x 70 4 = -1 → CelM x σ1 → x 70 18 = ((r + 1 : Nat) : Int) → x 70 19 = (w1 : Int) → 2 ≤ w1 ∧ w1 ≤ 9 → p1 ≤ n → KC t n (left - 1) fuel (r + 1) p1 w1 x σ1) : KC t n left (fuel + 1) r p w μ σ := by
  have h160 := h.1
  obtain ⟨f2, rfl⟩ : ∃ f2, fuel = f2 + 1 := ⟨fuel - 1, by omega⟩
  have hR := rowTextM hT (r := r) (w := w) (by omega) hw9 hB h hw hC h18 h19 hp
  unfold KC
  rw [X11_readCellar_L27, if_neg (by decide), ma_j (by decide), if_pos hw]
  have bad : ∀ (x : Mm) (a : Nat), X11_rowText (ma μ p) = some (0, ma x a) → a ≤ n → fR μ x → x 70 4 ≠ -1 → ∃ f μ' b, (bd (X11_rowText (ma μ p)) fun v9 μ10 => if (μ10 70 4) = (-1) then (bd (X11_look μ10) fun v16 μ17 => if v16 = 47 then (if 6 ≤ (μ17 70 18) then (X11_readCellar_J73 (fun w1 μq => X11_readCellar_L27 K96 (f2 + 1) w1 μq) μ17) else (X11_readCellar_J74 (fun w1 μq => X11_readCellar_L27 K96 (f2 + 1) w1 μq) 1 μ17)) else (X11_readCellar_J73 (fun w1 μq => X11_readCellar_L27 K96 (f2 + 1) w1 μq) μ17)) else (X11_readCellar_J73 (fun w1 μq => X11_readCellar_L27 K96 (f2 + 1) w1 μq) μ10)) = some (f, ma μ' b) ∧ b ≤ n + 1 ∧ fR μ μ' ∧ μ' 70 4 = f ∧ f ≠ -1 := by
    intro x a e1 e2 e3 e4
    rw [e1, bd_some, ma_j (by decide), if_neg e4, exitC (Tm_fR h e3) (by omega), K96_F e4]
    exact ⟨_, _, _, rfl, by omega, e3, rfl, e4⟩
  revert hR
  cases hs : rowStep t n r w p σ with
  | none =>
    rintro ⟨x, a, e1, e2, e3, e4⟩
    exact bad x a e1 e2 e3 e4
  | some q =>
    dsimp only
    by_cases z : sg (pk t n q.1) = -1
    · rw [if_pos z]
      rintro ⟨x, e1, e2, e3, e4, e5, e6, e7, e8⟩
      have hTx := Tm_fR h e3
      have hs1 := sk_le (t := t) (n := n) q.1 e2
      rw [e1, bd_some, ma_j (by decide), if_pos e4, look_eq hTx (by omega), bd_some, pk_sk, sk_sk]
      have fin : celN t n left r q.1 q.2.1 q.2.2 = (if pk t n q.1 = -1 ∧ q.2.2.2.1 2 ≠ -1 ∧ q.2.2.2.2.1 ≠ 0 then some (r + 1, q.2.1, q.2.2) else none) → ∃ f μ' a, K96 (ma x (sk t n q.1)) = some (f, ma μ' a) ∧ a ≤ n + 1 ∧ fR μ μ' ∧ μ' 70 4 = f ∧ match celN t n left r q.1 q.2.1 q.2.2 with
          | none => f ≠ -1
          | some q => f = -1 ∧ CelM μ' q.2.2 ∧ μ' 70 18 = (q.1 : Int) ∧ μ' 70 19 = (q.2.1 : Int) := by
        intro hN
        obtain ⟨f, x', a, g1, g2, g3, g4, g5⟩ := K96_eq hTx e3.1 hs1 e4 e5
        rw [pk_sk] at g5
        refine ⟨f, x', a, g1, g2, fR_tr e3 g3, g4, ?_⟩
        rw [hN]
        by_cases c : pk t n q.1 = -1 ∧ q.2.2.2.1 2 ≠ -1 ∧ q.2.2.2.2.1 ≠ 0
        · rw [if_pos c] at g5 ⊢
          obtain ⟨g6, rfl⟩ := g5
          exact ⟨g6, e5, e6, e7⟩
        · rw [if_neg c] at g5 ⊢
          exact g5
      by_cases c47 : pk t n q.1 = 47
      · rw [if_pos c47, ma_j (by decide), e6]
        by_cases c8 : left = 0
        · rw [if_pos (by omega), exitC hTx (by omega)]
          refine fin ?_
          rw [c8]; rfl
        · rw [if_neg (by omega)]
          have hq := pk_ne (t := t) (n := n) (p := q.1) (by omega)
          unfold X11_readCellar_J74 sF
          rw [if_neg (by decide)]
          dsimp only
          rw [ma_3, iA_nat (by omega), ma_ma]
          obtain ⟨left', rfl⟩ : ∃ l', left = l' + 1 := ⟨left - 1, by omega⟩
          obtain ⟨f, x', a, g1, g2, g3, g4, g5⟩ := next (by omega) x (sk t n q.1 + 1) q.2.1 q.2.2 e3.1 hTx e4 e5 e6 e7 e8 (by omega)
          refine ⟨f, x', a, g1, g2, fR_tr e3 g3, g4, ?_⟩
          have hN : celN t n (left' + 1) r q.1 q.2.1 q.2.2 = (match rowStep t n (r + 1) q.2.1 (sk t n q.1 + 1) q.2.2 with | none => none | some q' => celN t n left' (r + 1) q'.1 q'.2.1 q'.2.2) := by
            rw [celN, if_pos c47]
            cases rowStep t n (r + 1) q.2.1 (sk t n q.1 + 1) q.2.2 <;> rfl
          rw [hN]
          exact g5
      · rw [if_neg c47, exitC hTx (by omega)]
        refine fin ?_
        cases left with
        | zero => rfl
        | succ left => rw [celN, if_neg c47]
    · rw [if_neg z]
      rintro ⟨x, a, e1, e2, e3, e4⟩
      rw [celN_sg z]
      exact bad x a e1 e2 e3 e4
theorem celM_L {t : Nat → Int} {n : Nat} (hT : ∀ j, j < n → 1 ≤ t j ∧ t j ≤ 255) : ∀ (left fuel r p w : Nat) (μ : Mm) (σ : CS), r + left = 5 → left + 1 < fuel → Bm μ → Tm t n μ → μ 70 4 = -1 → CelM μ σ → μ 70 18 = (r : Int) → (r = 0 ∨ μ 70 19 = (w : Int)) → (r = 0 ∨ (2 ≤ w ∧ w ≤ 9)) → p ≤ n → KC t n left fuel r p w μ σ := by
  intro left
  induction left with
  | zero =>
    intro fuel r p w μ σ hr hf h1 h2 h3 h4 h5 h6 h7 h8
    obtain ⟨f1, rfl, hf1⟩ := lt_fuel (d := 1) hf
    exact stepK hT hr (by omega) h1 h2 h3 h4 h5 h6 h7 h8 (fun h => absurd h (by omega))
  | succ left ih =>
    intro fuel r p w μ σ hr hf h1 h2 h3 h4 h5 h6 h7 h8
    obtain ⟨f1, rfl, hf1⟩ := lt_fuel (d := left + 2) hf
    refine stepK hT hr (by omega) h1 h2 h3 h4 h5 h6 h7 h8 (fun _ x p1 w1 σ1 g1 g2 g3 g4 g5 g6 g7 g8 => ?_)
    exact ih f1 (r + 1) p1 w1 x σ1 (by omega) (by omega) g1 g2 g3 g4 g5 (Or.inr g6) (Or.inr g7) g8
theorem cellarM {t : Nat → Int} {n : Nat} (hT : ∀ j, j < n → 1 ≤ t j ∧ t j ≤ 255) {μ : Mm} (hB : Bm μ) (h : Tm t n μ) :
    ∃ f μ' a, X11_readCellar μ = some (f, ma μ' a) ∧ a ≤ n + 1 ∧ fR μ μ' ∧ μ' 70 4 = f ∧ match celS t n with
      | none => f ≠ -1
      | some q => f = -1 ∧ CelM μ' q.2.2 ∧ μ' 70 18 = (q.1 : Int) ∧ μ' 70 19 = (q.2.1 : Int) := by
  unfold X11_readCellar sF sZ
  dsimp only
  rw [if_pos (by omega)]
  have e0 : sM (sM (sM (sM (sM μ 70 3 0) 70 4 (-1)) 70 18 0) 70 20 0) 70 21 0 = ma (sM (sM (sM (sM μ 70 4 (-1)) 70 18 0) 70 20 0) 70 21 0) 0 := by
    have : sM μ 70 3 0 = ma μ 0 := rfl
    rw [this, ma_s (by decide), ma_s (by decide), ma_s (by decide), ma_s (by decide)]
  rw [e0]
  have f0 : fR μ (sM (sM (sM (sM μ 70 4 (-1)) 70 18 0) 70 20 0) 70 21 0) := fR_s (fR_s (fR_s (fR_s ⟨hB, fw_rf⟩ (by unfold wR; omega) (by decide)) (by unfold wR; omega) (by decide)) (by unfold wR; omega) (by decide)) (by unfold wR; omega) (by decide)
  have hC : CelM (sM (sM (sM (sM μ 70 4 (-1)) 70 18 0) 70 20 0) 70 21 0) σ0 := by
    have e20 : sM (sM (sM (sM μ 70 4 (-1)) 70 18 0) 70 20 0) 70 21 0 70 20 = 0 := by rw [sM_j (by decide), sM_s]
    refine ⟨fun q _ hne => absurd rfl hne, by rw [sM_s]; rfl, by rw [e20]; decide, fun c hc => ?_, by rw [e20]; exact pc_00.1⟩
    rw [e20]
    exact ⟨fun z => absurd z (pc_00.2 c hc), fun z => absurd rfl z⟩
  obtain ⟨f, x, a, g1, g2, g3, g4, g5⟩ := celM_L hT 5 FU 0 0 0 _ σ0 (by omega) (by decide) f0.1 (Tm_fR h f0) (by rw [sM_j (by decide), sM_j (by decide), sM_j (by decide), sM_s]) hC (by rw [sM_j (by decide), sM_j (by decide), sM_s]; rfl) (Or.inl rfl) (Or.inl rfl) (by omega)
  exact ⟨f, x, a, g1, g2, fR_tr f0 g3, g4, g5⟩
