/-! THE READER OF PLAYS -/
/-- a CUE at p, no less than prev: its letter, its number, where it ends -/
def cueS (t : Nat → Int) (n p : Nat) (prev : Int) : Option (Int × Int × Nat) :=
  if 65 ≤ pk t n p ∧ pk t n p ≤ 72 then
    (if 48 ≤ pk t n (sk t n p + 1) ∧ pk t n (sk t n p + 1) ≤ 57 then
      (if prev ≤ (nmF t n 3 (sk t n (sk t n p + 1)) 0).1 then some (pk t n p - 65, (nmF t n 3 (sk t n (sk t n p + 1)) 0).1, (nmF t n 3 (sk t n (sk t n p + 1)) 0).2) else none)
    else none)
  else none
/-- what comes behind a CUE: r more at most -/
def plN (t : Nat → Int) (n : Nat) : Nat → Nat → Int → Option (List (Int × Int))
  | 0, p, _ => if pk t n p = -1 then some [] else none
  | r + 1, p, prev => if pk t n p = 44 then
      (match cueS t n (sk t n p + 1) prev with
        | none => none
        | some q => match plN t n r q.2.2 q.2.1 with
          | none => none
          | some l => some ((q.1, q.2.1) :: l))
    else if pk t n p = -1 then some [] else none
def plS (t : Nat → Int) (n : Nat) : Option (List (Int × Int)) := match cueS t n 0 (-1) with
  | none => none
  | some q => match plN t n 7 q.2.2 q.2.1 with
    | none => none
    | some l => some ((q.1, q.2.1) :: l)
theorem nm3 {t : Nat → Int} {n : Nat} (p : Nat) : 0 ≤ (nmF t n 3 p 0).1 ∧ (nmF t n 3 p 0).1 ≤ 999 := by
  have h : ∀ (m p d : Nat) (v : Int), d + m = 3 → 0 ≤ v → v ≤ 10 ^ d - 1 → 0 ≤ (nmF t n m p v).1 ∧ (nmF t n m p v).1 ≤ 999 := by
    intro m
    induction m with
    | zero => intro p d v hd h1 h2; have : d = 3 := by omega
              subst this; exact ⟨h1, by have e : (10 : Int) ^ 3 = 1000 := by decide
                                        show v ≤ 999; omega⟩
    | succ m ih =>
      intro p d v hd h1 h2
      unfold nmF
      by_cases c : p < n ∧ 48 ≤ t p ∧ t p ≤ 57
      · rw [if_pos c]
        exact ih (p + 1) (d + 1) _ (by omega) (by omega) (by rw [p10_succ]; omega)
      · rw [if_neg c]
        have h3 : (10 : Int) ^ d ≤ 10 ^ 3 := p10_mono (by omega)
        have e : (10 : Int) ^ 3 = 1000 := by decide
        exact ⟨h1, by show v ≤ 999; omega⟩
  exact h 3 p 0 0 (by omega) (by decide) (by decide)
theorem cueS_b {t : Nat → Int} {n p : Nat} {prev : Int} {q : Int × Int × Nat} (h : cueS t n p prev = some q) : 0 ≤ q.1 ∧ q.1 ≤ 7 ∧ 0 ≤ q.2.1 ∧ q.2.1 ≤ 999 ∧ q.2.2 ≤ n := by
  unfold cueS at h
  by_cases c1 : 65 ≤ pk t n p ∧ pk t n p ≤ 72
  · rw [if_pos c1] at h
    by_cases c2 : 48 ≤ pk t n (sk t n p + 1) ∧ pk t n (sk t n p + 1) ≤ 57
    · rw [if_pos c2] at h
      by_cases c3 : prev ≤ (nmF t n 3 (sk t n (sk t n p + 1)) 0).1
      · rw [if_pos c3] at h
        have hv := nm3 (t := t) (n := n) (sk t n (sk t n p + 1))
        have hl := pk_ne (t := t) (n := n) (p := sk t n p + 1) (by omega)
        have hb := nmF_b (t := t) (n := n) 3 (sk t n (sk t n p + 1)) 0 (by omega)
        cases h
        exact ⟨by show 0 ≤ pk t n p - 65; omega, by show pk t n p - 65 ≤ 7; omega, hv.1, hv.2, hb.2.1⟩
      · rw [if_neg c3] at h; cases h
    · rw [if_neg c2] at h; cases h
  · rw [if_neg c1] at h; cases h
/-! the class -/
def stc (ν : Mm) (l0 k : Nat) (c v : Int) : Mm := sM (sM (sM ν (l0 + 1) k c) (l0 + 2) k v) l0 2 ((k + 1 : Nat) : Int)
/-- the cells of a PLAY alone have changed -/
def fP (l0 : Nat) (ν ν' : Mm) : Prop := fw (fun k _ => l0 ≤ k ∧ k ≤ l0 + 2) ν ν'
theorem fP_rf {l0 : Nat} {ν : Mm} : fP l0 ν ν := fw_rf
theorem fP_s {l0 : Nat} {ν ν' : Mm} (h : fP l0 ν ν') {c j : Nat} {v : Int} (hc : l0 ≤ c ∧ c ≤ l0 + 2) : fP l0 ν (sM ν' c j v) := fw_sM h hc
theorem Tx_fP {t : Nat → Int} {n l0 : Nat} {ν ν' : Mm} (hk : kD l0 = (13, 3)) (h : Tx t n ν) (hf : fP l0 ν ν') : Tx t n ν' := by
  obtain ⟨h1, x, h2, h3, h4, h5⟩ := h
  have hp := kPr hk
  have hx := kTr h3
  refine ⟨h1, x, ?_, h3, ?_, fun j hj => ?_⟩
  · rw [hf 3 0 (by omega)]; exact h2
  · rw [hf x 1 (by omega)]; exact h4
  · rw [hf (x + 1) j (by omega)]; exact h5 j hj
theorem J64_eq {l0 k : Nat} (hk : kD l0 = (13, 3)) (hk8 : k < 8) {ν : Mm} {p : Nat} {f c v : Int} (hc : 65 ≤ c ∧ c ≤ 72) : X3_readCue_J64 l0 (k : Int) c v (cr ν p f) = some (0, cr (stc ν l0 k (c - 65) v) p f) := by
  have hp := kPr hk
  have a1 : aN (l0 + 1) = 8 := (bA_3_1 hk (by omega) 0).2.2
  have a2 : aN (l0 + 2) = 8 := (bA_3_2 hk (by omega) 0).2.2
  unfold X3_readCue_J64 stA sF
  dsimp only
  rw [if_pos (by rw [a1]; omega), if_pos (by rw [a2]; omega), Int.toNat_natCast, cr_s (by omega), cr_s (by omega), iA_nat (by omega), cr_s (by omega), iS_id (by omega) (by omega)]
  rfl
theorem cueC {t : Nat → Int} {n : Nat} (hT : ∀ j, j < n → 1 ≤ t j ∧ t j ≤ 255) {l0 k : Nat} (hk : kD l0 = (13, 3)) (hk8 : k < 8) {ν : Mm} (h : Tx t n ν) {p : Nat} (hp : p ≤ n) {prev : Int} (hprev : if k = 0 then prev = -1 else prev = ν (l0 + 2) (k - 1)) :
    ∃ ν' p' f, X3_readCue l0 (k : Int) (cr ν p (-1)) = some (0, cr ν' p' f) ∧ fP l0 ν ν' ∧ match cueS t n p prev with
      | none => f ≠ -1
      | some q => f = -1 ∧ ν' = stc ν l0 k q.1 q.2.1 ∧ p' = q.2.2 := by
  have hl := kPr hk
  have a2 : aN (l0 + 2) = 8 := (bA_3_2 hk (by omega) 0).2.2
  have hfs : ∀ c v, fP l0 ν (stc ν l0 k c v) := fun c v => fP_s (fP_s (fP_s fP_rf (by omega)) (by omega)) (by omega)
  unfold X3_readCue cueS
  rw [peek_eq h hp, bd_some]
  by_cases c1 : pk t n p < 65
  · rw [if_pos c1, if_neg (by omega), cr_1, refuse_eq, bd_some]
    exact ⟨_, _, _, rfl, fP_rf, by show ((sk t n p : Nat) : Int) ≠ -1; omega⟩
  · rw [if_neg c1]
    by_cases c2 : pk t n p ≤ 72
    · have hq := pk_ne (t := t) (n := n) (p := p) (by omega)
      rw [if_pos c2, if_pos ⟨by omega, c2⟩, pass_eq h hq.1, bd_some]
      have hn := number_eq h hT (M := 3) (by decide) (p := sk t n p + 1) (by omega)
      rw [show ((3 : Nat) : Int) = 3 from rfl] at hn
      rw [hn]
      by_cases c3 : 48 ≤ pk t n (sk t n p + 1) ∧ pk t n (sk t n p + 1) ≤ 57
      · rw [if_pos c3, if_pos c3, bd_some]
        have hv := nm3 (t := t) (n := n) (sk t n (sk t n p + 1))
        have hl2 := pk_ne (t := t) (n := n) (p := sk t n p + 1) (by omega)
        have hb := nmF_b (t := t) (n := n) 3 (sk t n (sk t n p + 1)) 0 (by omega)
        have hb2 : sk t n (sk t n p + 1) < (nmF t n 3 (sk t n (sk t n p + 1)) 0).2 := by
          have hd : sk t n (sk t n p + 1) < n ∧ 48 ≤ t (sk t n (sk t n p + 1)) ∧ t (sk t n (sk t n p + 1)) ≤ 57 := by rw [← hl2.2]; exact ⟨hl2.1, c3⟩
          unfold nmF
          rw [if_pos hd]
          exact Nat.lt_of_lt_of_le (Nat.lt_succ_self _) (nmF_b (t := t) (n := n) 2 (sk t n (sk t n p + 1) + 1) _ (by omega)).1
        by_cases c4 : k = 0
        · rw [if_pos c4] at hprev
          rw [if_pos (by omega), if_pos (by omega), J64_eq hk hk8 ⟨by omega, c2⟩]
          exact ⟨_, _, _, rfl, hfs _ _, rfl, rfl, rfl⟩
        · rw [if_neg c4] at hprev
          have ek : iS (k : Int) 1 = ((k - 1 : Nat) : Int) := by rw [iS_id (by omega) (by omega)]; omega
          rw [if_neg (by omega), ek]
          unfold ldA
          rw [if_pos (by rw [a2]; omega), Int.toNat_natCast]
          dsimp only
          rw [cr_c (c := l0 + 2) (by omega), ← hprev]
          by_cases c5 : prev ≤ (nmF t n 3 (sk t n (sk t n p + 1)) 0).1
          · rw [if_pos c5, if_pos c5, J64_eq hk hk8 ⟨by omega, c2⟩]
            exact ⟨_, _, _, rfl, hfs _ _, rfl, rfl, rfl⟩
          · rw [if_neg c5, if_neg c5, cr_1, refuse_eq, bd_some, J64_eq hk hk8 ⟨by omega, c2⟩]
            refine ⟨_, _, _, rfl, hfs _ _, ?_⟩
            show iS _ 1 ≠ -1
            have h160 := h.1
            rw [iS_id (by omega) (by omega)]
            omega
      · rw [if_neg c3, if_neg c3, bd_some]
        have hf2 : ((sk t n (sk t n p + 1) : Nat) : Int) ≠ -1 := by omega
        by_cases c4 : k = 0
        · rw [if_pos (by omega), J64_eq hk hk8 ⟨by omega, c2⟩]
          exact ⟨_, _, _, rfl, hfs _ _, hf2⟩
        · have ek : iS (k : Int) 1 = ((k - 1 : Nat) : Int) := by rw [iS_id (by omega) (by omega)]; omega
          rw [if_neg (by omega), ek]
          unfold ldA
          rw [if_pos (by rw [a2]; omega)]
          dsimp only
          by_cases c5 : cr ν (sk t n (sk t n p + 1)) ((sk t n (sk t n p + 1) : Nat) : Int) (l0 + 2) (((k - 1 : Nat) : Int)).toNat ≤ 0
          · rw [if_pos c5, J64_eq hk hk8 ⟨by omega, c2⟩]
            exact ⟨_, _, _, rfl, hfs _ _, hf2⟩
          · rw [if_neg c5, refuse_F hf2, bd_some, J64_eq hk hk8 ⟨by omega, c2⟩]
            exact ⟨_, _, _, rfl, hfs _ _, hf2⟩
    · rw [if_neg c2, if_neg (by omega), cr_1, refuse_eq, bd_some]
      exact ⟨_, _, _, rfl, fP_rf, by show ((sk t n p : Nat) : Int) ≠ -1; omega⟩
/-- what a PLAY's cell holds from its CUE k on -/
def hasP (ν : Mm) (l0 k : Nat) (l : List (Int × Int)) : Prop := ν l0 2 = ((k + l.length : Nat) : Int) ∧ ∀ i, i < l.length → ν (l0 + 1) (k + i) = (l.getD i (0, 0)).1 ∧ ν (l0 + 2) (k + i) = (l.getD i (0, 0)).2
theorem stc_at {ν : Mm} {l0 k : Nat} {c v : Int} (j : Nat) : stc ν l0 k c v (l0 + 1) j = (if j = k then c else ν (l0 + 1) j) ∧ stc ν l0 k c v (l0 + 2) j = (if j = k then v else ν (l0 + 2) j) ∧ stc ν l0 k c v l0 2 = ((k + 1 : Nat) : Int) := by
  unfold stc
  refine ⟨?_, ?_, ?_⟩
  · rw [sM_a (by omega), sM_a (by omega), sM_if]
  · rw [sM_a (by omega), sM_if]; by_cases h : j = k
    · rw [if_pos h, if_pos h]
    · rw [if_neg h, if_neg h, sM_a (by omega)]
  · rw [sM_s]
theorem readC_L {t : Nat → Int} {n : Nat} (hT : ∀ j, j < n → 1 ≤ t j ∧ t j ≤ 255) {l0 : Nat} (hk : kD l0 = (13, 3)) : ∀ (r fuel k p : Nat) (ν : Mm) (prev : Int), k + r = 8 → 1 ≤ k → r < fuel → Tx t n ν → p ≤ n → prev = ν (l0 + 2) (k - 1) → ν l0 2 = (k : Int) →
    ∃ ν' p' f, X3_read_L13 l0 (fun μ13 => bd (X4_needEnd μ13) fun v14 μ15 => some (μ15 3 2, μ15)) fuel (k : Int) (cr ν p (-1)) = some (f, cr ν' p' f) ∧ fP l0 ν ν' ∧ (∀ j, j < k → ν' (l0 + 1) j = ν (l0 + 1) j ∧ ν' (l0 + 2) j = ν (l0 + 2) j ∨ f ≠ -1) ∧ match plN t n r p prev with
      | none => f ≠ -1
      | some l => f = -1 ∧ hasP ν' l0 k l := by
  intro r
  induction r with
  | zero =>
    intro fuel k p ν prev hkr hk1 hf h hp hpr hsz
    obtain ⟨f', rfl, -⟩ := lt_fuel hf
    rw [X3_read_L13, if_pos (by omega), needEnd_eq h hp]
    unfold plN
    by_cases c : pk t n p = -1
    · rw [if_pos c, if_pos c, bd_some, cr_2]
      exact ⟨ν, _, -1, rfl, fP_rf, fun j _ => Or.inl ⟨rfl, rfl⟩, rfl, by rw [hsz]; rfl, fun i hi => absurd hi (Nat.not_lt_zero i)⟩
    · rw [if_neg c, if_neg c, bd_some, cr_2]
      exact ⟨ν, _, _, rfl, fP_rf, fun j _ => Or.inl ⟨rfl, rfl⟩, by show ((sk t n p : Nat) : Int) ≠ -1; omega⟩
  | succ r ih =>
    intro fuel k p ν prev hkr hk1 hf h hp hpr hsz
    obtain ⟨f', rfl, hf'⟩ := lt_fuel hf
    have h160 := h.1
    rw [X3_read_L13, if_neg (by omega), take_eq h hp 44 (by decide)]
    unfold plN
    by_cases c : pk t n p = 44
    · have hq := pk_ne (t := t) (n := n) (p := p) (by omega)
      rw [if_pos c, if_pos c, bd_some, if_neg (by decide)]
      obtain ⟨ν1, p1, f1, e1, e2, e3⟩ := cueC hT hk (k := k) (by omega) h (p := sk t n p + 1) (by omega) (prev := prev) (by rw [if_neg (by omega)]; exact hpr)
      rw [e1, bd_some, iA_nat (by omega)]
      revert e3
      cases hc : cueS t n (sk t n p + 1) prev with
      | none =>
        intro e3
        obtain ⟨f'', rfl, -⟩ := lt_fuel (d := 0) (n := f') (by omega)
        have e3 : f1 ≠ -1 := e3
        have hend : ∀ g, g < 9 → X3_read_L13 l0 (fun μ13 => bd (X4_needEnd μ13) fun v14 μ15 => some (μ15 3 2, μ15)) (f'' + 1) ((g : Nat) : Int) (cr ν1 p1 f1) = some (f1, cr ν1 p1 f1) := by
          intro g hg
          rw [X3_read_L13]
          by_cases c8 : 8 ≤ ((g : Nat) : Int)
          · rw [if_pos c8, needEnd_F e3, bd_some, cr_2]
          · rw [if_neg c8, take_F e3 (by decide), bd_some, if_pos rfl, needEnd_F e3, bd_some, cr_2]
        rw [hend (k + 1) (by omega)]
        exact ⟨ν1, p1, f1, rfl, e2, fun j _ => Or.inr e3, e3⟩
      | some q =>
        intro e3
        obtain ⟨rfl, rfl, rfl⟩ := e3
        have hb := cueS_b hc
        have hat := fun j => stc_at (ν := ν) (l0 := l0) (k := k) (c := q.1) (v := q.2.1) j
        obtain ⟨ν2, p2, f2, g1, g2, g3, g4⟩ := ih f' (k + 1) q.2.2 (stc ν l0 k q.1 q.2.1) q.2.1 (by omega) (by omega) (by omega) (Tx_fP hk h e2) hb.2.2.2.2 (by rw [(hat _).2.1, if_pos (by omega)]) (hat 0).2.2
        refine ⟨ν2, p2, f2, g1, fw_tr e2 g2, fun j hj => ?_, ?_⟩
        · rcases g3 j (by omega) with ⟨g5, g6⟩ | g5
          · refine Or.inl ⟨?_, ?_⟩
            · rw [g5, (hat j).1, if_neg (by omega)]
            · rw [g6, (hat j).2.1, if_neg (by omega)]
          · exact Or.inr g5
        · dsimp only
          revert g4
          cases hn : plN t n r q.2.2 q.2.1 with
          | none => intro g4; exact g4
          | some l =>
            intro g4
            obtain ⟨g5, g6, g7⟩ := g4
            refine ⟨g5, ?_, fun i hi => ?_⟩
            · rw [g6]; show _ = ((k + (l.length + 1) : Nat) : Int); omega
            · cases i with
              | zero =>
                rcases g3 k (by omega) with ⟨g8, g9⟩ | g8
                · show ν2 (l0 + 1) k = _ ∧ ν2 (l0 + 2) k = _
                  rw [g8, g9, (hat k).1, (hat k).2.1, if_pos rfl, if_pos rfl]
                  exact ⟨rfl, rfl⟩
                · exact absurd g5 g8
              | succ i =>
                have hi' : i < l.length := by
                  have : i + 1 < l.length + 1 := hi
                  omega
                have := g7 i hi'
                have e : k + (i + 1) = k + 1 + i := by omega
                rw [e]
                exact this
    · rw [if_neg c, if_neg c, bd_some, if_pos rfl]
      have h2 : sk t n p ≤ n := sk_le p hp
      rw [needEnd_eq h h2, pk_sk, sk_sk]
      by_cases c2 : pk t n p = -1
      · rw [if_pos c2, if_pos c2, bd_some, cr_2]
        exact ⟨ν, _, -1, rfl, fP_rf, fun j _ => Or.inl ⟨rfl, rfl⟩, rfl, by rw [hsz]; rfl, fun i hi => absurd hi (Nat.not_lt_zero i)⟩
      · rw [if_neg c2, if_neg c2, bd_some, cr_2]
        exact ⟨ν, _, _, rfl, fP_rf, fun j _ => Or.inl ⟨rfl, rfl⟩, by show ((sk t n p : Nat) : Int) ≠ -1; omega⟩
theorem playC {t : Nat → Int} {n : Nat} (hT : ∀ j, j < n → 1 ≤ t j ∧ t j ≤ 255) {l0 : Nat} (hk : kD l0 = (13, 3)) {ν : Mm} (h : Tx t n ν) :
    ∃ ν' p' f, X3_read l0 (cr ν 0 (-1)) = some (f, cr ν' p' f) ∧ fP l0 ν ν' ∧ match plS t n with
      | none => f ≠ -1
      | some l => f = -1 ∧ hasP ν' l0 0 l := by
  have hl := kPr hk
  have h160 := h.1
  unfold X3_read sF plS
  dsimp only
  rw [cr_s (by omega)]
  have hf0 : fP l0 ν (sM ν l0 2 0) := fP_s fP_rf (by omega)
  have h0 := Tx_fP hk h hf0
  obtain ⟨ν1, p1, f1, e1, e2, e3⟩ := cueC hT hk (k := 0) (by omega) h0 (p := 0) (by omega) (prev := -1) (by rw [if_pos rfl])
  have e1' : X3_readCue l0 0 (cr (sM ν l0 2 0) 0 (-1)) = some (0, cr ν1 p1 f1) := e1
  rw [e1', bd_some]
  revert e3
  cases hc : cueS t n 0 (-1) with
  | none =>
    intro e3
    have e3 : f1 ≠ -1 := e3
    have : X3_read_L13 l0 (fun μ13 => bd (X4_needEnd μ13) fun v14 μ15 => some (μ15 3 2, μ15)) (999999 + 1) 1 (cr ν1 p1 f1) = some (f1, cr ν1 p1 f1) := by
      rw [X3_read_L13, if_neg (by decide), take_F e3 (by decide), bd_some, if_pos rfl, needEnd_F e3, bd_some, cr_2]
    exact ⟨ν1, p1, f1, this, fw_tr hf0 e2, e3⟩
  | some q =>
    intro e3
    obtain ⟨rfl, rfl, rfl⟩ := e3
    have hb := cueS_b hc
    have hat := fun j => stc_at (ν := sM ν l0 2 0) (l0 := l0) (k := 0) (c := q.1) (v := q.2.1) j
    obtain ⟨ν2, p2, f2, g1, g2, g3, g4⟩ := readC_L hT hk 7 FU 1 q.2.2 (stc (sM ν l0 2 0) l0 0 q.1 q.2.1) q.2.1 (by omega) (by omega) (by decide) (Tx_fP hk h0 e2) hb.2.2.2.2 (by rw [(hat _).2.1, if_pos rfl]) (hat 0).2.2
    refine ⟨ν2, p2, f2, g1, fw_tr hf0 (fw_tr e2 g2), ?_⟩
    dsimp only
    revert g4
    cases hn : plN t n 7 q.2.2 q.2.1 with
    | none => intro g4; exact g4
    | some l =>
      intro g4
      obtain ⟨g5, g6, g7⟩ := g4
      refine ⟨g5, ?_, fun i hi => ?_⟩
      · rw [g6]; show _ = ((0 + (l.length + 1) : Nat) : Int); omega
      · cases i with
        | zero =>
          rcases g3 0 (by omega) with ⟨g8, g9⟩ | g8
          · show ν2 (l0 + 1) 0 = _ ∧ ν2 (l0 + 2) 0 = _
            rw [g8, g9, (hat 0).1, (hat 0).2.1, if_pos rfl, if_pos rfl]
            exact ⟨rfl, rfl⟩
          · exact absurd g5 g8
        | succ i =>
          have hi' : i < l.length := by
            have : i + 1 < l.length + 1 := hi
            omega
          have := g7 i hi'
          have e : 0 + (i + 1) = 1 + i := by omega
          rw [e]
          exact this
