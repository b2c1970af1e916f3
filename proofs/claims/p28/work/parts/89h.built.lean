/-! what a CELLAR that was read is like; what a PLAY that was read is like -/
def JS (dom : Nat → Prop) (σ : CS) : Prop := (∀ p, σ.1 p ≠ -1 ↔ dom p) ∧ (∀ p, dom p → p < 60) ∧ (∀ p, -1 ≤ σ.1 p ∧ σ.1 p ≤ 10) ∧ (∀ v : Nat, 2 ≤ v → v ≤ 10 → ∀ p : Nat, σ.1 p = (v : Int) ↔ σ.2.1 v = (p : Int)) ∧ (∀ v : Nat, 2 ≤ v → v ≤ 10 → -1 ≤ σ.2.1 v ∧ σ.2.1 v ≤ 59) ∧ σ.2.2.1 = cnt isX (fun c => σ.2.1 (3 + c)) 8 ∧ σ.2.2.2 = cnt is1 σ.1 60
theorem JS_iff {d d' : Nat → Prop} {σ : CS} (h : JS d σ) (e : ∀ p, d p ↔ d' p) : JS d' σ :=
  ⟨fun p => (h.1 p).trans (e p), fun p hp => h.2.1 p ((e p).mpr hp), h.2.2⟩
theorem cnt_c {P : Int → Bool} {c : Int} (h : P c = false) : ∀ n, cnt P (fun _ => c) n = 0 := by
  intro n
  induction n with
  | zero => rfl
  | succ n ih =>
    show cnt P (fun _ => c) n + (if P c then 1 else 0) = 0
    rw [ih, h, if_neg (by decide)]
    rfl
theorem JS_0 : JS (fun _ => False) σ0 :=
  ⟨fun p => ⟨fun h => absurd rfl h, fun h => h.elim⟩, fun p h => h.elim, fun p => (show (-1 : Int) ≤ -1 ∧ (-1 : Int) ≤ 10 by decide), fun v h1 h2 p => ⟨fun h => absurd (show (-1 : Int) = (v : Int) from h) (by omega), fun h => absurd (show (-1 : Int) = (p : Int) from h) (by omega)⟩, fun v _ _ => (show (-1 : Int) ≤ -1 ∧ (-1 : Int) ≤ 59 by decide), (cnt_c (by decide) 8).symm, (cnt_c (by decide) 60).symm⟩
theorem JS_u {dom : Nat → Prop} {σ : CS} (h : JS dom σ) {pl : Nat} {v : Int} (hn : ¬ dom pl) (hp : pl < 60) (hv : 0 ≤ v ∧ v ≤ 10) (hf : ¬ (2 ≤ v ∧ σ.2.1 v.toNat ≠ -1)) : JS (fun p => dom p ∨ p = pl) (ups σ pl v) := by
  obtain ⟨h1, h2, h3, h4, h5, h6, h7⟩ := h
  have hx : σ.1 pl = -1 := Classical.byContradiction (fun z => hn ((h1 pl).mp z))
  have e1 : ∀ j, (ups σ pl v).1 j = if j = pl then v else σ.1 j := fun j => rfl
  have e2 : ∀ j, (ups σ pl v).2.1 j = if 2 ≤ v ∧ j = v.toNat then (pl : Int) else σ.2.1 j := fun j => rfl
  refine ⟨fun p => ?_, fun p hd => ?_, fun p => ?_, fun w w1 w2 p => ?_, fun w w1 w2 => ?_, ?_, ?_⟩
  · rw [e1]
    by_cases c : p = pl
    · rw [if_pos c]; exact ⟨fun _ => Or.inr c, fun _ => by omega⟩
    · rw [if_neg c]
      exact ⟨fun z => Or.inl ((h1 p).mp z), fun z => z.elim (fun y => (h1 p).mpr y) (fun y => absurd y c)⟩
  · rcases hd with hd | hd
    · exact h2 p hd
    · omega
  · rw [e1]
    by_cases c : p = pl
    · rw [if_pos c]; omega
    · rw [if_neg c]; exact h3 p
  · rw [e1, e2]
    by_cases c2 : 2 ≤ v ∧ w = v.toNat
    · rw [if_pos c2]
      by_cases c : p = pl
      · rw [if_pos c, c]; exact ⟨fun _ => rfl, fun _ => by omega⟩
      · rw [if_neg c]
        refine ⟨fun z => ?_, fun z => absurd z (by omega)⟩
        have k := (h4 w w1 w2 p).mp z
        have k2 : σ.2.1 v.toNat = -1 := Classical.byContradiction (fun y => hf ⟨c2.1, y⟩)
        rw [c2.2, k2] at k
        omega
    · rw [if_neg c2]
      by_cases c : p = pl
      · rw [if_pos c]
        refine ⟨fun z => absurd z (by omega), fun z => ?_⟩
        have k := (h4 w w1 w2 p).mpr z
        rw [c, hx] at k
        omega
      · rw [if_neg c]; exact h4 w w1 w2 p
  · rw [e2]
    by_cases c2 : 2 ≤ v ∧ w = v.toNat
    · rw [if_pos c2]; omega
    · rw [if_neg c2]; exact h5 w w1 w2
  · show σ.2.2.1 + (if 3 ≤ v then 1 else 0) = _
    rw [h6]
    by_cases c3 : 3 ≤ v
    · rw [if_pos c3]
      have k2 : σ.2.1 v.toNat = -1 := Classical.byContradiction (fun y => hf ⟨by omega, y⟩)
      have e : cnt isX (fun c => (ups σ pl v).2.1 (3 + c)) 8 = cnt isX (fun j => if j = v.toNat - 3 then (pl : Int) else (fun c => σ.2.1 (3 + c)) j) 8 := cnt_congr 8 (fun j hj => by
        rw [e2]
        by_cases c4 : j = v.toNat - 3
        · rw [if_pos c4, if_pos (by omega)]
        · rw [if_neg c4, if_neg (by omega)])
      have e4 : 3 + (v.toNat - 3) = v.toNat := by omega
      rw [e, cnt_upd, if_pos (by omega)]
      show _ = _ + ((if isX (pl : Int) then 1 else 0) - (if isX (σ.2.1 (3 + (v.toNat - 3))) then 1 else 0))
      rw [e4, k2, isX_i (by omega), if_pos rfl, if_neg (by decide)]
      rfl
    · rw [if_neg c3]
      have e : cnt isX (fun c => (ups σ pl v).2.1 (3 + c)) 8 = cnt isX (fun c => σ.2.1 (3 + c)) 8 := cnt_congr 8 (fun j hj => by rw [e2, if_neg (by omega)])
      rw [e]; omega
  · show σ.2.2.2 + (if v = 1 then 1 else 0) = _
    rw [h7]
    have e : cnt is1 (ups σ pl v).1 60 = cnt is1 (fun j => if j = pl then v else σ.1 j) 60 := rfl
    rw [e, cnt_upd, if_pos hp, hx]
    by_cases c : v = 1
    · rw [if_pos c, c]; rfl
    · rw [if_neg c, is1_n c]; rfl
theorem rowS_J {t : Nat → Int} {n : Nat} : ∀ (k p pl : Nat) (σ : CS) (dom : Nat → Prop) (q : Nat × Nat × CS), rowS t n k p pl σ = some q → JS dom σ → (∀ x, pl ≤ x → x < pl + k → ¬ dom x) → pl + k ≤ 60 → pl ≤ q.2.1 ∧ q.2.1 ≤ pl + k ∧ JS (fun x => dom x ∨ (pl ≤ x ∧ x < q.2.1)) q.2.2 := by
  intro k
  induction k with
  | zero =>
    intro p pl σ dom q e hJ hd hp
    cases e
    exact ⟨Nat.le_refl _, Nat.le_refl _, JS_iff hJ (fun x => ⟨Or.inl, fun z => z.elim id (fun y => absurd y (by show ¬ (pl ≤ x ∧ x < pl); omega))⟩)⟩
  | succ k ih =>
    intro p pl σ dom q e hJ hd hp
    unfold rowS at e
    by_cases c : sg (pk t n p) = -1
    · rw [if_pos c] at e
      cases e
      exact ⟨Nat.le_refl _, by show pl ≤ pl + (k + 1); omega, JS_iff hJ (fun x => ⟨Or.inl, fun z => z.elim id (fun y => absurd y (by show ¬ (pl ≤ x ∧ x < pl); omega))⟩)⟩
    · rw [if_neg c] at e
      by_cases c2 : 2 ≤ sg (pk t n p) ∧ σ.2.1 (sg (pk t n p)).toNat ≠ -1
      · rw [if_pos c2] at e; cases e
      · rw [if_neg c2] at e
        have hb := sg_b (pk t n p)
        have hJ' := JS_u hJ (pl := pl) (v := sg (pk t n p)) (hd pl (Nat.le_refl _) (by omega)) (by omega) (by omega) c2
        obtain ⟨r1, r2, r3⟩ := ih _ _ _ _ q e hJ' (fun x h1 h2 z => z.elim (hd x (by omega) (by omega)) (fun y => absurd y (by omega))) (by omega)
        refine ⟨by omega, by omega, JS_iff r3 (fun x => ?_)⟩
        constructor
        · rintro ((z | z) | z)
          · exact Or.inl z
          · exact Or.inr (by omega)
          · exact Or.inr (by omega)
        · rintro (z | z)
          · exact Or.inl (Or.inl z)
          · by_cases y : x = pl
            · exact Or.inl (Or.inr y)
            · exact Or.inr (by omega)
/-- r ROWS of w PLACES -/
def rct (r w p : Nat) : Prop := p / 10 < r ∧ p % 10 < w
theorem rowStep_J {t : Nat → Int} {n r w p : Nat} {σ : CS} {q : Nat × Nat × CS} (e : rowStep t n r w p σ = some q) (hr : r ≤ 5) (hw : r = 0 ∨ (2 ≤ w ∧ w ≤ 9)) (hJ : JS (rct r w) σ) : 2 ≤ q.2.1 ∧ q.2.1 ≤ 9 ∧ JS (rct (r + 1) q.2.1) q.2.2 := by
  unfold rowStep at e
  revert e
  cases e0 : rowS t n (if r = 0 then 9 else w) p (10 * r) σ with
  | none => intro e; cases e
  | some q0 =>
    intro e
    have hk : (if r = 0 then 9 else w) ≤ 9 := by split <;> omega
    have h1 := rowS_J _ _ _ _ (rct r w) q0 e0 hJ (fun x x1 x2 z => by unfold rct at z; omega) (by omega)
    obtain ⟨g1, g2, g3⟩ := h1
    have e' : (if q0.2.1 - 10 * r < 2 ∨ q0.2.1 - 10 * r < (if r = 0 then q0.2.1 - 10 * r else w) then none else some (q0.1, if r = 0 then q0.2.1 - 10 * r else w, q0.2.2)) = some q := e
    by_cases c : q0.2.1 - 10 * r < 2 ∨ q0.2.1 - 10 * r < (if r = 0 then q0.2.1 - 10 * r else w)
    · rw [if_pos c] at e'; cases e'
    · rw [if_neg c] at e'
      cases e'
      by_cases c0 : r = 0
      · rw [if_pos c0] at g2 c ⊢
        refine ⟨by show 2 ≤ q0.2.1 - 10 * r; omega, by show q0.2.1 - 10 * r ≤ 9; omega, JS_iff g3 (fun x => ?_)⟩
        show (rct r w x ∨ (10 * r ≤ x ∧ x < q0.2.1)) ↔ rct (r + 1) (q0.2.1 - 10 * r) x
        unfold rct
        constructor
        · rintro (z | z) <;> omega
        · intro z; right; omega
      · rw [if_neg c0] at g2 c ⊢
        have hw' := hw.resolve_left c0
        refine ⟨hw'.1, hw'.2, JS_iff g3 (fun x => ?_)⟩
        show (rct r w x ∨ (10 * r ≤ x ∧ x < q0.2.1)) ↔ rct (r + 1) w x
        unfold rct
        constructor
        · rintro (z | z) <;> omega
        · intro z
          by_cases y : x / 10 < r
          · left; omega
          · right; omega
def celOK (q : Nat × Nat × CS) : Prop := 1 ≤ q.1 ∧ q.1 ≤ 6 ∧ 2 ≤ q.2.1 ∧ q.2.1 ≤ 9 ∧ JS (rct q.1 q.2.1) q.2.2 ∧ q.2.2.2.1 2 ≠ -1 ∧ q.2.2.2.2.1 ≠ 0
theorem celN_J {t : Nat → Int} {n : Nat} : ∀ (left r p w : Nat) (σ : CS) (q : Nat × Nat × CS), celN t n left r p w σ = some q → r + left = 5 → 2 ≤ w → w ≤ 9 → JS (rct (r + 1) w) σ → celOK q := by
  intro left
  induction left with
  | zero =>
    intro r p w σ q e hr w1 w2 hJ
    unfold celN at e
    by_cases c : pk t n p = -1 ∧ σ.2.1 2 ≠ -1 ∧ σ.2.2.1 ≠ 0
    · rw [if_pos c] at e
      cases e
      exact ⟨by show 1 ≤ r + 1; omega, by show r + 1 ≤ 6; omega, w1, w2, hJ, c.2.1, c.2.2⟩
    · rw [if_neg c] at e; cases e
  | succ left ih =>
    intro r p w σ q e hr w1 w2 hJ
    unfold celN at e
    by_cases c0 : pk t n p = 47
    · rw [if_pos c0] at e
      revert e
      cases e0 : rowStep t n (r + 1) w (sk t n p + 1) σ with
      | none => intro e; cases e
      | some q0 =>
        intro e
        obtain ⟨g1, g2, g3⟩ := rowStep_J e0 (by omega) (Or.inr ⟨w1, w2⟩) hJ
        exact ih _ _ _ _ q e (by omega) g1 g2 g3
    · rw [if_neg c0] at e
      by_cases c : pk t n p = -1 ∧ σ.2.1 2 ≠ -1 ∧ σ.2.2.1 ≠ 0
      · rw [if_pos c] at e
        cases e
        exact ⟨by show 1 ≤ r + 1; omega, by show r + 1 ≤ 6; omega, w1, w2, hJ, c.2.1, c.2.2⟩
      · rw [if_neg c] at e; cases e
theorem celS_J {t : Nat → Int} {n : Nat} {q : Nat × Nat × CS} (e : celS t n = some q) : celOK q := by
  unfold celS at e
  revert e
  cases e0 : rowStep t n 0 0 0 σ0 with
  | none => intro e; cases e
  | some q0 =>
    intro e
    obtain ⟨g1, g2, g3⟩ := rowStep_J e0 (by decide) (Or.inl rfl) (JS_iff JS_0 (fun x => ⟨fun z => z.elim, fun z => by unfold rct at z; omega⟩))
    exact celN_J _ _ _ _ _ q e (by decide) g1 g2 g3
/-- a PLAY that was read: 1 to 8 CUES, their letters and numbers -/
def plOK (L : List (Int × Int)) : Prop := ∀ x, x ∈ L → 0 ≤ x.1 ∧ x.1 ≤ 7 ∧ 0 ≤ x.2 ∧ x.2 ≤ 999
theorem plN_J {t : Nat → Int} {n : Nat} : ∀ (r p : Nat) (v : Int) (L : List (Int × Int)), plN t n r p v = some L → L.length ≤ r ∧ plOK L := by
  intro r
  induction r with
  | zero =>
    intro p v L e
    unfold plN at e
    by_cases c : pk t n p = -1
    · rw [if_pos c] at e
      cases e
      exact ⟨Nat.le_refl _, fun x hx => nomatch hx⟩
    · rw [if_neg c] at e; cases e
  | succ r ih =>
    intro p v L e
    unfold plN at e
    by_cases c0 : pk t n p = 44
    · rw [if_pos c0] at e
      revert e
      cases e0 : cueS t n (sk t n p + 1) v with
      | none => intro e; cases e
      | some q =>
        have hq := cueS_b e0
        dsimp only
        cases e1 : plN t n r q.2.2 q.2.1 with
        | none => intro e; cases e
        | some l =>
          intro e
          obtain ⟨g1, g2⟩ := ih _ _ l e1
          cases e
          refine ⟨by show l.length + 1 ≤ r + 1; omega, fun x hx => ?_⟩
          rcases List.mem_cons.mp hx with h | h
          · rw [h]; exact ⟨hq.1, hq.2.1, hq.2.2.1, hq.2.2.2.1⟩
          · exact g2 x h
    · rw [if_neg c0] at e
      by_cases c : pk t n p = -1
      · rw [if_pos c] at e
        cases e
        exact ⟨Nat.zero_le _, fun x hx => nomatch hx⟩
      · rw [if_neg c] at e; cases e
theorem plS_J {t : Nat → Int} {n : Nat} {L : List (Int × Int)} (e : plS t n = some L) : 1 ≤ L.length ∧ L.length ≤ 8 ∧ plOK L := by
  unfold plS at e
  revert e
  cases e0 : cueS t n 0 (-1) with
  | none => intro e; cases e
  | some q =>
    have hq := cueS_b e0
    dsimp only
    cases e1 : plN t n 7 q.2.2 q.2.1 with
    | none => intro e; cases e
    | some l =>
      intro e
      obtain ⟨g1, g2⟩ := plN_J _ _ _ l e1
      cases e
      refine ⟨by show 1 ≤ l.length + 1; omega, by show l.length + 1 ≤ 8; omega, fun x hx => ?_⟩
      rcases List.mem_cons.mp hx with h | h
      · rw [h]; exact ⟨hq.1, hq.2.1, hq.2.2.1, hq.2.2.2.1⟩
      · exact g2 x h
theorem plOK_at {L : List (Int × Int)} (h : plOK L) {i : Nat} (hi : i < L.length) : 0 ≤ (L.getD i (0, 0)).1 ∧ (L.getD i (0, 0)).1 ≤ 7 ∧ 0 ≤ (L.getD i (0, 0)).2 ∧ (L.getD i (0, 0)).2 ≤ 999 := by
  have e : L.getD i (0, 0) = L[i] := by simp [List.getD, hi]
  rw [e]
  exact h _ (List.getElem_mem hi)
