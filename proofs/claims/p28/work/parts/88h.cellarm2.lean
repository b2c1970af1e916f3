/-! THE READER OF CELLARS, the reference's: all of it -/
theorem J198_eq {μ : Mm} {r j w a : Nat} (hr : r ≤ 5) (h18 : μ 70 18 = (r : Int)) (h19 : r = 0 ∨ μ 70 19 = (w : Int)) : X11_rowText_J198 (j : Int) (ma μ a) = some (0, ma (sM (sM μ 70 19 ((if r = 0 then j else w : Nat) : Int)) 70 18 ((r + 1 : Nat) : Int)) a) := by
  unfold X11_rowText_J198 sF
  dsimp only
  rw [ma_j (by decide), h18]
  by_cases c : r = 0
  · rw [if_pos (by omega), if_pos c, ma_s (by decide), ma_j (by decide), sM_j (by decide), h18, iA_nat (by omega), ma_s (by decide)]
  · rw [if_neg (by omega), if_neg c, ma_j (j := 19) (by decide), h19.resolve_left c, ma_s (by decide), ma_j (by decide), sM_j (by decide), h18, iA_nat (by omega), ma_s (by decide)]
theorem rowTextM {t : Nat → Int} {n : Nat} (hT : ∀ j, j < n → 1 ≤ t j ∧ t j ≤ 255) {r w : Nat} (hr : r ≤ 5) (hw9 : r = 0 ∨ (2 ≤ w ∧ w ≤ 9)) {μ : Mm} {σ : CS} (hB : Bm μ) (h : Tm t n μ) (hw : μ 70 4 = -1) (hC : CelM μ σ) (h18 : μ 70 18 = (r : Int)) (h19 : r = 0 ∨ μ 70 19 = (w : Int)) {p : Nat} (hp : p ≤ n) :
    match rowStep t n r w p σ with
      | none => ∃ μ' a, X11_rowText (ma μ p) = some (0, ma μ' a) ∧ a ≤ n ∧ fR μ μ' ∧ μ' 70 4 ≠ -1
      | some q => if sg (pk t n q.1) = -1 then ∃ μ', X11_rowText (ma μ p) = some (0, ma μ' (sk t n q.1)) ∧ q.1 ≤ n ∧ fR μ μ' ∧ μ' 70 4 = -1 ∧ CelM μ' q.2.2 ∧ μ' 70 18 = ((r + 1 : Nat) : Int) ∧ μ' 70 19 = (q.2.1 : Int) ∧ 2 ≤ q.2.1 ∧ q.2.1 ≤ 9
        else ∃ μ' a, X11_rowText (ma μ p) = some (0, ma μ' a) ∧ a ≤ n ∧ fR μ μ' ∧ μ' 70 4 ≠ -1 := by
  have h160 := h.1
  have e0 : X11_rowText (ma μ p) = X11_rowText_L10 (fun v34 μ35 => X11_rowText_J171 v34 μ35) K83 FU ((0 : Nat) : Int) (sg (pk t n p)) (ma μ (sk t n p)) := by
    unfold X11_rowText
    rw [look_eq h (by omega), bd_some, signOf_eq (pk_b hT p), bd_some]
    rfl
  have hm9 : (if r = 0 then 9 else w) ≤ 9 := by split <;> omega
  have hm60 : 10 * r + (if r = 0 then 9 else w) ≤ 60 := by split <;> omega
  have hR := rowM hT (r := r) (w := w) hm60 hm9 rfl (fun v34 μ35 => X11_rowText_J171 v34 μ35) (if r = 0 then 9 else w) FU 0 p μ σ (by omega) (by show _ < 1000000; omega) hB h hw hC h18 h19 hp
  rw [Nat.add_zero] at hR
  rw [e0]
  unfold rowStep
  revert hR
  cases rowS t n (if r = 0 then 9 else w) p (10 * r) σ with
  | none => exact id
  | some q =>
    dsimp only
    by_cases z : sg (pk t n q.1) = -1
    · rw [if_pos z]
      rintro ⟨μ1, j', g1, g2, g3, g4, g5, g6, g7, g8, g9⟩
      rw [g1]
      have ej : q.2.1 - 10 * r = j' := by omega
      rw [ej]
      have hs := sk_le (t := t) (n := n) q.1 g4
      have bad : ∃ μ' a, X11_rowText_J194 (j' : Int) (ma μ1 (sk t n q.1)) = some (0, ma μ' a) ∧ a ≤ n ∧ fR μ μ' ∧ μ' 70 4 ≠ -1 := by
        unfold X11_rowText_J194
        have f1 : fR μ (sM μ1 70 4 ((sk t n q.1 : Nat) : Int)) := fR_s g5 (by unfold wR; omega) (show (-1 : Int) ≤ ((sk t n q.1 : Nat) : Int) ∧ ((sk t n q.1 : Nat) : Int) ≤ 1000 by omega)
        rw [bad_eq g6, bd_some, J198_eq hr (by rw [sM_j (by decide)]; exact g8) (by rw [sM_j (by decide)]; exact g9)]
        refine ⟨_, _, rfl, hs, fR_s (fR_s f1 (by unfold wR; omega) ?_) (by unfold wR; omega) ?_, ?_⟩
        · show (0 : Int) ≤ ((if r = 0 then j' else w : Nat) : Int) ∧ ((if r = 0 then j' else w : Nat) : Int) ≤ 9
          split <;> omega
        · show (0 : Int) ≤ ((r + 1 : Nat) : Int) ∧ ((r + 1 : Nat) : Int) ≤ 7
          omega
        · rw [sM_j (by decide), sM_j (by decide), sM_s]; omega
      have good : 2 ≤ (if r = 0 then j' else w) → (if r = 0 then j' else w) ≤ 9 → ∃ μ', X11_rowText_J198 (j' : Int) (ma μ1 (sk t n q.1)) = some (0, ma μ' (sk t n q.1)) ∧ q.1 ≤ n ∧ fR μ μ' ∧ μ' 70 4 = -1 ∧ CelM μ' q.2.2 ∧ μ' 70 18 = ((r + 1 : Nat) : Int) ∧ μ' 70 19 = ((if r = 0 then j' else w : Nat) : Int) ∧ 2 ≤ (if r = 0 then j' else w) ∧ (if r = 0 then j' else w) ≤ 9 := by
        intro w2 w9
        rw [J198_eq hr g8 g9]
        refine ⟨_, rfl, g4, fR_s (fR_s g5 (by unfold wR; omega) ?_) (by unfold wR; omega) ?_, ?_, ?_, ?_, ?_, w2, w9⟩
        · show (0 : Int) ≤ ((if r = 0 then j' else w : Nat) : Int) ∧ ((if r = 0 then j' else w : Nat) : Int) ≤ 9
          omega
        · show (0 : Int) ≤ ((r + 1 : Nat) : Int) ∧ ((r + 1 : Nat) : Int) ≤ 7
          omega
        · rw [sM_j (by decide), sM_j (by decide)]; exact g6
        · obtain ⟨a1, a2, a3, a4, a5⟩ := g7
          refine ⟨fun x hx hne => by rw [sM_a (by decide), sM_a (by decide)]; exact a1 x hx hne, by rw [sM_j (by decide), sM_j (by decide)]; exact a2, by rw [sM_j (by decide), sM_j (by decide)]; exact a3, fun c hc => by rw [sM_j (by decide), sM_j (by decide)]; exact a4 c hc, by rw [sM_j (by decide), sM_j (by decide)]; exact a5⟩
        · rw [sM_s]
        · rw [sM_j (by decide), sM_s]
      have hJ : X11_rowText_J171 (j' : Int) (ma μ1 (sk t n q.1)) = if j' < 2 ∨ j' < (if r = 0 then j' else w) then X11_rowText_J194 (j' : Int) (ma μ1 (sk t n q.1)) else X11_rowText_J198 (j' : Int) (ma μ1 (sk t n q.1)) := by
        unfold X11_rowText_J171
        rw [ma_j (by decide), g8]
        by_cases c0 : r = 0
        · rw [if_pos (by omega), if_pos c0]
          by_cases c2 : j' < 2
          · rw [if_neg (by omega), if_pos (Or.inl c2)]
          · rw [if_pos (by omega), if_neg (by omega)]
        · rw [if_neg (by omega), if_neg c0, ma_j (by decide), g9.resolve_left c0]
          by_cases c2 : j' < w
          · rw [if_neg (by omega), if_pos (Or.inr c2)]
          · rw [if_pos (by omega), if_neg (by omega)]
      rw [hJ]
      by_cases cc : j' < 2 ∨ j' < (if r = 0 then j' else w)
      · rw [if_pos cc, if_pos cc]
        exact bad
      · rw [if_neg cc, if_neg cc]
        dsimp only
        rw [if_pos z]
        by_cases c0 : r = 0
        · rw [if_pos c0] at good g3 cc ⊢
          exact good (by omega) g3
        · rw [if_neg c0] at good cc ⊢
          exact good (by omega) (by omega)
    · rw [if_neg z]
      rintro ⟨μ', a, g1, g2, g3, g4⟩
      rw [g1]
      by_cases c : q.2.1 - 10 * r < 2 ∨ q.2.1 - 10 * r < (if r = 0 then q.2.1 - 10 * r else w)
      · rw [if_pos c]
        exact ⟨μ', a, rfl, g2, g3, g4⟩
      · rw [if_neg c]
        dsimp only
        rw [if_neg z]
        exact ⟨μ', a, rfl, g2, g3, g4⟩
theorem celN_sg {t : Nat → Int} {n left r p w : Nat} {σ : CS} (h : sg (pk t n p) ≠ -1) : celN t n left r p w σ = none := by
  have h1 : pk t n p ≠ 47 := fun e => h (by rw [e]; rfl)
  have h2 : pk t n p ≠ -1 := fun e => h (by rw [e]; rfl)
  cases left with
  | zero => rw [celN, if_neg (fun z => h2 z.1)]
  | succ left => rw [celN, if_neg h1, if_neg (fun z => h2 z.1)]
theorem pc_pos : ∀ x, x < 256 → (pc ((x : Nat) : Int) = 0 ↔ x = 0) := by decide +kernel
def K96 : Mm → Rs := fun μ21 => X11_readCellar_J96 μ21
theorem K96_F {x : Mm} {b : Nat} (hw : x 70 4 ≠ -1) : K96 (ma x b) = some (x 70 4, ma x b) := by
  unfold K96 X11_readCellar_J96
  rw [ma_j (by decide), if_neg hw]
theorem K96_eq {t : Nat → Int} {n : Nat} {x : Mm} {σ : CS} (hx : Tm t n x) (hB : Bm x) {b : Nat} (hb : b ≤ n) (hw : x 70 4 = -1) (hC : CelM x σ) : ∃ f x' a, K96 (ma x b) = some (f, ma x' a) ∧ a ≤ n + 1 ∧ fR x x' ∧ x' 70 4 = f ∧ if pk t n b = -1 ∧ σ.2.1 2 ≠ -1 ∧ σ.2.2.1 ≠ 0 then f = -1 ∧ x' = x else f ≠ -1 := by
  have h160 := hx.1
  have hs := sk_le (t := t) (n := n) b hb
  have hbad : K96 (ma x b) = some (((sk t n b : Nat) : Int), ma (sM x 70 4 ((sk t n b : Nat) : Int)) (sk t n b)) → ∃ f x' a, K96 (ma x b) = some (f, ma x' a) ∧ a ≤ n + 1 ∧ fR x x' ∧ x' 70 4 = f ∧ f ≠ -1 := fun e => ⟨_, _, _, e, by omega, fR_s ⟨hB, fw_rf⟩ (by unfold wR; omega) (show (-1 : Int) ≤ ((sk t n b : Nat) : Int) ∧ ((sk t n b : Nat) : Int) ≤ 1000 by omega), by rw [sM_s], by omega⟩
  have wrap : ∀ {P : Prop} [Decidable P], ¬ P → (∃ f x' a, K96 (ma x b) = some (f, ma x' a) ∧ a ≤ n + 1 ∧ fR x x' ∧ x' 70 4 = f ∧ f ≠ -1) → ∃ f x' a, K96 (ma x b) = some (f, ma x' a) ∧ a ≤ n + 1 ∧ fR x x' ∧ x' 70 4 = f ∧ if P then f = -1 ∧ x' = x else f ≠ -1 := by
    intro P _ hP ⟨f, x', a, g1, g2, g3, g4, g5⟩
    exact ⟨f, x', a, g1, g2, g3, g4, by rw [if_neg hP]; exact g5⟩
  obtain ⟨c1, c2, c3, c4, c5⟩ := hC
  have hbadE : X11_bad (ma x (sk t n b)) = some (0, ma (sM x 70 4 ((sk t n b : Nat) : Int)) (sk t n b)) := bad_eq hw
  have hx20 : x 70 20 = (((x 70 20).toNat : Nat) : Int) := by omega
  have hpc := pc_pos (x 70 20).toNat (by omega)
  rw [← hx20, c5] at hpc
  have main : K96 (ma x b) = (if pk t n b = -1 then (if x 70 21 = 0 then some (((sk t n b : Nat) : Int), ma (sM x 70 4 ((sk t n b : Nat) : Int)) (sk t n b)) else (if x 70 20 = 0 then some (((sk t n b : Nat) : Int), ma (sM x 70 4 ((sk t n b : Nat) : Int)) (sk t n b)) else some (-1, ma x (sk t n b)))) else some (((sk t n b : Nat) : Int), ma (sM x 70 4 ((sk t n b : Nat) : Int)) (sk t n b))) := by
    unfold K96 X11_readCellar_J96
    rw [ma_j (by decide), if_pos hw, look_eq hx (by omega), bd_some, hbadE, ma_j (by decide), ma_j (by decide), ma_j (by decide), hw, bd_some, ma_j (by decide), sM_s]
  by_cases d1 : pk t n b = -1
  · by_cases d2 : σ.2.1 2 = -1
    · refine wrap (fun z => z.2.1 d2) (hbad ?_)
      rw [main, if_pos d1, if_pos (by rw [c2, if_pos d2])]
    · by_cases d3 : σ.2.2.1 = 0
      · refine wrap (fun z => z.2.2 d3) (hbad ?_)
        rw [main, if_pos d1, if_neg (by rw [c2, if_neg d2]; decide), if_pos (by have := hpc.mp d3; omega)]
      · refine ⟨-1, x, sk t n b, ?_, by omega, ⟨hB, fw_rf⟩, hw, ?_⟩
        · rw [main, if_pos d1, if_neg (by rw [c2, if_neg d2]; decide), if_neg (fun e => d3 (hpc.mpr (by omega)))]
        · rw [if_pos ⟨d1, d2, d3⟩]; exact ⟨rfl, rfl⟩
  · refine wrap (fun z => d1 z.1) (hbad ?_)
    rw [main, if_neg d1]
/-- what reading on from the row r at p comes to -/
def KC (t : Nat → Int) (n left fuel r p w : Nat) (μ : Mm) (σ : CS) : Prop := ∃ f μ' a, X11_readCellar_L27 K96 fuel 1 (ma μ p) = some (f, ma μ' a) ∧ a ≤ n + 1 ∧ fR μ μ' ∧ μ' 70 4 = f ∧ match (match rowStep t n r w p σ with | none => none | some q => celN t n left r q.1 q.2.1 q.2.2) with
      | none => f ≠ -1
      | some q => f = -1 ∧ CelM μ' q.2.2 ∧ μ' 70 18 = (q.1 : Int) ∧ μ' 70 19 = (q.2.1 : Int)
theorem exitC {t : Nat → Int} {n fuel : Nat} {x : Mm} {b : Nat} (hx : Tm t n x) (hb : b ≤ n + 1) : X11_readCellar_J73 (fun w1 μq => X11_readCellar_L27 K96 (fuel + 1) w1 μq) (ma x b) = K96 (ma x b) := by
  have h160 := hx.1
  unfold X11_readCellar_J73 X11_readCellar_J74 sF
  rw [if_pos rfl]
  dsimp only
  rw [ma_add0 (by omega), X11_readCellar_L27, if_pos rfl]
theorem stepK {t : Nat → Int} {n : Nat} (hT : ∀ j, j < n → 1 ≤ t j ∧ t j ≤ 255) {left fuel r p w : Nat} {μ : Mm} {σ : CS} (hr : r + left = 5) (hf : 0 < fuel) (hB : Bm μ) (h : Tm t n μ) (hw : μ 70 4 = -1) (hC : CelM μ σ) (h18 : μ 70 18 = (r : Int)) (h19 : r = 0 ∨ μ 70 19 = (w : Int)) (hw9 : r = 0 ∨ (2 ≤ w ∧ w ≤ 9)) (hp : p ≤ n)
    (next : 1 ≤ left → ∀ (x : Mm) (p1 w1 : Nat) (σ1 : CS), Bm x → Tm t n x → x 70 4 = -1 → CelM x σ1 → x 70 18 = ((r + 1 : Nat) : Int) → x 70 19 = (w1 : Int) → 2 ≤ w1 ∧ w1 ≤ 9 → p1 ≤ n → KC t n (left - 1) fuel (r + 1) p1 w1 x σ1) : KC t n left (fuel + 1) r p w μ σ := by
  have h160 := h.1
  obtain ⟨f2, rfl⟩ : ∃ f2, fuel = f2 + 1 := ⟨fuel - 1, by omega⟩
  have hR := rowTextM hT (r := r) (w := w) (by omega) hw9 hB h hw hC h18 h19 hp
  unfold KC
  rw [X11_readCellar_L27, if_neg (by decide), ma_j (by decide), if_pos hw]
  have bad : ∀ (x : Mm) (a : Nat), X11_rowText (ma μ p) = some (0, ma x a) → a ≤ n → fR μ x → x 70 4 ≠ -1 → ∃ f μ' b, (bd (X11_rowText (ma μ p)) fun v9 μ10 => if (μ10 70 4) = (-1) then (bd (X11_look μ10) fun v16 μ17 => if v16 = 47 then (if 6 ≤ (μ17 70 18) then (X11_readCellar_J73 (fun w1 μq => X11_readCellar_L27 K96 (f2 + 1) w1 μq) μ17) else (X11_readCellar_J74 (fun w1 μq => X11_readCellar_L27 K96 (f2 + 1) w1 μq) 1 μ17)) else (X11_readCellar_J73 (fun w1 μq => X11_readCellar_L27 K96 (f2 + 1) w1 μq) μ17)) else (X11_readCellar_J73 (fun w1 μq => X11_readCellar_L27 K96 (f2 + 1) w1 μq) μ10)) = some (f, ma μ' b) ∧ b ≤ n + 1 ∧ fR μ μ' ∧ μ' 70 4 = f ∧ f ≠ -1 := by
    intro x a e1 e2 e3 e4
    rw [e1, bd_some, ma_j (by decide), if_neg e4, exitC (Tm_fR h e3) (by omega), K96_F e4]
    exact ⟨_, _, _, rfl, by omega, e3, rfl, e4⟩
  revert hR
  cases hs : rowStep t n r w p σ with
  | none =>
    rintro ⟨x, a, e1, e2, e3, e4⟩
    exact bad x a e1 e2 e3 e4
  | some q =>
    dsimp only
    by_cases z : sg (pk t n q.1) = -1
    · rw [if_pos z]
      rintro ⟨x, e1, e2, e3, e4, e5, e6, e7, e8⟩
      have hTx := Tm_fR h e3
      have hs1 := sk_le (t := t) (n := n) q.1 e2
      rw [e1, bd_some, ma_j (by decide), if_pos e4, look_eq hTx (by omega), bd_some, pk_sk, sk_sk]
      have fin : celN t n left r q.1 q.2.1 q.2.2 = (if pk t n q.1 = -1 ∧ q.2.2.2.1 2 ≠ -1 ∧ q.2.2.2.2.1 ≠ 0 then some (r + 1, q.2.1, q.2.2) else none) → ∃ f μ' a, K96 (ma x (sk t n q.1)) = some (f, ma μ' a) ∧ a ≤ n + 1 ∧ fR μ μ' ∧ μ' 70 4 = f ∧ match celN t n left r q.1 q.2.1 q.2.2 with
          | none => f ≠ -1
          | some q => f = -1 ∧ CelM μ' q.2.2 ∧ μ' 70 18 = (q.1 : Int) ∧ μ' 70 19 = (q.2.1 : Int) := by
        intro hN
        obtain ⟨f, x', a, g1, g2, g3, g4, g5⟩ := K96_eq hTx e3.1 hs1 e4 e5
        rw [pk_sk] at g5
        refine ⟨f, x', a, g1, g2, fR_tr e3 g3, g4, ?_⟩
        rw [hN]
        by_cases c : pk t n q.1 = -1 ∧ q.2.2.2.1 2 ≠ -1 ∧ q.2.2.2.2.1 ≠ 0
        · rw [if_pos c] at g5 ⊢
          obtain ⟨g6, rfl⟩ := g5
          exact ⟨g6, e5, e6, e7⟩
        · rw [if_neg c] at g5 ⊢
          exact g5
      by_cases c47 : pk t n q.1 = 47
      · rw [if_pos c47, ma_j (by decide), e6]
        by_cases c8 : left = 0
        · rw [if_pos (by omega), exitC hTx (by omega)]
          refine fin ?_
          rw [c8]; rfl
        · rw [if_neg (by omega)]
          have hq := pk_ne (t := t) (n := n) (p := q.1) (by omega)
          unfold X11_readCellar_J74 sF
          rw [if_neg (by decide)]
          dsimp only
          rw [ma_3, iA_nat (by omega), ma_ma]
          obtain ⟨left', rfl⟩ : ∃ l', left = l' + 1 := ⟨left - 1, by omega⟩
          obtain ⟨f, x', a, g1, g2, g3, g4, g5⟩ := next (by omega) x (sk t n q.1 + 1) q.2.1 q.2.2 e3.1 hTx e4 e5 e6 e7 e8 (by omega)
          refine ⟨f, x', a, g1, g2, fR_tr e3 g3, g4, ?_⟩
          have hN : celN t n (left' + 1) r q.1 q.2.1 q.2.2 = (match rowStep t n (r + 1) q.2.1 (sk t n q.1 + 1) q.2.2 with | none => none | some q' => celN t n left' (r + 1) q'.1 q'.2.1 q'.2.2) := by
            rw [celN, if_pos c47]
            cases rowStep t n (r + 1) q.2.1 (sk t n q.1 + 1) q.2.2 <;> rfl
          rw [hN]
          exact g5
      · rw [if_neg c47, exitC hTx (by omega)]
        refine fin ?_
        cases left with
        | zero => rfl
        | succ left => rw [celN, if_neg c47]
    · rw [if_neg z]
      rintro ⟨x, a, e1, e2, e3, e4⟩
      rw [celN_sg z]
      exact bad x a e1 e2 e3 e4
theorem celM_L {t : Nat → Int} {n : Nat} (hT : ∀ j, j < n → 1 ≤ t j ∧ t j ≤ 255) : ∀ (left fuel r p w : Nat) (μ : Mm) (σ : CS), r + left = 5 → left + 1 < fuel → Bm μ → Tm t n μ → μ 70 4 = -1 → CelM μ σ → μ 70 18 = (r : Int) → (r = 0 ∨ μ 70 19 = (w : Int)) → (r = 0 ∨ (2 ≤ w ∧ w ≤ 9)) → p ≤ n → KC t n left fuel r p w μ σ := by
  intro left
  induction left with
  | zero =>
    intro fuel r p w μ σ hr hf h1 h2 h3 h4 h5 h6 h7 h8
    obtain ⟨f1, rfl, hf1⟩ := lt_fuel (d := 1) hf
    exact stepK hT hr (by omega) h1 h2 h3 h4 h5 h6 h7 h8 (fun h => absurd h (by omega))
  | succ left ih =>
    intro fuel r p w μ σ hr hf h1 h2 h3 h4 h5 h6 h7 h8
    obtain ⟨f1, rfl, hf1⟩ := lt_fuel (d := left + 2) hf
    refine stepK hT hr (by omega) h1 h2 h3 h4 h5 h6 h7 h8 (fun _ x p1 w1 σ1 g1 g2 g3 g4 g5 g6 g7 g8 => ?_)
    exact ih f1 (r + 1) p1 w1 x σ1 (by omega) (by omega) g1 g2 g3 g4 g5 (Or.inr g6) (Or.inr g7) g8
theorem cellarM {t : Nat → Int} {n : Nat} (hT : ∀ j, j < n → 1 ≤ t j ∧ t j ≤ 255) {μ : Mm} (hB : Bm μ) (h : Tm t n μ) :
    ∃ f μ' a, X11_readCellar μ = some (f, ma μ' a) ∧ a ≤ n + 1 ∧ fR μ μ' ∧ μ' 70 4 = f ∧ match celS t n with
      | none => f ≠ -1
      | some q => f = -1 ∧ CelM μ' q.2.2 ∧ μ' 70 18 = (q.1 : Int) ∧ μ' 70 19 = (q.2.1 : Int) := by
  unfold X11_readCellar sF sZ
  dsimp only
  rw [if_pos (by omega)]
  have e0 : sM (sM (sM (sM (sM μ 70 3 0) 70 4 (-1)) 70 18 0) 70 20 0) 70 21 0 = ma (sM (sM (sM (sM μ 70 4 (-1)) 70 18 0) 70 20 0) 70 21 0) 0 := by
    have : sM μ 70 3 0 = ma μ 0 := rfl
    rw [this, ma_s (by decide), ma_s (by decide), ma_s (by decide), ma_s (by decide)]
  rw [e0]
  have f0 : fR μ (sM (sM (sM (sM μ 70 4 (-1)) 70 18 0) 70 20 0) 70 21 0) := fR_s (fR_s (fR_s (fR_s ⟨hB, fw_rf⟩ (by unfold wR; omega) (by decide)) (by unfold wR; omega) (by decide)) (by unfold wR; omega) (by decide)) (by unfold wR; omega) (by decide)
  have hC : CelM (sM (sM (sM (sM μ 70 4 (-1)) 70 18 0) 70 20 0) 70 21 0) σ0 := by
    have e20 : sM (sM (sM (sM μ 70 4 (-1)) 70 18 0) 70 20 0) 70 21 0 70 20 = 0 := by rw [sM_j (by decide), sM_s]
    refine ⟨fun q _ hne => absurd rfl hne, by rw [sM_s]; rfl, by rw [e20]; decide, fun c hc => ?_, by rw [e20]; exact pc_00.1⟩
    rw [e20]
    exact ⟨fun z => absurd z (pc_00.2 c hc), fun z => absurd rfl z⟩
  obtain ⟨f, x, a, g1, g2, g3, g4, g5⟩ := celM_L hT 5 FU 0 0 0 _ σ0 (by omega) (by decide) f0.1 (Tm_fR h f0) (by rw [sM_j (by decide), sM_j (by decide), sM_j (by decide), sM_s]) hC (by rw [sM_j (by decide), sM_j (by decide), sM_s]; rfl) (Or.inl rfl) (Or.inl rfl) (by omega)
  exact ⟨f, x, a, g1, g2, fR_tr f0 g3, g4, g5⟩
