/-! THE READER OF PLAYS, the reference's -/
theorem in_eq (v a b : Int) (μ : Mm) : X11_in v a b μ = some (b2 (a ≤ v ∧ v ≤ b), μ) := by
  unfold X11_in
  by_cases h1 : v < a
  · rw [if_pos h1, b2_f (fun h => by omega)]
  · rw [if_neg h1]
    by_cases h2 : b < v
    · rw [if_pos h2, b2_f (fun h => by omega)]
    · rw [if_neg h2, b2_t (by omega)]
def stm (μ : Mm) (l k : Nat) (c v : Int) : Mm := sM (sM (sM μ 83 (8 * l + k) c) 84 (8 * l + k) v) 85 l ((k + 1 : Nat) : Int)
/-- what the reader of the PLAY l may write -/
def wPl (l k j : Nat) : Prop := (k = 70 ∧ (j = 3 ∨ j = 4)) ∨ ((k = 83 ∨ k = 84) ∧ 8 * l ≤ j ∧ j < 8 * l + 8) ∨ (k = 85 ∧ j = l)
def fM (l : Nat) (μ μ' : Mm) : Prop := Bm μ' ∧ fw (wPl l) μ μ'
theorem fM_s {l : Nat} {μ μ' : Mm} (h : fM l μ μ') {c j : Nat} {v : Int} (hw : wPl l c j) (hv : (bm c j).1 ≤ v ∧ v ≤ (bm c j).2) : fM l μ (sM μ' c j v) := ⟨Bm_sM h.1 hv, fw_sM h.2 hw⟩
theorem Tm_fM {t : Nat → Int} {n l : Nat} {μ μ' : Mm} (h : Tm t n μ) (hf : fM l μ μ') : Tm t n μ' :=
  ⟨h.1, by rw [hf.2 70 2 (by unfold wPl; omega)]; exact h.2.1, fun j hj => by rw [hf.2 71 j (by unfold wPl; omega)]; exact h.2.2 j hj⟩
theorem iA_off {l k : Nat} (hl : l ≤ 5) (hk : k ≤ 8) : iA (iM 8 (l : Int)) (k : Int) = ((8 * l + k : Nat) : Int) := by
  rw [iM_id (by omega) (by omega), iA_id (by omega) (by omega)]; omega
theorem cueM {t : Nat → Int} {n : Nat} (hT : ∀ j, j < n → 1 ≤ t j ∧ t j ≤ 255) {l k : Nat} (hl : l ≤ 5) (hk8 : k < 8) {μ : Mm} (hB : Bm μ) (h : Tm t n μ) (hw : μ 70 4 = -1) (hm : μ 85 l = (k : Int)) {p : Nat} (hp : p ≤ n) {prev : Int} (hprev : if k = 0 then prev = -1 else prev = μ 84 (8 * l + k - 1)) :
    ∃ μ' a, X11_cueText (l : Int) (ma μ p) = some (0, ma μ' a) ∧ a ≤ n + 1 ∧ fM l μ μ' ∧ match cueS t n p prev with
      | none => μ' 70 4 ≠ -1
      | some q => if q.2.2 < n ∧ 48 ≤ t q.2.2 ∧ t q.2.2 ≤ 57 then μ' 70 4 ≠ -1 else μ' = stm μ l k q.1 q.2.1 ∧ a = q.2.2 := by
  have h160 := h.1
  have hq0 := sk_le (t := t) (n := n) p hp
  have hf0 : fM l μ μ := ⟨hB, fw_rf⟩
  have hpk : -1 ≤ pk t n p ∧ pk t n p ≤ 255 := by
    unfold pk
    by_cases c : sk t n p < n
    · rw [if_pos c]; have := hT _ c; omega
    · rw [if_neg c]; omega
  have e65 : iS (pk t n p) 65 = pk t n p - 65 := iS_id (by omega) (by omega)
  unfold X11_cueText cueS
  unfold ldA lt_
  rw [if_pos (by show (0 : Int) ≤ (l : Int) ∧ (l : Int) < 6; omega), Int.toNat_natCast, ma_c (by decide), hm]
  dsimp only
  rw [iA_off hl (by omega), look_eq h (by omega), bd_some]
  unfold stA
  rw [if_pos (by show (0 : Int) ≤ ((8 * l + k : Nat) : Int) ∧ ((8 * l + k : Nat) : Int) < 48; omega), Int.toNat_natCast]
  dsimp only
  rw [if_pos (by show (0 : Int) ≤ ((8 * l + k : Nat) : Int) ∧ ((8 * l + k : Nat) : Int) < 48; omega), e65, ma_s (by omega), ma_c (by decide), sM_s, in_eq, bd_some]
  have f1 : fM l μ (sM μ 83 (8 * l + k) (pk t n p - 65)) := fM_s hf0 (by unfold wPl; omega) (show (-2147483648 : Int) ≤ _ ∧ _ ≤ (2147483647 : Int) by omega)
  have hw1 : sM μ 83 (8 * l + k) (pk t n p - 65) 70 4 = -1 := by rw [sM_a (by decide)]; exact hw
  have hbad : ∀ (x : Mm) (a : Nat), fM l μ x → x 70 4 = -1 → a ≤ n + 1 → fM l μ (sM x 70 4 (a : Int)) ∧ sM x 70 4 (a : Int) 70 4 ≠ -1 := by
    intro x a hx _ ha
    exact ⟨fM_s hx (by unfold wPl; omega) (show (-1 : Int) ≤ (a : Int) ∧ (a : Int) ≤ 1000 by omega), by rw [sM_s]; omega⟩
  by_cases c1 : 65 ≤ pk t n p ∧ pk t n p ≤ 72
  · rw [if_pos c1, b2_t (by omega), if_neg (by decide)]
    have hq := pk_ne (t := t) (n := n) (p := p) (by omega)
    unfold sF
    dsimp only
    rw [ma_3, iA_nat (by omega), ma_ma, look_eq (Tm_fM h f1) (by omega), bd_some, mdig, bd_some]
    have hs2 := sk_le (t := t) (n := n) (sk t n p + 1) (by omega)
    by_cases c2 : 48 ≤ pk t n (sk t n p + 1) ∧ pk t n (sk t n p + 1) ≤ 57
    · rw [if_pos c2, b2_t c2, if_neg (by decide)]
      have hl2 := pk_ne (t := t) (n := n) (p := sk t n p + 1) (by omega)
      have hL := cueN_L (Tm_fM h f1) hT (l1 := (l : Int)) (l2 := ((8 * l + k : Nat) : Int)) (fun v36 μ37 => X11_cueText_J120 (l : Int) ((8 * l + k : Nat) : Int) v36 μ37) 3 FU (sk t n (sk t n p + 1)) 0 0 (by omega) (by decide) (by decide) (by decide) (by omega)
      have hL' : X11_cueText_L75 (l : Int) ((8 * l + k : Nat) : Int) (fun v36 μ37 => X11_cueText_J120 (l : Int) ((8 * l + k : Nat) : Int) v36 μ37) FU 0 0 (ma (sM μ 83 (8 * l + k) (pk t n p - 65)) (sk t n (sk t n p + 1))) = X11_cueText_J120 (l : Int) ((8 * l + k : Nat) : Int) (nmF t n 3 (sk t n (sk t n p + 1)) 0).1 (ma (sM μ 83 (8 * l + k) (pk t n p - 65)) (nmF t n 3 (sk t n (sk t n p + 1)) 0).2) := hL
      rw [hL']
      have hv := nm3 (t := t) (n := n) (sk t n (sk t n p + 1))
      have hb := nmF_b (t := t) (n := n) 3 (sk t n (sk t n p + 1)) 0 hs2
      revert hv hb
      generalize (nmF t n 3 (sk t n (sk t n p + 1)) 0).1 = v
      generalize (nmF t n 3 (sk t n (sk t n p + 1)) 0).2 = e
      intro hv hb
      unfold X11_cueText_J120 stA
      rw [if_pos (by show (0 : Int) ≤ ((8 * l + k : Nat) : Int) ∧ ((8 * l + k : Nat) : Int) < 48; omega), Int.toNat_natCast]
      dsimp only
      rw [ma_s (by omega)]
      have f2 : fM l μ (sM (sM μ 83 (8 * l + k) (pk t n p - 65)) 84 (8 * l + k) v) := fM_s f1 (by unfold wPl; omega) (show (-2147483648 : Int) ≤ _ ∧ _ ≤ (2147483647 : Int) by omega)
      have hw2 : sM (sM μ 83 (8 * l + k) (pk t n p - 65)) 84 (8 * l + k) v 70 4 = -1 := by rw [sM_a (by decide)]; exact hw1
      have h85 : sM (sM μ 83 (8 * l + k) (pk t n p - 65)) 84 (8 * l + k) v 85 l = (k : Int) := by rw [sM_a (by decide), sM_a (by decide)]; exact hm
      rw [here_eq (Tm_fM h f2), bd_some, mdig, bd_some]
      have hJ : ∀ (x : Mm) (a : Nat), x 85 l = (k : Int) → X11_cueText_J179 (l : Int) (ma x a) = some (0, ma (sM x 85 l ((k + 1 : Nat) : Int)) a) := by
        intro x a hx
        unfold X11_cueText_J179 ldA stA
        rw [if_pos (by show (0 : Int) ≤ (l : Int) ∧ (l : Int) < 6; omega), Int.toNat_natCast, ma_c (by decide), hx]
        dsimp only
        rw [if_pos (by show (0 : Int) ≤ (l : Int) ∧ (l : Int) < 6; omega), iA_nat (by omega), ma_s (by omega)]
      have f85 : ∀ x, fM l μ x → fM l μ (sM x 85 l ((k + 1 : Nat) : Int)) := fun x hx => fM_s hx (by unfold wPl; omega) (show (0 : Int) ≤ ((k + 1 : Nat) : Int) ∧ ((k + 1 : Nat) : Int) ≤ 8 by omega)
      by_cases c3 : e < n ∧ 48 ≤ t e ∧ t e ≤ 57
      · rw [if_pos c3.1, b2_t c3.2, if_neg (by decide), bad_eq hw2, bd_some]
        have hx := hbad _ e f2 hw2 (by omega)
        rw [hJ _ _ (by rw [sM_a (by decide)]; exact h85)]
        refine ⟨_, e, rfl, by omega, f85 _ hx.1, ?_⟩
        by_cases c4 : prev ≤ v
        · rw [if_pos c4]
          show (if e < n ∧ 48 ≤ t e ∧ t e ≤ 57 then _ else _)
          rw [if_pos c3, sM_a (by decide)]
          exact hx.2
        · rw [if_neg c4]
          show sM (sM _ 70 4 (e : Int)) 85 l _ 70 4 ≠ -1
          rw [sM_a (by decide)]
          exact hx.2
      · have hnd : ¬ (48 ≤ (if e < n then t e else -1) ∧ (if e < n then t e else -1) ≤ 57) := by
          intro z
          by_cases c4 : e < n
          · rw [if_pos c4] at z; exact c3 ⟨c4, z⟩
          · rw [if_neg c4] at z; omega
        rw [b2_f hnd, if_pos rfl]
        unfold ldA
        rw [if_pos (by show (0 : Int) ≤ (l : Int) ∧ (l : Int) < 6; omega), Int.toNat_natCast, ma_c (c := 85) (by decide), h85]
        dsimp only
        by_cases c5 : k = 0
        · rw [if_pos c5] at hprev
          rw [if_pos (by omega), hJ _ _ h85, if_pos (by omega)]
          refine ⟨_, e, rfl, by omega, f85 _ f2, ?_⟩
          show (if e < n ∧ 48 ≤ t e ∧ t e ≤ 57 then _ else _)
          rw [if_neg c3]
          exact ⟨rfl, rfl⟩
        · rw [if_neg c5] at hprev
          have ek : iS ((8 * l + k : Nat) : Int) 1 = ((8 * l + k - 1 : Nat) : Int) := by rw [iS_id (by omega) (by omega)]; omega
          have e84 : sM (sM μ 83 (8 * l + k) (pk t n p - 65)) 84 (8 * l + k) v 84 (8 * l + k - 1) = prev := by
            rw [sM_j (by omega), sM_a (by decide), hprev]
          rw [if_neg (by omega), ek, if_pos (by show (0 : Int) ≤ ((8 * l + k - 1 : Nat) : Int) ∧ ((8 * l + k - 1 : Nat) : Int) < 48; omega), Int.toNat_natCast, ma_c (c := 84) (by decide), e84]
          by_cases c4 : prev ≤ v
          · rw [if_pos c4, if_pos c4, hJ _ _ h85]
            refine ⟨_, e, rfl, by omega, f85 _ f2, ?_⟩
            show (if e < n ∧ 48 ≤ t e ∧ t e ≤ 57 then _ else _)
            rw [if_neg c3]
            exact ⟨rfl, rfl⟩
          · rw [if_neg c4, if_neg c4]
            have hnz : 0 < e := by
              have hd : sk t n (sk t n p + 1) < n := hl2.1
              have := sk_ge (t := t) (n := n) (sk t n p + 1)
              omega
            have e1 : iS (e : Int) 1 = ((e - 1 : Nat) : Int) := by rw [iS_id (by omega) (by omega)]; omega
            unfold sF
            dsimp only
            rw [ma_3, e1, ma_ma, bad_eq hw2, bd_some]
            have hx := hbad _ (e - 1) f2 hw2 (by omega)
            rw [hJ _ _ (by rw [sM_a (by decide)]; exact h85)]
            refine ⟨_, e - 1, rfl, by omega, f85 _ hx.1, ?_⟩
            show sM (sM _ 70 4 ((e - 1 : Nat) : Int)) 85 l _ 70 4 ≠ -1
            rw [sM_a (by decide)]
            exact hx.2
    · rw [if_neg c2, b2_f c2, if_pos rfl, bad_eq hw1, bd_some]
      have hx := hbad _ (sk t n (sk t n p + 1)) f1 hw1 (by omega)
      exact ⟨_, _, rfl, by omega, hx.1, hx.2⟩
  · rw [if_neg c1, b2_f (by omega), if_pos rfl, bad_eq hw1, bd_some]
    have hx := hbad _ (sk t n p) f1 hw1 (by omega)
    exact ⟨_, _, rfl, by omega, hx.1, hx.2⟩
def hasM (μ : Mm) (l k : Nat) (L : List (Int × Int)) : Prop := μ 85 l = ((k + L.length : Nat) : Int) ∧ ∀ i, i < L.length → μ 83 (8 * l + (k + i)) = (L.getD i (0, 0)).1 ∧ μ 84 (8 * l + (k + i)) = (L.getD i (0, 0)).2
theorem stm_at {μ : Mm} {l k : Nat} {c v : Int} (j : Nat) : stm μ l k c v 83 j = (if j = 8 * l + k then c else μ 83 j) ∧ stm μ l k c v 84 j = (if j = 8 * l + k then v else μ 84 j) ∧ stm μ l k c v 85 l = ((k + 1 : Nat) : Int) ∧ stm μ l k c v 70 4 = μ 70 4 := by
  unfold stm
  refine ⟨?_, ?_, ?_, ?_⟩
  · rw [sM_a (by decide), sM_a (by decide), sM_if]
  · rw [sM_a (by decide), sM_if, sM_a (by decide)]
  · rw [sM_s]
  · rw [sM_a (by decide), sM_a (by decide), sM_a (by decide)]
theorem plN_dig {t : Nat → Int} {n : Nat} (r : Nat) {e : Nat} (v : Int) (h : e < n ∧ 48 ≤ t e ∧ t e ≤ 57) : plN t n r e v = none := by
  have hs : sk t n e = e := sk_id (fun c => by omega)
  have hp : pk t n e = t e := by unfold pk; rw [hs, if_pos h.1]
  cases r with
  | zero => unfold plN; rw [hp, if_neg (by omega)]
  | succ r => unfold plN; rw [hp, if_neg (by omega), if_neg (by omega)]
theorem atEnd_eq {t : Nat → Int} {n : Nat} {μ : Mm} (h : Tm t n μ) {p : Nat} (hp : p < 100000) (hw : μ 70 4 = -1) : X11_atEnd (ma μ p) = if pk t n p = -1 then some (-1, ma μ (sk t n p)) else some (((sk t n p : Nat) : Int), ma (sM μ 70 4 ((sk t n p : Nat) : Int)) (sk t n p)) := by
  unfold X11_atEnd
  rw [ma_j (by decide), if_pos hw, look_eq h hp, bd_some]
  by_cases c : pk t n p = -1
  · rw [if_pos c, if_pos c, ma_j (by decide), hw]
  · rw [if_neg c, if_neg c, bad_eq hw, bd_some, ma_j (by decide), sM_s]
theorem atEnd_F {μ : Mm} (hw : μ 70 4 ≠ -1) : X11_atEnd μ = some (μ 70 4, μ) := by
  unfold X11_atEnd
  rw [if_neg hw]
theorem ma_add0 {μ : Mm} {p : Nat} (hp : p < 100000) : sM (ma μ p) 70 3 (iA (ma μ p 70 3) 0) = ma μ p := by
  rw [ma_3, iA_id (by omega) (by omega), Int.add_zero, ma_ma]
def KM : Mm → Rs := fun μ21 => bd (X11_atEnd μ21) fun v22 μ23 => some (v22, μ23)
def plC (t : Nat → Int) (n r p : Nat) (prev : Int) : Option (List (Int × Int)) := match cueS t n p prev with
  | none => none
  | some q => match plN t n r q.2.2 q.2.1 with
    | none => none
    | some L => some ((q.1, q.2.1) :: L)
/-- what reading on from the CUE k at p comes to: r more at most behind it -/
def CM (t : Nat → Int) (n l r fuel k p : Nat) (μ : Mm) (prev : Int) : Prop := ∃ f μ' a, X11_readPlay_L19 (l : Int) KM fuel 1 (ma μ p) = some (f, ma μ' a) ∧ a ≤ n + 1 ∧ fM l μ μ' ∧ μ' 70 4 = f ∧ (f = -1 → ∀ j, j < 8 * l + k → μ' 83 j = μ 83 j ∧ μ' 84 j = μ 84 j) ∧ match plC t n r p prev with
      | none => f ≠ -1
      | some L => f = -1 ∧ hasM μ' l k L
theorem exitL {t : Nat → Int} {n l fuel : Nat} {x : Mm} {b : Nat} (hx : Tm t n x) (hb : b ≤ n + 1) : X11_readPlay_J68 (fun w2 μq => X11_readPlay_L19 (l : Int) KM (fuel + 1) w2 μq) (l : Int) (ma x b) = KM (ma x b) := by
  have h160 := hx.1
  unfold X11_readPlay_J68 X11_readPlay_J69 sF
  rw [if_pos rfl]
  dsimp only
  rw [ma_add0 (by omega), X11_readPlay_L19, if_pos rfl]
theorem KM_F {x : Mm} {b : Nat} (hw : x 70 4 ≠ -1) : KM (ma x b) = some (x 70 4, ma x b) := by
  unfold KM
  rw [atEnd_F (by rw [ma_j (by decide)]; exact hw), bd_some, ma_j (by decide)]
theorem KM_eq {t : Nat → Int} {n l : Nat} {μ x : Mm} (hx : Tm t n x) {b : Nat} (hb : b ≤ n) (hw : x 70 4 = -1) (hf : fM l μ x) : ∃ f x' a, KM (ma x b) = some (f, ma x' a) ∧ a ≤ n + 1 ∧ fM l μ x' ∧ x' 70 4 = f ∧ (∀ k j, k ≠ 70 → x' k j = x k j) ∧ if pk t n b = -1 then f = -1 else f ≠ -1 := by
  have h160 := hx.1
  have hs := sk_le (t := t) (n := n) b hb
  unfold KM
  rw [atEnd_eq hx (by omega) hw]
  by_cases c : pk t n b = -1
  · rw [if_pos c, bd_some]
    exact ⟨_, _, _, rfl, by omega, hf, hw, fun k j _ => rfl, by rw [if_pos c]⟩
  · rw [if_neg c, bd_some]
    exact ⟨_, _, _, rfl, by omega, fM_s hf (by unfold wPl; omega) (show (-1 : Int) ≤ ((sk t n b : Nat) : Int) ∧ ((sk t n b : Nat) : Int) ≤ 1000 by omega), by rw [sM_s], fun k j hk => sM_a hk, by rw [if_neg c]; omega⟩
theorem stepM {t : Nat → Int} {n : Nat} (hT : ∀ j, j < n → 1 ≤ t j ∧ t j ≤ 255) {l : Nat} (hl : l ≤ 5) {r fuel k p : Nat} {μ : Mm} {prev : Int} (hkr : k + r = 7) (hf : 0 < fuel) (hB : Bm μ) (h : Tm t n μ) (hw : μ 70 4 = -1) (hm : μ 85 l = (k : Int)) (hp : p ≤ n) (hprev : if k = 0 then prev = -1 else prev = μ 84 (8 * l + k - 1))
    (next : 1 ≤ r → ∀ (x : Mm) (p1 : Nat) (v : Int), Bm x → Tm t n x → x 70 4 = -1 → x 85 l = ((k + 1 : Nat) : Int) → p1 ≤ n → v = x 84 (8 * l + (k + 1) - 1) → CM t n l (r - 1) fuel (k + 1) p1 x v) : CM t n l r (fuel + 1) k p μ prev := by
  have h160 := h.1
  obtain ⟨f2, rfl⟩ : ∃ f2, fuel = f2 + 1 := ⟨fuel - 1, by omega⟩
  obtain ⟨μ1, a1, e1, ea, e2, e3⟩ := cueM hT hl (k := k) (by omega) hB h hw hm hp hprev
  have hT1 := Tm_fM h e2
  unfold CM
  rw [X11_readPlay_L19, if_neg (by decide), ma_j (by decide), if_pos hw, e1, bd_some, ma_j (by decide)]
  unfold plC
  have bad : μ1 70 4 ≠ -1 → plC t n r p prev = none → CM t n l r (f2 + 1 + 1) k p μ prev := by
    intro hne hc
    unfold CM
    rw [X11_readPlay_L19, if_neg (by decide), ma_j (by decide), if_pos hw, e1, bd_some, ma_j (by decide), if_neg hne, exitL hT1 ea, KM_F hne, hc]
    exact ⟨_, _, _, rfl, ea, e2, rfl, fun e => absurd e hne, hne⟩
  have bad' : μ1 70 4 ≠ -1 → plC t n r p prev = none → _ := bad
  revert e3
  cases hc : cueS t n p prev with
  | none =>
    intro e3
    have e3 : μ1 70 4 ≠ -1 := e3
    rw [if_neg e3, exitL hT1 ea, KM_F e3]
    exact ⟨_, _, _, rfl, ea, e2, rfl, fun e => absurd e e3, e3⟩
  | some q =>
    intro e3
    dsimp only at e3 ⊢
    have hb := cueS_b hc
    by_cases cd : q.2.2 < n ∧ 48 ≤ t q.2.2 ∧ t q.2.2 ≤ 57
    · rw [if_pos cd] at e3
      rw [plN_dig r q.2.1 cd, if_neg e3, exitL hT1 ea, KM_F e3]
      exact ⟨_, _, _, rfl, ea, e2, rfl, fun e => absurd e e3, e3⟩
    · rw [if_neg cd] at e3
      obtain ⟨rfl, rfl⟩ := e3
      have hat := fun j => stm_at (μ := μ) (l := l) (k := k) (c := q.1) (v := q.2.1) j
      have hw1 : stm μ l k q.1 q.2.1 70 4 = -1 := by rw [(hat 0).2.2.2]; exact hw
      have hs := sk_le (t := t) (n := n) q.2.2 hb.2.2.2.2
      rw [if_pos hw1, look_eq hT1 (by omega), bd_some]
      have h85 : ∀ g : Int → Rs, ldA (ma (stm μ l k q.1 q.2.1) (sk t n q.2.2)) 85 (l : Int) g = g ((k + 1 : Nat) : Int) := by
        intro g
        unfold ldA
        rw [if_pos (by show (0 : Int) ≤ (l : Int) ∧ (l : Int) < 6; omega), Int.toNat_natCast, ma_c (by decide), (hat 0).2.2.1]
      have hasOne : ∀ (x : Mm), (∀ k j, k ≠ 70 → x k j = stm μ l k q.1 q.2.1 k j) → True := fun _ _ => trivial
      -- the end behind this CUE
      have fin : plN t n r q.2.2 q.2.1 = (if pk t n q.2.2 = -1 then some [] else none) → ∃ f μ' a, KM (ma (stm μ l k q.1 q.2.1) (sk t n q.2.2)) = some (f, ma μ' a) ∧ a ≤ n + 1 ∧ fM l μ μ' ∧ μ' 70 4 = f ∧ (f = -1 → ∀ j, j < 8 * l + k → μ' 83 j = μ 83 j ∧ μ' 84 j = μ 84 j) ∧ match (match plN t n r q.2.2 q.2.1 with | none => none | some L => some ((q.1, q.2.1) :: L)) with
          | none => f ≠ -1
          | some L => f = -1 ∧ hasM μ' l k L := by
        intro hN
        obtain ⟨f, x, a, g1, g2, g3, g4, g5, g6⟩ := KM_eq hT1 hs hw1 e2
        rw [pk_sk] at g6
        refine ⟨f, x, a, g1, g2, g3, g4, fun _ j hj => ?_, ?_⟩
        · rw [g5 83 j (by decide), g5 84 j (by decide), (hat j).1, (hat j).2.1, if_neg (by omega), if_neg (by omega)]
          exact ⟨rfl, rfl⟩
        · rw [hN]
          by_cases c : pk t n q.2.2 = -1
          · rw [if_pos c] at g6 ⊢
            refine ⟨g6, ?_, fun i hi => ?_⟩
            · rw [g5 85 l (by decide), (hat 0).2.2.1]; rfl
            · have : i = 0 := by
                have : i < 0 + 1 := hi
                omega
              subst this
              show x 83 (8 * l + k) = _ ∧ x 84 (8 * l + k) = _
              rw [g5 83 _ (by decide), g5 84 _ (by decide), (hat _).1, (hat _).2.1, if_pos rfl, if_pos rfl]
              exact ⟨rfl, rfl⟩
          · rw [if_neg c] at g6 ⊢
            exact g6
      by_cases c44 : pk t n q.2.2 = 44
      · rw [if_pos c44, h85]
        by_cases c8 : r = 0
        · rw [if_pos (by omega), exitL hT1 (by omega)]
          refine fin ?_
          rw [c8]; rfl
        · rw [if_neg (by omega)]
          have hq := pk_ne (t := t) (n := n) (p := q.2.2) (by omega)
          unfold X11_readPlay_J69 sF
          rw [if_neg (by decide)]
          dsimp only
          rw [ma_3, iA_nat (by omega), ma_ma]
          obtain ⟨f, x, a, g1, g2, g3, g4, g5, g6⟩ := next (by omega) (stm μ l k q.1 q.2.1) (sk t n q.2.2 + 1) q.2.1 e2.1 hT1 hw1 (hat 0).2.2.1 (by omega) (by rw [(hat _).2.1, if_pos (by omega)])
          refine ⟨f, x, a, g1, g2, ⟨g3.1, fw_tr e2.2 g3.2⟩, g4, fun hf j hj => ?_, ?_⟩
          · have := g5 hf j (by omega)
            rw [this.1, this.2, (hat j).1, (hat j).2.1, if_neg (by omega), if_neg (by omega)]
            exact ⟨rfl, rfl⟩
          · obtain ⟨r', rfl⟩ : ∃ r', r = r' + 1 := ⟨r - 1, by omega⟩
            have hN : plN t n (r' + 1) q.2.2 q.2.1 = plC t n r' (sk t n q.2.2 + 1) q.2.1 := by
              rw [plN, if_pos c44]
              rfl
            rw [hN]
            rw [Nat.add_sub_cancel] at g6
            revert g6
            cases hC : plC t n r' (sk t n q.2.2 + 1) q.2.1 with
            | none => intro g6; exact g6
            | some L =>
              intro g6
              obtain ⟨g7, g8, g9⟩ := g6
              refine ⟨g7, ?_, fun i hi => ?_⟩
              · rw [g8]; show _ = ((k + (L.length + 1) : Nat) : Int); omega
              · cases i with
                | zero =>
                  have := g5 g7 (8 * l + k) (by omega)
                  show x 83 (8 * l + k) = _ ∧ x 84 (8 * l + k) = _
                  rw [this.1, this.2, (hat _).1, (hat _).2.1, if_pos rfl, if_pos rfl]
                  exact ⟨rfl, rfl⟩
                | succ i =>
                  have hi' : i < L.length := by
                    have : i + 1 < L.length + 1 := hi
                    omega
                  have := g9 i hi'
                  have e : k + (i + 1) = k + 1 + i := by omega
                  rw [e]
                  exact this
      · rw [if_neg c44, exitL hT1 (by omega)]
        refine fin ?_
        cases r with
        | zero => rfl
        | succ r => rw [plN, if_neg c44]
theorem readM_L {t : Nat → Int} {n : Nat} (hT : ∀ j, j < n → 1 ≤ t j ∧ t j ≤ 255) {l : Nat} (hl : l ≤ 5) : ∀ (r fuel k p : Nat) (μ : Mm) (prev : Int), k + r = 7 → r + 1 < fuel → Bm μ → Tm t n μ → μ 70 4 = -1 → μ 85 l = (k : Int) → p ≤ n → (if k = 0 then prev = -1 else prev = μ 84 (8 * l + k - 1)) → CM t n l r fuel k p μ prev := by
  intro r
  induction r with
  | zero =>
    intro fuel k p μ prev hkr hf hB h hw hm hp hpr
    obtain ⟨f1, rfl, hf1⟩ := lt_fuel (d := 1) hf
    exact stepM hT hl hkr (by omega) hB h hw hm hp hpr (fun h => absurd h (by omega))
  | succ r ih =>
    intro fuel k p μ prev hkr hf hB h hw hm hp hpr
    obtain ⟨f1, rfl, hf1⟩ := lt_fuel (d := r + 2) hf
    refine stepM hT hl hkr (by omega) hB h hw hm hp hpr (fun _ x p1 v h1 h2 h3 h4 h5 h6 => ?_)
    exact ih f1 (k + 1) p1 x v (by omega) (by omega) h1 h2 h3 h4 h5 (by rw [if_neg (by omega)]; exact h6)
theorem playM {t : Nat → Int} {n : Nat} (hT : ∀ j, j < n → 1 ≤ t j ∧ t j ≤ 255) {l : Nat} (hl : l ≤ 5) {μ : Mm} (hB : Bm μ) (h : Tm t n μ) :
    ∃ f μ' a, X11_readPlay (l : Int) μ = some (f, ma μ' a) ∧ a ≤ n + 1 ∧ fM l μ μ' ∧ μ' 70 4 = f ∧ match plS t n with
      | none => f ≠ -1
      | some L => f = -1 ∧ hasM μ' l 0 L := by
  have h160 := h.1
  unfold X11_readPlay sF stA
  dsimp only
  rw [if_pos (by show (0 : Int) ≤ (l : Int) ∧ (l : Int) < 6; omega), Int.toNat_natCast]
  have e0 : sM (sM (sM μ 70 3 0) 70 4 (-1)) 85 l 0 = ma (sM (sM μ 70 4 (-1)) 85 l 0) 0 := by
    have : sM μ 70 3 0 = ma μ 0 := rfl
    rw [this, ma_s (by decide), ma_s (by omega)]
  rw [e0]
  have f0 : fM l μ (sM (sM μ 70 4 (-1)) 85 l 0) := fM_s (fM_s ⟨hB, fw_rf⟩ (by unfold wPl; omega) (show (-1 : Int) ≤ -1 ∧ (-1 : Int) ≤ 1000 by omega)) (by unfold wPl; omega) (show (0 : Int) ≤ 0 ∧ (0 : Int) ≤ 8 by omega)
  obtain ⟨f, x, a, g1, g2, g3, g4, _, g6⟩ := readM_L hT hl 7 FU 0 0 (sM (sM μ 70 4 (-1)) 85 l 0) (-1) (by omega) (by decide) f0.1 (Tm_fM h f0) (by rw [sM_a (by decide), sM_s]) (by rw [sM_s]; rfl) (by omega) (by rw [if_pos rfl])
  exact ⟨f, x, a, g1, g2, ⟨g3.1, fw_tr f0.2 g3.2⟩, g4, g6⟩
