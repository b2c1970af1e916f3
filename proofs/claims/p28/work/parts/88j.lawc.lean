/-! LAWS, the class's reader -/
def envC (ν : Mm) (i : Nat) : Int := ν 4 (i + 1)
/-- the reader is at a FAULT, or stands where no piece can go on -/
def Bad (t : Nat → Int) (n p : Nat) (f : Int) : Prop := f ≠ -1 ∨ (p < n ∧ 48 ≤ t p ∧ t p ≤ 57)
theorem peek_B {t : Nat → Int} {n : Nat} {ν : Mm} (h : Tx t n ν) {p : Nat} {f : Int} (hb : Bad t n p f) : ∃ v, X4_peek (cr ν p f) = some (v, cr ν p f) ∧ (v = -1 ∨ (48 ≤ v ∧ v ≤ 57)) ∧ (f = -1 → v ≠ -1) := by
  by_cases c : f = -1
  · subst c
    have hd := hb.resolve_left (fun z => z rfl)
    have hs : sk t n p = p := sk_id (fun z => by omega)
    have e := peek_eq h (p := p) (by omega)
    have hp : pk t n p = t p := by unfold pk; rw [hs, if_pos hd.1]
    rw [hs, hp] at e
    exact ⟨_, e, Or.inr hd.2, fun _ => by omega⟩
  · exact ⟨_, peek_F c, Or.inl rfl, fun z => absurd z c⟩
theorem take_B {t : Nat → Int} {n : Nat} {ν : Mm} (h : Tx t n ν) {p : Nat} {f : Int} (hb : Bad t n p f) {c : Int} (hc : c ≠ -1 ∧ ¬ (48 ≤ c ∧ c ≤ 57)) : X4_take c (cr ν p f) = some (0, cr ν p f) := by
  obtain ⟨v, e, hv, _⟩ := peek_B h hb
  unfold X4_take
  rw [e, bd_some, if_neg (by omega)]
theorem need_B {t : Nat → Int} {n : Nat} {ν : Mm} (h : Tx t n ν) {p : Nat} {f : Int} (hb : Bad t n p f) {c : Int} (hc : c ≠ -1 ∧ ¬ (48 ≤ c ∧ c ≤ 57)) : ∃ f', X4_need c (cr ν p f) = some (0, cr ν p f') ∧ f' ≠ -1 := by
  obtain ⟨v, e, hv, _⟩ := peek_B h hb
  unfold X4_need
  rw [e, bd_some, if_neg (by omega), cr_1]
  by_cases c1 : f = -1
  · subst c1
    rw [refuse_eq, bd_some]
    exact ⟨_, rfl, by omega⟩
  · rw [refuse_F c1, bd_some]
    exact ⟨_, rfl, c1⟩
theorem needEnd_B {t : Nat → Int} {n : Nat} {ν : Mm} (h : Tx t n ν) {p : Nat} {f : Int} (hb : Bad t n p f) : ∃ f', X4_needEnd (cr ν p f) = some (0, cr ν p f') ∧ f' ≠ -1 := by
  obtain ⟨v, e, hv, hv2⟩ := peek_B h hb
  unfold X4_needEnd
  rw [e, bd_some, cr_1]
  by_cases c1 : f = -1
  · subst c1
    rw [if_neg (hv2 rfl), refuse_eq, bd_some]
    exact ⟨_, rfl, by omega⟩
  · by_cases c2 : v = -1
    · rw [if_pos c2]; exact ⟨_, rfl, c1⟩
    · rw [if_neg c2, refuse_F c1, bd_some]; exact ⟨_, rfl, c1⟩
/-- what a part of the class's reader gives at p, where the pieces there are s -/
def CLs (t : Nat → Int) (n : Nat) (ν : Mm) (F : Mm → Rs) (p : Nat) (rg : Int → Prop) (s : Pr) : Prop := match s with
  | some q => F (cr ν p (-1)) = some (vl (envC ν) q.1, cr ν q.2 (-1))
  | none => ∃ r p' f', F (cr ν p (-1)) = some (r, cr ν p' f') ∧ Bad t n p' f' ∧ rg r
def rgT (_ : Int) : Prop := True
def rgB (r : Int) : Prop := r = 0 ∨ r = 1
theorem letter_eq {t : Nat → Int} {n : Nat} {ν : Mm} (h : Tx t n ν) {p : Nat} {x : Int} (hx : ltr x ≠ -1 → p < n) : X2_letter x (cr ν p (-1)) = if ltr x = -1 then some (0, cr ν p (p : Int)) else some (envC ν (ltr x).toNat, cr ν (p + 1) (-1)) := by
  unfold X2_letter
  by_cases c1 : x = 99
  · have e : ltr x = 3 := by rw [c1]; rfl
    rw [if_pos c1, if_neg (by omega), pass_eq h (hx (by omega)), bd_some, e, cr_c (by decide)]; rfl
  · rw [if_neg c1]
    by_cases c2 : x = 107
    · have e : ltr x = 1 := by rw [c2]; rfl
      rw [if_pos c2, if_neg (by omega), pass_eq h (hx (by omega)), bd_some, e, cr_c (by decide)]; rfl
    · rw [if_neg c2]
      by_cases c3 : x = 108
      · have e : ltr x = 4 := by rw [c3]; rfl
        rw [if_pos c3, if_neg (by omega), pass_eq h (hx (by omega)), bd_some, e, cr_c (by decide)]; rfl
      · rw [if_neg c3]
        by_cases c4 : x = 110
        · have e : ltr x = 2 := by rw [c4]; rfl
          rw [if_pos c4, if_neg (by omega), pass_eq h (hx (by omega)), bd_some, e, cr_c (by decide)]; rfl
        · rw [if_neg c4]
          by_cases c5 : x = 116
          · have e : ltr x = 0 := by rw [c5]; rfl
            rw [if_pos c5, if_neg (by omega), pass_eq h (hx (by omega)), bd_some, e, cr_c (by decide)]; rfl
          · have e : ltr x = -1 := by
              unfold ltr
              rw [if_neg c5, if_neg c2, if_neg c4, if_neg c1, if_neg c3]
            rw [if_neg c5, if_pos e, cr_1, refuse_eq, bd_some]
theorem atom_F {ν : Mm} {rec : Int → Mm → Rs} {d : Int} {p : Nat} {f : Int} (hf : f ≠ -1) : X2_atom_o rec d (cr ν p f) = some (0, cr ν p f) := by
  unfold X2_atom_o
  rw [peek_F hf, bd_some, cdig, bd_some, b2_f (by decide), if_pos rfl, if_neg (by decide)]
  unfold X2_letter
  rw [if_neg (by decide), if_neg (by decide), if_neg (by decide), if_neg (by decide), if_neg (by decide), cr_1, refuse_F hf, bd_some, bd_some]
theorem atomC {t : Nat → Int} {n : Nat} {ν : Mm} (h : Tx t n ν) (hT : ∀ j, j < n → 1 ≤ t j ∧ t j ≤ 255) {rec : Int → Mm → Rs} {S : Nat → Pr} {d : Nat} (hd : (d < 6 ∧ ∀ p, p ≤ n → CLs t n ν (rec ((d + 1 : Nat) : Int)) p rgT (S p)) ∨ (d = 6 ∧ ∀ p, S p = none)) (hG : GP n S) {p : Nat} (hp : p ≤ n) : CLs t n ν (X2_atom_o rec (d : Int)) p rgT (atomS t n S p) := by
  have hge := sk_ge (t := t) (n := n) p
  have hle := sk_le (t := t) (n := n) p hp
  have h160 := h.1
  unfold atomS
  have hb : ∀ r, ∃ r' p' f', (some (r, cr ν (sk t n p) ((sk t n p : Nat) : Int)) : Rs) = some (r', cr ν p' f') ∧ Bad t n p' f' ∧ rgT r' := fun r => ⟨_, _, _, rfl, Or.inl (by omega), trivial⟩
  by_cases c1 : 48 ≤ pk t n p ∧ pk t n p ≤ 57
  · have e : X2_atom_o rec (d : Int) (cr ν p (-1)) = some ((nmF t n 4 (sk t n p) 0).1, cr ν (nmF t n 4 (sk t n p) 0).2 (-1)) := by
      have hn := number_eq h hT (M := 4) (by decide) (p := sk t n p) hle
      rw [pk_sk, sk_sk, if_pos c1] at hn
      have hn : X4_number 4 (cr ν (sk t n p) (-1)) = _ := hn
      unfold X2_atom_o
      rw [peek_eq h hp, bd_some, cdig, bd_some, b2_t c1, if_neg (by decide), hn, bd_some]
    rw [if_pos c1]
    split
    · rename_i hx
      exact ⟨_, _, _, e, Or.inr hx, trivial⟩
    · exact e
  · rw [if_neg c1]
    by_cases c2 : ltr (pk t n p) = -1
    · rw [if_neg (fun z => z c2)]
      have hl := letter_eq h (p := sk t n p) (x := pk t n p) (fun z => absurd c2 z)
      rw [if_pos c2] at hl
      by_cases c3 : pk t n p = 91
      · rw [if_pos c3]
        have hq := pk_ne (t := t) (n := n) (p := p) (by omega)
        rcases hd with ⟨hd1, hd2⟩ | ⟨hd1, hd2⟩
        · have e : X2_atom_o rec (d : Int) (cr ν p (-1)) = bd (rec ((d + 1 : Nat) : Int) (cr ν (sk t n p + 1) (-1))) fun v19 μ20 => bd (X4_need 93 μ20) fun v22 μ23 => some (v19, μ23) := by
            unfold X2_atom_o
            rw [peek_eq h hp, bd_some, cdig, bd_some, b2_f c1, if_pos rfl, if_pos c3, if_neg (by omega), pass_eq h hq.1, bd_some, iA_nat (by omega)]
          have hr := hd2 (sk t n p + 1) (by omega)
          have hg := hG (sk t n p + 1)
          revert hr hg
          cases S (sk t n p + 1) with
          | none =>
            rintro ⟨r, p', f', e1, e2, _⟩ _
            obtain ⟨f2, g1, g2⟩ := need_B h e2 (c := 93) (by decide)
            rw [e1, bd_some, g1, bd_some] at e
            exact ⟨_, _, _, e, Or.inl g2, trivial⟩
          | some q =>
            intro hr hg
            have hr : rec ((d + 1 : Nat) : Int) (cr ν (sk t n p + 1) (-1)) = some (vl (envC ν) q.1, cr ν q.2 (-1)) := hr
            have hq2 := (hg q (by omega) rfl).2.1
            rw [hr, bd_some, need_eq h hq2 93 (by decide)] at e
            dsimp only
            by_cases c4 : pk t n q.2 = 93
            · rw [if_pos c4, bd_some] at e
              rw [if_pos c4]
              exact e
            · rw [if_neg c4, bd_some] at e
              rw [if_neg c4]
              exact ⟨_, _, _, e, Or.inl (by omega), trivial⟩
        · rw [hd2]
          have e : X2_atom_o rec (d : Int) (cr ν p (-1)) = some (0, cr ν (sk t n p) ((sk t n p : Nat) : Int)) := by
            unfold X2_atom_o
            rw [peek_eq h hp, bd_some, cdig, bd_some, b2_f c1, if_pos rfl, if_pos c3, if_pos (by omega), hl, bd_some]
          exact ⟨_, _, _, e, Or.inl (by omega), trivial⟩
      · rw [if_neg c3]
        have e : X2_atom_o rec (d : Int) (cr ν p (-1)) = some (0, cr ν (sk t n p) ((sk t n p : Nat) : Int)) := by
          unfold X2_atom_o
          rw [peek_eq h hp, bd_some, cdig, bd_some, b2_f c1, if_pos rfl, if_neg c3, hl, bd_some]
        exact ⟨_, _, _, e, Or.inl (by omega), trivial⟩
    · rw [if_pos c2]
      have hq := pk_ne (t := t) (n := n) (p := p) (fun z => c2 (by rw [z]; decide))
      have hl := letter_eq h (p := sk t n p) (x := pk t n p) (fun _ => hq.1)
      rw [if_neg c2] at hl
      have c3 : pk t n p ≠ 91 := fun z => c2 (by rw [z]; decide)
      show X2_atom_o rec (d : Int) (cr ν p (-1)) = some (envC ν (ltr (pk t n p)).toNat, cr ν (sk t n p + 1) (-1))
      unfold X2_atom_o
      rw [peek_eq h hp, bd_some, cdig, bd_some, b2_f c1, if_pos rfl, if_neg c3, hl, bd_some]
/-- a loop over one of two signs -/
def Lp2 (s1 s2 o1 o2 : Int) (F : Mm → Rs) (L : Nat → Int → Int → Mm → Rs) : Prop := ∀ f a k μ, L (f + 1) a k μ = if 160 ≤ k then (some (wI a, μ)) else (bd (X4_take s1 μ) fun v5 μ6 => if v5 = 0 then (bd (X4_take s2 μ6) fun v9 μ10 => if v9 = 0 then (some (wI a, μ10)) else (bd (F μ10) fun v μ' => L f (wk o2 a v) (iA k 1) μ')) else (bd (F μ6) fun v μ' => L f (wk o1 a v) (iA k 1) μ'))
def okS (c : Int) : Prop := c ≠ -1 ∧ ¬ (48 ≤ c ∧ c ≤ 57)
theorem Lp2_B {t : Nat → Int} {n : Nat} {ν : Mm} (h : Tx t n ν) {s1 s2 o1 o2 : Int} {F : Mm → Rs} {L : Nat → Int → Int → Mm → Rs} (hL : Lp2 s1 s2 o1 o2 F L) (h1 : okS s1) (h2 : okS s2) {f : Nat} {a k : Int} {p : Nat} {g : Int} (hb : Bad t n p g) : L (f + 1) a k (cr ν p g) = some (wI a, cr ν p g) := by
  rw [hL]
  by_cases c : 160 ≤ k
  · rw [if_pos c]
  · rw [if_neg c, take_B h hb h1, bd_some, if_pos rfl, take_B h hb h2, bd_some, if_pos rfl]
theorem chC2 {t : Nat → Int} {n : Nat} {ν : Mm} (h : Tx t n ν) (hE : eOK (envC ν)) {s1 s2 o1 o2 : Int} (h1 : okS s1) (h2 : okS s2) (ho1 : 2 ≤ o1 ∧ o1 ≤ 11 ∧ o1 ≠ 9) (ho2 : 2 ≤ o2 ∧ o2 ≤ 11 ∧ o2 ≠ 9) {F : Mm → Rs} {L : Nat → Int → Int → Mm → Rs} (hL : Lp2 s1 s2 o1 o2 F L) {S : Nat → Pr} (hF : ∀ p, p ≤ n → CLs t n ν F p rgT (S p)) (hG : GP n S) : ∀ (m fuel : Nat) (a : Cd) (p0 p : Nat), m ≤ 160 → m < fuel → 161 ≤ p + m → Gp n p0 (a, p) → CLs t n ν (L fuel (vl (envC ν) a) ((160 - m : Nat) : Int)) p rgT (chL t n s1 s2 o1 o2 S m a p) := by
  intro m
  induction m with
  | zero =>
    intro fuel a p0 p _ _ hp hg
    have := h.1
    have : p ≤ n := hg.2.1
    omega
  | succ m ih =>
    intro fuel a p0 p hm hf hp hg
    obtain ⟨f, rfl, hf'⟩ := lt_fuel (d := m + 1) hf
    obtain ⟨f2, rfl⟩ : ∃ f2, f = f2 + 1 := ⟨f - 1, by omega⟩
    have h160 := h.1
    have hpn : p ≤ n := hg.2.1
    have hge := sk_ge (t := t) (n := n) p
    have hle := sk_le (t := t) (n := n) p hpn
    have hk : iA ((160 - (m + 1) : Nat) : Int) 1 = ((160 - m : Nat) : Int) := by rw [iA_nat (by omega)]; omega
    have hr : -2147483648 ≤ vl (envC ν) a ∧ vl (envC ν) a ≤ 2147483647 := hg.2.2.1.2.2.2.2 _ hE
    unfold chL
    have step : ∀ {o : Int} (ho : 2 ≤ o ∧ o ≤ 11 ∧ o ≠ 9), sk t n p < n → (L (f2 + 1 + 1) (vl (envC ν) a) ((160 - (m + 1) : Nat) : Int) (cr ν p (-1)) = bd (F (cr ν (sk t n p + 1) (-1))) fun v μ' => L (f2 + 1) (wk o (vl (envC ν) a) v) ((160 - m : Nat) : Int) μ') → CLs t n ν (L (f2 + 1 + 1) (vl (envC ν) a) ((160 - (m + 1) : Nat) : Int)) p rgT (match S (sk t n p + 1) with | none => none | some q => chL t n s1 s2 o1 o2 S m (bin o a q.1) q.2) := by
      intro o ho hlt e
      have hF1 := hF (sk t n p + 1) (by omega)
      have hG1 := hG (sk t n p + 1)
      revert hF1 hG1
      cases S (sk t n p + 1) with
      | none =>
        rintro ⟨r, p', f', e1, e2, _⟩ _
        rw [e1, bd_some, Lp2_B h hL h1 h2 e2] at e
        exact ⟨_, _, _, e, e2, trivial⟩
      | some q =>
        intro hF1 hG1
        have hF1 : F (cr ν (sk t n p + 1) (-1)) = some (vl (envC ν) q.1, cr ν q.2 (-1)) := hF1
        have hq := hG1 q (by omega) rfl
        have hb := Gp_bin ho hg hge hq
        rw [hF1, bd_some, ← vl_bin' ho hg.2.2.1 hq.2.2.1] at e
        have hI := ih (f2 + 1) (bin o a q.1) p0 q.2 (by omega) (by omega) (by have := hq.1; omega) hb
        dsimp only
        revert hI
        unfold CLs
        cases chL t n s1 s2 o1 o2 S m (bin o a q.1) q.2 with
        | none =>
          rintro ⟨r, p', f', e1, e2, e3⟩
          exact ⟨r, p', f', e.trans e1, e2, e3⟩
        | some w => intro hI; exact e.trans hI
    by_cases c1 : pk t n p = s1
    · rw [if_pos c1]
      have hq := pk_ne (t := t) (n := n) (p := p) (by rw [c1]; exact h1.1)
      refine step ho1 hq.1 ?_
      rw [hL, if_neg (by omega), take_eq h hpn s1 h1.1, if_pos c1, bd_some, if_neg (by decide), hk]
    · rw [if_neg c1]
      by_cases c2 : pk t n p = s2
      · rw [if_pos c2]
        have hq := pk_ne (t := t) (n := n) (p := p) (by rw [c2]; exact h2.1)
        refine step ho2 hq.1 ?_
        rw [hL, if_neg (by omega), take_eq h hpn s1 h1.1, if_neg c1, bd_some, if_pos rfl, take_eq h hle s2 h2.1, pk_sk, sk_sk, if_pos c2, bd_some, if_neg (by decide), hk]
      · rw [if_neg c2]
        show L (f2 + 1 + 1) (vl (envC ν) a) ((160 - (m + 1) : Nat) : Int) (cr ν p (-1)) = some (vl (envC ν) a, cr ν (sk t n p) (-1))
        rw [hL, if_neg (by omega), take_eq h hpn s1 h1.1, if_neg c1, bd_some, if_pos rfl, take_eq h hle s2 h2.1, pk_sk, sk_sk, if_neg c2, bd_some, if_pos rfl, wI_id (by omega) (by omega)]
theorem chC2S {t : Nat → Int} {n : Nat} {ν : Mm} (h : Tx t n ν) (hE : eOK (envC ν)) {s1 s2 o1 o2 : Int} (h1 : okS s1) (h2 : okS s2) (ho1 : 2 ≤ o1 ∧ o1 ≤ 11 ∧ o1 ≠ 9) (ho2 : 2 ≤ o2 ∧ o2 ≤ 11 ∧ o2 ≠ 9) {F : Mm → Rs} {L : Nat → Int → Int → Mm → Rs} (hL : Lp2 s1 s2 o1 o2 F L) {S : Nat → Pr} (hF : ∀ p, p ≤ n → CLs t n ν F p rgT (S p)) (hG : GP n S) {p : Nat} (hp : p ≤ n) : CLs t n ν (fun μ => bd (F μ) fun v1 μ2 => L FU v1 0 μ2) p rgT (chS t n s1 s2 o1 o2 S p) := by
  unfold chS
  have hF1 := hF p hp
  have hG1 := hG p
  revert hF1 hG1
  cases S p with
  | none =>
    rintro ⟨r, p', f', e1, e2, _⟩ _
    refine ⟨wI r, p', f', ?_, e2, trivial⟩
    show (bd (F (cr ν p (-1))) fun v1 μ2 => L FU v1 0 μ2) = _
    rw [e1, bd_some]
    exact Lp2_B h hL h1 h2 e2
  | some q =>
    intro hF1 hG1
    have hF1 : F (cr ν p (-1)) = some (vl (envC ν) q.1, cr ν q.2 (-1)) := hF1
    have hq := hG1 q hp rfl
    have hI := chC2 h hE h1 h2 ho1 ho2 hL hF hG 160 FU q.1 p q.2 (by omega) (by decide) (by have := hq.1; omega) hq
    dsimp only
    have e : (bd (F (cr ν p (-1))) fun v1 μ2 => L FU v1 0 μ2) = L FU (vl (envC ν) q.1) ((160 - 160 : Nat) : Int) (cr ν q.2 (-1)) := by rw [hF1, bd_some]; rfl
    revert hI
    unfold CLs
    cases chL t n s1 s2 o1 o2 S 160 q.1 q.2 with
    | none =>
      rintro ⟨r, p', f', e1, e2, e3⟩
      exact ⟨r, p', f', e.trans e1, e2, e3⟩
    | some w => intro hI; exact e.trans hI
theorem held_eq (x : Int) (μ : Mm) : X2_held x μ = some (clm x, μ) := rfl
theorem Lp_term (rec : Int → Mm → Rs) (d : Int) : Lp2 42 47 4 5 (X2_atom_o rec d) (X2_term_L10 rec d) := by
  intro f a k μ
  rw [X2_term_L10]
  congr 1
  congr 1
  funext v5 μ6
  congr 1
  · congr 1
    funext v9 μ10
    congr 1
    congr 1
    funext v13 μ14
    by_cases c : v13 = 0
    · rw [if_pos c, c]
      rfl
    · rw [if_neg c]
      unfold dZ
      rw [if_neg c, held_eq, bd_some]
      have : wk 5 a v13 = clm (lD a v13) := by
        unfold wk
        rw [if_neg (by decide), if_neg (by decide), if_neg (by decide), if_pos rfl, if_neg c]
      rw [this]
theorem Lp_sum (rec : Int → Mm → Rs) (d : Int) : Lp2 43 45 2 3 (X2_term_o rec d) (X2_sum_L10 rec d) := by
  intro f a k μ
  rw [X2_sum_L10]
  rfl
theorem sumOC {t : Nat → Int} {n : Nat} {ν : Mm} (h : Tx t n ν) (hT : ∀ j, j < n → 1 ≤ t j ∧ t j ≤ 255) (hE : eOK (envC ν)) {rec : Int → Mm → Rs} {S : Nat → Pr} {d : Nat} (hd : (d < 6 ∧ ∀ p, p ≤ n → CLs t n ν (rec ((d + 1 : Nat) : Int)) p rgT (S p)) ∨ (d = 6 ∧ ∀ p, S p = none)) (hG : GP n S) {p : Nat} (hp : p ≤ n) : CLs t n ν (fun μ => bd (X2_term_o rec (d : Int) μ) fun v1 μ2 => X2_sum_L10 rec (d : Int) FU v1 0 μ2) p rgT (sumO t n S p) := by
  refine chC2S h hE (by unfold okS; decide) (by unfold okS; decide) (by decide) (by decide) (Lp_sum rec d) (fun p hp => ?_) (chS_G (by decide) (by decide) (by decide) (atom_G hG)) hp
  exact chC2S h hE (by unfold okS; decide) (by unfold okS; decide) (by decide) (by decide) (Lp_term rec d) (fun p hp => atomC h hT hd hG hp) (atom_G hG) hp
theorem sumC {t : Nat → Int} {n : Nat} {ν : Mm} (h : Tx t n ν) (hT : ∀ j, j < n → 1 ≤ t j ∧ t j ≤ 255) (hE : eOK (envC ν)) : ∀ (l fuel : Nat), l ≤ 6 → l < fuel → ∀ p, p ≤ n → CLs t n ν (X2_sum fuel ((6 - l : Nat) : Int)) p rgT (sumS t n l p) := by
  intro l
  induction l with
  | zero =>
    intro fuel _ hf p hp
    obtain ⟨f, rfl, hf'⟩ := lt_fuel hf
    exact sumOC h hT hE (rec := fun w0 μq => X2_sum f w0 μq) (d := 6) (Or.inr ⟨rfl, fun _ => rfl⟩) none_G hp
  | succ l ih =>
    intro fuel hl hf p hp
    obtain ⟨f, rfl, hf'⟩ := lt_fuel (d := l + 1) hf
    refine sumOC h hT hE (rec := fun w0 μq => X2_sum f w0 μq) (d := 6 - (l + 1)) (Or.inl ⟨by omega, fun p hp => ?_⟩) (sumS_G l) hp
    have e : 6 - (l + 1) + 1 = 6 - l := by omega
    rw [e]
    exact ih f (by omega) (by omega) p hp
theorem Lp2_F {ν : Mm} {s1 s2 o1 o2 : Int} {F : Mm → Rs} {L : Nat → Int → Int → Mm → Rs} (hL : Lp2 s1 s2 o1 o2 F L) (h1 : s1 ≠ -1) (h2 : s2 ≠ -1) {f : Nat} {a k : Int} {p : Nat} {g : Int} (hg : g ≠ -1) : L (f + 1) a k (cr ν p g) = some (wI a, cr ν p g) := by
  rw [hL]
  by_cases c : 160 ≤ k
  · rw [if_pos c]
  · rw [if_neg c, take_F hg h1, bd_some, if_pos rfl, take_F hg h2, bd_some, if_pos rfl]
theorem sum_F {ν : Mm} {f : Nat} {d : Int} {p : Nat} {g : Int} (hg : g ≠ -1) : X2_sum (f + 1) d (cr ν p g) = some (0, cr ν p g) := by
  rw [X2_sum]
  unfold X2_term_o
  rw [atom_F hg, bd_some]
  have e1 := Lp2_F (ν := ν) (Lp_term (fun w0 μq => X2_sum f w0 μq) d) (by decide) (by decide) (f := 999999) (a := 0) (k := 0) (p := p) hg
  have e2 := Lp2_F (ν := ν) (Lp_sum (fun w0 μq => X2_sum f w0 μq) d) (by decide) (by decide) (f := 999999) (a := 0) (k := 0) (p := p) hg
  have e1 : X2_term_L10 (fun w0 μq => X2_sum f w0 μq) d FU 0 0 (cr ν p g) = some (0, cr ν p g) := e1
  have e2 : X2_sum_L10 (fun w0 μq => X2_sum f w0 μq) d FU 0 0 (cr ν p g) = some (0, cr ν p g) := e2
  rw [e1, bd_some, e2]
