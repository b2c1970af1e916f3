/-! LAWS: what a text of one says, as rows of codes -/
abbrev Cd : Type := List (Int × Int)
def clm (x : Int) : Int := mX (-1000000) (mN 1000000 x)
theorem clm_b (x : Int) : -1000000 ≤ clm x ∧ clm x ≤ 1000000 := by
  unfold clm
  rw [mX_eq, mN_eq]
  omega
def wk (o a b : Int) : Int :=
  if o = 2 then clm (lA a b) else if o = 3 then clm (lS a b) else if o = 4 then clm (lM a b) else if o = 5 then (if b = 0 then 0 else clm (lD a b))
  else if o = 6 then (if a = b then 1 else 0) else if o = 7 then (if a < b then 1 else 0) else if o = 8 then (if b < a then 1 else 0)
  else if o = 10 then (if a = 0 then 0 else if b = 0 then 0 else 1) else (if a = 0 then (if b = 0 then 0 else 1) else 1)
theorem wk_b (o a b : Int) : -1000000 ≤ wk o a b ∧ wk o a b ≤ 1000000 := by
  unfold wk
  have h1 := clm_b (lA a b)
  have h2 := clm_b (lS a b)
  have h3 := clm_b (lM a b)
  have h4 := clm_b (lD a b)
  repeat' split
  all_goals omega
theorem wk_c {o : Int} (h : 6 ≤ o) (a b : Int) : wk o a b = 0 ∨ wk o a b = 1 := by
  unfold wk
  rw [if_neg (by omega), if_neg (by omega), if_neg (by omega), if_neg (by omega)]
  repeat' split
  all_goals omega
def ev1 (e : Nat → Int) (x : Int × Int) (s : List Int) : List Int :=
  if x.1 = 0 then x.2 :: s else if x.1 = 1 then e x.2.toNat :: s else match s with
    | [] => []
    | b :: s1 => if x.1 = 9 then wI (1 - b) :: s1 else match s1 with
      | [] => []
      | a :: s2 => wk x.1 a b :: s2
def ev (e : Nat → Int) : Cd → List Int → List Int
  | [], s => s
  | x :: c, s => ev e c (ev1 e x s)
theorem ev_app (e : Nat → Int) : ∀ (a b : Cd) (s : List Int), ev e (a ++ b) s = ev e b (ev e a s) := by
  intro a
  induction a with
  | nil => intro b s; rfl
  | cons x a ih => intro b s; exact ih b _
def vl (e : Nat → Int) (c : Cd) : Int := (ev e c []).headD 0
def pu : Cd → Nat
  | [] => 0
  | x :: c => (if x.1 = 0 ∨ x.1 = 1 then 1 else 0) + pu c
theorem pu_app : ∀ (a b : Cd), pu (a ++ b) = pu a + pu b := by
  intro a
  induction a with
  | nil => intro b; show pu b = 0 + pu b; omega
  | cons x a ih =>
    intro b
    show (if x.1 = 0 ∨ x.1 = 1 then 1 else 0) + pu (a ++ b) = (if x.1 = 0 ∨ x.1 = 1 then 1 else 0) + pu a + pu b
    rw [ih]; omega
/-- the codes find what they need on a stack of h, and room -/
def hOK : Cd → Nat → Prop
  | [], _ => True
  | x :: c, h => if x.1 = 0 ∨ x.1 = 1 then h < 80 ∧ hOK c (h + 1) else if x.1 = 9 then 1 ≤ h ∧ hOK c h else 2 ≤ h ∧ hOK c (h - 1)
def okx (x : Int × Int) : Prop := (x.1 = 0 ∧ 0 ≤ x.2 ∧ x.2 ≤ 9999) ∨ (x.1 = 1 ∧ 0 ≤ x.2 ∧ x.2 ≤ 4) ∨ (2 ≤ x.1 ∧ x.1 ≤ 11 ∧ x.2 = 0)
def eOK (e : Nat → Int) : Prop := ∀ i, i < 5 → -2147483648 ≤ e i ∧ e i ≤ 2147483647
def gd (c : Cd) : Prop := (∀ e s, ev e c s = vl e c :: s) ∧ (∀ d h, h + pu c ≤ 80 → hOK d (h + 1) → hOK (c ++ d) h) ∧ 1 ≤ pu c ∧ (∀ x, x ∈ c → okx x) ∧ (∀ e, eOK e → -2147483648 ≤ vl e c ∧ vl e c ≤ 2147483647)
def isC (c : Cd) : Prop := ∀ e, vl e c = 0 ∨ vl e c = 1
theorem gd_num {v : Int} (h : 0 ≤ v ∧ v ≤ 9999) : gd [(0, v)] := by
  refine ⟨fun e s => rfl, fun d x hx hd => ?_, Nat.le_refl 1, fun x hx => ?_, fun e _ => ?_⟩
  · show (if (0 : Int) = 0 ∨ (0 : Int) = 1 then x < 80 ∧ hOK d (x + 1) else _)
    rw [if_pos (Or.inl rfl)]
    have : pu [(0, v)] = 1 := rfl
    exact ⟨by omega, hd⟩
  · rw [List.mem_singleton.mp hx]; exact Or.inl ⟨rfl, h⟩
  · show -2147483648 ≤ v ∧ v ≤ 2147483647
    omega
theorem gd_let {i : Int} (h : 0 ≤ i ∧ i ≤ 4) : gd [(1, i)] := by
  refine ⟨fun e s => rfl, fun d x hx hd => ?_, Nat.le_refl 1, fun x hx => ?_, fun e he => ?_⟩
  · show (if (1 : Int) = 0 ∨ (1 : Int) = 1 then x < 80 ∧ hOK d (x + 1) else _)
    rw [if_pos (Or.inr rfl)]
    have : pu [(1, i)] = 1 := rfl
    exact ⟨by omega, hd⟩
  · rw [List.mem_singleton.mp hx]; exact Or.inr (Or.inl ⟨rfl, h⟩)
  · exact he i.toNat (by omega)
def bin (o : Int) (a b : Cd) : Cd := a ++ (b ++ [(o, 0)])
def ngc (a : Cd) : Cd := a ++ [(9, 0)]
theorem ev1_o {e : Nat → Int} {o a b : Int} {s : List Int} (h : 2 ≤ o ∧ o ≤ 11 ∧ o ≠ 9) : ev1 e (o, 0) (b :: a :: s) = wk o a b :: s := by
  unfold ev1
  rw [if_neg (show ¬ (o = 0) by omega), if_neg (show ¬ (o = 1) by omega)]
  show (if o = 9 then _ else _) = _
  rw [if_neg h.2.2]
theorem vl_bin {o : Int} {a b : Cd} (ho : 2 ≤ o ∧ o ≤ 11 ∧ o ≠ 9) (ha : gd a) (hb : gd b) (e : Nat → Int) (s : List Int) : ev e (bin o a b) s = wk o (vl e a) (vl e b) :: s := by
  unfold bin
  rw [ev_app, ev_app, ha.1, hb.1]
  exact ev1_o ho
theorem vl_bin' {o : Int} {a b : Cd} (ho : 2 ≤ o ∧ o ≤ 11 ∧ o ≠ 9) (ha : gd a) (hb : gd b) (e : Nat → Int) : vl e (bin o a b) = wk o (vl e a) (vl e b) := by
  unfold vl
  rw [vl_bin ho ha hb]
  rfl
theorem gd_bin {o : Int} {a b : Cd} (ho : 2 ≤ o ∧ o ≤ 11 ∧ o ≠ 9) (ha : gd a) (hb : gd b) : gd (bin o a b) := by
  have hpu : pu (bin o a b) = pu a + pu b := by
    unfold bin
    rw [pu_app, pu_app]
    show pu a + (pu b + ((if o = 0 ∨ o = 1 then 1 else 0) + 0)) = _
    rw [if_neg (by omega)]
    rfl
  refine ⟨fun e s => by rw [vl_bin ho ha hb, vl_bin' ho ha hb], fun d h hh hd => ?_, ?_, fun x hx => ?_, fun e _ => ?_⟩
  · rw [hpu] at hh
    unfold bin
    rw [List.append_assoc, List.append_assoc]
    have ha1 := ha.2.2.1
    refine ha.2.1 _ h (by omega) (hb.2.1 _ (h + 1) (by omega) ?_)
    show (if o = 0 ∨ o = 1 then _ else if o = 9 then _ else 2 ≤ h + 1 + 1 ∧ hOK d (h + 1 + 1 - 1))
    rw [if_neg (by omega), if_neg (by omega)]
    exact ⟨by omega, hd⟩
  · rw [hpu]; have := ha.2.2.1; omega
  · unfold bin at hx
    rcases List.mem_append.mp hx with h | h
    · exact ha.2.2.2.1 x h
    · rcases List.mem_append.mp h with h | h
      · exact hb.2.2.2.1 x h
      · rw [List.mem_singleton.mp h]; exact Or.inr (Or.inr ⟨ho.1, ho.2.1, rfl⟩)
  · rw [vl_bin' ho ha hb]
    have hw := wk_b o (vl e a) (vl e b)
    omega
theorem isC_bin {o : Int} {a b : Cd} (ho : 6 ≤ o ∧ o ≤ 11 ∧ o ≠ 9) (ha : gd a) (hb : gd b) : isC (bin o a b) := fun e => by
  rw [vl_bin' ⟨by omega, ho.2⟩ ha hb]; exact wk_c ho.1 _ _
theorem vl_neg {a : Cd} (ha : gd a) (e : Nat → Int) : vl e (ngc a) = wI (1 - vl e a) := by
  unfold vl ngc
  rw [ev_app, ha.1]
  rfl
theorem gd_neg {a : Cd} (ha : gd a) (hc : isC a) : gd (ngc a) ∧ isC (ngc a) ∧ ∀ e, vl e (ngc a) = if vl e a = 0 then 1 else 0 := by
  have hv : ∀ e, vl e (ngc a) = if vl e a = 0 then 1 else 0 := fun e => by
    rw [vl_neg ha]
    rcases hc e with h | h <;> rw [h] <;> decide
  have hpu : pu (ngc a) = pu a := by unfold ngc; rw [pu_app]; rfl
  refine ⟨⟨fun e s => ?_, fun d h hh hd => ?_, ?_, fun x hx => ?_, fun e _ => ?_⟩, fun e => ?_, hv⟩
  · rw [vl_neg ha]; unfold ngc; rw [ev_app, ha.1]; rfl
  · rw [hpu] at hh
    unfold ngc
    rw [List.append_assoc]
    refine ha.2.1 _ h hh ?_
    show (if (9 : Int) = 0 ∨ (9 : Int) = 1 then _ else if (9 : Int) = 9 then 1 ≤ h + 1 ∧ hOK d (h + 1) else _)
    rw [if_neg (by decide), if_pos rfl]
    exact ⟨by omega, hd⟩
  · rw [hpu]; exact ha.2.2.1
  · unfold ngc at hx
    rcases List.mem_append.mp hx with h | h
    · exact ha.2.2.2.1 x h
    · rw [List.mem_singleton.mp h]; exact Or.inr (Or.inr ⟨by decide, by decide, rfl⟩)
  · rw [hv]; split <;> omega
  · rw [hv]; split <;> omega
/-! the readers -/
def dg (x : Int) : Prop := 48 ≤ x ∧ x ≤ 57
def ltr (x : Int) : Int := if x = 116 then 0 else if x = 107 then 1 else if x = 110 then 2 else if x = 99 then 3 else if x = 108 then 4 else -1
def cop (x : Int) : Int := if x = 61 then 6 else if x = 60 then 7 else if x = 62 then 8 else -1
abbrev Pr : Type := Option (Cd × Nat)
def atomS (t : Nat → Int) (n : Nat) (rec : Nat → Pr) (p : Nat) : Pr :=
  if 48 ≤ pk t n p ∧ pk t n p ≤ 57 then
    (if (nmF t n 4 (sk t n p) 0).2 < n ∧ 48 ≤ t (nmF t n 4 (sk t n p) 0).2 ∧ t (nmF t n 4 (sk t n p) 0).2 ≤ 57 then none else some ([(0, (nmF t n 4 (sk t n p) 0).1)], (nmF t n 4 (sk t n p) 0).2))
  else if ltr (pk t n p) ≠ -1 then some ([(1, ltr (pk t n p))], sk t n p + 1)
  else if pk t n p = 91 then (match rec (sk t n p + 1) with
    | none => none
    | some q => if pk t n q.2 = 93 then some (q.1, sk t n q.2 + 1) else none)
  else none
/-- a chain: pieces with one of two signs between them -/
def chL (t : Nat → Int) (n : Nat) (s1 s2 o1 o2 : Int) (piece : Nat → Pr) : Nat → Cd → Nat → Pr
  | 0, a, p => some (a, p)
  | m + 1, a, p => if pk t n p = s1 then (match piece (sk t n p + 1) with
      | none => none
      | some q => chL t n s1 s2 o1 o2 piece m (bin o1 a q.1) q.2)
    else if pk t n p = s2 then (match piece (sk t n p + 1) with
      | none => none
      | some q => chL t n s1 s2 o1 o2 piece m (bin o2 a q.1) q.2)
    else some (a, sk t n p)
def chS (t : Nat → Int) (n : Nat) (s1 s2 o1 o2 : Int) (piece : Nat → Pr) (p : Nat) : Pr := match piece p with
  | none => none
  | some q => chL t n s1 s2 o1 o2 piece 160 q.1 q.2
def termS (t : Nat → Int) (n : Nat) (rec : Nat → Pr) : Nat → Pr := chS t n 42 47 4 5 (atomS t n rec)
def sumO (t : Nat → Int) (n : Nat) (rec : Nat → Pr) : Nat → Pr := chS t n 43 45 2 3 (termS t n rec)
def sumS (t : Nat → Int) (n : Nat) : Nat → Nat → Pr
  | 0 => sumO t n (fun _ => none)
  | l + 1 => sumO t n (sumS t n l)
def cmpR (t : Nat → Int) (n l : Nat) (a : Cd) (p : Nat) : Pr := if cop (pk t n p) ≠ -1 then (match sumS t n l (sk t n p + 1) with
    | none => none
    | some q => some (bin (cop (pk t n p)) a q.1, q.2))
  else none
def cmpS (t : Nat → Int) (n l p : Nat) : Pr := match sumS t n l p with
  | none => none
  | some q => cmpR t n l q.1 q.2
def truS (t : Nat → Int) (n : Nat) (rec : Nat → Pr) : Nat → Pr := chS t n 38 38 10 10 rec
def conS (t : Nat → Int) (n : Nat) (rec : Nat → Pr) : Nat → Pr := chS t n 124 124 11 11 (truS t n rec)
def unitO (t : Nat → Int) (n l : Nat) (rec : Nat → Pr) (p : Nat) : Pr :=
  if pk t n p = 33 then (match rec (sk t n p + 1) with
    | none => none
    | some q => some (ngc q.1, q.2))
  else if pk t n p = 40 then (match conS t n rec (sk t n p + 1) with
    | none => none
    | some q => if pk t n q.2 = 41 then some (q.1, sk t n q.2 + 1) else none)
  else cmpS t n l p
def unitS (t : Nat → Int) (n : Nat) : Nat → Nat → Pr
  | 0 => unitO t n 0 (fun _ => none)
  | l + 1 => unitO t n (l + 1) (unitS t n l)
/-! what they give -/
def Gp (n : Nat) (p : Nat) (q : Cd × Nat) : Prop := p < q.2 ∧ q.2 ≤ n ∧ gd q.1 ∧ q.1.length + p ≤ q.2 ∧ 2 * pu q.1 + p ≤ q.2 + 1
def GP (n : Nat) (f : Nat → Pr) : Prop := ∀ p q, p ≤ n → f p = some q → Gp n p q
def GC (n : Nat) (f : Nat → Pr) : Prop := ∀ p q, p ≤ n → f p = some q → Gp n p q ∧ isC q.1
theorem Gp_sk {t : Nat → Int} {n p : Nat} {q : Cd × Nat} (h : Gp n (sk t n p) q) : Gp n p q := by
  have := sk_ge (t := t) (n := n) p
  obtain ⟨h1, h2, h3, h4, h5⟩ := h
  exact ⟨by omega, h2, h3, by omega, by omega⟩
theorem nm4 {t : Nat → Int} {n p : Nat} (hp : p ≤ n) (c : 48 ≤ pk t n p ∧ pk t n p ≤ 57) : sk t n p < (nmF t n 4 (sk t n p) 0).2 ∧ (nmF t n 4 (sk t n p) 0).2 ≤ n ∧ 0 ≤ (nmF t n 4 (sk t n p) 0).1 ∧ (nmF t n 4 (sk t n p) 0).1 ≤ 9999 := by
  have hq := pk_ne (t := t) (n := n) (p := p) (by omega)
  have hb := nmF_b (t := t) (n := n) 4 (sk t n p) 0 (by omega)
  have hv := nmF_v (t := t) (n := n) 4 (sk t n p) 0 (by decide) (by decide) (by decide)
  refine ⟨?_, hb.2.1, hv⟩
  unfold nmF
  rw [if_pos (by rw [← hq.2]; exact ⟨hq.1, c⟩)]
  exact Nat.lt_of_lt_of_le (Nat.lt_succ_self _) (nmF_b (t := t) (n := n) 3 (sk t n p + 1) _ (by omega)).1
theorem ltr_b (x : Int) : -1 ≤ ltr x ∧ ltr x ≤ 4 := by
  unfold ltr
  repeat' split
  all_goals omega
theorem cop_b (x : Int) : cop x = -1 ∨ (6 ≤ cop x ∧ cop x ≤ 8) := by
  unfold cop
  repeat' split
  all_goals omega
theorem ltr_0 : ltr (-1) = -1 := by decide
theorem cop_0 : cop (-1) = -1 := by decide
theorem atom_G {t : Nat → Int} {n : Nat} {rec : Nat → Pr} (h : GP n rec) : GP n (atomS t n rec) := by
  intro p q hp e
  have hge := sk_ge (t := t) (n := n) p
  unfold atomS at e
  by_cases c1 : 48 ≤ pk t n p ∧ pk t n p ≤ 57
  · rw [if_pos c1] at e
    have hn := nm4 hp c1
    split at e
    · cases e
    · cases e
      refine ⟨by show p < _; omega, hn.2.1, gd_num hn.2.2, ?_, ?_⟩
      · show 0 + 1 + p ≤ _; omega
      · show 2 * 1 + p ≤ _; omega
  · rw [if_neg c1] at e
    by_cases c2 : ltr (pk t n p) = -1
    · rw [if_neg (fun z => z c2)] at e
      by_cases c3 : pk t n p = 91
      · rw [if_pos c3] at e
        have hq := pk_ne (t := t) (n := n) (p := p) (by omega)
        revert e
        cases hr : rec (sk t n p + 1) with
        | none => intro e; cases e
        | some r =>
          intro e
          dsimp only at e
          by_cases c4 : pk t n r.2 = 93
          · rw [if_pos c4] at e
            cases e
            have hq2 := pk_ne (t := t) (n := n) (p := r.2) (by omega)
            have h2 := sk_ge (t := t) (n := n) r.2
            obtain ⟨g1, g2, g3, g4, g5⟩ := h _ _ (by omega) hr
            exact ⟨by show p < sk t n r.2 + 1; omega, by show sk t n r.2 + 1 ≤ n; omega, g3, by show r.1.length + p ≤ sk t n r.2 + 1; omega, by show 2 * pu r.1 + p ≤ sk t n r.2 + 1 + 1; omega⟩
          · rw [if_neg c4] at e; cases e
      · rw [if_neg c3] at e; cases e
    · rw [if_pos c2] at e
      cases e
      have hq := pk_ne (t := t) (n := n) (p := p) (fun z => c2 (by rw [z]; decide))
      have hl := ltr_b (pk t n p)
      refine ⟨by show p < sk t n p + 1; omega, by show sk t n p + 1 ≤ n; omega, gd_let (by omega), ?_, ?_⟩
      · show 0 + 1 + p ≤ _; omega
      · show 2 * 1 + p ≤ _; omega
theorem Gp_bin {n p p1 : Nat} {a : Cd} {q : Cd × Nat} {o : Int} (ho : 2 ≤ o ∧ o ≤ 11 ∧ o ≠ 9) (h1 : Gp n p (a, p1)) {s : Nat} (hs : p1 ≤ s) (h2 : Gp n (s + 1) q) : Gp n p (bin o a q.1, q.2) := by
  obtain ⟨a1, a2, a3, a4, a5⟩ := h1
  obtain ⟨b1, b2, b3, b4, b5⟩ := h2
  have a4 : a.length + p ≤ p1 := a4
  have a5 : 2 * pu a + p ≤ p1 + 1 := a5
  have a1 : p < p1 := a1
  refine ⟨by show p < q.2; omega, b2, gd_bin ho a3 b3, ?_, ?_⟩
  · show (bin o a q.1).length + p ≤ q.2
    unfold bin
    rw [List.length_append, List.length_append]
    show a.length + (q.1.length + 1) + p ≤ q.2
    omega
  · show 2 * pu (bin o a q.1) + p ≤ q.2 + 1
    unfold bin
    rw [pu_app, pu_app]
    show 2 * (pu a + (pu q.1 + ((if o = 0 ∨ o = 1 then 1 else 0) + 0))) + p ≤ q.2 + 1
    rw [if_neg (by omega)]
    omega
theorem chL_G {t : Nat → Int} {n : Nat} {s1 s2 o1 o2 : Int} (hs : s1 ≠ -1 ∧ s2 ≠ -1) (ho1 : 2 ≤ o1 ∧ o1 ≤ 11 ∧ o1 ≠ 9) (ho2 : 2 ≤ o2 ∧ o2 ≤ 11 ∧ o2 ≠ 9) {f : Nat → Pr} (h : GP n f) : ∀ (m : Nat) (a : Cd) (p0 p : Nat) (q : Cd × Nat), Gp n p0 (a, p) → chL t n s1 s2 o1 o2 f m a p = some q → Gp n p0 q := by
  intro m
  induction m with
  | zero => intro a p0 p q hg e; unfold chL at e; cases e; exact hg
  | succ m ih =>
    intro a p0 p q hg e
    have hge := sk_ge (t := t) (n := n) p
    have hpn : p ≤ n := hg.2.1
    have hle := sk_le (t := t) (n := n) p hpn
    unfold chL at e
    by_cases c1 : pk t n p = s1
    · rw [if_pos c1] at e
      have hq := pk_ne (t := t) (n := n) (p := p) (by rw [c1]; exact hs.1)
      revert e
      cases hr : f (sk t n p + 1) with
      | none => intro e; cases e
      | some r => intro e; exact ih _ _ _ _ (Gp_bin ho1 hg hge (h _ _ (by omega) hr)) e
    · rw [if_neg c1] at e
      by_cases c2 : pk t n p = s2
      · rw [if_pos c2] at e
        have hq := pk_ne (t := t) (n := n) (p := p) (by rw [c2]; exact hs.2)
        revert e
        cases hr : f (sk t n p + 1) with
        | none => intro e; cases e
        | some r => intro e; exact ih _ _ _ _ (Gp_bin ho2 hg hge (h _ _ (by omega) hr)) e
      · rw [if_neg c2] at e
        cases e
        obtain ⟨a1, a2, a3, a4, a5⟩ := hg
        have a1 : p0 < p := a1
        have a4 : a.length + p0 ≤ p := a4
        have a5 : 2 * pu a + p0 ≤ p + 1 := a5
        exact ⟨by show p0 < sk t n p; omega, hle, a3, by show a.length + p0 ≤ sk t n p; omega, by show 2 * pu a + p0 ≤ sk t n p + 1; omega⟩
theorem chS_G {t : Nat → Int} {n : Nat} {s1 s2 o1 o2 : Int} (hs : s1 ≠ -1 ∧ s2 ≠ -1) (ho1 : 2 ≤ o1 ∧ o1 ≤ 11 ∧ o1 ≠ 9) (ho2 : 2 ≤ o2 ∧ o2 ≤ 11 ∧ o2 ≠ 9) {f : Nat → Pr} (h : GP n f) : GP n (chS t n s1 s2 o1 o2 f) := by
  intro p q hp e
  unfold chS at e
  revert e
  cases hr : f p with
  | none => intro e; cases e
  | some r => intro e; exact chL_G hs ho1 ho2 h 160 r.1 p r.2 q (h p r hp hr) e
theorem chL_C {t : Nat → Int} {n : Nat} {s1 s2 o1 o2 : Int} (hs : s1 ≠ -1 ∧ s2 ≠ -1) (ho1 : 6 ≤ o1 ∧ o1 ≤ 11 ∧ o1 ≠ 9) (ho2 : 6 ≤ o2 ∧ o2 ≤ 11 ∧ o2 ≠ 9) {f : Nat → Pr} (h : GP n f) : ∀ (m : Nat) (a : Cd) (p0 p : Nat) (q : Cd × Nat), Gp n p0 (a, p) → isC a → chL t n s1 s2 o1 o2 f m a p = some q → isC q.1 := by
  intro m
  induction m with
  | zero => intro a p0 p q hg hc e; unfold chL at e; cases e; exact hc
  | succ m ih =>
    intro a p0 p q hg hc e
    have hge := sk_ge (t := t) (n := n) p
    have hpn : p ≤ n := hg.2.1
    unfold chL at e
    by_cases c1 : pk t n p = s1
    · rw [if_pos c1] at e
      have hq := pk_ne (t := t) (n := n) (p := p) (by rw [c1]; exact hs.1)
      revert e
      cases hr : f (sk t n p + 1) with
      | none => intro e; cases e
      | some r =>
        intro e
        have hG := h _ _ (by omega) hr
        exact ih _ _ _ _ (Gp_bin ⟨by omega, ho1.2⟩ hg hge hG) (isC_bin ho1 hg.2.2.1 hG.2.2.1) e
    · rw [if_neg c1] at e
      by_cases c2 : pk t n p = s2
      · rw [if_pos c2] at e
        have hq := pk_ne (t := t) (n := n) (p := p) (by rw [c2]; exact hs.2)
        revert e
        cases hr : f (sk t n p + 1) with
        | none => intro e; cases e
        | some r =>
          intro e
          have hG := h _ _ (by omega) hr
          exact ih _ _ _ _ (Gp_bin ⟨by omega, ho2.2⟩ hg hge hG) (isC_bin ho2 hg.2.2.1 hG.2.2.1) e
      · rw [if_neg c2] at e
        cases e
        exact hc
theorem chS_C {t : Nat → Int} {n : Nat} {s1 s2 o1 o2 : Int} (hs : s1 ≠ -1 ∧ s2 ≠ -1) (ho1 : 6 ≤ o1 ∧ o1 ≤ 11 ∧ o1 ≠ 9) (ho2 : 6 ≤ o2 ∧ o2 ≤ 11 ∧ o2 ≠ 9) {f : Nat → Pr} (h : GC n f) : GC n (chS t n s1 s2 o1 o2 f) := by
  intro p q hp e
  have h0 : GP n f := fun p q hp e => (h p q hp e).1
  refine ⟨chS_G hs ⟨by omega, ho1.2⟩ ⟨by omega, ho2.2⟩ h0 p q hp e, ?_⟩
  unfold chS at e
  revert e
  cases hr : f p with
  | none => intro e; cases e
  | some r => intro e; exact chL_C hs ho1 ho2 h0 160 r.1 p r.2 q (h p r hp hr).1 (h p r hp hr).2 e
theorem none_G {n : Nat} : GP n (fun _ => none) := fun _ _ _ e => by cases e
theorem sumO_G {t : Nat → Int} {n : Nat} {rec : Nat → Pr} (h : GP n rec) : GP n (sumO t n rec) := chS_G (by decide) (by decide) (by decide) (chS_G (by decide) (by decide) (by decide) (atom_G h))
theorem sumS_G {t : Nat → Int} {n : Nat} : ∀ l, GP n (sumS t n l) := by
  intro l
  induction l with
  | zero => exact sumO_G none_G
  | succ l ih => exact sumO_G ih
theorem cmpR_G {t : Nat → Int} {n l : Nat} {a : Cd} {p0 p : Nat} {q : Cd × Nat} (hg : Gp n p0 (a, p)) (e : cmpR t n l a p = some q) : Gp n p0 q ∧ isC q.1 := by
  have hpn : p ≤ n := hg.2.1
  have hge := sk_ge (t := t) (n := n) p
  unfold cmpR at e
  by_cases c1 : cop (pk t n p) = -1
  · rw [if_neg (fun z => z c1)] at e; cases e
  · rw [if_pos c1] at e
    have hq := pk_ne (t := t) (n := n) (p := p) (fun z => c1 (by rw [z]; decide))
    have hcb := cop_b (pk t n p)
    revert e
    cases hr : sumS t n l (sk t n p + 1) with
    | none => intro e; cases e
    | some r =>
      intro e
      cases e
      have hG := sumS_G (t := t) l _ _ (by omega) hr
      exact ⟨Gp_bin (by omega) hg hge hG, isC_bin (by omega) hg.2.2.1 hG.2.2.1⟩
theorem cmpS_G {t : Nat → Int} {n l : Nat} : GC n (cmpS t n l) := by
  intro p q hp e
  unfold cmpS at e
  revert e
  cases hr : sumS t n l p with
  | none => intro e; cases e
  | some r => intro e; exact cmpR_G (a := r.1) (p := r.2) (sumS_G l p r hp hr) e
theorem conS_G {t : Nat → Int} {n : Nat} {rec : Nat → Pr} (h : GC n rec) : GC n (conS t n rec) := chS_C (by decide) (by decide) (by decide) (chS_C (by decide) (by decide) (by decide) h)
theorem unitO_G {t : Nat → Int} {n l : Nat} {rec : Nat → Pr} (h : GC n rec) : GC n (unitO t n l rec) := by
  intro p q hp e
  have hge := sk_ge (t := t) (n := n) p
  unfold unitO at e
  by_cases c1 : pk t n p = 33
  · rw [if_pos c1] at e
    have hq := pk_ne (t := t) (n := n) (p := p) (by omega)
    revert e
    cases hr : rec (sk t n p + 1) with
    | none => intro e; cases e
    | some r =>
      intro e
      cases e
      obtain ⟨⟨g1, g2, g3, g4, g5⟩, gc⟩ := h _ _ (by omega) hr
      have hn := gd_neg g3 gc
      refine ⟨⟨by show p < r.2; omega, g2, hn.1, ?_, ?_⟩, hn.2.1⟩
      · show (ngc r.1).length + p ≤ r.2
        unfold ngc
        rw [List.length_append]
        show r.1.length + 1 + p ≤ r.2
        omega
      · show 2 * pu (ngc r.1) + p ≤ r.2 + 1
        unfold ngc
        rw [pu_app]
        show 2 * (pu r.1 + 0) + p ≤ r.2 + 1
        omega
  · rw [if_neg c1] at e
    by_cases c2 : pk t n p = 40
    · rw [if_pos c2] at e
      have hq := pk_ne (t := t) (n := n) (p := p) (by omega)
      revert e
      cases hr : conS t n rec (sk t n p + 1) with
      | none => intro e; cases e
      | some r =>
        intro e
        dsimp only at e
        by_cases c4 : pk t n r.2 = 41
        · rw [if_pos c4] at e
          cases e
          have hq2 := pk_ne (t := t) (n := n) (p := r.2) (by omega)
          have h2 := sk_ge (t := t) (n := n) r.2
          obtain ⟨⟨g1, g2, g3, g4, g5⟩, gc⟩ := conS_G h _ _ (by omega) hr
          exact ⟨⟨by show p < sk t n r.2 + 1; omega, by show sk t n r.2 + 1 ≤ n; omega, g3, by show r.1.length + p ≤ sk t n r.2 + 1; omega, by show 2 * pu r.1 + p ≤ sk t n r.2 + 1 + 1; omega⟩, gc⟩
        · rw [if_neg c4] at e; cases e
    · rw [if_neg c2] at e
      exact cmpS_G p q hp e
theorem unitS_G {t : Nat → Int} {n : Nat} : ∀ l, GC n (unitS t n l) := by
  intro l
  induction l with
  | zero => exact unitO_G (fun _ _ _ e => by cases e)
  | succ l ih => exact unitO_G ih
/-! blanks before a piece -/
def skF_ (t : Nat → Int) (n : Nat) (f : Nat → Pr) : Prop := ∀ p, f (sk t n p) = f p
theorem atom_sk {t : Nat → Int} {n : Nat} (rec : Nat → Pr) : skF_ t n (atomS t n rec) := fun p => by unfold atomS; rw [pk_sk, sk_sk]
theorem chS_sk {t : Nat → Int} {n : Nat} {s1 s2 o1 o2 : Int} {f : Nat → Pr} (h : skF_ t n f) : skF_ t n (chS t n s1 s2 o1 o2 f) := fun p => by unfold chS; rw [h p]
theorem sumS_sk {t : Nat → Int} {n : Nat} : ∀ l, skF_ t n (sumS t n l) := by
  intro l
  cases l with
  | zero => exact chS_sk (chS_sk (atom_sk _))
  | succ l => exact chS_sk (chS_sk (atom_sk _))
theorem cmpS_sk {t : Nat → Int} {n l : Nat} : skF_ t n (cmpS t n l) := fun p => by unfold cmpS; rw [sumS_sk l p]
theorem unitS_sk {t : Nat → Int} {n : Nat} : ∀ l, skF_ t n (unitS t n l) := by
  intro l p
  cases l with
  | zero => show unitO t n 0 _ _ = unitO t n 0 _ _; unfold unitO; rw [pk_sk, sk_sk, cmpS_sk p]
  | succ l => show unitO t n (l + 1) _ _ = unitO t n (l + 1) _ _; unfold unitO; rw [pk_sk, sk_sk, cmpS_sk p]
/-! clauses and laws -/
def thenS (t : Nat → Int) (n : Nat) (c : Cd) (p : Nat) : Option ((Cd × Cd) × Nat) := if pk t n p = 63 then (match sumS t n 6 (sk t n p + 1) with
    | none => none
    | some s => some ((c, s.1), s.2))
  else none
def cnd0 (t : Nat → Int) (n p : Nat) : Prop := pk t n p = 33 ∨ pk t n p = 40 ∨ match sumS t n 6 p with
  | none => False
  | some s => cop (pk t n s.2) ≠ -1
def bodyS (t : Nat → Int) (n p : Nat) : Option ((Cd × Cd) × Nat) := if pk t n p = 33 ∨ pk t n p = 40 then (match conS t n (unitS t n 6) p with
    | none => none
    | some q => thenS t n q.1 q.2)
  else match sumS t n 6 p with
    | none => none
    | some s => if cop (pk t n s.2) = -1 then some (([], s.1), s.2) else (match conS t n (unitS t n 6) p with
      | none => none
      | some q => thenS t n q.1 q.2)
/-- a clause: the codes of its condition (none: no condition) and of its value -/
def clS (t : Nat → Int) (n p : Nat) : Option ((Cd × Cd) × Nat) := if pk t n p = 121 then (if pk t n (sk t n p + 1) = 58 then bodyS t n (sk t n (sk t n p + 1) + 1) else none) else none
def lawL (t : Nat → Int) (n : Nat) : Nat → Nat → Option (List (Cd × Cd))
  | 0, _ => none
  | m + 1, p => match clS t n p with
    | none => none
    | some q => if pk t n q.2 = 59 then (match lawL t n m (sk t n q.2 + 1) with
        | none => none
        | some L => some (q.1 :: L))
      else if pk t n q.2 = -1 then some [q.1] else none
def lawS (t : Nat → Int) (n : Nat) : Option (List (Cd × Cd)) := lawL t n 160 0
/-- what a LAW gives: its first clause whose condition holds -/
def lawV (e : Nat → Int) : List (Cd × Cd) → Int
  | [] => 0
  | x :: L => if x.1 = [] then vl e x.2 else if vl e x.1 = 0 then lawV e L else vl e x.2
/-! LAWS, the class's reader -/
def envC (ν : Mm) (i : Nat) : Int := ν 4 (i + 1)
/-- the reader is at a FAULT, or stands where no piece can go on -/
def Bad (t : Nat → Int) (n p : Nat) (f : Int) : Prop := f ≠ -1 ∨ (p < n ∧ 48 ≤ t p ∧ t p ≤ 57)
theorem peek_B {t : Nat → Int} {n : Nat} {ν : Mm} (h : Tx t n ν) {p : Nat} {f : Int} (hb : Bad t n p f) : ∃ v, X4_peek (cr ν p f) = some (v, cr ν p f) ∧ (v = -1 ∨ (48 ≤ v ∧ v ≤ 57)) ∧ (f = -1 → v ≠ -1) := by
  by_cases c : f = -1
  · subst c
    have hd := hb.resolve_left (fun z => z rfl)
    have hs : sk t n p = p := sk_id (fun z => by omega)
    have e := peek_eq h (p := p) (by omega)
    have hp : pk t n p = t p := by unfold pk; rw [hs, if_pos hd.1]
    rw [hs, hp] at e
    exact ⟨_, e, Or.inr hd.2, fun _ => by omega⟩
  · exact ⟨_, peek_F c, Or.inl rfl, fun z => absurd z c⟩
theorem take_B {t : Nat → Int} {n : Nat} {ν : Mm} (h : Tx t n ν) {p : Nat} {f : Int} (hb : Bad t n p f) {c : Int} (hc : c ≠ -1 ∧ ¬ (48 ≤ c ∧ c ≤ 57)) : X4_take c (cr ν p f) = some (0, cr ν p f) := by
  obtain ⟨v, e, hv, _⟩ := peek_B h hb
  unfold X4_take
  rw [e, bd_some, if_neg (by omega)]
theorem need_B {t : Nat → Int} {n : Nat} {ν : Mm} (h : Tx t n ν) {p : Nat} {f : Int} (hb : Bad t n p f) {c : Int} (hc : c ≠ -1 ∧ ¬ (48 ≤ c ∧ c ≤ 57)) : ∃ f', X4_need c (cr ν p f) = some (0, cr ν p f') ∧ f' ≠ -1 := by
  obtain ⟨v, e, hv, _⟩ := peek_B h hb
  unfold X4_need
  rw [e, bd_some, if_neg (by omega), cr_1]
  by_cases c1 : f = -1
  · subst c1
    rw [refuse_eq, bd_some]
    exact ⟨_, rfl, by omega⟩
  · rw [refuse_F c1, bd_some]
    exact ⟨_, rfl, c1⟩
theorem needEnd_B {t : Nat → Int} {n : Nat} {ν : Mm} (h : Tx t n ν) {p : Nat} {f : Int} (hb : Bad t n p f) : ∃ f', X4_needEnd (cr ν p f) = some (0, cr ν p f') ∧ f' ≠ -1 := by
  obtain ⟨v, e, hv, hv2⟩ := peek_B h hb
  unfold X4_needEnd
  rw [e, bd_some, cr_1]
  by_cases c1 : f = -1
  · subst c1
    rw [if_neg (hv2 rfl), refuse_eq, bd_some]
    exact ⟨_, rfl, by omega⟩
  · by_cases c2 : v = -1
    · rw [if_pos c2]; exact ⟨_, rfl, c1⟩
    · rw [if_neg c2, refuse_F c1, bd_some]; exact ⟨_, rfl, c1⟩
/-- what a part of the class's reader gives at p, where the pieces there are s -/
def CLs (t : Nat → Int) (n : Nat) (ν : Mm) (F : Mm → Rs) (p : Nat) (rg : Int → Prop) (s : Pr) : Prop := match s with
  | some q => F (cr ν p (-1)) = some (vl (envC ν) q.1, cr ν q.2 (-1))
  | none => ∃ r p' f', F (cr ν p (-1)) = some (r, cr ν p' f') ∧ Bad t n p' f' ∧ rg r
def rgT (_ : Int) : Prop := True
def rgB (r : Int) : Prop := r = 0 ∨ r = 1
theorem letter_eq {t : Nat → Int} {n : Nat} {ν : Mm} (h : Tx t n ν) {p : Nat} {x : Int} (hx : ltr x ≠ -1 → p < n) : X2_letter x (cr ν p (-1)) = if ltr x = -1 then some (0, cr ν p (p : Int)) else some (envC ν (ltr x).toNat, cr ν (p + 1) (-1)) := by
  unfold X2_letter
  by_cases c1 : x = 99
  · have e : ltr x = 3 := by rw [c1]; rfl
    rw [if_pos c1, if_neg (by omega), pass_eq h (hx (by omega)), bd_some, e, cr_c (by decide)]; rfl
  · rw [if_neg c1]
    by_cases c2 : x = 107
    · have e : ltr x = 1 := by rw [c2]; rfl
      rw [if_pos c2, if_neg (by omega), pass_eq h (hx (by omega)), bd_some, e, cr_c (by decide)]; rfl
    · rw [if_neg c2]
      by_cases c3 : x = 108
      · have e : ltr x = 4 := by rw [c3]; rfl
        rw [if_pos c3, if_neg (by omega), pass_eq h (hx (by omega)), bd_some, e, cr_c (by decide)]; rfl
      · rw [if_neg c3]
        by_cases c4 : x = 110
        · have e : ltr x = 2 := by rw [c4]; rfl
          rw [if_pos c4, if_neg (by omega), pass_eq h (hx (by omega)), bd_some, e, cr_c (by decide)]; rfl
        · rw [if_neg c4]
          by_cases c5 : x = 116
          · have e : ltr x = 0 := by rw [c5]; rfl
            rw [if_pos c5, if_neg (by omega), pass_eq h (hx (by omega)), bd_some, e, cr_c (by decide)]; rfl
          · have e : ltr x = -1 := by
              unfold ltr
              rw [if_neg c5, if_neg c2, if_neg c4, if_neg c1, if_neg c3]
            rw [if_neg c5, if_pos e, cr_1, refuse_eq, bd_some]
theorem atom_F {ν : Mm} {rec : Int → Mm → Rs} {d : Int} {p : Nat} {f : Int} (hf : f ≠ -1) : X2_atom_o rec d (cr ν p f) = some (0, cr ν p f) := by
  unfold X2_atom_o
  rw [peek_F hf, bd_some, cdig, bd_some, b2_f (by decide), if_pos rfl, if_neg (by decide)]
  unfold X2_letter
  rw [if_neg (by decide), if_neg (by decide), if_neg (by decide), if_neg (by decide), if_neg (by decide), cr_1, refuse_F hf, bd_some, bd_some]
theorem atomC {t : Nat → Int} {n : Nat} {ν : Mm} (h : Tx t n ν) (hT : ∀ j, j < n → 1 ≤ t j ∧ t j ≤ 255) {rec : Int → Mm → Rs} {S : Nat → Pr} {d : Nat} (hd : (d < 6 ∧ ∀ p, p ≤ n → CLs t n ν (rec ((d + 1 : Nat) : Int)) p rgT (S p)) ∨ (d = 6 ∧ ∀ p, S p = none)) (hG : GP n S) {p : Nat} (hp : p ≤ n) : CLs t n ν (X2_atom_o rec (d : Int)) p rgT (atomS t n S p) := by
  have hge := sk_ge (t := t) (n := n) p
  have hle := sk_le (t := t) (n := n) p hp
  have h160 := h.1
  unfold atomS
  have hb : ∀ r, ∃ r' p' f', (some (r, cr ν (sk t n p) ((sk t n p : Nat) : Int)) : Rs) = some (r', cr ν p' f') ∧ Bad t n p' f' ∧ rgT r' := fun r => ⟨_, _, _, rfl, Or.inl (by omega), trivial⟩
  by_cases c1 : 48 ≤ pk t n p ∧ pk t n p ≤ 57
  · have e : X2_atom_o rec (d : Int) (cr ν p (-1)) = some ((nmF t n 4 (sk t n p) 0).1, cr ν (nmF t n 4 (sk t n p) 0).2 (-1)) := by
      have hn := number_eq h hT (M := 4) (by decide) (p := sk t n p) hle
      rw [pk_sk, sk_sk, if_pos c1] at hn
      have hn : X4_number 4 (cr ν (sk t n p) (-1)) = _ := hn
      unfold X2_atom_o
      rw [peek_eq h hp, bd_some, cdig, bd_some, b2_t c1, if_neg (by decide), hn, bd_some]
    rw [if_pos c1]
    split
    · rename_i hx
      exact ⟨_, _, _, e, Or.inr hx, trivial⟩
    · exact e
  · rw [if_neg c1]
    by_cases c2 : ltr (pk t n p) = -1
    · rw [if_neg (fun z => z c2)]
      have hl := letter_eq h (p := sk t n p) (x := pk t n p) (fun z => absurd c2 z)
      rw [if_pos c2] at hl
      by_cases c3 : pk t n p = 91
      · rw [if_pos c3]
        have hq := pk_ne (t := t) (n := n) (p := p) (by omega)
        rcases hd with ⟨hd1, hd2⟩ | ⟨hd1, hd2⟩
        · have e : X2_atom_o rec (d : Int) (cr ν p (-1)) = bd (rec ((d + 1 : Nat) : Int) (cr ν (sk t n p + 1) (-1))) fun v19 μ20 => bd (X4_need 93 μ20) fun v22 μ23 => some (v19, μ23) := by
            unfold X2_atom_o
            rw [peek_eq h hp, bd_some, cdig, bd_some, b2_f c1, if_pos rfl, if_pos c3, if_neg (by omega), pass_eq h hq.1, bd_some, iA_nat (by omega)]
          have hr := hd2 (sk t n p + 1) (by omega)
          have hg := hG (sk t n p + 1)
          revert hr hg
          cases S (sk t n p + 1) with
          | none =>
            rintro ⟨r, p', f', e1, e2, _⟩ _
            obtain ⟨f2, g1, g2⟩ := need_B h e2 (c := 93) (by decide)
            rw [e1, bd_some, g1, bd_some] at e
            exact ⟨_, _, _, e, Or.inl g2, trivial⟩
          | some q =>
            intro hr hg
            have hr : rec ((d + 1 : Nat) : Int) (cr ν (sk t n p + 1) (-1)) = some (vl (envC ν) q.1, cr ν q.2 (-1)) := hr
            have hq2 := (hg q (by omega) rfl).2.1
            rw [hr, bd_some, need_eq h hq2 93 (by decide)] at e
            dsimp only
            by_cases c4 : pk t n q.2 = 93
            · rw [if_pos c4, bd_some] at e
              rw [if_pos c4]
              exact e
            · rw [if_neg c4, bd_some] at e
              rw [if_neg c4]
              exact ⟨_, _, _, e, Or.inl (by omega), trivial⟩
        · rw [hd2]
          have e : X2_atom_o rec (d : Int) (cr ν p (-1)) = some (0, cr ν (sk t n p) ((sk t n p : Nat) : Int)) := by
            unfold X2_atom_o
            rw [peek_eq h hp, bd_some, cdig, bd_some, b2_f c1, if_pos rfl, if_pos c3, if_pos (by omega), hl, bd_some]
          exact ⟨_, _, _, e, Or.inl (by omega), trivial⟩
      · rw [if_neg c3]
        have e : X2_atom_o rec (d : Int) (cr ν p (-1)) = some (0, cr ν (sk t n p) ((sk t n p : Nat) : Int)) := by
          unfold X2_atom_o
          rw [peek_eq h hp, bd_some, cdig, bd_some, b2_f c1, if_pos rfl, if_neg c3, hl, bd_some]
        exact ⟨_, _, _, e, Or.inl (by omega), trivial⟩
    · rw [if_pos c2]
      have hq := pk_ne (t := t) (n := n) (p := p) (fun z => c2 (by rw [z]; decide))
      have hl := letter_eq h (p := sk t n p) (x := pk t n p) (fun _ => hq.1)
      rw [if_neg c2] at hl
      have c3 : pk t n p ≠ 91 := fun z => c2 (by rw [z]; decide)
      show X2_atom_o rec (d : Int) (cr ν p (-1)) = some (envC ν (ltr (pk t n p)).toNat, cr ν (sk t n p + 1) (-1))
      unfold X2_atom_o
      rw [peek_eq h hp, bd_some, cdig, bd_some, b2_f c1, if_pos rfl, if_neg c3, hl, bd_some]
/-- a loop over one of two signs -/
def Lp2 (s1 s2 o1 o2 : Int) (F : Mm → Rs) (L : Nat → Int → Int → Mm → Rs) : Prop := ∀ f a k μ, L (f + 1) a k μ = if 160 ≤ k then (some (wI a, μ)) else (bd (X4_take s1 μ) fun v5 μ6 => if v5 = 0 then (bd (X4_take s2 μ6) fun v9 μ10 => if v9 = 0 then (some (wI a, μ10)) else (bd (F μ10) fun v μ' => L f (wk o2 a v) (iA k 1) μ')) else (bd (F μ6) fun v μ' => L f (wk o1 a v) (iA k 1) μ'))
def okS (c : Int) : Prop := c ≠ -1 ∧ ¬ (48 ≤ c ∧ c ≤ 57)
theorem Lp2_B {t : Nat → Int} {n : Nat} {ν : Mm} (h : Tx t n ν) {s1 s2 o1 o2 : Int} {F : Mm → Rs} {L : Nat → Int → Int → Mm → Rs} (hL : Lp2 s1 s2 o1 o2 F L) (h1 : okS s1) (h2 : okS s2) {f : Nat} {a k : Int} {p : Nat} {g : Int} (hb : Bad t n p g) : L (f + 1) a k (cr ν p g) = some (wI a, cr ν p g) := by
  rw [hL]
  by_cases c : 160 ≤ k
  · rw [if_pos c]
  · rw [if_neg c, take_B h hb h1, bd_some, if_pos rfl, take_B h hb h2, bd_some, if_pos rfl]
theorem chC2 {t : Nat → Int} {n : Nat} {ν : Mm} (h : Tx t n ν) (hE : eOK (envC ν)) {s1 s2 o1 o2 : Int} (h1 : okS s1) (h2 : okS s2) (ho1 : 2 ≤ o1 ∧ o1 ≤ 11 ∧ o1 ≠ 9) (ho2 : 2 ≤ o2 ∧ o2 ≤ 11 ∧ o2 ≠ 9) {F : Mm → Rs} {L : Nat → Int → Int → Mm → Rs} (hL : Lp2 s1 s2 o1 o2 F L) {S : Nat → Pr} (hF : ∀ p, p ≤ n → CLs t n ν F p rgT (S p)) (hG : GP n S) : ∀ (m fuel : Nat) (a : Cd) (p0 p : Nat), m ≤ 160 → m < fuel → 161 ≤ p + m → Gp n p0 (a, p) → CLs t n ν (L fuel (vl (envC ν) a) ((160 - m : Nat) : Int)) p rgT (chL t n s1 s2 o1 o2 S m a p) := by
  intro m
  induction m with
  | zero =>
    intro fuel a p0 p _ _ hp hg
    have := h.1
    have : p ≤ n := hg.2.1
    omega
  | succ m ih =>
    intro fuel a p0 p hm hf hp hg
    obtain ⟨f, rfl, hf'⟩ := lt_fuel (d := m + 1) hf
    obtain ⟨f2, rfl⟩ : ∃ f2, f = f2 + 1 := ⟨f - 1, by omega⟩
    have h160 := h.1
    have hpn : p ≤ n := hg.2.1
    have hge := sk_ge (t := t) (n := n) p
    have hle := sk_le (t := t) (n := n) p hpn
    have hk : iA ((160 - (m + 1) : Nat) : Int) 1 = ((160 - m : Nat) : Int) := by rw [iA_nat (by omega)]; omega
    have hr : -2147483648 ≤ vl (envC ν) a ∧ vl (envC ν) a ≤ 2147483647 := hg.2.2.1.2.2.2.2 _ hE
    unfold chL
    have step : ∀ {o : Int} (ho : 2 ≤ o ∧ o ≤ 11 ∧ o ≠ 9), sk t n p < n → (L (f2 + 1 + 1) (vl (envC ν) a) ((160 - (m + 1) : Nat) : Int) (cr ν p (-1)) = bd (F (cr ν (sk t n p + 1) (-1))) fun v μ' => L (f2 + 1) (wk o (vl (envC ν) a) v) ((160 - m : Nat) : Int) μ') → CLs t n ν (L (f2 + 1 + 1) (vl (envC ν) a) ((160 - (m + 1) : Nat) : Int)) p rgT (match S (sk t n p + 1) with | none => none | some q => chL t n s1 s2 o1 o2 S m (bin o a q.1) q.2) := by
      intro o ho hlt e
      have hF1 := hF (sk t n p + 1) (by omega)
      have hG1 := hG (sk t n p + 1)
      revert hF1 hG1
      cases S (sk t n p + 1) with
      | none =>
        rintro ⟨r, p', f', e1, e2, _⟩ _
        rw [e1, bd_some, Lp2_B h hL h1 h2 e2] at e
        exact ⟨_, _, _, e, e2, trivial⟩
      | some q =>
        intro hF1 hG1
        have hF1 : F (cr ν (sk t n p + 1) (-1)) = some (vl (envC ν) q.1, cr ν q.2 (-1)) := hF1
        have hq := hG1 q (by omega) rfl
        have hb := Gp_bin ho hg hge hq
        rw [hF1, bd_some, ← vl_bin' ho hg.2.2.1 hq.2.2.1] at e
        have hI := ih (f2 + 1) (bin o a q.1) p0 q.2 (by omega) (by omega) (by have := hq.1; omega) hb
        dsimp only
        revert hI
        unfold CLs
        cases chL t n s1 s2 o1 o2 S m (bin o a q.1) q.2 with
        | none =>
          rintro ⟨r, p', f', e1, e2, e3⟩
          exact ⟨r, p', f', e.trans e1, e2, e3⟩
        | some w => intro hI; exact e.trans hI
    by_cases c1 : pk t n p = s1
    · rw [if_pos c1]
      have hq := pk_ne (t := t) (n := n) (p := p) (by rw [c1]; exact h1.1)
      refine step ho1 hq.1 ?_
      rw [hL, if_neg (by omega), take_eq h hpn s1 h1.1, if_pos c1, bd_some, if_neg (by decide), hk]
    · rw [if_neg c1]
      by_cases c2 : pk t n p = s2
      · rw [if_pos c2]
        have hq := pk_ne (t := t) (n := n) (p := p) (by rw [c2]; exact h2.1)
        refine step ho2 hq.1 ?_
        rw [hL, if_neg (by omega), take_eq h hpn s1 h1.1, if_neg c1, bd_some, if_pos rfl, take_eq h hle s2 h2.1, pk_sk, sk_sk, if_pos c2, bd_some, if_neg (by decide), hk]
      · rw [if_neg c2]
        show L (f2 + 1 + 1) (vl (envC ν) a) ((160 - (m + 1) : Nat) : Int) (cr ν p (-1)) = some (vl (envC ν) a, cr ν (sk t n p) (-1))
        rw [hL, if_neg (by omega), take_eq h hpn s1 h1.1, if_neg c1, bd_some, if_pos rfl, take_eq h hle s2 h2.1, pk_sk, sk_sk, if_neg c2, bd_some, if_pos rfl, wI_id (by omega) (by omega)]
theorem chC2S {t : Nat → Int} {n : Nat} {ν : Mm} (h : Tx t n ν) (hE : eOK (envC ν)) {s1 s2 o1 o2 : Int} (h1 : okS s1) (h2 : okS s2) (ho1 : 2 ≤ o1 ∧ o1 ≤ 11 ∧ o1 ≠ 9) (ho2 : 2 ≤ o2 ∧ o2 ≤ 11 ∧ o2 ≠ 9) {F : Mm → Rs} {L : Nat → Int → Int → Mm → Rs} (hL : Lp2 s1 s2 o1 o2 F L) {S : Nat → Pr} (hF : ∀ p, p ≤ n → CLs t n ν F p rgT (S p)) (hG : GP n S) {p : Nat} (hp : p ≤ n) : CLs t n ν (fun μ => bd (F μ) fun v1 μ2 => L FU v1 0 μ2) p rgT (chS t n s1 s2 o1 o2 S p) := by
  unfold chS
  have hF1 := hF p hp
  have hG1 := hG p
  revert hF1 hG1
  cases S p with
  | none =>
    rintro ⟨r, p', f', e1, e2, _⟩ _
    refine ⟨wI r, p', f', ?_, e2, trivial⟩
    show (bd (F (cr ν p (-1))) fun v1 μ2 => L FU v1 0 μ2) = _
    rw [e1, bd_some]
    exact Lp2_B h hL h1 h2 e2
  | some q =>
    intro hF1 hG1
    have hF1 : F (cr ν p (-1)) = some (vl (envC ν) q.1, cr ν q.2 (-1)) := hF1
    have hq := hG1 q hp rfl
    have hI := chC2 h hE h1 h2 ho1 ho2 hL hF hG 160 FU q.1 p q.2 (by omega) (by decide) (by have := hq.1; omega) hq
    dsimp only
    have e : (bd (F (cr ν p (-1))) fun v1 μ2 => L FU v1 0 μ2) = L FU (vl (envC ν) q.1) ((160 - 160 : Nat) : Int) (cr ν q.2 (-1)) := by rw [hF1, bd_some]; rfl
    revert hI
    unfold CLs
    cases chL t n s1 s2 o1 o2 S 160 q.1 q.2 with
    | none =>
      rintro ⟨r, p', f', e1, e2, e3⟩
      exact ⟨r, p', f', e.trans e1, e2, e3⟩
    | some w => intro hI; exact e.trans hI
theorem held_eq (x : Int) (μ : Mm) : X2_held x μ = some (clm x, μ) := rfl
theorem Lp_term (rec : Int → Mm → Rs) (d : Int) : Lp2 42 47 4 5 (X2_atom_o rec d) (X2_term_L10 rec d) := by
  intro f a k μ
  rw [X2_term_L10]
  congr 1
  congr 1
  funext v5 μ6
  congr 1
  · congr 1
    funext v9 μ10
    congr 1
    congr 1
    funext v13 μ14
    by_cases c : v13 = 0
    · rw [if_pos c, c]
      rfl
    · rw [if_neg c]
      unfold dZ
      rw [if_neg c, held_eq, bd_some]
      have : wk 5 a v13 = clm (lD a v13) := by
        unfold wk
        rw [if_neg (by decide), if_neg (by decide), if_neg (by decide), if_pos rfl, if_neg c]
      rw [this]
theorem Lp_sum (rec : Int → Mm → Rs) (d : Int) : Lp2 43 45 2 3 (X2_term_o rec d) (X2_sum_L10 rec d) := by
  intro f a k μ
  rw [X2_sum_L10]
  rfl
theorem sumOC {t : Nat → Int} {n : Nat} {ν : Mm} (h : Tx t n ν) (hT : ∀ j, j < n → 1 ≤ t j ∧ t j ≤ 255) (hE : eOK (envC ν)) {rec : Int → Mm → Rs} {S : Nat → Pr} {d : Nat} (hd : (d < 6 ∧ ∀ p, p ≤ n → CLs t n ν (rec ((d + 1 : Nat) : Int)) p rgT (S p)) ∨ (d = 6 ∧ ∀ p, S p = none)) (hG : GP n S) {p : Nat} (hp : p ≤ n) : CLs t n ν (fun μ => bd (X2_term_o rec (d : Int) μ) fun v1 μ2 => X2_sum_L10 rec (d : Int) FU v1 0 μ2) p rgT (sumO t n S p) := by
  refine chC2S h hE (by unfold okS; decide) (by unfold okS; decide) (by decide) (by decide) (Lp_sum rec d) (fun p hp => ?_) (chS_G (by decide) (by decide) (by decide) (atom_G hG)) hp
  exact chC2S h hE (by unfold okS; decide) (by unfold okS; decide) (by decide) (by decide) (Lp_term rec d) (fun p hp => atomC h hT hd hG hp) (atom_G hG) hp
theorem sumC {t : Nat → Int} {n : Nat} {ν : Mm} (h : Tx t n ν) (hT : ∀ j, j < n → 1 ≤ t j ∧ t j ≤ 255) (hE : eOK (envC ν)) : ∀ (l fuel : Nat), l ≤ 6 → l < fuel → ∀ p, p ≤ n → CLs t n ν (X2_sum fuel ((6 - l : Nat) : Int)) p rgT (sumS t n l p) := by
  intro l
  induction l with
  | zero =>
    intro fuel _ hf p hp
    obtain ⟨f, rfl, hf'⟩ := lt_fuel hf
    exact sumOC h hT hE (rec := fun w0 μq => X2_sum f w0 μq) (d := 6) (Or.inr ⟨rfl, fun _ => rfl⟩) none_G hp
  | succ l ih =>
    intro fuel hl hf p hp
    obtain ⟨f, rfl, hf'⟩ := lt_fuel (d := l + 1) hf
    refine sumOC h hT hE (rec := fun w0 μq => X2_sum f w0 μq) (d := 6 - (l + 1)) (Or.inl ⟨by omega, fun p hp => ?_⟩) (sumS_G l) hp
    have e : 6 - (l + 1) + 1 = 6 - l := by omega
    rw [e]
    exact ih f (by omega) (by omega) p hp
theorem Lp2_F {ν : Mm} {s1 s2 o1 o2 : Int} {F : Mm → Rs} {L : Nat → Int → Int → Mm → Rs} (hL : Lp2 s1 s2 o1 o2 F L) (h1 : s1 ≠ -1) (h2 : s2 ≠ -1) {f : Nat} {a k : Int} {p : Nat} {g : Int} (hg : g ≠ -1) : L (f + 1) a k (cr ν p g) = some (wI a, cr ν p g) := by
  rw [hL]
  by_cases c : 160 ≤ k
  · rw [if_pos c]
  · rw [if_neg c, take_F hg h1, bd_some, if_pos rfl, take_F hg h2, bd_some, if_pos rfl]
theorem sum_F {ν : Mm} {f : Nat} {d : Int} {p : Nat} {g : Int} (hg : g ≠ -1) : X2_sum (f + 1) d (cr ν p g) = some (0, cr ν p g) := by
  rw [X2_sum]
  unfold X2_term_o
  rw [atom_F hg, bd_some]
  have e1 := Lp2_F (ν := ν) (Lp_term (fun w0 μq => X2_sum f w0 μq) d) (by decide) (by decide) (f := 999999) (a := 0) (k := 0) (p := p) hg
  have e2 := Lp2_F (ν := ν) (Lp_sum (fun w0 μq => X2_sum f w0 μq) d) (by decide) (by decide) (f := 999999) (a := 0) (k := 0) (p := p) hg
  have e1 : X2_term_L10 (fun w0 μq => X2_sum f w0 μq) d FU 0 0 (cr ν p g) = some (0, cr ν p g) := e1
  have e2 : X2_sum_L10 (fun w0 μq => X2_sum f w0 μq) d FU 0 0 (cr ν p g) = some (0, cr ν p g) := e2
  rw [e1, bd_some, e2]
/-! LAWS, the class's reader: conditions, clauses -/
theorem isCmp_eq (x : Int) (μ : Mm) : X2_isComparison x μ = some (if cop x = -1 then 0 else 1, μ) := by
  unfold X2_isComparison cop
  by_cases c1 : x = 61
  · rw [if_pos c1, if_pos c1, if_neg (by decide)]
  · rw [if_neg c1, if_neg c1]
    by_cases c2 : x = 60
    · rw [if_pos c2, if_pos c2, if_neg (by decide)]
    · rw [if_neg c2, if_neg c2]
      by_cases c3 : x = 62
      · rw [if_pos c3, if_pos c3, if_neg (by decide)]
      · rw [if_neg c3, if_neg c3, if_pos rfl]
theorem cop_dig {x : Int} (h : x = -1 ∨ (48 ≤ x ∧ x ≤ 57)) : cop x = -1 := by
  unfold cop
  rw [if_neg (by omega), if_neg (by omega), if_neg (by omega)]
theorem cmp_val (x v1 v14 : Int) (hx : cop x ≠ -1) (μ : Mm) : (if x = 61 then (if v1 = v14 then (some (1, μ) : Rs) else (some (0, μ))) else (if x = 60 then (if v14 ≤ v1 then (some (0, μ)) else (some (1, μ))) else (if v1 ≤ v14 then (some (0, μ)) else (some (1, μ))))) = some (wk (cop x) v1 v14, μ) := by
  unfold cop at *
  by_cases c1 : x = 61
  · rw [if_pos c1, if_pos c1]
    show _ = some (if v1 = v14 then 1 else 0, μ)
    by_cases c : v1 = v14
    · rw [if_pos c, if_pos c]
    · rw [if_neg c, if_neg c]
  · rw [if_neg c1] at hx
    rw [if_neg c1, if_neg c1]
    by_cases c2 : x = 60
    · rw [if_pos c2, if_pos c2]
      show _ = some (if v1 < v14 then 1 else 0, μ)
      by_cases c : v14 ≤ v1
      · rw [if_pos c, if_neg (by omega)]
      · rw [if_neg c, if_pos (by omega)]
    · rw [if_neg c2] at hx
      rw [if_neg c2, if_neg c2]
      by_cases c3 : x = 62
      · rw [if_pos c3]
        show _ = some (if v14 < v1 then 1 else 0, μ)
        by_cases c : v1 ≤ v14
        · rw [if_pos c, if_neg (by omega)]
        · rw [if_neg c, if_pos (by omega)]
      · rw [if_neg c3] at hx; exact absurd rfl hx
theorem cmp_rg (x v1 v14 : Int) (μ : Mm) : ∃ r, (if x = 61 then (if v1 = v14 then (some (1, μ) : Rs) else (some (0, μ))) else (if x = 60 then (if v14 ≤ v1 then (some (0, μ)) else (some (1, μ))) else (if v1 ≤ v14 then (some (0, μ)) else (some (1, μ))))) = some (r, μ) ∧ rgB r := by
  unfold rgB
  repeat' split
  all_goals exact ⟨_, rfl, by decide⟩
theorem cmpC {t : Nat → Int} {n : Nat} {ν : Mm} (h : Tx t n ν) (hT : ∀ j, j < n → 1 ≤ t j ∧ t j ≤ 255) (hE : eOK (envC ν)) {l : Nat} (hl : l ≤ 6) {p : Nat} (hp : p ≤ n) : CLs t n ν (X2_comparison ((6 - l : Nat) : Int)) p rgB (cmpS t n l p) := by
  have h1 := sumC h hT hE l RD hl (by show l < 12; omega) p hp
  have hG1 := sumS_G (t := t) (n := n) l p
  unfold cmpS
  have h160 := h.1
  revert h1 hG1
  cases sumS t n l p with
  | none =>
    rintro ⟨r, p', f', e1, e2, _⟩ _
    obtain ⟨v, g1, g2, g3⟩ := peek_B h e2
    have e : X2_comparison ((6 - l : Nat) : Int) (cr ν p (-1)) = bd (X4_refuseAt (p' : Int) (cr ν p' f')) fun v22 μ23 => some (0, μ23) := by
      unfold X2_comparison
      rw [e1, bd_some, g1, bd_some, isCmp_eq, bd_some, if_pos (by rw [if_pos (cop_dig g2)]), cr_1]
    by_cases c : f' = -1
    · subst c
      rw [refuse_eq, bd_some] at e
      exact ⟨_, _, _, e, Or.inl (by omega), Or.inl rfl⟩
    · rw [refuse_F c, bd_some] at e
      exact ⟨_, _, _, e, e2, Or.inl rfl⟩
  | some q =>
    intro h1 hG1
    have h1 : X2_sum RD ((6 - l : Nat) : Int) (cr ν p (-1)) = some (vl (envC ν) q.1, cr ν q.2 (-1)) := h1
    have hq := hG1 q hp rfl
    have hge := sk_ge (t := t) (n := n) q.2
    have hle := sk_le (t := t) (n := n) q.2 hq.2.1
    dsimp only
    unfold cmpR
    by_cases c : cop (pk t n q.2) = -1
    · rw [if_neg (fun z => z c)]
      refine ⟨0, sk t n q.2, ((sk t n q.2 : Nat) : Int), ?_, Or.inl (by omega), Or.inl rfl⟩
      unfold X2_comparison
      rw [h1, bd_some, peek_eq h hq.2.1, bd_some, isCmp_eq, bd_some, if_pos (by rw [if_pos c]), cr_1, refuse_eq, bd_some]
    · rw [if_pos c]
      have hq2 := pk_ne (t := t) (n := n) (p := q.2) (fun z => c (by rw [z]; decide))
      have h2 := sumC h hT hE l RD hl (by show l < 12; omega) (sk t n q.2 + 1) (by omega)
      have hG2 := sumS_G (t := t) (n := n) l (sk t n q.2 + 1)
      have e : X2_comparison ((6 - l : Nat) : Int) (cr ν p (-1)) = bd (X2_sum RD ((6 - l : Nat) : Int) (cr ν (sk t n q.2 + 1) (-1))) fun v14 μ15 => if pk t n q.2 = 61 then (if vl (envC ν) q.1 = v14 then (some (1, μ15)) else (some (0, μ15))) else (if pk t n q.2 = 60 then (if v14 ≤ vl (envC ν) q.1 then (some (0, μ15)) else (some (1, μ15))) else (if vl (envC ν) q.1 ≤ v14 then (some (0, μ15)) else (some (1, μ15)))) := by
        unfold X2_comparison
        rw [h1, bd_some, peek_eq h hq.2.1, bd_some, isCmp_eq, bd_some, if_neg (by rw [if_neg c]; decide), pass_eq h hq2.1, bd_some]
      revert h2 hG2
      cases sumS t n l (sk t n q.2 + 1) with
      | none =>
        rintro ⟨r, p', f', e1, e2, _⟩ _
        rw [e1, bd_some] at e
        obtain ⟨r2, g1, g2⟩ := cmp_rg (pk t n q.2) (vl (envC ν) q.1) r (cr ν p' f')
        exact ⟨r2, p', f', e.trans g1, e2, g2⟩
      | some w =>
        intro h2 hG2
        have h2 : X2_sum RD ((6 - l : Nat) : Int) (cr ν (sk t n q.2 + 1) (-1)) = some (vl (envC ν) w.1, cr ν w.2 (-1)) := h2
        have hw := hG2 w (by omega) rfl
        have hcb := cop_b (pk t n q.2)
        show X2_comparison ((6 - l : Nat) : Int) (cr ν p (-1)) = some (vl (envC ν) (bin (cop (pk t n q.2)) q.1 w.1), cr ν w.2 (-1))
        rw [e, h2, bd_some, cmp_val _ _ _ c, vl_bin' (by omega) hq.2.2.1 hw.2.2.1]
/-- a loop over one sign -/
def Lp1 (s o : Int) (F : Mm → Rs) (L : Nat → Int → Int → Mm → Rs) : Prop := ∀ f a k μ, (a = 0 ∨ a = 1) → L (f + 1) a k μ = if 160 ≤ k then (some (a, μ)) else (bd (X4_take s μ) fun v6 μ7 => if v6 = 0 then (some (a, μ7)) else (bd (F μ7) fun v μ' => L f (wk o a v) (iA k 1) μ'))
theorem Lp1_B {t : Nat → Int} {n : Nat} {ν : Mm} (h : Tx t n ν) {s o : Int} {F : Mm → Rs} {L : Nat → Int → Int → Mm → Rs} (hL : Lp1 s o F L) (h1 : okS s) {f : Nat} {a k : Int} (ha : a = 0 ∨ a = 1) {p : Nat} {g : Int} (hb : Bad t n p g) : L (f + 1) a k (cr ν p g) = some (a, cr ν p g) := by
  rw [hL f a k _ ha]
  by_cases c : 160 ≤ k
  · rw [if_pos c]
  · rw [if_neg c, take_B h hb h1, bd_some, if_pos rfl]
theorem chC1 {t : Nat → Int} {n : Nat} {ν : Mm} (h : Tx t n ν) (hE : eOK (envC ν)) {s o : Int} (h1 : okS s) (ho : 6 ≤ o ∧ o ≤ 11 ∧ o ≠ 9) {F : Mm → Rs} {L : Nat → Int → Int → Mm → Rs} (hL : Lp1 s o F L) {S : Nat → Pr} (hF : ∀ p, p ≤ n → CLs t n ν F p rgB (S p)) (hG : GC n S) : ∀ (m fuel : Nat) (a : Cd) (p0 p : Nat), m ≤ 160 → m < fuel → 161 ≤ p + m → Gp n p0 (a, p) → isC a → CLs t n ν (L fuel (vl (envC ν) a) ((160 - m : Nat) : Int)) p rgB (chL t n s s o o S m a p) := by
  intro m
  induction m with
  | zero =>
    intro fuel a p0 p _ _ hp hg _
    have := h.1
    have : p ≤ n := hg.2.1
    omega
  | succ m ih =>
    intro fuel a p0 p hm hf hp hg hc
    obtain ⟨f, rfl, hf'⟩ := lt_fuel (d := m + 1) hf
    obtain ⟨f2, rfl⟩ : ∃ f2, f = f2 + 1 := ⟨f - 1, by omega⟩
    have h160 := h.1
    have hpn : p ≤ n := hg.2.1
    have hge := sk_ge (t := t) (n := n) p
    have hle := sk_le (t := t) (n := n) p hpn
    have hk : iA ((160 - (m + 1) : Nat) : Int) 1 = ((160 - m : Nat) : Int) := by rw [iA_nat (by omega)]; omega
    have ho2 : 2 ≤ o ∧ o ≤ 11 ∧ o ≠ 9 := ⟨by omega, ho.2⟩
    unfold chL
    by_cases c1 : pk t n p = s
    · rw [if_pos c1]
      have hq := pk_ne (t := t) (n := n) (p := p) (by rw [c1]; exact h1.1)
      have e : L (f2 + 1 + 1) (vl (envC ν) a) ((160 - (m + 1) : Nat) : Int) (cr ν p (-1)) = bd (F (cr ν (sk t n p + 1) (-1))) fun v μ' => L (f2 + 1) (wk o (vl (envC ν) a) v) ((160 - m : Nat) : Int) μ' := by
        rw [hL _ _ _ _ (hc _), if_neg (by omega), take_eq h hpn s h1.1, if_pos c1, bd_some, if_neg (by decide), hk]
      have hF1 := hF (sk t n p + 1) (by omega)
      have hG1 := hG (sk t n p + 1)
      revert hF1 hG1
      cases S (sk t n p + 1) with
      | none =>
        rintro ⟨r, p', f', e1, e2, _⟩ _
        rw [e1, bd_some, Lp1_B h hL h1 (wk_c ho.1 _ _) e2] at e
        exact ⟨_, _, _, e, e2, wk_c ho.1 _ _⟩
      | some q =>
        intro hF1 hG1
        have hF1 : F (cr ν (sk t n p + 1) (-1)) = some (vl (envC ν) q.1, cr ν q.2 (-1)) := hF1
        have hq := (hG1 q (by omega) rfl).1
        have hb := Gp_bin ho2 hg hge hq
        rw [hF1, bd_some, ← vl_bin' ho2 hg.2.2.1 hq.2.2.1] at e
        have hI := ih (f2 + 1) (bin o a q.1) p0 q.2 (by omega) (by omega) (by have := hq.1; omega) hb (isC_bin ho hg.2.2.1 hq.2.2.1)
        dsimp only
        revert hI
        unfold CLs
        cases chL t n s s o o S m (bin o a q.1) q.2 with
        | none =>
          rintro ⟨r, p', f', e1, e2, e3⟩
          exact ⟨r, p', f', e.trans e1, e2, e3⟩
        | some w => intro hI; exact e.trans hI
    · rw [if_neg c1, if_neg c1]
      show L (f2 + 1 + 1) (vl (envC ν) a) ((160 - (m + 1) : Nat) : Int) (cr ν p (-1)) = some (vl (envC ν) a, cr ν (sk t n p) (-1))
      rw [hL _ _ _ _ (hc _), if_neg (by omega), take_eq h hpn s h1.1, if_neg c1, bd_some, if_pos rfl]
theorem chC1S {t : Nat → Int} {n : Nat} {ν : Mm} (h : Tx t n ν) (hE : eOK (envC ν)) {s o : Int} (h1 : okS s) (ho : 6 ≤ o ∧ o ≤ 11 ∧ o ≠ 9) {F : Mm → Rs} {L : Nat → Int → Int → Mm → Rs} (hL : Lp1 s o F L) {S : Nat → Pr} (hF : ∀ p, p ≤ n → CLs t n ν F p rgB (S p)) (hG : GC n S) {p : Nat} (hp : p ≤ n) : CLs t n ν (fun μ => bd (F μ) fun v1 μ2 => L FU v1 0 μ2) p rgB (chS t n s s o o S p) := by
  unfold chS
  have hF1 := hF p hp
  have hG1 := hG p
  revert hF1 hG1
  cases S p with
  | none =>
    rintro ⟨r, p', f', e1, e2, e3⟩ _
    refine ⟨r, p', f', ?_, e2, e3⟩
    show (bd (F (cr ν p (-1))) fun v1 μ2 => L FU v1 0 μ2) = _
    rw [e1, bd_some]
    exact Lp1_B h hL h1 e3 e2
  | some q =>
    intro hF1 hG1
    have hF1 : F (cr ν p (-1)) = some (vl (envC ν) q.1, cr ν q.2 (-1)) := hF1
    have hq := hG1 q hp rfl
    have hI := chC1 h hE h1 ho hL hF hG 160 FU q.1 p q.2 (by omega) (by decide) (by have := hq.1.1; omega) hq.1 hq.2
    dsimp only
    have e : (bd (F (cr ν p (-1))) fun v1 μ2 => L FU v1 0 μ2) = L FU (vl (envC ν) q.1) ((160 - 160 : Nat) : Int) (cr ν q.2 (-1)) := by rw [hF1, bd_some]; rfl
    revert hI
    unfold CLs
    cases chL t n s s o o S 160 q.1 q.2 with
    | none =>
      rintro ⟨r, p', f', e1, e2, e3⟩
      exact ⟨r, p', f', e.trans e1, e2, e3⟩
    | some w => intro hI; exact e.trans hI
theorem rZ_b {a : Int} (h : a = 0 ∨ a = 1) (μ : Mm) : rZ a μ = some (a, μ) := by unfold rZ; rw [if_pos h]
theorem wk_and (a v : Int) : wk 10 a v = if v = 0 then 0 else if a = 0 then 0 else 1 := by
  show (if a = 0 then 0 else if v = 0 then 0 else 1) = _
  by_cases h1 : a = 0
  · rw [if_pos h1, if_pos h1]; split <;> rfl
  · rw [if_neg h1, if_neg h1]
theorem wk_or (a v : Int) : wk 11 a v = if v = 0 then (if a = 0 then 0 else 1) else 1 := by
  show (if a = 0 then (if v = 0 then 0 else 1) else 1) = _
  by_cases h1 : a = 0
  · rw [if_pos h1, if_pos h1]
  · rw [if_neg h1, if_neg h1]; split <;> rfl
theorem Lp_truth (rec : Int → Mm → Rs) (d : Int) : Lp1 38 10 (rec d) (X2_truth_L8 rec d) := by
  intro f a k μ ha
  rw [X2_truth_L8, rZ_b ha]
  congr 1
  congr 1
  funext v6 μ7
  rw [rZ_b ha]
  congr 1
  congr 1
  funext v11 μ12
  rw [wk_and]
  by_cases c1 : v11 = 0
  · rw [if_pos c1, if_pos c1]
  · rw [if_neg c1, if_neg c1]
    by_cases c2 : a = 0
    · rw [if_pos c2, if_pos c2]
    · rw [if_neg c2, if_neg c2]
theorem Lp_cond (rec : Int → Mm → Rs) (d : Int) : Lp1 124 11 (X2_truth_o rec d) (X2_condition_L8 rec d) := by
  intro f a k μ ha
  rw [X2_condition_L8, rZ_b ha]
  congr 1
  congr 1
  funext v6 μ7
  rw [rZ_b ha]
  congr 1
  congr 1
  funext v11 μ12
  rw [wk_or]
  by_cases c1 : v11 = 0
  · rw [if_pos c1, if_pos c1]
    by_cases c2 : a = 0
    · rw [if_pos c2, if_pos c2]
    · rw [if_neg c2, if_neg c2]
  · rw [if_neg c1, if_neg c1]
theorem conC {t : Nat → Int} {n : Nat} {ν : Mm} (h : Tx t n ν) (hE : eOK (envC ν)) {rec : Int → Mm → Rs} {d : Int} {S : Nat → Pr} (hF : ∀ p, p ≤ n → CLs t n ν (rec d) p rgB (S p)) (hG : GC n S) {p : Nat} (hp : p ≤ n) : CLs t n ν (X2_condition_o rec d) p rgB (conS t n S p) := by
  refine chC1S h hE (by unfold okS; decide) (by decide) (Lp_cond rec d) (fun p hp => ?_) (chS_C (by decide) (by decide) (by decide) hG) hp
  exact chC1S h hE (by unfold okS; decide) (by decide) (Lp_truth rec d) hF hG hp
theorem unitOC {t : Nat → Int} {n : Nat} {ν : Mm} (h : Tx t n ν) (hT : ∀ j, j < n → 1 ≤ t j ∧ t j ≤ 255) (hE : eOK (envC ν)) {f l : Nat} (hl : l ≤ 6) {S : Nat → Pr} (hS : (1 ≤ l ∧ ∀ p, p ≤ n → CLs t n ν (X2_unit f ((6 - (l - 1) : Nat) : Int)) p rgB (S p)) ∨ (l = 0 ∧ ∀ p, S p = none)) (hG : GC n S) {p : Nat} (hp : p ≤ n) : CLs t n ν (X2_unit (f + 1) ((6 - l : Nat) : Int)) p rgB (unitO t n l S p) := by
  have h160 := h.1
  have hge := sk_ge (t := t) (n := n) p
  have hle := sk_le (t := t) (n := n) p hp
  unfold unitO
  have J0 : ∀ l2, l = 0 → X2_unit_J26 (fun w0 μq => X2_unit f w0 μq) ((6 - l : Nat) : Int) l2 (cr ν (sk t n p) (-1)) = some (0, cr ν (sk t n p) ((sk t n p : Nat) : Int)) := by
    intro l2 h0
    unfold X2_unit_J26
    rw [if_neg (by omega), cr_1, refuse_eq, bd_some]
  have hd : 1 ≤ l → iA ((6 - l : Nat) : Int) 1 = ((6 - (l - 1) : Nat) : Int) := fun h1 => by rw [iA_nat (by omega)]; omega
  by_cases c1 : pk t n p = 33
  · rw [if_pos c1]
    have hq := pk_ne (t := t) (n := n) (p := p) (by omega)
    have e0 : X2_unit (f + 1) ((6 - l : Nat) : Int) (cr ν p (-1)) = X2_unit_J26 (fun w0 μq => X2_unit f w0 μq) ((6 - l : Nat) : Int) 33 (cr ν (sk t n p) (-1)) := by
      rw [X2_unit, peek_eq h hp, bd_some, c1, if_pos rfl]
    rcases hS with ⟨h1, h2⟩ | ⟨h1, h2⟩
    · have e : X2_unit (f + 1) ((6 - l : Nat) : Int) (cr ν p (-1)) = bd (bd (X2_unit f ((6 - (l - 1) : Nat) : Int) (cr ν (sk t n p + 1) (-1))) fun v1 μ2 => if v1 = 0 then (some (1, μ2)) else (some (0, μ2))) fun v14 μ15 => rZ v14 μ15 := by
        rw [e0]
        unfold X2_unit_J26 X2_denied_o
        rw [if_pos (by omega), pass_eq h hq.1, bd_some, if_pos rfl, hd h1]
      have hF1 := h2 (sk t n p + 1) (by omega)
      have hG1 := hG (sk t n p + 1)
      revert hF1 hG1
      cases S (sk t n p + 1) with
      | none =>
        rintro ⟨r, p', f', e1, e2, e3⟩ _
        rw [e1, bd_some] at e
        by_cases c : r = 0
        · rw [if_pos c, bd_some, rZ_b (Or.inr rfl)] at e
          exact ⟨_, _, _, e, e2, Or.inr rfl⟩
        · rw [if_neg c, bd_some, rZ_b (Or.inl rfl)] at e
          exact ⟨_, _, _, e, e2, Or.inl rfl⟩
      | some q =>
        intro hF1 hG1
        have hF1 : X2_unit f ((6 - (l - 1) : Nat) : Int) (cr ν (sk t n p + 1) (-1)) = some (vl (envC ν) q.1, cr ν q.2 (-1)) := hF1
        obtain ⟨hq1, hq2⟩ := hG1 q (by omega) rfl
        have hn := (gd_neg hq1.2.2.1 hq2).2.2 (envC ν)
        show X2_unit (f + 1) ((6 - l : Nat) : Int) (cr ν p (-1)) = some (vl (envC ν) (ngc q.1), cr ν q.2 (-1))
        rw [e, hF1, bd_some, hn]
        by_cases c : vl (envC ν) q.1 = 0
        · rw [if_pos c, if_pos c, bd_some, rZ_b (Or.inr rfl)]
        · rw [if_neg c, if_neg c, bd_some, rZ_b (Or.inl rfl)]
    · rw [h2]
      exact ⟨_, _, _, e0.trans (J0 33 h1), Or.inl (by omega), Or.inl rfl⟩
  · rw [if_neg c1]
    by_cases c2 : pk t n p = 40
    · rw [if_pos c2]
      have hq := pk_ne (t := t) (n := n) (p := p) (by omega)
      have e0 : X2_unit (f + 1) ((6 - l : Nat) : Int) (cr ν p (-1)) = X2_unit_J26 (fun w0 μq => X2_unit f w0 μq) ((6 - l : Nat) : Int) 40 (cr ν (sk t n p) (-1)) := by
        rw [X2_unit, peek_eq h hp, bd_some, if_neg c1, c2, if_pos rfl]
      rcases hS with ⟨h1, h2⟩ | ⟨h1, h2⟩
      · have e : X2_unit (f + 1) ((6 - l : Nat) : Int) (cr ν p (-1)) = bd (bd (X2_condition_o (fun w0 μq => X2_unit f w0 μq) ((6 - (l - 1) : Nat) : Int) (cr ν (sk t n p + 1) (-1))) fun v1 μ2 => bd (X4_need 41 μ2) fun v4 μ5 => rZ v1 μ5) fun v10 μ11 => rZ v10 μ11 := by
          rw [e0]
          unfold X2_unit_J26 X2_enclosed_o
          rw [if_pos (by omega), pass_eq h hq.1, bd_some, if_neg (by decide), hd h1]
        have hF1 := conC h hE (rec := fun w0 μq => X2_unit f w0 μq) (d := ((6 - (l - 1) : Nat) : Int)) h2 hG (p := sk t n p + 1) (by omega)
        have hG1 := conS_G (t := t) hG (sk t n p + 1)
        revert hF1 hG1
        cases conS t n S (sk t n p + 1) with
        | none =>
          rintro ⟨r, p', f', e1, e2, e3⟩ _
          obtain ⟨f2, g1, g2⟩ := need_B h e2 (c := 41) (by decide)
          rw [e1, bd_some, g1, bd_some, rZ_b e3, bd_some, rZ_b e3] at e
          exact ⟨_, _, _, e, Or.inl g2, e3⟩
        | some q =>
          intro hF1 hG1
          have hF1 : X2_condition_o (fun w0 μq => X2_unit f w0 μq) ((6 - (l - 1) : Nat) : Int) (cr ν (sk t n p + 1) (-1)) = some (vl (envC ν) q.1, cr ν q.2 (-1)) := hF1
          obtain ⟨hq1, hq2⟩ := hG1 q (by omega) rfl
          rw [hF1, bd_some, need_eq h hq1.2.1 41 (by decide)] at e
          dsimp only
          by_cases c4 : pk t n q.2 = 41
          · rw [if_pos c4, bd_some, rZ_b (hq2 _), bd_some, rZ_b (hq2 _)] at e
            rw [if_pos c4]
            exact e
          · rw [if_neg c4, bd_some, rZ_b (hq2 _), bd_some, rZ_b (hq2 _)] at e
            rw [if_neg c4]
            exact ⟨_, _, _, e, Or.inl (by omega), hq2 _⟩
      · have : conS t n S (sk t n p + 1) = none := by unfold conS truS chS; rw [h2]
        rw [this]
        exact ⟨_, _, _, e0.trans (J0 40 h1), Or.inl (by omega), Or.inl rfl⟩
    · rw [if_neg c2]
      have e : X2_unit (f + 1) ((6 - l : Nat) : Int) (cr ν p (-1)) = bd (X2_comparison ((6 - l : Nat) : Int) (cr ν (sk t n p) (-1))) fun v22 μ23 => rZ v22 μ23 := by
        rw [X2_unit, peek_eq h hp, bd_some, if_neg c1, if_neg c2]
      have hF1 := cmpC h hT hE hl (p := sk t n p) hle
      have hG1 := cmpS_G (t := t) (n := n) (l := l) p
      rw [cmpS_sk p] at hF1
      revert hF1 hG1
      cases cmpS t n l p with
      | none =>
        rintro ⟨r, p', f', e1, e2, e3⟩ _
        rw [e1, bd_some, rZ_b e3] at e
        exact ⟨_, _, _, e, e2, e3⟩
      | some q =>
        intro hF1 hG1
        have hF1 : X2_comparison ((6 - l : Nat) : Int) (cr ν (sk t n p) (-1)) = some (vl (envC ν) q.1, cr ν q.2 (-1)) := hF1
        obtain ⟨hq1, hq2⟩ := hG1 q hp rfl
        rw [hF1, bd_some, rZ_b (hq2 _)] at e
        exact e
theorem unitC {t : Nat → Int} {n : Nat} {ν : Mm} (h : Tx t n ν) (hT : ∀ j, j < n → 1 ≤ t j ∧ t j ≤ 255) (hE : eOK (envC ν)) : ∀ (l fuel : Nat), l ≤ 6 → l < fuel → ∀ p, p ≤ n → CLs t n ν (X2_unit fuel ((6 - l : Nat) : Int)) p rgB (unitS t n l p) := by
  intro l
  induction l with
  | zero =>
    intro fuel _ hf p hp
    obtain ⟨f, rfl, hf'⟩ := lt_fuel hf
    exact unitOC h hT hE (l := 0) (by decide) (Or.inr ⟨rfl, fun _ => rfl⟩) (fun _ _ _ e => by cases e) hp
  | succ l ih =>
    intro fuel hl hf p hp
    obtain ⟨f, rfl, hf'⟩ := lt_fuel (d := l + 1) hf
    exact unitOC h hT hE (l := l + 1) hl (Or.inl ⟨by omega, fun p hp => ih f (by omega) (by omega) p hp⟩) (unitS_G l) hp
/-! LAWS, the class's reader: clauses -/
def KE : Int → Mm → Rs := fun v40 μ41 => bd (X4_needEnd μ41) fun v42 μ43 => some (v40, μ43)
theorem KE_B {t : Nat → Int} {n : Nat} {ν : Mm} (h : Tx t n ν) {r : Int} {p : Nat} {f : Int} (hb : Bad t n p f) : ∃ f', KE r (cr ν p f) = some (r, cr ν p f') ∧ f' ≠ -1 := by
  obtain ⟨f', e1, e2⟩ := needEnd_B h hb
  exact ⟨f', by unfold KE; rw [e1, bd_some], e2⟩
theorem starts_F {ν : Mm} {p : Nat} {g : Int} (hg : g ≠ -1) : X2_startsCondition (cr ν p g) = some (0, cr ν p g) := by
  unfold X2_startsCondition
  have e : X2_sum RD 0 (cr ν p g) = some (0, cr ν p g) := sum_F hg
  rw [peek_F hg, bd_some, if_neg (by decide), if_neg (by decide), e, bd_some, peek_F hg, bd_some, isCmp_eq, bd_some]
  unfold sF
  dsimp only
  rw [cr_1, cr_p, rZ_b (by decide)]
  rfl
theorem J57_B {t : Nat → Int} {n : Nat} {ν : Mm} (h : Tx t n ν) {k6 : Int → Int → Int → Mm → Rs} {l1 l2 l3 l4 : Int} {p p' : Nat} {g f : Int} {r : Int} (hs : X2_sum RD 0 (cr ν p g) = some (r, cr ν p' f)) (hb : Bad t n p' f) : ∃ r' f', X2_worth_J57 k6 KE l1 l2 l3 l4 (cr ν p g) = some (r', cr ν p' f') ∧ f' ≠ -1 := by
  unfold X2_worth_J57
  rw [hs, bd_some, take_B h hb (by decide), bd_some, if_pos rfl]
  by_cases c1 : l4 = 0
  · rw [if_pos c1]
    obtain ⟨f', e1, e2⟩ := KE_B h (r := l1) hb
    exact ⟨_, f', e1, e2⟩
  · rw [if_neg c1]
    by_cases c2 : l2 = 0
    · rw [if_pos c2]
      obtain ⟨f', e1, e2⟩ := KE_B h (r := r) hb
      exact ⟨_, f', e1, e2⟩
    · rw [if_neg c2]
      obtain ⟨f', e1, e2⟩ := KE_B h (r := l1) hb
      exact ⟨_, f', e1, e2⟩
theorem J57_F {t : Nat → Int} {n : Nat} {ν : Mm} (h : Tx t n ν) {k6 : Int → Int → Int → Mm → Rs} {l1 l2 l3 l4 : Int} {p : Nat} {g : Int} (hg : g ≠ -1) : ∃ r' f', X2_worth_J57 k6 KE l1 l2 l3 l4 (cr ν p g) = some (r', cr ν p f') ∧ f' ≠ -1 :=
  J57_B h (r := 0) (sum_F hg) (Or.inl hg)
/-- what stands behind the clause's y: -/
def bodyE (k6 : Int → Int → Int → Mm → Rs) (l1 l2 l3 : Int) (μ6 : Mm) : Rs := bd (X2_startsCondition μ6) fun v8 μ9 => if v8 = 0 then (X2_worth_J57 k6 KE l1 l2 l3 1 μ9) else (bd (X2_condition_o (X2_unit RD) 0 μ9) fun v29 μ30 => bd (X4_need 63 μ30) fun v32 μ33 => X2_worth_J57 k6 KE l1 l2 l3 v29 μ33)
/-- a clause done: what is known of the answer -/
def nxE (k6 : Int → Int → Int → Mm → Rs) (l1 l2 l3 : Int) (hold : Prop) [Decidable hold] (v : Int) (μ : Mm) : Rs := if hold then (if l2 = 0 then bd (X4_take 59 μ) fun w ν => if w = 0 then KE v ν else k6 v 1 (iA l3 1) ν else bd (X4_take 59 μ) fun w ν => if w = 0 then KE l1 ν else k6 l1 l2 (iA l3 1) ν) else bd (X4_take 59 μ) fun w ν => if w = 0 then KE l1 ν else k6 l1 l2 (iA l3 1) ν
theorem J57_eq {k6 : Int → Int → Int → Mm → Rs} {l1 l2 l3 l4 : Int} {μ μ' : Mm} {v : Int} (hs : X2_sum RD 0 μ = some (v, μ')) (hold : Prop) [Decidable hold] (h4 : hold ↔ l4 ≠ 0) : X2_worth_J57 k6 KE l1 l2 l3 l4 μ = nxE k6 l1 l2 l3 hold v μ' := by
  unfold X2_worth_J57 nxE
  rw [hs, bd_some]
  by_cases c : l4 = 0
  · rw [if_pos c, if_neg (fun z => h4.mp z c)]
  · rw [if_neg c, if_pos (h4.mpr c)]
theorem bodyC {t : Nat → Int} {n : Nat} {ν : Mm} (h : Tx t n ν) (hT : ∀ j, j < n → 1 ≤ t j ∧ t j ≤ 255) (hE : eOK (envC ν)) {p : Nat} (hp : p ≤ n) (k6 : Int → Int → Int → Mm → Rs) (l1 l2 l3 : Int) : match bodyS t n p with
      | none => ∃ r p' f, bodyE k6 l1 l2 l3 (cr ν p (-1)) = some (r, cr ν p' f) ∧ f ≠ -1
      | some q => bodyE k6 l1 l2 l3 (cr ν p (-1)) = nxE k6 l1 l2 l3 (q.1.1 = [] ∨ vl (envC ν) q.1.1 ≠ 0) (vl (envC ν) q.1.2) (cr ν q.2 (-1)) ∧ q.2 ≤ n ∧ p < q.2 := by
  have h160 := h.1
  have hge := sk_ge (t := t) (n := n) p
  have hle := sk_le (t := t) (n := n) p hp
  have sum0 : ∀ p, p ≤ n → CLs t n ν (X2_sum RD 0) p rgT (sumS t n 6 p) := fun p hp => sumC h hT hE 6 RD (by decide) (by decide) p hp
  -- the way with a condition
  have cond : X2_startsCondition (cr ν p (-1)) = some (1, cr ν (sk t n p) (-1)) → match (match conS t n (unitS t n 6) p with | none => none | some q => thenS t n q.1 q.2) with
      | none => ∃ r p' f, bodyE k6 l1 l2 l3 (cr ν p (-1)) = some (r, cr ν p' f) ∧ f ≠ -1
      | some q => bodyE k6 l1 l2 l3 (cr ν p (-1)) = nxE k6 l1 l2 l3 (q.1.1 = [] ∨ vl (envC ν) q.1.1 ≠ 0) (vl (envC ν) q.1.2) (cr ν q.2 (-1)) ∧ q.2 ≤ n ∧ p < q.2 := by
    intro hst
    have e : bodyE k6 l1 l2 l3 (cr ν p (-1)) = bd (X2_condition_o (X2_unit RD) 0 (cr ν (sk t n p) (-1))) fun v29 μ30 => bd (X4_need 63 μ30) fun v32 μ33 => X2_worth_J57 k6 KE l1 l2 l3 v29 μ33 := by
      unfold bodyE
      rw [hst, bd_some, if_neg (by decide)]
    have hC := conC h hE (rec := X2_unit RD) (d := 0) (fun p hp => unitC h hT hE 6 RD (by decide) (by decide) p hp) (unitS_G 6) (p := sk t n p) hle
    have hsk : conS t n (unitS t n 6) (sk t n p) = conS t n (unitS t n 6) p := chS_sk (chS_sk (unitS_sk 6)) p
    rw [hsk] at hC
    have hG := conS_G (t := t) (n := n) (rec := unitS t n 6) (unitS_G 6) p
    revert hC hG
    cases conS t n (unitS t n 6) p with
    | none =>
      rintro ⟨r, p', f, e1, e2, _⟩ _
      obtain ⟨f2, g1, g2⟩ := need_B h e2 (c := 63) (by decide)
      obtain ⟨r3, f3, g3, g4⟩ := J57_F h (k6 := k6) (l1 := l1) (l2 := l2) (l3 := l3) (l4 := r) (p := p') g2
      rw [e1, bd_some, g1, bd_some, g3] at e
      exact ⟨_, _, _, e, g4⟩
    | some q =>
      intro hC hG
      have hC : X2_condition_o (X2_unit RD) 0 (cr ν (sk t n p) (-1)) = some (vl (envC ν) q.1, cr ν q.2 (-1)) := hC
      obtain ⟨hq1, hq2⟩ := hG q hp rfl
      rw [hC, bd_some, need_eq h hq1.2.1 63 (by decide)] at e
      dsimp only
      unfold thenS
      by_cases c : pk t n q.2 = 63
      · have hql := pk_ne (t := t) (n := n) (p := q.2) (by omega)
        have hqg := sk_ge (t := t) (n := n) q.2
        rw [if_pos c, bd_some] at e
        rw [if_pos c]
        have hS := sum0 (sk t n q.2 + 1) (by omega)
        have hG2 := sumS_G (t := t) (n := n) 6 (sk t n q.2 + 1)
        revert hS hG2
        cases sumS t n 6 (sk t n q.2 + 1) with
        | none =>
          rintro ⟨r, p', f, e1, e2, _⟩ _
          obtain ⟨r3, f3, g3, g4⟩ := J57_B h (k6 := k6) (l1 := l1) (l2 := l2) (l3 := l3) (l4 := vl (envC ν) q.1) e1 e2
          exact ⟨_, _, _, e.trans g3, g4⟩
        | some s =>
          intro hS hG2
          have hS : X2_sum RD 0 (cr ν (sk t n q.2 + 1) (-1)) = some (vl (envC ν) s.1, cr ν s.2 (-1)) := hS
          have hs := hG2 s (by omega) rfl
          have hne : q.1 ≠ [] := fun z => by
            have := hq1.2.2.1.2.2.1
            rw [z] at this
            exact absurd this (by decide)
          refine ⟨e.trans (J57_eq hS _ ?_), hs.2.1, by have := hs.1; have := hq1.1; show p < s.2; omega⟩
          show (q.1 = [] ∨ vl (envC ν) q.1 ≠ 0) ↔ _
          constructor
          · rintro (z | z)
            · exact absurd z hne
            · exact z
          · exact Or.inr
      · rw [if_neg c, bd_some] at e
        rw [if_neg c]
        obtain ⟨r3, f3, g3, g4⟩ := J57_F h (k6 := k6) (l1 := l1) (l2 := l2) (l3 := l3) (l4 := vl (envC ν) q.1) (p := sk t n q.2) (g := ((sk t n q.2 : Nat) : Int)) (by omega)
        rw [g3] at e
        exact ⟨_, _, _, e, g4⟩
  unfold bodyS
  by_cases c0 : pk t n p = 33 ∨ pk t n p = 40
  · rw [if_pos c0]
    refine cond ?_
    unfold X2_startsCondition
    rw [peek_eq h hp, bd_some]
    by_cases c1 : pk t n p = 33
    · rw [if_pos c1]
    · rw [if_neg c1, if_pos (c0.resolve_left c1)]
  · rw [if_neg c0]
    have hst : X2_startsCondition (cr ν p (-1)) = bd (X2_sum RD 0 (cr ν (sk t n p) (-1))) fun v6 μ7 => bd (X4_peek μ7) fun v9 μ10 => bd (X2_isComparison v9 μ10) fun v12 μ13 => sF μ13 3 1 ((sk t n p : Nat) : Int) fun μ15 => rZ v12 μ15 := by
      unfold X2_startsCondition
      rw [peek_eq h hp, bd_some, if_neg (fun z => c0 (Or.inl z)), if_neg (fun z => c0 (Or.inr z)), cr_1]
    have hS := sum0 (sk t n p) hle
    rw [sumS_sk 6 p] at hS
    have hG := sumS_G (t := t) (n := n) 6 p
    revert hS hG
    cases sumS t n 6 p with
    | none =>
      rintro ⟨r, p', f, e1, e2, _⟩ _
      obtain ⟨v, g1, g2, g3⟩ := peek_B h e2
      rw [e1, bd_some, g1, bd_some, isCmp_eq, bd_some, cop_dig g2, if_pos rfl] at hst
      unfold sF at hst
      dsimp only at hst
      rw [cr_p, rZ_b (Or.inl rfl)] at hst
      have e : bodyE k6 l1 l2 l3 (cr ν p (-1)) = X2_worth_J57 k6 KE l1 l2 l3 1 (cr ν (sk t n p) f) := by
        unfold bodyE
        rw [hst, bd_some, if_pos rfl]
      by_cases c : f = -1
      · subst c
        obtain ⟨r3, f3, g4, g5⟩ := J57_B h (k6 := k6) (l1 := l1) (l2 := l2) (l3 := l3) (l4 := 1) e1 e2
        exact ⟨_, _, _, e.trans g4, g5⟩
      · obtain ⟨r3, f3, g4, g5⟩ := J57_F h (k6 := k6) (l1 := l1) (l2 := l2) (l3 := l3) (l4 := 1) (p := sk t n p) c
        exact ⟨_, _, _, e.trans g4, g5⟩
    | some s =>
      intro hS hG
      have hS : X2_sum RD 0 (cr ν (sk t n p) (-1)) = some (vl (envC ν) s.1, cr ν s.2 (-1)) := hS
      have hs := hG s hp rfl
      rw [hS, bd_some, peek_eq h hs.2.1, bd_some, isCmp_eq, bd_some] at hst
      unfold sF at hst
      dsimp only at hst
      rw [cr_p] at hst
      dsimp only
      by_cases c : cop (pk t n s.2) = -1
      · rw [if_pos c]
        rw [if_pos c, rZ_b (Or.inl rfl)] at hst
        have e : bodyE k6 l1 l2 l3 (cr ν p (-1)) = X2_worth_J57 k6 KE l1 l2 l3 1 (cr ν (sk t n p) (-1)) := by
          unfold bodyE
          rw [hst, bd_some, if_pos rfl]
        exact ⟨e.trans (J57_eq hS _ (by constructor <;> intro _ <;> first | decide | exact Or.inl rfl)), hs.2.1, hs.1⟩
      · rw [if_neg c]
        rw [if_neg c, rZ_b (Or.inr rfl)] at hst
        exact cond hst
theorem body_F {t : Nat → Int} {n : Nat} {ν : Mm} (h : Tx t n ν) {k6 : Int → Int → Int → Mm → Rs} {l1 l2 l3 : Int} {p : Nat} {g : Int} (hg : g ≠ -1) : ∃ r f, bodyE k6 l1 l2 l3 (cr ν p g) = some (r, cr ν p f) ∧ f ≠ -1 := by
  unfold bodyE
  rw [starts_F hg, bd_some, if_pos rfl]
  exact J57_F h hg
theorem nxE_eq (k6 : Int → Int → Int → Mm → Rs) (l1 l2 l3 : Int) (hold : Prop) [Decidable hold] (v : Int) (μ : Mm) : nxE k6 l1 l2 l3 hold v μ = bd (X4_take 59 μ) fun w ν => if w = 0 then KE (if hold ∧ l2 = 0 then v else l1) ν else k6 (if hold ∧ l2 = 0 then v else l1) (if hold ∧ l2 = 0 then 1 else l2) (iA l3 1) ν := by
  unfold nxE
  by_cases c1 : hold
  · rw [if_pos c1]
    by_cases c2 : l2 = 0
    · rw [if_pos c2, if_pos ⟨c1, c2⟩, if_pos ⟨c1, c2⟩]
    · rw [if_neg c2, if_neg (fun z => c2 z.2), if_neg (fun z => c2 z.2)]
  · rw [if_neg c1, if_neg (fun z => c1 z.1), if_neg (fun z => c1 z.1)]
theorem lawV_c (e : Nat → Int) (x : Cd × Cd) (L : List (Cd × Cd)) : lawV e (x :: L) = if x.1 = [] ∨ vl e x.1 ≠ 0 then vl e x.2 else lawV e L := by
  show (if x.1 = [] then _ else _) = _
  by_cases c : x.1 = []
  · rw [if_pos c, if_pos (Or.inl c)]
  · rw [if_neg c]
    by_cases c2 : vl e x.1 = 0
    · rw [if_pos c2, if_neg (fun z => z.elim c (fun z => z c2))]
    · rw [if_neg c2, if_pos (Or.inr c2)]
theorem nx_val (H : Prop) [Decidable H] (l2 A v l1 : Int) : (if (if H ∧ l2 = 0 then 1 else l2) = 0 then A else (if H ∧ l2 = 0 then v else l1)) = if l2 = 0 then (if H then v else A) else l1 := by
  by_cases c1 : H <;> by_cases c2 : l2 = 0 <;> simp [c1, c2]
/-- the clauses from p on -/
theorem worthC_L {t : Nat → Int} {n : Nat} {ν : Mm} (h : Tx t n ν) (hT : ∀ j, j < n → 1 ≤ t j ∧ t j ≤ 255) (hE : eOK (envC ν)) : ∀ (m fuel p : Nat) (l1 l2 : Int), m ≤ 160 → m < fuel → 320 ≤ p + 2 * m → p ≤ n → (l2 = 0 ∧ l1 = 0 ∨ l2 = 1) → match lawL t n m p with
      | none => ∃ r p' f, X2_worth_L6 KE KE fuel l1 l2 ((160 - m : Nat) : Int) (cr ν p (-1)) = some (r, cr ν p' f) ∧ f ≠ -1
      | some L => ∃ p', X2_worth_L6 KE KE fuel l1 l2 ((160 - m : Nat) : Int) (cr ν p (-1)) = some (if l2 = 0 then lawV (envC ν) L else l1, cr ν p' (-1)) := by
  intro m
  induction m with
  | zero =>
    intro fuel p l1 l2 _ hf hp hpn _
    have := h.1
    omega
  | succ m ih =>
    intro fuel p l1 l2 hm hf hp hpn hl
    obtain ⟨f, rfl, hf'⟩ := lt_fuel (d := m + 1) hf
    have h160 := h.1
    have hge := sk_ge (t := t) (n := n) p
    have hle := sk_le (t := t) (n := n) p hpn
    have hk : iA ((160 - (m + 1) : Nat) : Int) 1 = ((160 - m : Nat) : Int) := by rw [iA_nat (by omega)]; omega
    have e0 : X2_worth_L6 KE KE (f + 1) l1 l2 ((160 - (m + 1) : Nat) : Int) (cr ν p (-1)) = bd (X4_need 121 (cr ν p (-1))) fun v2 μ3 => bd (X4_need 58 μ3) fun v5 μ6 => bodyE (fun w1 w2 w3 μq => X2_worth_L6 KE KE f w1 w2 w3 μq) l1 l2 ((160 - (m + 1) : Nat) : Int) μ6 := by
      rw [X2_worth_L6, if_neg (by omega)]
      rfl
    rw [need_eq h hpn 121 (by decide)] at e0
    unfold lawL clS
    by_cases c1 : pk t n p = 121
    · rw [if_pos c1]
      have hq := pk_ne (t := t) (n := n) (p := p) (by omega)
      have hge2 := sk_ge (t := t) (n := n) (sk t n p + 1)
      have hle2 := sk_le (t := t) (n := n) (sk t n p + 1) (by omega)
      rw [if_pos c1, bd_some, need_eq h (by omega) 58 (by decide)] at e0
      by_cases c2 : pk t n (sk t n p + 1) = 58
      · rw [if_pos c2]
        have hq2 := pk_ne (t := t) (n := n) (p := sk t n p + 1) (by omega)
        rw [if_pos c2, bd_some] at e0
        have hB := bodyC h hT hE (p := sk t n (sk t n p + 1) + 1) (by omega) (fun w1 w2 w3 μq => X2_worth_L6 KE KE f w1 w2 w3 μq) l1 l2 ((160 - (m + 1) : Nat) : Int)
        revert hB
        cases bodyS t n (sk t n (sk t n p + 1) + 1) with
        | none =>
          rintro ⟨r, p', f', g1, g2⟩
          exact ⟨r, p', f', e0.trans g1, g2⟩
        | some q =>
          rintro ⟨g1, g2, g3⟩
          rw [nxE_eq, take_eq h g2 59 (by decide), hk] at g1
          have hge3 := sk_ge (t := t) (n := n) q.2
          have hle3 := sk_le (t := t) (n := n) q.2 g2
          rw [g1] at e0
          dsimp only
          by_cases c3 : pk t n q.2 = 59
          · have hq3 := pk_ne (t := t) (n := n) (p := q.2) (by omega)
            rw [if_pos c3]
            rw [if_pos c3, bd_some, if_neg (by decide)] at e0
            have hI := ih f (sk t n q.2 + 1) (if (q.1.1 = [] ∨ vl (envC ν) q.1.1 ≠ 0) ∧ l2 = 0 then vl (envC ν) q.1.2 else l1) (if (q.1.1 = [] ∨ vl (envC ν) q.1.1 ≠ 0) ∧ l2 = 0 then 1 else l2) (by omega) (by omega) (by omega) (by omega) (by
              by_cases c4 : (q.1.1 = [] ∨ vl (envC ν) q.1.1 ≠ 0) ∧ l2 = 0
              · rw [if_pos c4]; exact Or.inr rfl
              · rw [if_neg c4, if_neg c4]; exact hl)
            revert hI
            cases lawL t n m (sk t n q.2 + 1) with
            | none =>
              rintro ⟨r, p', f', g4, g5⟩
              exact ⟨r, p', f', e0.trans g4, g5⟩
            | some L =>
              rintro ⟨p', g4⟩
              refine ⟨p', e0.trans (g4.trans ?_)⟩
              have hv : (if (if (q.1.1 = [] ∨ vl (envC ν) q.1.1 ≠ 0) ∧ l2 = 0 then 1 else l2) = 0 then lawV (envC ν) L else (if (q.1.1 = [] ∨ vl (envC ν) q.1.1 ≠ 0) ∧ l2 = 0 then vl (envC ν) q.1.2 else l1)) = if l2 = 0 then lawV (envC ν) (q.1 :: L) else l1 := by
                rw [lawV_c]
                exact nx_val _ _ _ _ _
              rw [hv]
          · rw [if_neg c3]
            rw [if_neg c3, bd_some, if_pos rfl] at e0
            unfold KE at e0
            rw [needEnd_eq h hle3, pk_sk, sk_sk] at e0
            by_cases c5 : pk t n q.2 = -1
            · rw [if_pos c5]
              rw [if_pos c5, bd_some] at e0
              refine ⟨sk t n q.2, e0.trans ?_⟩
              have hv : (if (q.1.1 = [] ∨ vl (envC ν) q.1.1 ≠ 0) ∧ l2 = 0 then vl (envC ν) q.1.2 else l1) = if l2 = 0 then lawV (envC ν) [q.1] else l1 := by
                rw [lawV_c]
                by_cases c6 : l2 = 0
                · by_cases c4 : q.1.1 = [] ∨ vl (envC ν) q.1.1 ≠ 0
                  · rw [if_pos ⟨c4, c6⟩, if_pos c6, if_pos c4]
                  · rw [if_neg (fun z => c4 z.1), if_pos c6, if_neg c4]
                    show l1 = 0
                    omega
                · rw [if_neg (fun z => c6 z.2), if_neg c6]
              rw [hv]
            · rw [if_neg c5]
              rw [if_neg c5, bd_some] at e0
              exact ⟨_, _, _, e0, by omega⟩
      · rw [if_neg c2]
        rw [if_neg c2, bd_some] at e0
        obtain ⟨r, f', g1, g2⟩ := body_F h (k6 := fun w1 w2 w3 μq => X2_worth_L6 KE KE f w1 w2 w3 μq) (l1 := l1) (l2 := l2) (l3 := ((160 - (m + 1) : Nat) : Int)) (p := sk t n (sk t n p + 1)) (g := ((sk t n (sk t n p + 1) : Nat) : Int)) (by omega)
        exact ⟨_, _, _, e0.trans g1, g2⟩
    · rw [if_neg c1]
      rw [if_neg c1, bd_some, need_F (by omega) (by decide), bd_some] at e0
      obtain ⟨r, f', g1, g2⟩ := body_F h (k6 := fun w1 w2 w3 μq => X2_worth_L6 KE KE f w1 w2 w3 μq) (l1 := l1) (l2 := l2) (l3 := ((160 - (m + 1) : Nat) : Int)) (p := sk t n p) (g := ((sk t n p : Nat) : Int)) (by omega)
      exact ⟨_, _, _, e0.trans g1, g2⟩
theorem worthC {t : Nat → Int} {n : Nat} {ν : Mm} (h : Tx t n ν) (hT : ∀ j, j < n → 1 ≤ t j ∧ t j ≤ 255) (hE : eOK (envC ν)) : match lawS t n with
      | none => ∃ r p' f, X2_worth (cr ν 0 (-1)) = some (r, cr ν p' f) ∧ f ≠ -1
      | some L => ∃ p', X2_worth (cr ν 0 (-1)) = some (lawV (envC ν) L, cr ν p' (-1)) := by
  have hI := worthC_L h hT hE 160 FU 0 0 0 (by omega) (by decide) (by omega) (by omega) (Or.inl ⟨rfl, rfl⟩)
  have e : X2_worth (cr ν 0 (-1)) = X2_worth_L6 KE KE FU 0 0 ((160 - 160 : Nat) : Int) (cr ν 0 (-1)) := rfl
  unfold lawS
  rw [e]
  revert hI
  cases lawL t n 160 0 with
  | none => exact id
  | some L => exact id
theorem checkC {t : Nat → Int} {n : Nat} {ν : Mm} (h : Tx t n ν) (hT : ∀ j, j < n → 1 ≤ t j ∧ t j ≤ 255) (hE : eOK (envC ν)) : ∃ p' f, X2_check (cr ν 0 (-1)) = some (f, cr ν p' f) ∧ (f = -1 ↔ lawS t n ≠ none) := by
  have hI := worthC h hT hE
  unfold X2_check
  revert hI
  cases lawS t n with
  | none =>
    rintro ⟨r, p', f, e1, e2⟩
    rw [e1, bd_some, cr_2]
    exact ⟨p', f, rfl, fun z => absurd z e2, fun z => absurd rfl z⟩
  | some L =>
    rintro ⟨p', e1⟩
    rw [e1, bd_some, cr_2]
    exact ⟨p', -1, rfl, fun _ => by simp, fun _ => rfl⟩
/-! LAWS, the reference's reader -/
def put1 (μ : Mm) (q i : Nat) (x : Int × Int) : Mm := sM (sM (sM μ 72 (340 * q + i) x.1) 73 (340 * q + i) x.2) 74 q ((i + 1 : Nat) : Int)
def wrc (μ : Mm) (q i : Nat) : Cd → Mm
  | [] => μ
  | x :: c => wrc (put1 μ q i x) q (i + 1) c
theorem wrc_app (q : Nat) : ∀ (a b : Cd) (μ : Mm) (i : Nat), wrc μ q i (a ++ b) = wrc (wrc μ q i a) q (i + a.length) b := by
  intro a
  induction a with
  | nil => intro b μ i; rfl
  | cons x a ih =>
    intro b μ i
    show wrc (put1 μ q i x) q (i + 1) (a ++ b) = wrc (wrc (put1 μ q i x) q (i + 1) a) q (i + (a.length + 1)) b
    rw [ih, show i + 1 + a.length = i + (a.length + 1) by omega]
def wKd (q i k j : Nat) : Prop := ((k = 72 ∨ k = 73) ∧ 340 * q + i ≤ j ∧ j < 340 * q + 340) ∨ (k = 74 ∧ j = q)
theorem put1_fw {μ : Mm} {q i : Nat} (x : Int × Int) (h : i < 340) : fw (wKd q i) μ (put1 μ q i x) := by
  unfold put1
  exact fw_sM (fw_sM (fw_sM fw_rf (by unfold wKd; omega)) (by unfold wKd; omega)) (by unfold wKd; omega)
theorem wrc_fw {q : Nat} : ∀ (c : Cd) {μ : Mm} {i : Nat}, i + c.length ≤ 340 → fw (wKd q i) μ (wrc μ q i c) := by
  intro c
  induction c with
  | nil => intro μ i _; exact fw_rf
  | cons x c ih =>
    intro μ i h
    have h' : i + (c.length + 1) ≤ 340 := h
    refine fw_tr (put1_fw x (by omega)) (fun k j hn => ih (μ := put1 μ q i x) (i := i + 1) (by omega) k j (fun z => hn ?_))
    unfold wKd at z ⊢
    omega
def hasC (μ : Mm) (q i : Nat) (c : Cd) : Prop := ∀ k, k < c.length → μ 72 (340 * q + i + k) = (c.getD k (0, 0)).1 ∧ μ 73 (340 * q + i + k) = (c.getD k (0, 0)).2
theorem wrc_has {q : Nat} : ∀ (c : Cd) {μ : Mm} {i : Nat}, i + c.length ≤ 340 → hasC (wrc μ q i c) q i c := by
  intro c
  induction c with
  | nil => intro μ i _ k hk; exact absurd hk (Nat.not_lt_zero k)
  | cons x c ih =>
    intro μ i h k hk
    have h' : i + (c.length + 1) ≤ 340 := h
    show (wrc (put1 μ q i x) q (i + 1) c) 72 _ = _ ∧ _
    cases k with
    | zero =>
      have hf := wrc_fw (q := q) c (μ := put1 μ q i x) (i := i + 1) (by omega)
      rw [hf 72 _ (by unfold wKd; omega)]
      show _ ∧ (wrc (put1 μ q i x) q (i + 1) c) 73 _ = _
      rw [hf 73 _ (by unfold wKd; omega)]
      unfold put1
      refine ⟨?_, ?_⟩
      · rw [sM_a (by decide), sM_a (by decide), Nat.add_zero, sM_s]; rfl
      · rw [sM_a (by decide), Nat.add_zero, sM_s]; rfl
    | succ k =>
      have := ih (μ := put1 μ q i x) (i := i + 1) (by omega) k (by have : k + 1 < c.length + 1 := hk; omega)
      have e : 340 * q + i + (k + 1) = 340 * q + (i + 1) + k := by omega
      rw [e]
      exact this
theorem wrc_74 {q : Nat} : ∀ (c : Cd) {μ : Mm} {i : Nat}, μ 74 q = (i : Int) → wrc μ q i c 74 q = ((i + c.length : Nat) : Int) := by
  intro c
  induction c with
  | nil => intro μ i h; exact h
  | cons x c ih =>
    intro μ i _
    show wrc (put1 μ q i x) q (i + 1) c 74 q = _
    rw [ih (μ := put1 μ q i x) (i := i + 1) (by unfold put1; rw [sM_s])]
    show _ = ((i + (c.length + 1) : Nat) : Int)
    rw [show i + 1 + c.length = i + (c.length + 1) by omega]
theorem put1_Bm {μ : Mm} {q i : Nat} {x : Int × Int} (h : Bm μ) (hi : i < 340) (hx : okx x) : Bm (put1 μ q i x) := by
  unfold put1
  have hx1 : 0 ≤ x.1 ∧ x.1 ≤ 11 ∧ 0 ≤ x.2 ∧ x.2 ≤ 9999 := by unfold okx at hx; omega
  refine Bm_sM (Bm_sM (Bm_sM h ?_) ?_) ?_
  · show (-2147483648 : Int) ≤ x.1 ∧ x.1 ≤ 2147483647
    omega
  · show (-2147483648 : Int) ≤ x.2 ∧ x.2 ≤ 2147483647
    omega
  · show (0 : Int) ≤ ((i + 1 : Nat) : Int) ∧ ((i + 1 : Nat) : Int) ≤ 340
    omega
theorem wrc_Bm {q : Nat} : ∀ (c : Cd) {μ : Mm} {i : Nat}, Bm μ → i + c.length ≤ 340 → (∀ x, x ∈ c → okx x) → Bm (wrc μ q i c) := by
  intro c
  induction c with
  | nil => intro μ i h _ _; exact h
  | cons x c ih =>
    intro μ i h hi hx
    have hi' : i + (c.length + 1) ≤ 340 := hi
    exact ih (put1_Bm h (by omega) (hx x (List.mem_cons_self ..))) (by omega) (fun y hy => hx y (List.mem_cons_of_mem _ hy))
theorem sM_c {μ : Mm} {a b c d : Nat} {v w : Int} (h : ¬ (a = c ∧ b = d)) : sM (sM μ a b v) c d w = sM (sM μ c d w) a b v := by
  funext k j
  unfold sM
  by_cases h1 : k = c ∧ j = d
  · rw [if_pos h1, if_neg (fun z => h ⟨z.1.symm.trans h1.1, z.2.symm.trans h1.2⟩), if_pos h1]
  · rw [if_neg h1, if_neg h1]
theorem sM_ov {μ : Mm} {a b : Nat} {v w : Int} : sM (sM μ a b v) a b w = sM μ a b w := by
  funext k j
  unfold sM
  by_cases h1 : k = a ∧ j = b
  · rw [if_pos h1, if_pos h1]
  · rw [if_neg h1, if_neg h1, if_neg h1]
theorem put1_5 {μ : Mm} {q i : Nat} {x : Int × Int} {v : Int} : put1 (sM μ 70 5 v) q i x = sM (put1 μ q i x) 70 5 v := by
  unfold put1
  rw [sM_c (a := 70) (b := 5) (c := 72) (fun z => absurd z.1 (by decide)), sM_c (a := 70) (b := 5) (c := 73) (fun z => absurd z.1 (by decide)), sM_c (a := 70) (b := 5) (c := 74) (fun z => absurd z.1 (by decide))]
theorem wrc_5 {q : Nat} {v : Int} : ∀ (c : Cd) {μ : Mm} {i : Nat}, wrc (sM μ 70 5 v) q i c = sM (wrc μ q i c) 70 5 v := by
  intro c
  induction c with
  | nil => intro μ i; rfl
  | cons x c ih =>
    intro μ i
    show wrc (put1 (sM μ 70 5 v) q i x) q (i + 1) c = sM (wrc (put1 μ q i x) q (i + 1) c) 70 5 v
    rw [put1_5, ih]
/-- may go on at p, with i codes laid and l more openings -/
def PM (t : Nat → Int) (n q l : Nat) (μ : Mm) (i p : Nat) : Prop := Tm t n μ ∧ Bm μ ∧ μ 70 4 = -1 ∧ μ 70 14 = (q : Int) ∧ μ 74 q = (i : Int) ∧ μ 70 5 = ((6 - l : Nat) : Int) ∧ i ≤ p ∧ p ≤ n ∧ q ≤ 4 ∧ l ≤ 6
/-- what reading may write -/
def wF (q k j : Nat) : Prop := (k = 70 ∧ (j = 3 ∨ j = 4 ∨ j = 5)) ∨ wKd q 0 k j
def FL (n q l : Nat) (r : Rs) (μ : Mm) (i p : Nat) : Prop := ∃ μ' a i', r = some (0, ma μ' a) ∧ Bm μ' ∧ fw (wF q) μ μ' ∧ μ' 70 4 ≠ -1 ∧ a ≤ n + 2 + l ∧ μ' 74 q = ((i' : Nat) : Int) ∧ i' + p ≤ i + a
def MLs (t : Nat → Int) (n q l : Nat) (F : Mm → Rs) (S : Nat → Pr) : Prop := ∀ μ i p, PM t n q l μ i p → match S p with
  | some w => F (ma μ p) = some (0, ma (wrc μ q i w.1) w.2)
  | none => FL n q l (F (ma μ p)) μ i p
theorem PM_wrc {t : Nat → Int} {n q l : Nat} {μ : Mm} {i p : Nat} (h : PM t n q l μ i p) {c : Cd} {p' : Nat} (hg : Gp n p (c, p')) : PM t n q l (wrc μ q i c) (i + c.length) p' := by
  obtain ⟨h1, h2, h3, h4, h5, h6, h7, h8, h9, h10⟩ := h
  obtain ⟨g1, g2, g3, g4, g5⟩ := hg
  have g2 : p' ≤ n := g2
  have g4 : c.length + p ≤ p' := g4
  have h160 := h1.1
  have hf := wrc_fw (q := q) c (μ := μ) (i := i) (by omega)
  have e70 : ∀ j, wrc μ q i c 70 j = μ 70 j := fun j => hf 70 j (by unfold wKd; omega)
  refine ⟨⟨h160, by rw [e70]; exact h1.2.1, fun j hj => by rw [hf 71 j (by unfold wKd; omega)]; exact h1.2.2 j hj⟩, wrc_Bm c h2 (by omega) g3.2.2.2.1, by rw [e70]; exact h3, by rw [e70]; exact h4, wrc_74 c h5, by rw [e70]; exact h6, by omega, g2, h9, h10⟩
theorem put_eq {μ : Mm} {q i a : Nat} {l1 l2 : Int} (h14 : μ 70 14 = (q : Int)) (h74 : μ 74 q = (i : Int)) (hq : q ≤ 4) (hi : i < 340) : X11_put l1 l2 (ma μ a) = some (0, ma (put1 μ q i (l1, l2)) a) := by
  have hii : iA (iM 340 (q : Int)) (i : Int) = ((340 * q + i : Nat) : Int) := by
    rw [iM_id (by omega) (by omega), iA_id (by omega) (by omega)]; omega
  have b74 : (0 : Int) ≤ (q : Int) ∧ (q : Int) < ((aN 74 : Nat) : Int) := by show _ ∧ _ < (5 : Int); omega
  have b72 : (0 : Int) ≤ ((340 * q + i : Nat) : Int) ∧ ((340 * q + i : Nat) : Int) < ((aN 72 : Nat) : Int) := by show _ ∧ _ < (1700 : Int); omega
  have b73 : (0 : Int) ≤ ((340 * q + i : Nat) : Int) ∧ ((340 * q + i : Nat) : Int) < ((aN 73 : Nat) : Int) := by show _ ∧ _ < (1700 : Int); omega
  unfold X11_put ldA stA
  rw [ma_j (by decide), h14, if_pos b74, Int.toNat_natCast, ma_c (by decide), h74]
  dsimp only
  rw [hii, if_pos b72, Int.toNat_natCast]
  rw [ma_s (by omega), ma_j (by decide), sM_a (by decide), h14, if_pos b74, Int.toNat_natCast, ma_c (by decide), sM_a (by decide), h74, hii, if_pos b73, Int.toNat_natCast, ma_s (by omega), ma_j (by decide), sM_a (by decide), sM_a (by decide), h14, if_pos b74, Int.toNat_natCast, ma_c (by decide), sM_a (by decide), sM_a (by decide), h74, if_pos b74, iA_nat (by omega), ma_s (by omega)]
  rfl
theorem mltr_eq (x : Int) (μ : Mm) : X11_letterOf x μ = some (ltr x, μ) := by
  unfold X11_letterOf ltr
  repeat' split
  all_goals rfl
theorem FL_bad {n q l : Nat} {μ : Mm} {i p : Nat} {r : Rs} {s : Nat} (hr : r = some (0, ma (sM μ 70 4 (s : Int)) s)) (hB : Bm μ) (hs : s ≤ n) (hn : n ≤ 160) (h74 : μ 74 q = (i : Int)) (hps : p ≤ s) : FL n q l r μ i p :=
  ⟨_, s, i, hr, Bm_sM hB (show (-1 : Int) ≤ (s : Int) ∧ (s : Int) ≤ 1000 by omega), fw_sM fw_rf (by unfold wF; omega), by rw [sM_s]; omega, by omega, by rw [sM_a (by decide)]; exact h74, by omega⟩
theorem fwF_K {q i : Nat} {μ μ' : Mm} (h : fw (wKd q i) μ μ') : fw (wF q) μ μ' := fun k j hn => h k j (fun z => hn (by unfold wF; unfold wKd at z ⊢; omega))
theorem number_m {t : Nat → Int} {n : Nat} (hT : ∀ j, j < n → 1 ≤ t j ∧ t j ≤ 255) {μ : Mm} (h : Tm t n μ) {s : Nat} (hs : s ≤ n) (hw : μ 70 4 = -1) : X11_plainNumber (ma μ s) = if (nmF t n 4 s 0).2 < n ∧ 48 ≤ t (nmF t n 4 s 0).2 ∧ t (nmF t n 4 s 0).2 ≤ 57 then some ((nmF t n 4 s 0).1, ma (sM μ 70 4 (((nmF t n 4 s 0).2 : Nat) : Int)) (nmF t n 4 s 0).2) else some ((nmF t n 4 s 0).1, ma μ (nmF t n 4 s 0).2) := by
  have h160 := h.1
  unfold X11_plainNumber
  have hL := plainN_L h hT (fun v14 μ15 => bd (X11_here μ15) fun v16 μ17 => bd (X11_isDigit v16 μ17) fun v19 μ20 => if v19 = 0 then (some (v14, μ20)) else (bd (X11_bad μ20) fun v23 μ24 => some (v14, μ24))) 4 FU s 0 0 (by omega) (by decide) (by decide) (by decide) (by omega)
  have hL : X11_plainNumber_L4 (fun v14 μ15 => bd (X11_here μ15) fun v16 μ17 => bd (X11_isDigit v16 μ17) fun v19 μ20 => if v19 = 0 then (some (v14, μ20)) else (bd (X11_bad μ20) fun v23 μ24 => some (v14, μ24))) FU 0 0 (ma μ s) = _ := hL
  rw [hL, here_eq h, bd_some, mdig, bd_some]
  by_cases c : (nmF t n 4 s 0).2 < n ∧ 48 ≤ t (nmF t n 4 s 0).2 ∧ t (nmF t n 4 s 0).2 ≤ 57
  · rw [if_pos c, if_pos c.1, b2_t c.2, if_neg (by decide), bad_eq hw, bd_some]
  · rw [if_neg c, b2_f, if_pos rfl]
    intro z
    by_cases c1 : (nmF t n 4 s 0).2 < n
    · rw [if_pos c1] at z; exact c ⟨c1, z⟩
    · rw [if_neg c1] at z; omega
theorem opens_0 {μ : Mm} {s : Nat} (hw : μ 70 4 = -1) (h5 : μ 70 5 = 6) (hs : s < 1000) : X11_opens (ma μ s) = some (0, ma (sM (sM μ 70 4 (s : Int)) 70 5 7) (s + 1)) := by
  unfold X11_opens
  rw [ma_j (by decide), h5, if_pos rfl, bad_eq hw, bd_some]
  unfold X11_opens_J13 sF
  dsimp only
  rw [ma_j (by decide), sM_j (by decide), h5, ma_s (by decide), ma_3, iA_nat (by omega), ma_ma]
  rfl
theorem opens_1 {μ : Mm} {s d : Nat} (h5 : μ 70 5 = (d : Int)) (hd : d < 6) (hs : s < 1000) : X11_opens (ma μ s) = some (0, ma (sM μ 70 5 ((d + 1 : Nat) : Int)) (s + 1)) := by
  unfold X11_opens
  rw [ma_j (by decide), h5, if_neg (by omega)]
  unfold X11_opens_J13 sF
  dsimp only
  rw [ma_j (by decide), h5, iA_nat (p := d) (by omega), ma_s (by decide), ma_3, iA_nat (by omega), ma_ma]
theorem J20_eq {μ : Mm} {s : Nat} (hs : s < 1000) : X11_closes_J20 (ma μ s) = some (0, ma (sM μ 70 5 (iS (μ 70 5) 1)) (s + 1)) := by
  unfold X11_closes_J20 sF
  dsimp only
  rw [ma_3, iA_nat (by omega), ma_ma, ma_j (by decide), ma_s (by decide)]
theorem wI5 (x : Int) : (bm 70 5).1 ≤ iS x 1 ∧ iS x 1 ≤ (bm 70 5).2 := wI_r _
/-- after a piece that failed, its closing -/
theorem closes_F {n q l : Nat} {μ μ' : Mm} {i p a i' : Nat} {c : Int} (hB : Bm μ') (hf : fw (wF q) μ μ') (hw : μ' 70 4 ≠ -1) (ha : a ≤ n + 1 + l) (hn : n ≤ 160) (hl : l ≤ 6) (h74 : μ' 74 q = ((i' : Nat) : Int)) (hi : i' + p ≤ i + a) : FL n q l (X11_closes c (ma μ' a)) μ i p := by
  unfold X11_closes
  rw [ma_j (by decide), if_neg hw, J20_eq (by omega)]
  exact ⟨_, a + 1, i', rfl, Bm_sM hB (wI5 _), fw_sM hf (by unfold wF; omega), by rw [sM_j (by decide)]; exact hw, by omega, by rw [sM_a (by decide)]; exact h74, by omega⟩
theorem atomM {t : Nat → Int} {n : Nat} (hT : ∀ j, j < n → 1 ≤ t j ∧ t j ≤ 255) {q l : Nat} {rec : Mm → Rs} {S : Nat → Pr} (hS : (1 ≤ l ∧ MLs t n q (l - 1) rec S) ∨ (l = 0 ∧ ∀ p, S p = none)) (hG : GP n S) : MLs t n q l (X11_atom_o rec) (atomS t n S) := by
  intro μ i p hP
  obtain ⟨h1, h2, h3, h4, h5, h6, h7, h8, h9, h10⟩ := id hP
  have h160 := h1.1
  have hge := sk_ge (t := t) (n := n) p
  have hle := sk_le (t := t) (n := n) p h8
  unfold atomS
  by_cases c1 : 48 ≤ pk t n p ∧ pk t n p ≤ 57
  · rw [if_pos c1]
    have hn4 := nm4 h8 c1
    have e : X11_atom_o rec (ma μ p) = bd (X11_plainNumber (ma μ (sk t n p))) fun v33 μ34 => bd (X11_put 0 v33 μ34) fun v36 μ37 => some (0, μ37) := by
      unfold X11_atom_o
      rw [look_eq h1 (by omega), bd_some, mdig, bd_some, b2_t c1, if_neg (by decide)]
    rw [number_m hT h1 hle h3] at e
    by_cases hx : (nmF t n 4 (sk t n p) 0).2 < n ∧ 48 ≤ t (nmF t n 4 (sk t n p) 0).2 ∧ t (nmF t n 4 (sk t n p) 0).2 ≤ 57
    · rw [if_pos hx]
      rw [if_pos hx, bd_some, put_eq (μ := sM μ 70 4 (((nmF t n 4 (sk t n p) 0).2 : Nat) : Int)) (by rw [sM_j (by decide)]; exact h4) (by rw [sM_a (by decide)]; exact h5) h9 (by omega), bd_some] at e
      refine ⟨_, _, i + 1, e, put1_Bm (Bm_sM h2 (show (-1 : Int) ≤ _ ∧ _ ≤ (1000 : Int) by omega)) (by omega) (Or.inl ⟨rfl, hn4.2.2⟩), fw_tr (fw_sM fw_rf (by unfold wF; omega)) (fwF_K (put1_fw _ (by omega))), ?_, by omega, by unfold put1; rw [sM_s], by omega⟩
      unfold put1
      rw [sM_a (by decide), sM_a (by decide), sM_a (by decide), sM_s]
      omega
    · rw [if_neg hx]
      rw [if_neg hx, bd_some, put_eq h4 h5 h9 (by omega), bd_some] at e
      exact e
  · rw [if_neg c1]
    by_cases c2 : ltr (pk t n p) = -1
    · rw [if_neg (fun z => z c2)]
      have e0 : X11_atom_o rec (ma μ p) = if pk t n p = 91 then (bd (X11_opens (ma μ (sk t n p))) fun v16 μ17 => if (μ17 70 4) = (-1) then (bd (rec μ17) fun v20 μ21 => bd (X11_closes 93 μ21) fun v23 μ24 => some (0, μ24)) else (some (0, μ17))) else (bd (X11_bad (ma μ (sk t n p))) fun v13 μ14 => some (0, μ14)) := by
        unfold X11_atom_o
        rw [look_eq h1 (by omega), bd_some, mdig, bd_some, b2_f c1, if_pos rfl, mltr_eq, bd_some, if_pos c2]
      by_cases c3 : pk t n p = 91
      · rw [if_pos c3]
        rw [if_pos c3] at e0
        have hq := pk_ne (t := t) (n := n) (p := p) (by omega)
        rcases hS with ⟨hl, hM⟩ | ⟨hl, hM⟩
        · rw [opens_1 h6 (by omega) (by omega), bd_some, ma_j (by decide), sM_j (by decide), if_pos h3] at e0
          have ed : 6 - l + 1 = 6 - (l - 1) := by omega
          have hP1 : PM t n q (l - 1) (sM μ 70 5 ((6 - l + 1 : Nat) : Int)) i (sk t n p + 1) := by
            refine ⟨Tm_s h1 (by decide) (by decide), Bm_sM h2 (show (-2147483648 : Int) ≤ _ ∧ _ ≤ (2147483647 : Int) by omega), by rw [sM_j (by decide)]; exact h3, by rw [sM_j (by decide)]; exact h4, by rw [sM_a (by decide)]; exact h5, by rw [sM_s, ed], by omega, by omega, h9, by omega⟩
          have hm := hM _ _ _ hP1
          have hg := hG (sk t n p + 1)
          revert hm hg
          cases S (sk t n p + 1) with
          | none =>
            rintro ⟨μ', a, i', f1, f2, f3, f4, f5, f6, f7⟩ _
            rw [f1, bd_some] at e0
            have hc := closes_F (a := a) (i' := i') (n := n) (q := q) (l := l) (μ := μ) (i := i) (p := p) (c := 93) f2 (fw_tr (fw_sM fw_rf (by unfold wF; omega)) f3) f4 (by omega) h160 h10 f6 (by omega)
            obtain ⟨μ2, a2, i2, k1, k2⟩ := hc
            rw [k1, bd_some] at e0
            exact ⟨μ2, a2, i2, e0, k2⟩
          | some w =>
            intro hm hg
            have hm : rec (ma (sM μ 70 5 ((6 - l + 1 : Nat) : Int)) (sk t n p + 1)) = some (0, ma (wrc (sM μ 70 5 ((6 - l + 1 : Nat) : Int)) q i w.1) w.2) := hm
            have hgw := hg w (by omega) rfl
            have hP2 := PM_wrc hP1 hgw
            have hgw2 : w.2 ≤ n := hgw.2.1
            have hle2 := sk_le (t := t) (n := n) w.2 hgw2
            have hge2 := sk_ge (t := t) (n := n) w.2
            rw [hm, bd_some] at e0
            dsimp only
            have ecl : X11_closes 93 (ma (wrc (sM μ 70 5 ((6 - l + 1 : Nat) : Int)) q i w.1) w.2) = if pk t n w.2 = 93 then some (0, ma (wrc μ q i w.1) (sk t n w.2 + 1)) else bd (X11_bad (ma (wrc (sM μ 70 5 ((6 - l + 1 : Nat) : Int)) q i w.1) (sk t n w.2))) fun v8 μ9 => X11_closes_J20 μ9 := by
              unfold X11_closes
              rw [ma_j (by decide), if_pos hP2.2.2.1, look_eq hP2.1 (by omega), bd_some]
              by_cases c4 : pk t n w.2 = 93
              · rw [if_pos c4, if_pos c4, J20_eq (by omega), hP2.2.2.2.2.2.1, wrc_5]
                have : iS ((6 - (l - 1) : Nat) : Int) 1 = ((6 - l : Nat) : Int) := by rw [iS_id (by omega) (by omega)]; omega
                have e3 : wrc μ q i w.1 70 5 = ((6 - l : Nat) : Int) := by
                  rw [wrc_fw (q := q) w.1 (μ := μ) (i := i) (by have := hgw.2.2.2.1; omega) 70 5 (by unfold wKd; omega)]; exact h6
                rw [this, sM_ov, ← e3, sM_id]
              · rw [if_neg c4, if_neg c4]
            rw [ecl] at e0
            by_cases c4 : pk t n w.2 = 93
            · rw [if_pos c4]
              rw [if_pos c4, bd_some] at e0
              exact e0
            · rw [if_neg c4]
              rw [if_neg c4, bad_eq hP2.2.2.1, bd_some, J20_eq (by omega), bd_some] at e0
              refine ⟨_, _, i + w.1.length, e0, Bm_sM (Bm_sM hP2.2.1 (show (-1 : Int) ≤ _ ∧ _ ≤ (1000 : Int) by omega)) (wI5 _), ?_, ?_, by omega, ?_, ?_⟩
              · refine fw_sM (fw_sM (fw_tr (fw_sM fw_rf (by unfold wF; omega)) (fwF_K (wrc_fw (q := q) w.1 (by have := hgw.2.2.2.1; omega)))) (by unfold wF; omega)) (by unfold wF; omega)
              · rw [sM_j (by decide), sM_s]; omega
              · rw [sM_a (by decide), sM_a (by decide)]; exact hP2.2.2.2.2.1
              · have := hgw.2.2.2.1
                omega
        · rw [hM]
          rw [opens_0 h3 (by rw [h6, hl]; rfl) (by omega), bd_some, ma_j (by decide), sM_j (by decide), sM_s, if_neg (by omega)] at e0
          exact ⟨_, _, i, e0, Bm_sM (Bm_sM h2 (show (-1 : Int) ≤ _ ∧ _ ≤ (1000 : Int) by omega)) (by decide), fw_sM (fw_sM fw_rf (by unfold wF; omega)) (by unfold wF; omega), by rw [sM_j (by decide), sM_s]; omega, by omega, by rw [sM_a (by decide), sM_a (by decide)]; exact h5, by omega⟩
      · rw [if_neg c3]
        rw [if_neg c3, bad_eq h3, bd_some] at e0
        exact FL_bad e0 h2 hle h160 h5 hge
    · rw [if_pos c2]
      have hq := pk_ne (t := t) (n := n) (p := p) (fun z => c2 (by rw [z]; decide))
      show X11_atom_o rec (ma μ p) = some (0, ma (put1 μ q i (1, ltr (pk t n p))) (sk t n p + 1))
      unfold X11_atom_o
      rw [look_eq h1 (by omega), bd_some, mdig, bd_some, b2_f c1, if_pos rfl, mltr_eq, bd_some, if_neg c2]
      unfold sF
      dsimp only
      rw [ma_3, iA_nat (by omega), ma_ma, mltr_eq, bd_some, put_eq h4 h5 h9 (by omega), bd_some]
/-! LAWS, the reference's reader: chains, conditions -/
def NX (K : Int → Mm → Rs) (μ : Mm) : Rs := if μ 70 4 = -1 then bd (X11_look μ) K else K (-1) μ
/-- one piece more, and the code that joins it on -/
def Jx (o : Int) (F : Mm → Rs) (K : Int → Mm → Rs) (μ : Mm) : Rs := sF μ 70 3 (iA (μ 70 3) 1) fun μ6 => bd (F μ6) fun _ μ8 => bd (X11_put o 0 μ8) fun _ μ12 => NX K μ12
def LpM (s1 s2 o1 o2 : Int) (F : Mm → Rs) (L : Nat → Int → Mm → Rs) : Prop := ∀ f v μ, L (f + 1) v μ = if v = s1 then Jx o1 F (L f) μ else if v = s2 then Jx o2 F (L f) μ else some (0, μ)
theorem FL_mono {n q l : Nat} {r : Rs} {μ0 : Mm} {i0 p0 i p : Nat} {μ : Mm} (hf : fw (wF q) μ0 μ) (h : FL n q l r μ i p) (hi : i + p0 ≤ i0 + p) : FL n q l r μ0 i0 p0 := by
  obtain ⟨μ', a, i', f1, f2, f3, f4, f5, f6, f7⟩ := h
  exact ⟨μ', a, i', f1, f2, fw_tr hf f3, f4, f5, f6, by omega⟩
theorem FL_eq {n q l : Nat} {r r' : Rs} {μ : Mm} {i p : Nat} (h : FL n q l r μ i p) (e : r' = r) : FL n q l r' μ i p := by rw [e]; exact h
/-- a code is laid where something is wrong already -/
theorem put_FL {n q l : Nat} {r : Rs} {μ : Mm} {i p : Nat} {o : Int} (ho : 2 ≤ o ∧ o ≤ 11) (hn : n ≤ 160) (hl : l ≤ 6) (hq : q ≤ 4) (h14 : μ 70 14 = (q : Int)) (hip : i ≤ p + 1) (h : FL n q l r μ i (p + 1)) {g : Mm → Rs} (hg : ∀ μ2 a, μ2 70 4 ≠ -1 → g (ma μ2 a) = some (0, ma μ2 a)) : FL n q l (bd r fun _ μ8 => bd (X11_put o 0 μ8) fun _ μ12 => g μ12) μ i p := by
  obtain ⟨μ', a, i', f1, f2, f3, f4, f5, f6, f7⟩ := h
  have h14' : μ' 70 14 = (q : Int) := by rw [f3 70 14 (by unfold wF wKd; omega)]; exact h14
  have hw : put1 μ' q i' (o, 0) 70 4 ≠ -1 := by
    rw [put1_fw (o, 0) (show i' < 340 by omega) 70 4 (by unfold wKd; omega)]; exact f4
  refine ⟨put1 μ' q i' (o, 0), a, i' + 1, ?_, put1_Bm f2 (by omega) (Or.inr (Or.inr ⟨ho.1, ho.2, rfl⟩)), fw_tr f3 (fwF_K (put1_fw _ (by omega))), hw, f5, by unfold put1; rw [sM_s], by omega⟩
  rw [f1, bd_some, put_eq h14' f6 hq (by omega), bd_some, hg _ _ hw]
theorem LpM_F {s1 s2 o1 o2 : Int} {F : Mm → Rs} {L : Nat → Int → Mm → Rs} (hL : LpM s1 s2 o1 o2 F L) (h1 : s1 ≠ -1) (h2 : s2 ≠ -1) {f : Nat} {μ : Mm} {a : Nat} (hw : μ 70 4 ≠ -1) : NX (L (f + 1)) (ma μ a) = some (0, ma μ a) := by
  unfold NX
  rw [ma_j (by decide), if_neg hw, hL, if_neg (fun z => h1 z.symm), if_neg (fun z => h2 z.symm)]
theorem chM {t : Nat → Int} {n q l : Nat} {s1 s2 o1 o2 : Int} (h1 : s1 ≠ -1) (h2 : s2 ≠ -1) (ho1 : 2 ≤ o1 ∧ o1 ≤ 11 ∧ o1 ≠ 9) (ho2 : 2 ≤ o2 ∧ o2 ≤ 11 ∧ o2 ≠ 9) {F : Mm → Rs} {L : Nat → Int → Mm → Rs} (hL : LpM s1 s2 o1 o2 F L) {S : Nat → Pr} (hF : MLs t n q l F S) (hG : GP n S) : ∀ (m fuel : Nat) (a : Cd) (μ : Mm) (i p0 p : Nat), m ≤ 160 → m < fuel → 161 ≤ p + m → PM t n q l μ i p0 → Gp n p0 (a, p) → match chL t n s1 s2 o1 o2 S m a p with
      | some w => NX (L fuel) (ma (wrc μ q i a) p) = some (0, ma (wrc μ q i w.1) w.2)
      | none => FL n q l (NX (L fuel) (ma (wrc μ q i a) p)) μ i p0 := by
  intro m
  induction m with
  | zero =>
    intro fuel a μ i p0 p _ _ hp hP hg
    have := hP.1.1
    have : p ≤ n := hg.2.1
    omega
  | succ m ih =>
    intro fuel a μ i p0 p hm hf hp hP hg
    obtain ⟨f, rfl, hf'⟩ := lt_fuel (d := m + 1) hf
    obtain ⟨f2, rfl⟩ : ∃ f2, f = f2 + 1 := ⟨f - 1, by omega⟩
    have h160 := hP.1.1
    have hpn : p ≤ n := hg.2.1
    have hge := sk_ge (t := t) (n := n) p
    have hle := sk_le (t := t) (n := n) p hpn
    have hP1 := PM_wrc hP hg
    have hlen : a.length + p0 ≤ p := hg.2.2.2.1
    have hip := hP.2.2.2.2.2.2.1
    have hfa := fwF_K (wrc_fw (q := q) a (μ := μ) (i := i) (by omega))
    have e0 : NX (L (f2 + 1 + 1)) (ma (wrc μ q i a) p) = L (f2 + 1 + 1) (pk t n p) (ma (wrc μ q i a) (sk t n p)) := by
      unfold NX
      rw [ma_j (by decide), if_pos hP1.2.2.1, look_eq hP1.1 (by omega), bd_some]
    rw [e0, hL]
    have step : ∀ {o : Int} (ho : 2 ≤ o ∧ o ≤ 11 ∧ o ≠ 9), sk t n p < n → match (match S (sk t n p + 1) with | none => none | some w => chL t n s1 s2 o1 o2 S m (bin o a w.1) w.2) with
        | some w => Jx o F (L (f2 + 1)) (ma (wrc μ q i a) (sk t n p)) = some (0, ma (wrc μ q i w.1) w.2)
        | none => FL n q l (Jx o F (L (f2 + 1)) (ma (wrc μ q i a) (sk t n p))) μ i p0 := by
      intro o ho hlt
      have eJ : Jx o F (L (f2 + 1)) (ma (wrc μ q i a) (sk t n p)) = bd (F (ma (wrc μ q i a) (sk t n p + 1))) fun _ μ8 => bd (X11_put o 0 μ8) fun _ μ12 => NX (L (f2 + 1)) μ12 := by
        unfold Jx sF
        dsimp only
        rw [ma_3, iA_nat (by omega), ma_ma]
      have hP2 : PM t n q l (wrc μ q i a) (i + a.length) (sk t n p + 1) := by
        obtain ⟨g1, g2, g3, g4, g5, g6, g7, g8, g9, g10⟩ := hP1
        exact ⟨g1, g2, g3, g4, g5, g6, by omega, by omega, g9, g10⟩
      have hF1 := hF _ _ _ hP2
      have hG1 := hG (sk t n p + 1)
      rw [eJ]
      revert hF1 hG1
      cases S (sk t n p + 1) with
      | none =>
        intro hF1 _
        exact FL_mono hfa (put_FL ⟨ho.1, ho.2.1⟩ h160 hP.2.2.2.2.2.2.2.2.2 hP.2.2.2.2.2.2.2.2.1 hP1.2.2.2.1 (by omega) hF1 (fun μ2 b hw => LpM_F hL h1 h2 hw)) (by omega)
      | some w =>
        intro hF1 hG1
        have hF1 : F (ma (wrc μ q i a) (sk t n p + 1)) = some (0, ma (wrc (wrc μ q i a) q (i + a.length) w.1) w.2) := hF1
        have hw := hG1 w (by omega) rfl
        have hb := Gp_bin ho hg hge hw
        have hP3 := PM_wrc hP2 hw
        have hwl := hw.2.2.2.1
        have hput := put_eq (a := w.2) (l1 := o) (l2 := 0) hP3.2.2.2.1 hP3.2.2.2.2.1 hP.2.2.2.2.2.2.2.2.1 (by have := hw.2.1; omega)
        have ec : put1 (wrc (wrc μ q i a) q (i + a.length) w.1) q (i + a.length + w.1.length) (o, 0) = wrc μ q i (bin o a w.1) := by
          unfold bin
          rw [wrc_app, wrc_app]
          rfl
        rw [ec] at hput
        have hI := ih (f2 + 1) (bin o a w.1) μ i p0 w.2 (by omega) (by omega) (by have := hw.1; omega) hP hb
        rw [hF1, bd_some, hput, bd_some]
        exact hI
    unfold chL
    by_cases c1 : pk t n p = s1
    · rw [if_pos c1, if_pos c1]
      exact step ho1 (pk_ne (t := t) (n := n) (p := p) (by rw [c1]; exact h1)).1
    · rw [if_neg c1, if_neg c1]
      by_cases c2 : pk t n p = s2
      · rw [if_pos c2, if_pos c2]
        exact step ho2 (pk_ne (t := t) (n := n) (p := p) (by rw [c2]; exact h2)).1
      · rw [if_neg c2, if_neg c2]
theorem chMS {t : Nat → Int} {n q l : Nat} {s1 s2 o1 o2 : Int} (h1 : s1 ≠ -1) (h2 : s2 ≠ -1) (ho1 : 2 ≤ o1 ∧ o1 ≤ 11 ∧ o1 ≠ 9) (ho2 : 2 ≤ o2 ∧ o2 ≤ 11 ∧ o2 ≠ 9) {F : Mm → Rs} {L : Nat → Int → Mm → Rs} (hL : LpM s1 s2 o1 o2 F L) {S : Nat → Pr} (hF : MLs t n q l F S) (hG : GP n S) : MLs t n q l (fun μ => bd (F μ) fun _ μ2 => NX (L FU) μ2) (chS t n s1 s2 o1 o2 S) := by
  intro μ i p hP
  have hF1 := hF _ _ _ hP
  have hG1 := hG p
  unfold chS
  revert hF1 hG1
  cases S p with
  | none =>
    rintro ⟨μ', a, i', f1, f2, f3, f4, f5⟩ _
    refine ⟨μ', a, i', ?_, f2, f3, f4, f5⟩
    show (bd (F (ma μ p)) fun _ μ2 => NX (L FU) μ2) = _
    rw [f1, bd_some]
    exact LpM_F hL h1 h2 f4
  | some w =>
    intro hF1 hG1
    have hF1 : F (ma μ p) = some (0, ma (wrc μ q i w.1) w.2) := hF1
    have hw := hG1 w hP.2.2.2.2.2.2.2.1 rfl
    have hI := chM h1 h2 ho1 ho2 hL hF hG 160 FU w.1 μ i p w.2 (by omega) (by decide) (by have := hw.1; omega) hP hw
    have e : (bd (F (ma μ p)) fun _ μ2 => NX (L FU) μ2) = NX (L FU) (ma (wrc μ q i w.1) w.2) := by rw [hF1, bd_some]
    dsimp only
    rw [e]
    exact hI
theorem MLs_eq {t : Nat → Int} {n q l : Nat} {F F' : Mm → Rs} {S : Nat → Pr} (h : MLs t n q l F S) (e : ∀ μ, F' μ = F μ) : MLs t n q l F' S := by
  have : F' = F := funext e
  rw [this]; exact h
theorem LpM_term (rec : Mm → Rs) : LpM 42 47 4 5 (X11_atom_o rec) (X11_term_L21 rec) := by
  intro f v μ
  rw [X11_term_L21]
  unfold X11_term_J33 Jx X11_term_J59 NX
  by_cases c1 : v = 42
  · simp only [c1, if_true]
  · by_cases c2 : v = 47
    · rw [if_neg c1, if_neg c1, if_pos c2, if_pos c2, c2]
      rfl
    · rw [if_neg c1, if_neg c1, if_neg c2, if_neg c2]
theorem LpM_sum (rec : Mm → Rs) : LpM 43 45 2 3 (X11_term_o rec) (X11_sum_L21 rec) := by
  intro f v μ
  rw [X11_sum_L21]
  unfold X11_sum_J33 Jx X11_sum_J59 NX
  by_cases c1 : v = 43
  · simp only [c1, if_true]
  · by_cases c2 : v = 45
    · rw [if_neg c1, if_neg c1, if_pos c2, if_pos c2, c2]
      rfl
    · rw [if_neg c1, if_neg c1, if_neg c2, if_neg c2]
theorem sumOM {t : Nat → Int} {n : Nat} (hT : ∀ j, j < n → 1 ≤ t j ∧ t j ≤ 255) {q l : Nat} {rec : Mm → Rs} {S : Nat → Pr} (hS : (1 ≤ l ∧ MLs t n q (l - 1) rec S) ∨ (l = 0 ∧ ∀ p, S p = none)) (hG : GP n S) : MLs t n q l (fun μ => bd (X11_term_o rec μ) fun _ μ2 => NX (X11_sum_L21 rec FU) μ2) (sumO t n S) :=
  chMS (by decide) (by decide) (by decide) (by decide) (LpM_sum rec) (chMS (by decide) (by decide) (by decide) (by decide) (LpM_term rec) (atomM hT hS hG) (atom_G hG)) (chS_G (by decide) (by decide) (by decide) (atom_G hG))
theorem sum_unf (f : Nat) (μ : Mm) : X11_sum (f + 1) μ = bd (X11_term_o (fun μq => X11_sum f μq) μ) fun _ μ2 => NX (X11_sum_L21 (fun μq => X11_sum f μq) FU) μ2 := by
  rw [X11_sum]
  unfold X11_sum_J20 NX
  rfl
theorem sumM {t : Nat → Int} {n : Nat} (hT : ∀ j, j < n → 1 ≤ t j ∧ t j ≤ 255) {q : Nat} : ∀ (l fuel : Nat), l ≤ 6 → l < fuel → MLs t n q l (X11_sum fuel) (sumS t n l) := by
  intro l
  induction l with
  | zero =>
    intro fuel _ hf
    obtain ⟨f, rfl, hf'⟩ := lt_fuel hf
    exact MLs_eq (sumOM hT (rec := fun μq => X11_sum f μq) (S := fun _ => none) (Or.inr ⟨rfl, fun _ => rfl⟩) none_G) (sum_unf f)
  | succ l ih =>
    intro fuel hl hf
    obtain ⟨f, rfl, hf'⟩ := lt_fuel (d := l + 1) hf
    exact MLs_eq (sumOM hT (rec := fun μq => X11_sum f μq) (S := sumS t n l) (Or.inl ⟨by omega, ih f (by omega) (by omega)⟩) (sumS_G l)) (sum_unf f)
theorem isSign_eq (x : Int) (μ : Mm) : X11_isSign x μ = some (if cop x = -1 then 0 else 1, μ) := by
  unfold X11_isSign cop
  by_cases c1 : x = 61
  · rw [if_pos c1, if_pos c1, if_neg (by decide)]
  · rw [if_neg c1, if_neg c1]
    by_cases c2 : x = 60
    · rw [if_pos c2, if_pos c2, if_neg (by decide)]
    · rw [if_neg c2, if_neg c2]
      by_cases c3 : x = 62
      · rw [if_pos c3, if_pos c3, if_neg (by decide)]
      · rw [if_neg c3, if_neg c3, if_pos rfl]
theorem bd_0 (r : Rs) (h : ∃ μ, r = some (0, μ)) : (bd r fun _ μ => some (0, μ)) = r := by
  obtain ⟨μ, rfl⟩ := h; rfl
/-- behind a first sum: a sign of comparison and a second -/
theorem cmpRM {t : Nat → Int} {n : Nat} (hT : ∀ j, j < n → 1 ≤ t j ∧ t j ≤ 255) {q l : Nat} (hl : l ≤ 6) {a : Cd} {μ : Mm} {i p0 p : Nat} (hP : PM t n q l μ i p0) (hg : Gp n p0 (a, p)) (F : Nat → Mm → Rs) (hF : MLs t n q l (X11_sum RD) (sumS t n l)) : match cmpR t n l a p with
      | some w => X11_compare (ma (wrc μ q i a) p) = some (0, ma (wrc μ q i w.1) w.2)
      | none => FL n q l (X11_compare (ma (wrc μ q i a) p)) μ i p0 := by
  have h160 := hP.1.1
  have hpn : p ≤ n := hg.2.1
  have hge := sk_ge (t := t) (n := n) p
  have hle := sk_le (t := t) (n := n) p hpn
  have hP1 := PM_wrc hP hg
  have hlen : a.length + p0 ≤ p := hg.2.2.2.1
  have hip := hP.2.2.2.2.2.2.1
  have hfa := fwF_K (wrc_fw (q := q) a (μ := μ) (i := i) (by omega))
  have e0 : X11_compare (ma (wrc μ q i a) p) = X11_compare_J16 (pk t n p) (ma (wrc μ q i a) (sk t n p)) := by
    unfold X11_compare
    rw [ma_j (by decide), if_pos hP1.2.2.1, look_eq hP1.1 (by omega), bd_some]
  rw [e0]
  unfold X11_compare_J16 cmpR
  rw [isSign_eq, bd_some]
  by_cases c : cop (pk t n p) = -1
  · rw [if_neg (fun z => z c), if_pos (by rw [if_pos c]), bad_eq hP1.2.2.1, bd_some]
    exact FL_mono hfa (FL_bad rfl hP1.2.1 hle h160 hP1.2.2.2.2.1 hge) (by omega)
  · rw [if_pos c, if_neg (by rw [if_neg c]; decide)]
    have hq := pk_ne (t := t) (n := n) (p := p) (fun z => c (by rw [z]; decide))
    have hcb := cop_b (pk t n p)
    have hP2 : PM t n q l (wrc μ q i a) (i + a.length) (sk t n p + 1) := by
      obtain ⟨g1, g2, g3, g4, g5, g6, g7, g8, g9, g10⟩ := hP1
      exact ⟨g1, g2, g3, g4, g5, g6, by omega, by omega, g9, g10⟩
    have hF1 := hF _ _ _ hP2
    have hG1 := sumS_G (t := t) (n := n) l (sk t n p + 1)
    have ep : (sF (ma (wrc μ q i a) (sk t n p)) 70 3 (iA (ma (wrc μ q i a) (sk t n p) 70 3) 1) fun μ6 => bd (X11_sum RD μ6) fun v7 μ8 => if pk t n p = 61 then (bd (X11_put 6 0 μ8) fun v18 μ19 => some (0, μ19)) else (if pk t n p = 60 then (bd (X11_put 7 0 μ8) fun v15 μ16 => some (0, μ16)) else (bd (X11_put 8 0 μ8) fun v12 μ13 => some (0, μ13)))) = bd (X11_sum RD (ma (wrc μ q i a) (sk t n p + 1))) fun _ μ8 => bd (X11_put (cop (pk t n p)) 0 μ8) fun _ μ12 => some (0, μ12) := by
      unfold sF
      dsimp only
      rw [ma_3, iA_nat (by omega), ma_ma]
      congr 1
      funext v7 μ8
      unfold cop at c ⊢
      by_cases d1 : pk t n p = 61
      · rw [if_pos d1, if_pos d1]
      · rw [if_neg d1] at c
        rw [if_neg d1, if_neg d1]
        by_cases d2 : pk t n p = 60
        · rw [if_pos d2, if_pos d2]
        · rw [if_neg d2] at c
          rw [if_neg d2, if_neg d2]
          by_cases d3 : pk t n p = 62
          · rw [if_pos d3]
          · rw [if_neg d3] at c; exact absurd rfl c
    rw [ep]
    revert hF1 hG1
    cases sumS t n l (sk t n p + 1) with
    | none =>
      intro hF1 _
      exact FL_mono hfa (put_FL (by omega) h160 hP.2.2.2.2.2.2.2.2.2 hP.2.2.2.2.2.2.2.2.1 hP1.2.2.2.1 (by omega) hF1 (fun μ2 b hw => rfl)) (by omega)
    | some w =>
      intro hF1 hG1
      have hF1 : X11_sum RD (ma (wrc μ q i a) (sk t n p + 1)) = some (0, ma (wrc (wrc μ q i a) q (i + a.length) w.1) w.2) := hF1
      have hw := hG1 w (by omega) rfl
      have hP3 := PM_wrc hP2 hw
      have hwl := hw.2.2.2.1
      have hput := put_eq (a := w.2) (l1 := cop (pk t n p)) (l2 := 0) hP3.2.2.2.1 hP3.2.2.2.2.1 hP.2.2.2.2.2.2.2.2.1 (by have := hw.2.1; omega)
      have ec : put1 (wrc (wrc μ q i a) q (i + a.length) w.1) q (i + a.length + w.1.length) (cop (pk t n p), 0) = wrc μ q i (bin (cop (pk t n p)) a w.1) := by
        unfold bin
        rw [wrc_app, wrc_app]
        rfl
      rw [ec] at hput
      show _ = some (0, ma (wrc μ q i (bin (cop (pk t n p)) a w.1)) w.2)
      rw [hF1, bd_some, hput, bd_some]
/-- the loops over & and | as those over two signs -/
def lpA (rec : Mm → Rs) : Nat → Int → Mm → Rs
  | 0, _, _ => none
  | f + 1, v, μ => if v = 38 then Jx 10 rec (lpA rec f) μ else some (0, μ)
def lpO (F : Mm → Rs) : Nat → Int → Mm → Rs
  | 0, _, _ => none
  | f + 1, v, μ => if v = 124 then Jx 11 F (lpO F f) μ else some (0, μ)
theorem LpM_A (rec : Mm → Rs) : LpM 38 38 10 10 rec (lpA rec) := by
  intro f v μ
  rw [lpA]
  by_cases c : v = 38
  · rw [if_pos c, if_pos c]
  · rw [if_neg c, if_neg c]
theorem LpM_O (F : Mm → Rs) : LpM 124 124 11 11 F (lpO F) := by
  intro f v μ
  rw [lpO]
  by_cases c : v = 124
  · rw [if_pos c, if_pos c]
  · rw [if_neg c, if_neg c]
theorem and_eq (rec : Mm → Rs) : ∀ (f : Nat) (μ : Mm), X11_goOnAnd_L0 rec f μ = if f = 0 then none else NX (lpA rec f) μ := by
  intro f
  induction f with
  | zero => intro μ; rfl
  | succ f ih =>
    intro μ
    rw [if_neg (by omega), X11_goOnAnd_L0]
    unfold NX
    by_cases c : μ 70 4 = -1
    · rw [if_pos c, if_pos c]
      congr 1
      funext v2 μ3
      rw [lpA]
      by_cases c2 : v2 = 38
      · rw [if_pos c2, if_pos c2]
        unfold Jx
        congr 1
        funext μ6
        congr 1
        funext _ μ8
        congr 1
        funext _ μ11
        rw [ih]
        by_cases c3 : f = 0
        · rw [if_pos c3, c3]
          unfold NX lpA
          split
          · unfold bd; split <;> rfl
          · rfl
        · rw [if_neg c3]
      · rw [if_neg c2, if_neg c2]
    · rw [if_neg c, if_neg c, lpA, if_neg (by decide)]
theorem or_eq (rec : Mm → Rs) : ∀ (f : Nat) (μ : Mm), X11_goOnOr_L0 rec f μ = if f = 0 then none else NX (lpO (fun μ => bd (rec μ) fun _ μ8 => X11_goOnAnd_o rec μ8) f) μ := by
  intro f
  induction f with
  | zero => intro μ; rfl
  | succ f ih =>
    intro μ
    rw [if_neg (by omega), X11_goOnOr_L0]
    unfold NX
    by_cases c : μ 70 4 = -1
    · rw [if_pos c, if_pos c]
      congr 1
      funext v2 μ3
      rw [lpO]
      by_cases c2 : v2 = 124
      · rw [if_pos c2, if_pos c2]
        unfold Jx
        congr 1
        funext μ6
        have assoc : ∀ (x : Rs) (g : Int → Mm → Rs) (k : Int → Mm → Rs), bd (bd x g) k = bd x fun v μ => bd (g v μ) k := by
          intro x g k; cases x <;> rfl
        rw [assoc]
        congr 1
        funext _ μ8
        congr 1
        funext _ μ11
        congr 1
        funext _ μ14
        rw [ih]
        by_cases c3 : f = 0
        · rw [if_pos c3, c3]
          unfold NX lpO
          split
          · unfold bd; split <;> rfl
          · rfl
        · rw [if_neg c3]
      · rw [if_neg c2, if_neg c2]
    · rw [if_neg c, if_neg c, lpO, if_neg (by decide)]
theorem truM {t : Nat → Int} {n q l : Nat} {rec : Mm → Rs} {S : Nat → Pr} (hF : MLs t n q l rec S) (hG : GP n S) : MLs t n q l (fun μ => bd (rec μ) fun _ μ8 => X11_goOnAnd_o rec μ8) (truS t n S) := by
  refine MLs_eq (chMS (by decide) (by decide) (by decide) (by decide) (LpM_A rec) hF hG) (fun μ => ?_)
  have e : (fun (_ : Int) μ8 => X11_goOnAnd_o rec μ8) = fun _ μ2 => NX (lpA rec FU) μ2 := by
    funext _ μ8
    unfold X11_goOnAnd_o
    rw [and_eq, if_neg (by decide)]
  rw [e]
theorem conM {t : Nat → Int} {n q l : Nat} {rec : Mm → Rs} {S : Nat → Pr} (hF : MLs t n q l rec S) (hG : GP n S) : MLs t n q l (X11_condition_o rec) (conS t n S) := by
  have h0 := chMS (by decide) (by decide) (by decide) (by decide) (LpM_O (fun μ => bd (rec μ) fun _ μ8 => X11_goOnAnd_o rec μ8)) (truM hF hG) (chS_G (by decide) (by decide) (by decide) hG)
  have e : ∀ μ, X11_condition_o rec μ = bd (bd (bd (rec μ) fun _ μ8 => X11_goOnAnd_o rec μ8) fun _ μ2 => NX (lpO (fun μ => bd (rec μ) fun _ μ8 => X11_goOnAnd_o rec μ8) FU) μ2) fun _ μ => some (0, μ) := by
    intro μ
    unfold X11_condition_o
    have assoc : ∀ (x : Rs) (g : Int → Mm → Rs) (k : Int → Mm → Rs), bd (bd x g) k = bd x fun v μ => bd (g v μ) k := by
      intro x g k; cases x <;> rfl
    rw [assoc, assoc]
    congr 1
    funext _ μ2
    congr 1
    funext _ μ5
    unfold X11_goOnOr_o
    rw [or_eq, if_neg (by decide)]
  intro μ i p hP
  have h1 := h0 μ i p hP
  rw [e]
  revert h1
  show (match conS t n S p with | some w => _ | none => _) → _
  cases conS t n S p with
  | none =>
    rintro ⟨μ', a, i', f1, f2⟩
    refine ⟨μ', a, i', ?_, f2⟩
    dsimp only at f1
    rw [f1]; rfl
  | some w =>
    intro h1
    dsimp only at h1
    show _ = some (0, ma (wrc μ q i w.1) w.2)
    rw [h1]; rfl
