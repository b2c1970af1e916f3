/-! LAWS: what a text of one says, as rows of codes -/
abbrev Cd : Type := List (Int × Int)
def clm (x : Int) : Int := mX (-1000000) (mN 1000000 x)
theorem clm_b (x : Int) : -1000000 ≤ clm x ∧ clm x ≤ 1000000 := by
  unfold clm
  rw [mX_eq, mN_eq]
  omega
def wk (o a b : Int) : Int :=
  if o = 2 then clm (lA a b) else if o = 3 then clm (lS a b) else if o = 4 then clm (lM a b) else if o = 5 then (if b = 0 then 0 else clm (lD a b))
  else if o = 6 then (if a = b then 1 else 0) else if o = 7 then (if a < b then 1 else 0) else if o = 8 then (if b < a then 1 else 0)
  else if o = 10 then (if a = 0 then 0 else if b = 0 then 0 else 1) else (if a = 0 then (if b = 0 then 0 else 1) else 1)
theorem wk_b (o a b : Int) : -1000000 ≤ wk o a b ∧ wk o a b ≤ 1000000 := by
  unfold wk
  have h1 := clm_b (lA a b)
  have h2 := clm_b (lS a b)
  have h3 := clm_b (lM a b)
  have h4 := clm_b (lD a b)
  repeat' split
  all_goals omega
theorem wk_c {o : Int} (h : 6 ≤ o) (a b : Int) : wk o a b = 0 ∨ wk o a b = 1 := by
  unfold wk
  rw [if_neg (by omega), if_neg (by omega), if_neg (by omega), if_neg (by omega)]
  repeat' split
  all_goals omega
def ev1 (e : Nat → Int) (x : Int × Int) (s : List Int) : List Int :=
  if x.1 = 0 then x.2 :: s else if x.1 = 1 then e x.2.toNat :: s else match s with
    | [] => []
    | b :: s1 => if x.1 = 9 then wI (1 - b) :: s1 else match s1 with
      | [] => []
      | a :: s2 => wk x.1 a b :: s2
def ev (e : Nat → Int) : Cd → List Int → List Int
  | [], s => s
  | x :: c, s => ev e c (ev1 e x s)
theorem ev_app (e : Nat → Int) : ∀ (a b : Cd) (s : List Int), ev e (a ++ b) s = ev e b (ev e a s) := by
  intro a
  induction a with
  | nil => intro b s; rfl
  | cons x a ih => intro b s; exact ih b _
def vl (e : Nat → Int) (c : Cd) : Int := (ev e c []).headD 0
def pu : Cd → Nat
  | [] => 0
  | x :: c => (if x.1 = 0 ∨ x.1 = 1 then 1 else 0) + pu c
theorem pu_app : ∀ (a b : Cd), pu (a ++ b) = pu a + pu b := by
  intro a
  induction a with
  | nil => intro b; show pu b = 0 + pu b; omega
  | cons x a ih =>
    intro b
    show (if x.1 = 0 ∨ x.1 = 1 then 1 else 0) + pu (a ++ b) = (if x.1 = 0 ∨ x.1 = 1 then 1 else 0) + pu a + pu b
    rw [ih]; omega
/-- the codes find what they need on a stack of h, and room -/
def hOK : Cd → Nat → Prop
  | [], _ => True
  | x :: c, h => if x.1 = 0 ∨ x.1 = 1 then h < 80 ∧ hOK c (h + 1) else if x.1 = 9 then 1 ≤ h ∧ hOK c h else 2 ≤ h ∧ hOK c (h - 1)
def okx (x : Int × Int) : Prop := (x.1 = 0 ∧ 0 ≤ x.2 ∧ x.2 ≤ 9999) ∨ (x.1 = 1 ∧ 0 ≤ x.2 ∧ x.2 ≤ 4) ∨ (2 ≤ x.1 ∧ x.1 ≤ 11 ∧ x.2 = 0)
def eOK (e : Nat → Int) : Prop := ∀ i, i < 5 → -2147483648 ≤ e i ∧ e i ≤ 2147483647
def gd (c : Cd) : Prop := (∀ e s, ev e c s = vl e c :: s) ∧ (∀ d h, h + pu c ≤ 80 → hOK d (h + 1) → hOK (c ++ d) h) ∧ 1 ≤ pu c ∧ (∀ x, x ∈ c → okx x) ∧ (∀ e, eOK e → -2147483648 ≤ vl e c ∧ vl e c ≤ 2147483647)
def isC (c : Cd) : Prop := ∀ e, vl e c = 0 ∨ vl e c = 1
theorem gd_num {v : Int} (h : 0 ≤ v ∧ v ≤ 9999) : gd [(0, v)] := by
  refine ⟨fun e s => rfl, fun d x hx hd => ?_, Nat.le_refl 1, fun x hx => ?_, fun e _ => ?_⟩
  · show (if (0 : Int) = 0 ∨ (0 : Int) = 1 then x < 80 ∧ hOK d (x + 1) else _)
    rw [if_pos (Or.inl rfl)]
    have : pu [(0, v)] = 1 := rfl
    exact ⟨by omega, hd⟩
  · rw [List.mem_singleton.mp hx]; exact Or.inl ⟨rfl, h⟩
  · show -2147483648 ≤ v ∧ v ≤ 2147483647
    omega
theorem gd_let {i : Int} (h : 0 ≤ i ∧ i ≤ 4) : gd [(1, i)] := by
  refine ⟨fun e s => rfl, fun d x hx hd => ?_, Nat.le_refl 1, fun x hx => ?_, fun e he => ?_⟩
  · show (if (1 : Int) = 0 ∨ (1 : Int) = 1 then x < 80 ∧ hOK d (x + 1) else _)
    rw [if_pos (Or.inr rfl)]
    have : pu [(1, i)] = 1 := rfl
    exact ⟨by omega, hd⟩
  · rw [List.mem_singleton.mp hx]; exact Or.inr (Or.inl ⟨rfl, h⟩)
  · exact he i.toNat (by omega)
def bin (o : Int) (a b : Cd) : Cd := a ++ (b ++ [(o, 0)])
def ngc (a : Cd) : Cd := a ++ [(9, 0)]
theorem ev1_o {e : Nat → Int} {o a b : Int} {s : List Int} (h : 2 ≤ o ∧ o ≤ 11 ∧ o ≠ 9) : ev1 e (o, 0) (b :: a :: s) = wk o a b :: s := by
  unfold ev1
  rw [if_neg (show ¬ (o = 0) by omega), if_neg (show ¬ (o = 1) by omega)]
  show (if o = 9 then _ else _) = _
  rw [if_neg h.2.2]
theorem vl_bin {o : Int} {a b : Cd} (ho : 2 ≤ o ∧ o ≤ 11 ∧ o ≠ 9) (ha : gd a) (hb : gd b) (e : Nat → Int) (s : List Int) : ev e (bin o a b) s = wk o (vl e a) (vl e b) :: s := by
  unfold bin
  rw [ev_app, ev_app, ha.1, hb.1]
  exact ev1_o ho
theorem vl_bin' {o : Int} {a b : Cd} (ho : 2 ≤ o ∧ o ≤ 11 ∧ o ≠ 9) (ha : gd a) (hb : gd b) (e : Nat → Int) : vl e (bin o a b) = wk o (vl e a) (vl e b) := by
  unfold vl
  rw [vl_bin ho ha hb]
  rfl
theorem gd_bin {o : Int} {a b : Cd} (ho : 2 ≤ o ∧ o ≤ 11 ∧ o ≠ 9) (ha : gd a) (hb : gd b) : gd (bin o a b) := by
  have hpu : pu (bin o a b) = pu a + pu b := by
    unfold bin
    rw [pu_app, pu_app]
    show pu a + (pu b + ((if o = 0 ∨ o = 1 then 1 else 0) + 0)) = _
    rw [if_neg (by omega)]
    rfl
  refine ⟨fun e s => by rw [vl_bin ho ha hb, vl_bin' ho ha hb], fun d h hh hd => ?_, ?_, fun x hx => ?_, fun e _ => ?_⟩
  · rw [hpu] at hh
    unfold bin
    rw [List.append_assoc, List.append_assoc]
    have ha1 := ha.2.2.1
    refine ha.2.1 _ h (by omega) (hb.2.1 _ (h + 1) (by omega) ?_)
    show (if o = 0 ∨ o = 1 then _ else if o = 9 then _ else 2 ≤ h + 1 + 1 ∧ hOK d (h + 1 + 1 - 1))
    rw [if_neg (by omega), if_neg (by omega)]
    exact ⟨by omega, hd⟩
  · rw [hpu]; have := ha.2.2.1; omega
  · unfold bin at hx
    rcases List.mem_append.mp hx with h | h
    · exact ha.2.2.2.1 x h
    · rcases List.mem_append.mp h with h | h
      · exact hb.2.2.2.1 x h
      · rw [List.mem_singleton.mp h]; exact Or.inr (Or.inr ⟨ho.1, ho.2.1, rfl⟩)
  · rw [vl_bin' ho ha hb]
    have hw := wk_b o (vl e a) (vl e b)
    omega
theorem isC_bin {o : Int} {a b : Cd} (ho : 6 ≤ o ∧ o ≤ 11 ∧ o ≠ 9) (ha : gd a) (hb : gd b) : isC (bin o a b) := fun e => by
  rw [vl_bin' ⟨by omega, ho.2⟩ ha hb]; exact wk_c ho.1 _ _
theorem vl_neg {a : Cd} (ha : gd a) (e : Nat → Int) : vl e (ngc a) = wI (1 - vl e a) := by
  unfold vl ngc
  rw [ev_app, ha.1]
  rfl
theorem gd_neg {a : Cd} (ha : gd a) (hc : isC a) : gd (ngc a) ∧ isC (ngc a) ∧ ∀ e, vl e (ngc a) = if vl e a = 0 then 1 else 0 := by
  have hv : ∀ e, vl e (ngc a) = if vl e a = 0 then 1 else 0 := fun e => by
    rw [vl_neg ha]
    rcases hc e with h | h <;> rw [h] <;> decide
  have hpu : pu (ngc a) = pu a := by unfold ngc; rw [pu_app]; rfl
  refine ⟨⟨fun e s => ?_, fun d h hh hd => ?_, ?_, fun x hx => ?_, fun e _ => ?_⟩, fun e => ?_, hv⟩
  · rw [vl_neg ha]; unfold ngc; rw [ev_app, ha.1]; rfl
  · rw [hpu] at hh
    unfold ngc
    rw [List.append_assoc]
    refine ha.2.1 _ h hh ?_
    show (if (9 : Int) = 0 ∨ (9 : Int) = 1 then _ else if (9 : Int) = 9 then 1 ≤ h + 1 ∧ hOK d (h + 1) else _)
    rw [if_neg (by decide), if_pos rfl]
    exact ⟨by omega, hd⟩
  · rw [hpu]; exact ha.2.2.1
  · unfold ngc at hx
    rcases List.mem_append.mp hx with h | h
    · exact ha.2.2.2.1 x h
    · rw [List.mem_singleton.mp h]; exact Or.inr (Or.inr ⟨by decide, by decide, rfl⟩)
  · rw [hv]; split <;> omega
  · rw [hv]; split <;> omega
/-! the readers -/
def dg (x : Int) : Prop := 48 ≤ x ∧ x ≤ 57
def ltr (x : Int) : Int := if x = 116 then 0 else if x = 107 then 1 else if x = 110 then 2 else if x = 99 then 3 else if x = 108 then 4 else -1
def cop (x : Int) : Int := if x = 61 then 6 else if x = 60 then 7 else if x = 62 then 8 else -1
abbrev Pr : Type := Option (Cd × Nat)
def atomS (t : Nat → Int) (n : Nat) (rec : Nat → Pr) (p : Nat) : Pr :=
  if 48 ≤ pk t n p ∧ pk t n p ≤ 57 then
    (if (nmF t n 4 (sk t n p) 0).2 < n ∧ 48 ≤ t (nmF t n 4 (sk t n p) 0).2 ∧ t (nmF t n 4 (sk t n p) 0).2 ≤ 57 then none else some ([(0, (nmF t n 4 (sk t n p) 0).1)], (nmF t n 4 (sk t n p) 0).2))
  else if ltr (pk t n p) ≠ -1 then some ([(1, ltr (pk t n p))], sk t n p + 1)
  else if pk t n p = 91 then (match rec (sk t n p + 1) with
    | none => none
    | some q => if pk t n q.2 = 93 then some (q.1, sk t n q.2 + 1) else none)
  else none
/-- a chain: pieces with one of two signs between them -/
def chL (t : Nat → Int) (n : Nat) (s1 s2 o1 o2 : Int) (piece : Nat → Pr) : Nat → Cd → Nat → Pr
  | 0, a, p => some (a, p)
  | m + 1, a, p => if pk t n p = s1 then (match piece (sk t n p + 1) with
      | none => none
      | some q => chL t n s1 s2 o1 o2 piece m (bin o1 a q.1) q.2)
    else if pk t n p = s2 then (match piece (sk t n p + 1) with
      | none => none
      | some q => chL t n s1 s2 o1 o2 piece m (bin o2 a q.1) q.2)
    else some (a, sk t n p)
def chS (t : Nat → Int) (n : Nat) (s1 s2 o1 o2 : Int) (piece : Nat → Pr) (p : Nat) : Pr := match piece p with
  | none => none
  | some q => chL t n s1 s2 o1 o2 piece 160 q.1 q.2
def termS (t : Nat → Int) (n : Nat) (rec : Nat → Pr) : Nat → Pr := chS t n 42 47 4 5 (atomS t n rec)
def sumO (t : Nat → Int) (n : Nat) (rec : Nat → Pr) : Nat → Pr := chS t n 43 45 2 3 (termS t n rec)
def sumS (t : Nat → Int) (n : Nat) : Nat → Nat → Pr
  | 0 => sumO t n (fun _ => none)
  | l + 1 => sumO t n (sumS t n l)
def cmpR (t : Nat → Int) (n l : Nat) (a : Cd) (p : Nat) : Pr := if cop (pk t n p) ≠ -1 then (match sumS t n l (sk t n p + 1) with
    | none => none
    | some q => some (bin (cop (pk t n p)) a q.1, q.2))
  else none
def cmpS (t : Nat → Int) (n l p : Nat) : Pr := match sumS t n l p with
  | none => none
  | some q => cmpR t n l q.1 q.2
def truS (t : Nat → Int) (n : Nat) (rec : Nat → Pr) : Nat → Pr := chS t n 38 38 10 10 rec
def conS (t : Nat → Int) (n : Nat) (rec : Nat → Pr) : Nat → Pr := chS t n 124 124 11 11 (truS t n rec)
def unitO (t : Nat → Int) (n l : Nat) (rec : Nat → Pr) (p : Nat) : Pr :=
  if pk t n p = 33 then (match rec (sk t n p + 1) with
    | none => none
    | some q => some (ngc q.1, q.2))
  else if pk t n p = 40 then (match conS t n rec (sk t n p + 1) with
    | none => none
    | some q => if pk t n q.2 = 41 then some (q.1, sk t n q.2 + 1) else none)
  else cmpS t n l p
def unitS (t : Nat → Int) (n : Nat) : Nat → Nat → Pr
  | 0 => unitO t n 0 (fun _ => none)
  | l + 1 => unitO t n (l + 1) (unitS t n l)
/-! what they give -/
def Gp (n : Nat) (p : Nat) (q : Cd × Nat) : Prop := p < q.2 ∧ q.2 ≤ n ∧ gd q.1 ∧ q.1.length + p ≤ q.2 ∧ 2 * pu q.1 + p ≤ q.2 + 1
def GP (n : Nat) (f : Nat → Pr) : Prop := ∀ p q, p ≤ n → f p = some q → Gp n p q
def GC (n : Nat) (f : Nat → Pr) : Prop := ∀ p q, p ≤ n → f p = some q → Gp n p q ∧ isC q.1
theorem Gp_sk {t : Nat → Int} {n p : Nat} {q : Cd × Nat} (h : Gp n (sk t n p) q) : Gp n p q := by
  have := sk_ge (t := t) (n := n) p
  obtain ⟨h1, h2, h3, h4, h5⟩ := h
  exact ⟨by omega, h2, h3, by omega, by omega⟩
theorem nm4 {t : Nat → Int} {n p : Nat} (hp : p ≤ n) (c : 48 ≤ pk t n p ∧ pk t n p ≤ 57) : sk t n p < (nmF t n 4 (sk t n p) 0).2 ∧ (nmF t n 4 (sk t n p) 0).2 ≤ n ∧ 0 ≤ (nmF t n 4 (sk t n p) 0).1 ∧ (nmF t n 4 (sk t n p) 0).1 ≤ 9999 := by
  have hq := pk_ne (t := t) (n := n) (p := p) (by omega)
  have hb := nmF_b (t := t) (n := n) 4 (sk t n p) 0 (by omega)
  have hv := nmF_v (t := t) (n := n) 4 (sk t n p) 0 (by decide) (by decide) (by decide)
  refine ⟨?_, hb.2.1, hv⟩
  unfold nmF
  rw [if_pos (by rw [← hq.2]; exact ⟨hq.1, c⟩)]
  exact Nat.lt_of_lt_of_le (Nat.lt_succ_self _) (nmF_b (t := t) (n := n) 3 (sk t n p + 1) _ (by omega)).1
theorem ltr_b (x : Int) : -1 ≤ ltr x ∧ ltr x ≤ 4 := by
  unfold ltr
  repeat' split
  all_goals omega
theorem cop_b (x : Int) : cop x = -1 ∨ (6 ≤ cop x ∧ cop x ≤ 8) := by
  unfold cop
  repeat' split
  all_goals omega
theorem ltr_0 : ltr (-1) = -1 := by decide
theorem cop_0 : cop (-1) = -1 := by decide
theorem atom_G {t : Nat → Int} {n : Nat} {rec : Nat → Pr} (h : GP n rec) : GP n (atomS t n rec) := by
  intro p q hp e
  have hge := sk_ge (t := t) (n := n) p
  unfold atomS at e
  by_cases c1 : 48 ≤ pk t n p ∧ pk t n p ≤ 57
  · rw [if_pos c1] at e
    have hn := nm4 hp c1
    split at e
    · cases e
    · cases e
      refine ⟨by show p < _; omega, hn.2.1, gd_num hn.2.2, ?_, ?_⟩
      · show 0 + 1 + p ≤ _; omega
      · show 2 * 1 + p ≤ _; omega
  · rw [if_neg c1] at e
    by_cases c2 : ltr (pk t n p) = -1
    · rw [if_neg (fun z => z c2)] at e
      by_cases c3 : pk t n p = 91
      · rw [if_pos c3] at e
        have hq := pk_ne (t := t) (n := n) (p := p) (by omega)
        revert e
        cases hr : rec (sk t n p + 1) with
        | none => intro e; cases e
        | some r =>
          intro e
          dsimp only at e
          by_cases c4 : pk t n r.2 = 93
          · rw [if_pos c4] at e
            cases e
            have hq2 := pk_ne (t := t) (n := n) (p := r.2) (by omega)
            have h2 := sk_ge (t := t) (n := n) r.2
            obtain ⟨g1, g2, g3, g4, g5⟩ := h _ _ (by omega) hr
            exact ⟨by show p < sk t n r.2 + 1; omega, by show sk t n r.2 + 1 ≤ n; omega, g3, by show r.1.length + p ≤ sk t n r.2 + 1; omega, by show 2 * pu r.1 + p ≤ sk t n r.2 + 1 + 1; omega⟩
          · rw [if_neg c4] at e; cases e
      · rw [if_neg c3] at e; cases e
    · rw [if_pos c2] at e
      cases e
      have hq := pk_ne (t := t) (n := n) (p := p) (fun z => c2 (by rw [z]; decide))
      have hl := ltr_b (pk t n p)
      refine ⟨by show p < sk t n p + 1; omega, by show sk t n p + 1 ≤ n; omega, gd_let (by omega), ?_, ?_⟩
      · show 0 + 1 + p ≤ _; omega
      · show 2 * 1 + p ≤ _; omega
theorem Gp_bin {n p p1 : Nat} {a : Cd} {q : Cd × Nat} {o : Int} (ho : 2 ≤ o ∧ o ≤ 11 ∧ o ≠ 9) (h1 : Gp n p (a, p1)) {s : Nat} (hs : p1 ≤ s) (h2 : Gp n (s + 1) q) : Gp n p (bin o a q.1, q.2) := by
  obtain ⟨a1, a2, a3, a4, a5⟩ := h1
  obtain ⟨b1, b2, b3, b4, b5⟩ := h2
  have a4 : a.length + p ≤ p1 := a4
  have a5 : 2 * pu a + p ≤ p1 + 1 := a5
  have a1 : p < p1 := a1
  refine ⟨by show p < q.2; omega, b2, gd_bin ho a3 b3, ?_, ?_⟩
  · show (bin o a q.1).length + p ≤ q.2
    unfold bin
    rw [List.length_append, List.length_append]
    show a.length + (q.1.length + 1) + p ≤ q.2
    omega
  · show 2 * pu (bin o a q.1) + p ≤ q.2 + 1
    unfold bin
    rw [pu_app, pu_app]
    show 2 * (pu a + (pu q.1 + ((if o = 0 ∨ o = 1 then 1 else 0) + 0))) + p ≤ q.2 + 1
    rw [if_neg (by omega)]
    omega
theorem chL_G {t : Nat → Int} {n : Nat} {s1 s2 o1 o2 : Int} (hs : s1 ≠ -1 ∧ s2 ≠ -1) (ho1 : 2 ≤ o1 ∧ o1 ≤ 11 ∧ o1 ≠ 9) (ho2 : 2 ≤ o2 ∧ o2 ≤ 11 ∧ o2 ≠ 9) {f : Nat → Pr} (h : GP n f) : ∀ (m : Nat) (a : Cd) (p0 p : Nat) (q : Cd × Nat), Gp n p0 (a, p) → chL t n s1 s2 o1 o2 f m a p = some q → Gp n p0 q := by
  intro m
  induction m with
  | zero => intro a p0 p q hg e; unfold chL at e; cases e; exact hg
  | succ m ih =>
    intro a p0 p q hg e
    have hge := sk_ge (t := t) (n := n) p
    have hpn : p ≤ n := hg.2.1
    have hle := sk_le (t := t) (n := n) p hpn
    unfold chL at e
    by_cases c1 : pk t n p = s1
    · rw [if_pos c1] at e
      have hq := pk_ne (t := t) (n := n) (p := p) (by rw [c1]; exact hs.1)
      revert e
      cases hr : f (sk t n p + 1) with
      | none => intro e; cases e
      | some r => intro e; exact ih _ _ _ _ (Gp_bin ho1 hg hge (h _ _ (by omega) hr)) e
    · rw [if_neg c1] at e
      by_cases c2 : pk t n p = s2
      · rw [if_pos c2] at e
        have hq := pk_ne (t := t) (n := n) (p := p) (by rw [c2]; exact hs.2)
        revert e
        cases hr : f (sk t n p + 1) with
        | none => intro e; cases e
        | some r => intro e; exact ih _ _ _ _ (Gp_bin ho2 hg hge (h _ _ (by omega) hr)) e
      · rw [if_neg c2] at e
        cases e
        obtain ⟨a1, a2, a3, a4, a5⟩ := hg
        have a1 : p0 < p := a1
        have a4 : a.length + p0 ≤ p := a4
        have a5 : 2 * pu a + p0 ≤ p + 1 := a5
        exact ⟨by show p0 < sk t n p; omega, hle, a3, by show a.length + p0 ≤ sk t n p; omega, by show 2 * pu a + p0 ≤ sk t n p + 1; omega⟩
theorem chS_G {t : Nat → Int} {n : Nat} {s1 s2 o1 o2 : Int} (hs : s1 ≠ -1 ∧ s2 ≠ -1) (ho1 : 2 ≤ o1 ∧ o1 ≤ 11 ∧ o1 ≠ 9) (ho2 : 2 ≤ o2 ∧ o2 ≤ 11 ∧ o2 ≠ 9) {f : Nat → Pr} (h : GP n f) : GP n (chS t n s1 s2 o1 o2 f) := by
  intro p q hp e
  unfold chS at e
  revert e
  cases hr : f p with
  | none => intro e; cases e
  | some r => intro e; exact chL_G hs ho1 ho2 h 160 r.1 p r.2 q (h p r hp hr) e
theorem chL_C {t : Nat → Int} {n : Nat} {s1 s2 o1 o2 : Int} (hs : s1 ≠ -1 ∧ s2 ≠ -1) (ho1 : 6 ≤ o1 ∧ o1 ≤ 11 ∧ o1 ≠ 9) (ho2 : 6 ≤ o2 ∧ o2 ≤ 11 ∧ o2 ≠ 9) {f : Nat → Pr} (h : GP n f) : ∀ (m : Nat) (a : Cd) (p0 p : Nat) (q : Cd × Nat), Gp n p0 (a, p) → isC a → chL t n s1 s2 o1 o2 f m a p = some q → isC q.1 := by
  intro m
  induction m with
  | zero => intro a p0 p q hg hc e; unfold chL at e; cases e; exact hc
  | succ m ih =>
    intro a p0 p q hg hc e
    have hge := sk_ge (t := t) (n := n) p
    have hpn : p ≤ n := hg.2.1
    unfold chL at e
    by_cases c1 : pk t n p = s1
    · rw [if_pos c1] at e
      have hq := pk_ne (t := t) (n := n) (p := p) (by rw [c1]; exact hs.1)
      revert e
      cases hr : f (sk t n p + 1) with
      | none => intro e; cases e
      | some r =>
        intro e
        have hG := h _ _ (by omega) hr
        exact ih _ _ _ _ (Gp_bin ⟨by omega, ho1.2⟩ hg hge hG) (isC_bin ho1 hg.2.2.1 hG.2.2.1) e
    · rw [if_neg c1] at e
      by_cases c2 : pk t n p = s2
      · rw [if_pos c2] at e
        have hq := pk_ne (t := t) (n := n) (p := p) (by rw [c2]; exact hs.2)
        revert e
        cases hr : f (sk t n p + 1) with
        | none => intro e; cases e
        | some r =>
          intro e
          have hG := h _ _ (by omega) hr
          exact ih _ _ _ _ (Gp_bin ⟨by omega, ho2.2⟩ hg hge hG) (isC_bin ho2 hg.2.2.1 hG.2.2.1) e
      · rw [if_neg c2] at e
        cases e
        exact hc
theorem chS_C {t : Nat → Int} {n : Nat} {s1 s2 o1 o2 : Int} (hs : s1 ≠ -1 ∧ s2 ≠ -1) (ho1 : 6 ≤ o1 ∧ o1 ≤ 11 ∧ o1 ≠ 9) (ho2 : 6 ≤ o2 ∧ o2 ≤ 11 ∧ o2 ≠ 9) {f : Nat → Pr} (h : GC n f) : GC n (chS t n s1 s2 o1 o2 f) := by
  intro p q hp e
  have h0 : GP n f := fun p q hp e => (h p q hp e).1
  refine ⟨chS_G hs ⟨by omega, ho1.2⟩ ⟨by omega, ho2.2⟩ h0 p q hp e, ?_⟩
  unfold chS at e
  revert e
  cases hr : f p with
  | none => intro e; cases e
  | some r => intro e; exact chL_C hs ho1 ho2 h0 160 r.1 p r.2 q (h p r hp hr).1 (h p r hp hr).2 e
theorem none_G {n : Nat} : GP n (fun _ => none) := fun _ _ _ e => by cases e
theorem sumO_G {t : Nat → Int} {n : Nat} {rec : Nat → Pr} (h : GP n rec) : GP n (sumO t n rec) := chS_G (by decide) (by decide) (by decide) (chS_G (by decide) (by decide) (by decide) (atom_G h))
theorem sumS_G {t : Nat → Int} {n : Nat} : ∀ l, GP n (sumS t n l) := by
  intro l
  induction l with
  | zero => exact sumO_G none_G
  | succ l ih => exact sumO_G ih
theorem cmpR_G {t : Nat → Int} {n l : Nat} {a : Cd} {p0 p : Nat} {q : Cd × Nat} (hg : Gp n p0 (a, p)) (e : cmpR t n l a p = some q) : Gp n p0 q ∧ isC q.1 := by
  have hpn : p ≤ n := hg.2.1
  have hge := sk_ge (t := t) (n := n) p
  unfold cmpR at e
  by_cases c1 : cop (pk t n p) = -1
  · rw [if_neg (fun z => z c1)] at e; cases e
  · rw [if_pos c1] at e
    have hq := pk_ne (t := t) (n := n) (p := p) (fun z => c1 (by rw [z]; decide))
    have hcb := cop_b (pk t n p)
    revert e
    cases hr : sumS t n l (sk t n p + 1) with
    | none => intro e; cases e
    | some r =>
      intro e
      cases e
      have hG := sumS_G (t := t) l _ _ (by omega) hr
      exact ⟨Gp_bin (by omega) hg hge hG, isC_bin (by omega) hg.2.2.1 hG.2.2.1⟩
theorem cmpS_G {t : Nat → Int} {n l : Nat} : GC n (cmpS t n l) := by
  intro p q hp e
  unfold cmpS at e
  revert e
  cases hr : sumS t n l p with
  | none => intro e; cases e
  | some r => intro e; exact cmpR_G (a := r.1) (p := r.2) (sumS_G l p r hp hr) e
theorem conS_G {t : Nat → Int} {n : Nat} {rec : Nat → Pr} (h : GC n rec) : GC n (conS t n rec) := chS_C (by decide) (by decide) (by decide) (chS_C (by decide) (by decide) (by decide) h)
theorem unitO_G {t : Nat → Int} {n l : Nat} {rec : Nat → Pr} (h : GC n rec) : GC n (unitO t n l rec) := by
  intro p q hp e
  have hge := sk_ge (t := t) (n := n) p
  unfold unitO at e
  by_cases c1 : pk t n p = 33
  · rw [if_pos c1] at e
    have hq := pk_ne (t := t) (n := n) (p := p) (by omega)
    revert e
    cases hr : rec (sk t n p + 1) with
    | none => intro e; cases e
    | some r =>
      intro e
      cases e
      obtain ⟨⟨g1, g2, g3, g4, g5⟩, gc⟩ := h _ _ (by omega) hr
      have hn := gd_neg g3 gc
      refine ⟨⟨by show p < r.2; omega, g2, hn.1, ?_, ?_⟩, hn.2.1⟩
      · show (ngc r.1).length + p ≤ r.2
        unfold ngc
        rw [List.length_append]
        show r.1.length + 1 + p ≤ r.2
        omega
      · show 2 * pu (ngc r.1) + p ≤ r.2 + 1
        unfold ngc
        rw [pu_app]
        show 2 * (pu r.1 + 0) + p ≤ r.2 + 1
        omega
  · rw [if_neg c1] at e
    by_cases c2 : pk t n p = 40
    · rw [if_pos c2] at e
      have hq := pk_ne (t := t) (n := n) (p := p) (by omega)
      revert e
      cases hr : conS t n rec (sk t n p + 1) with
      | none => intro e; cases e
      | some r =>
        intro e
        dsimp only at e
        by_cases c4 : pk t n r.2 = 41
        · rw [if_pos c4] at e
          cases e
          have hq2 := pk_ne (t := t) (n := n) (p := r.2) (by omega)
          have h2 := sk_ge (t := t) (n := n) r.2
          obtain ⟨⟨g1, g2, g3, g4, g5⟩, gc⟩ := conS_G h _ _ (by omega) hr
          exact ⟨⟨by show p < sk t n r.2 + 1; omega, by show sk t n r.2 + 1 ≤ n; omega, g3, by show r.1.length + p ≤ sk t n r.2 + 1; omega, by show 2 * pu r.1 + p ≤ sk t n r.2 + 1 + 1; omega⟩, gc⟩
        · rw [if_neg c4] at e; cases e
    · rw [if_neg c2] at e
      exact cmpS_G p q hp e
theorem unitS_G {t : Nat → Int} {n : Nat} : ∀ l, GC n (unitS t n l) := by
  intro l
  induction l with
  | zero => exact unitO_G (fun _ _ _ e => by cases e)
  | succ l ih => exact unitO_G ih
/-! blanks before a piece -/
def skF_ (t : Nat → Int) (n : Nat) (f : Nat → Pr) : Prop := ∀ p, f (sk t n p) = f p
theorem atom_sk {t : Nat → Int} {n : Nat} (rec : Nat → Pr) : skF_ t n (atomS t n rec) := fun p => by unfold atomS; rw [pk_sk, sk_sk]
theorem chS_sk {t : Nat → Int} {n : Nat} {s1 s2 o1 o2 : Int} {f : Nat → Pr} (h : skF_ t n f) : skF_ t n (chS t n s1 s2 o1 o2 f) := fun p => by unfold chS; rw [h p]
theorem sumS_sk {t : Nat → Int} {n : Nat} : ∀ l, skF_ t n (sumS t n l) := by
  intro l
  cases l with
  | zero => exact chS_sk (chS_sk (atom_sk _))
  | succ l => exact chS_sk (chS_sk (atom_sk _))
theorem cmpS_sk {t : Nat → Int} {n l : Nat} : skF_ t n (cmpS t n l) := fun p => by unfold cmpS; rw [sumS_sk l p]
theorem unitS_sk {t : Nat → Int} {n : Nat} : ∀ l, skF_ t n (unitS t n l) := by
  intro l p
  cases l with
  | zero => show unitO t n 0 _ _ = unitO t n 0 _ _; unfold unitO; rw [pk_sk, sk_sk, cmpS_sk p]
  | succ l => show unitO t n (l + 1) _ _ = unitO t n (l + 1) _ _; unfold unitO; rw [pk_sk, sk_sk, cmpS_sk p]
/-! clauses and laws -/
def thenS (t : Nat → Int) (n : Nat) (c : Cd) (p : Nat) : Option ((Cd × Cd) × Nat) := if pk t n p = 63 then (match sumS t n 6 (sk t n p + 1) with
    | none => none
    | some s => some ((c, s.1), s.2))
  else none
def cnd0 (t : Nat → Int) (n p : Nat) : Prop := pk t n p = 33 ∨ pk t n p = 40 ∨ match sumS t n 6 p with
  | none => False
  | some s => cop (pk t n s.2) ≠ -1
def bodyS (t : Nat → Int) (n p : Nat) : Option ((Cd × Cd) × Nat) := if pk t n p = 33 ∨ pk t n p = 40 then (match conS t n (unitS t n 6) p with
    | none => none
    | some q => thenS t n q.1 q.2)
  else match sumS t n 6 p with
    | none => none
    | some s => if cop (pk t n s.2) = -1 then some (([], s.1), s.2) else (match conS t n (unitS t n 6) p with
      | none => none
      | some q => thenS t n q.1 q.2)
/-- a clause: the codes of its condition (none: no condition) and of its value -/
def clS (t : Nat → Int) (n p : Nat) : Option ((Cd × Cd) × Nat) := if pk t n p = 121 then (if pk t n (sk t n p + 1) = 58 then bodyS t n (sk t n (sk t n p + 1) + 1) else none) else none
def lawL (t : Nat → Int) (n : Nat) : Nat → Nat → Option (List (Cd × Cd))
  | 0, _ => none
  | m + 1, p => match clS t n p with
    | none => none
    | some q => if pk t n q.2 = 59 then (match lawL t n m (sk t n q.2 + 1) with
        | none => none
        | some L => some (q.1 :: L))
      else if pk t n q.2 = -1 then some [q.1] else none
def lawS (t : Nat → Int) (n : Nat) : Option (List (Cd × Cd)) := lawL t n 160 0
/-- what a LAW gives: its first clause whose condition holds -/
def lawV (e : Nat → Int) : List (Cd × Cd) → Int
  | [] => 0
  | x :: L => if x.1 = [] then vl e x.2 else if vl e x.1 = 0 then lawV e L else vl e x.2
