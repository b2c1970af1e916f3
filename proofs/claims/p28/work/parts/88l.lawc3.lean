/-! LAWS, the class's reader: clauses -/
def KE : Int → Mm → Rs := fun v40 μ41 => bd (X4_needEnd μ41) fun v42 μ43 => some (v40, μ43)
theorem KE_B {t : Nat → Int} {n : Nat} {ν : Mm} (h : Tx t n ν) {r : Int} {p : Nat} {f : Int} (hb : Bad t n p f) : ∃ f', KE r (cr ν p f) = some (r, cr ν p f') ∧ f' ≠ -1 := by
  obtain ⟨f', e1, e2⟩ := needEnd_B h hb
  exact ⟨f', by unfold KE; rw [e1, bd_some], e2⟩
theorem starts_F {ν : Mm} {p : Nat} {g : Int} (hg : g ≠ -1) : X2_startsCondition (cr ν p g) = some (0, cr ν p g) := by
  unfold X2_startsCondition
  have e : X2_sum RD 0 (cr ν p g) = some (0, cr ν p g) := sum_F hg
  rw [peek_F hg, bd_some, if_neg (by decide), if_neg (by decide), e, bd_some, peek_F hg, bd_some, isCmp_eq, bd_some]
  unfold sF
  dsimp only
  rw [cr_1, cr_p, rZ_b (by decide)]
  rfl
theorem J57_B {t : Nat → Int} {n : Nat} {ν : Mm} (h : Tx t n ν) {k6 : Int → Int → Int → Mm → Rs} {l1 l2 l3 l4 : Int} {p p' : Nat} {g f : Int} {r : Int} (hs : X2_sum RD 0 (cr ν p g) = some (r, cr ν p' f)) (hb : Bad t n p' f) : ∃ r' f', X2_worth_J57 k6 KE l1 l2 l3 l4 (cr ν p g) = some (r', cr ν p' f') ∧ f' ≠ -1 := by
  unfold X2_worth_J57
  rw [hs, bd_some, take_B h hb (by decide), bd_some, if_pos rfl]
  by_cases c1 : l4 = 0
  · rw [if_pos c1]
    obtain ⟨f', e1, e2⟩ := KE_B h (r := l1) hb
    exact ⟨_, f', e1, e2⟩
  · rw [if_neg c1]
    by_cases c2 : l2 = 0
    · rw [if_pos c2]
      obtain ⟨f', e1, e2⟩ := KE_B h (r := r) hb
      exact ⟨_, f', e1, e2⟩
    · rw [if_neg c2]
      obtain ⟨f', e1, e2⟩ := KE_B h (r := l1) hb
      exact ⟨_, f', e1, e2⟩
theorem J57_F {t : Nat → Int} {n : Nat} {ν : Mm} (h : Tx t n ν) {k6 : Int → Int → Int → Mm → Rs} {l1 l2 l3 l4 : Int} {p : Nat} {g : Int} (hg : g ≠ -1) : ∃ r' f', X2_worth_J57 k6 KE l1 l2 l3 l4 (cr ν p g) = some (r', cr ν p f') ∧ f' ≠ -1 :=
  J57_B h (r := 0) (sum_F hg) (Or.inl hg)
/-- what stands behind the clause's y: -/
def bodyE (k6 : Int → Int → Int → Mm → Rs) (l1 l2 l3 : Int) (μ6 : Mm) : Rs := bd (X2_startsCondition μ6) fun v8 μ9 => if v8 = 0 then (X2_worth_J57 k6 KE l1 l2 l3 1 μ9) else (bd (X2_condition_o (X2_unit RD) 0 μ9) fun v29 μ30 => bd (X4_need 63 μ30) fun v32 μ33 => X2_worth_J57 k6 KE l1 l2 l3 v29 μ33)
/-- a clause done: what is known of the answer -/
def nxE (k6 : Int → Int → Int → Mm → Rs) (l1 l2 l3 : Int) (hold : Prop) [Decidable hold] (v : Int) (μ : Mm) : Rs := if hold then (if l2 = 0 then bd (X4_take 59 μ) fun w ν => if w = 0 then KE v ν else k6 v 1 (iA l3 1) ν else bd (X4_take 59 μ) fun w ν => if w = 0 then KE l1 ν else k6 l1 l2 (iA l3 1) ν) else bd (X4_take 59 μ) fun w ν => if w = 0 then KE l1 ν else k6 l1 l2 (iA l3 1) ν
theorem J57_eq {k6 : Int → Int → Int → Mm → Rs} {l1 l2 l3 l4 : Int} {μ μ' : Mm} {v : Int} (hs : X2_sum RD 0 μ = some (v, μ')) (hold : Prop) [Decidable hold] (h4 : hold ↔ l4 ≠ 0) : X2_worth_J57 k6 KE l1 l2 l3 l4 μ = nxE k6 l1 l2 l3 hold v μ' := by
  unfold X2_worth_J57 nxE
  rw [hs, bd_some]
  by_cases c : l4 = 0
  · rw [if_pos c, if_neg (fun z => h4.mp z c)]
  · rw [if_neg c, if_pos (h4.mpr c)]
theorem bodyC {t : Nat → Int} {n : Nat} {ν : Mm} (h : Tx t n ν) (hT : ∀ j, j < n → 1 ≤ t j ∧ t j ≤ 255) (hE : eOK (envC ν)) {p : Nat} (hp : p ≤ n) (k6 : Int → Int → Int → Mm → Rs) (l1 l2 l3 : Int) : match bodyS t n p with
      | none => ∃ r p' f, bodyE k6 l1 l2 l3 (cr ν p (-1)) = some (r, cr ν p' f) ∧ f ≠ -1
      | some q => bodyE k6 l1 l2 l3 (cr ν p (-1)) = nxE k6 l1 l2 l3 (q.1.1 = [] ∨ vl (envC ν) q.1.1 ≠ 0) (vl (envC ν) q.1.2) (cr ν q.2 (-1)) ∧ q.2 ≤ n ∧ p < q.2 := by
  have h160 := h.1
  have hge := sk_ge (t := t) (n := n) p
  have hle := sk_le (t := t) (n := n) p hp
  have sum0 : ∀ p, p ≤ n → CLs t n ν (X2_sum RD 0) p rgT (sumS t n 6 p) := fun p hp => sumC h hT hE 6 RD (by decide) (by decide) p hp
  -- the way with a condition
  have cond : X2_startsCondition (cr ν p (-1)) = some (1, cr ν (sk t n p) (-1)) → match (match conS t n (unitS t n 6) p with | none => none | some q => thenS t n q.1 q.2) with
      | none => ∃ r p' f, bodyE k6 l1 l2 l3 (cr ν p (-1)) = some (r, cr ν p' f) ∧ f ≠ -1
      | some q => bodyE k6 l1 l2 l3 (cr ν p (-1)) = nxE k6 l1 l2 l3 (q.1.1 = [] ∨ vl (envC ν) q.1.1 ≠ 0) (vl (envC ν) q.1.2) (cr ν q.2 (-1)) ∧ q.2 ≤ n ∧ p < q.2 := by
    intro hst
    have e : bodyE k6 l1 l2 l3 (cr ν p (-1)) = bd (X2_condition_o (X2_unit RD) 0 (cr ν (sk t n p) (-1))) fun v29 μ30 => bd (X4_need 63 μ30) fun v32 μ33 => X2_worth_J57 k6 KE l1 l2 l3 v29 μ33 := by
      unfold bodyE
      rw [hst, bd_some, if_neg (by decide)]
    have hC := conC h hE (rec := X2_unit RD) (d := 0) (fun p hp => unitC h hT hE 6 RD (by decide) (by decide) p hp) (unitS_G 6) (p := sk t n p) hle
    have hsk : conS t n (unitS t n 6) (sk t n p) = conS t n (unitS t n 6) p := chS_sk (chS_sk (unitS_sk 6)) p
    rw [hsk] at hC
    have hG := conS_G (t := t) (n := n) (rec := unitS t n 6) (unitS_G 6) p
    revert hC hG
    cases conS t n (unitS t n 6) p with
    | none =>
      rintro ⟨r, p', f, e1, e2, _⟩ _
      obtain ⟨f2, g1, g2⟩ := need_B h e2 (c := 63) (by decide)
      obtain ⟨r3, f3, g3, g4⟩ := J57_F h (k6 := k6) (l1 := l1) (l2 := l2) (l3 := l3) (l4 := r) (p := p') g2
      rw [e1, bd_some, g1, bd_some, g3] at e
      exact ⟨_, _, _, e, g4⟩
    | some q =>
      intro hC hG
      have hC : X2_condition_o (X2_unit RD) 0 (cr ν (sk t n p) (-1)) = some (vl (envC ν) q.1, cr ν q.2 (-1)) := hC
      obtain ⟨hq1, hq2⟩ := hG q hp rfl
      rw [hC, bd_some, need_eq h hq1.2.1 63 (by decide)] at e
      dsimp only
      unfold thenS
      by_cases c : pk t n q.2 = 63
      · have hql := pk_ne (t := t) (n := n) (p := q.2) (by omega)
        have hqg := sk_ge (t := t) (n := n) q.2
        rw [if_pos c, bd_some] at e
        rw [if_pos c]
        have hS := sum0 (sk t n q.2 + 1) (by omega)
        have hG2 := sumS_G (t := t) (n := n) 6 (sk t n q.2 + 1)
        revert hS hG2
        cases sumS t n 6 (sk t n q.2 + 1) with
        | none =>
          rintro ⟨r, p', f, e1, e2, _⟩ _
          obtain ⟨r3, f3, g3, g4⟩ := J57_B h (k6 := k6) (l1 := l1) (l2 := l2) (l3 := l3) (l4 := vl (envC ν) q.1) e1 e2
          exact ⟨_, _, _, e.trans g3, g4⟩
        | some s =>
          intro hS hG2
          have hS : X2_sum RD 0 (cr ν (sk t n q.2 + 1) (-1)) = some (vl (envC ν) s.1, cr ν s.2 (-1)) := hS
          have hs := hG2 s (by omega) rfl
          have hne : q.1 ≠ [] := fun z => by
            have := hq1.2.2.1.2.2.1
            rw [z] at this
            exact absurd this (by decide)
          refine ⟨e.trans (J57_eq hS _ ?_), hs.2.1, by have := hs.1; have := hq1.1; show p < s.2; omega⟩
          show (q.1 = [] ∨ vl (envC ν) q.1 ≠ 0) ↔ _
          constructor
          · rintro (z | z)
            · exact absurd z hne
            · exact z
          · exact Or.inr
      · rw [if_neg c, bd_some] at e
        rw [if_neg c]
        obtain ⟨r3, f3, g3, g4⟩ := J57_F h (k6 := k6) (l1 := l1) (l2 := l2) (l3 := l3) (l4 := vl (envC ν) q.1) (p := sk t n q.2) (g := ((sk t n q.2 : Nat) : Int)) (by omega)
        rw [g3] at e
        exact ⟨_, _, _, e, g4⟩
  unfold bodyS
  by_cases c0 : pk t n p = 33 ∨ pk t n p = 40
  · rw [if_pos c0]
    refine cond ?_
    unfold X2_startsCondition
    rw [peek_eq h hp, bd_some]
    by_cases c1 : pk t n p = 33
    · rw [if_pos c1]
    · rw [if_neg c1, if_pos (c0.resolve_left c1)]
  · rw [if_neg c0]
    have hst : X2_startsCondition (cr ν p (-1)) = bd (X2_sum RD 0 (cr ν (sk t n p) (-1))) fun v6 μ7 => bd (X4_peek μ7) fun v9 μ10 => bd (X2_isComparison v9 μ10) fun v12 μ13 => sF μ13 3 1 ((sk t n p : Nat) : Int) fun μ15 => rZ v12 μ15 := by
      unfold X2_startsCondition
      rw [peek_eq h hp, bd_some, if_neg (fun z => c0 (Or.inl z)), if_neg (fun z => c0 (Or.inr z)), cr_1]
    have hS := sum0 (sk t n p) hle
    rw [sumS_sk 6 p] at hS
    have hG := sumS_G (t := t) (n := n) 6 p
    revert hS hG
    cases sumS t n 6 p with
    | none =>
      rintro ⟨r, p', f, e1, e2, _⟩ _
      obtain ⟨v, g1, g2, g3⟩ := peek_B h e2
      rw [e1, bd_some, g1, bd_some, isCmp_eq, bd_some, cop_dig g2, if_pos rfl] at hst
      unfold sF at hst
      dsimp only at hst
      rw [cr_p, rZ_b (Or.inl rfl)] at hst
      have e : bodyE k6 l1 l2 l3 (cr ν p (-1)) = X2_worth_J57 k6 KE l1 l2 l3 1 (cr ν (sk t n p) f) := by
        unfold bodyE
        rw [hst, bd_some, if_pos rfl]
      by_cases c : f = -1
      · subst c
        obtain ⟨r3, f3, g4, g5⟩ := J57_B h (k6 := k6) (l1 := l1) (l2 := l2) (l3 := l3) (l4 := 1) e1 e2
        exact ⟨_, _, _, e.trans g4, g5⟩
      · obtain ⟨r3, f3, g4, g5⟩ := J57_F h (k6 := k6) (l1 := l1) (l2 := l2) (l3 := l3) (l4 := 1) (p := sk t n p) c
        exact ⟨_, _, _, e.trans g4, g5⟩
    | some s =>
      intro hS hG
      have hS : X2_sum RD 0 (cr ν (sk t n p) (-1)) = some (vl (envC ν) s.1, cr ν s.2 (-1)) := hS
      have hs := hG s hp rfl
      rw [hS, bd_some, peek_eq h hs.2.1, bd_some, isCmp_eq, bd_some] at hst
      unfold sF at hst
      dsimp only at hst
      rw [cr_p] at hst
      dsimp only
      by_cases c : cop (pk t n s.2) = -1
      · rw [if_pos c]
        rw [if_pos c, rZ_b (Or.inl rfl)] at hst
        have e : bodyE k6 l1 l2 l3 (cr ν p (-1)) = X2_worth_J57 k6 KE l1 l2 l3 1 (cr ν (sk t n p) (-1)) := by
          unfold bodyE
          rw [hst, bd_some, if_pos rfl]
        exact ⟨e.trans (J57_eq hS _ (by constructor <;> intro _ <;> first | decide | exact Or.inl rfl)), hs.2.1, hs.1⟩
      · rw [if_neg c]
        rw [if_neg c, rZ_b (Or.inr rfl)] at hst
        exact cond hst
theorem body_F {t : Nat → Int} {n : Nat} {ν : Mm} (h : Tx t n ν) {k6 : Int → Int → Int → Mm → Rs} {l1 l2 l3 : Int} {p : Nat} {g : Int} (hg : g ≠ -1) : ∃ r f, bodyE k6 l1 l2 l3 (cr ν p g) = some (r, cr ν p f) ∧ f ≠ -1 := by
  unfold bodyE
  rw [starts_F hg, bd_some, if_pos rfl]
  exact J57_F h hg
theorem nxE_eq (k6 : Int → Int → Int → Mm → Rs) (l1 l2 l3 : Int) (hold : Prop) [Decidable hold] (v : Int) (μ : Mm) : nxE k6 l1 l2 l3 hold v μ = bd (X4_take 59 μ) fun w ν => if w = 0 then KE (if hold ∧ l2 = 0 then v else l1) ν else k6 (if hold ∧ l2 = 0 then v else l1) (if hold ∧ l2 = 0 then 1 else l2) (iA l3 1) ν := by
  unfold nxE
  by_cases c1 : hold
  · rw [if_pos c1]
    by_cases c2 : l2 = 0
    · rw [if_pos c2, if_pos ⟨c1, c2⟩, if_pos ⟨c1, c2⟩]
    · rw [if_neg c2, if_neg (fun z => c2 z.2), if_neg (fun z => c2 z.2)]
  · rw [if_neg c1, if_neg (fun z => c1 z.1), if_neg (fun z => c1 z.1)]
theorem lawV_c (e : Nat → Int) (x : Cd × Cd) (L : List (Cd × Cd)) : lawV e (x :: L) = if x.1 = [] ∨ vl e x.1 ≠ 0 then vl e x.2 else lawV e L := by
  show (if x.1 = [] then _ else _) = _
  by_cases c : x.1 = []
  · rw [if_pos c, if_pos (Or.inl c)]
  · rw [if_neg c]
    by_cases c2 : vl e x.1 = 0
    · rw [if_pos c2, if_neg (fun z => z.elim c (fun z => z c2))]
    · rw [if_neg c2, if_pos (Or.inr c2)]
theorem nx_val (H : Prop) [Decidable H] (l2 A v l1 : Int) : (if (if H ∧ l2 = 0 then 1 else l2) = 0 then A else (if H ∧ l2 = 0 then v else l1)) = if l2 = 0 then (if H then v else A) else l1 := by
  by_cases c1 : H <;> by_cases c2 : l2 = 0 <;> simp [c1, c2]
/-- the clauses from p on -/
theorem worthC_L {t : Nat → Int} {n : Nat} {ν : Mm} (h : Tx t n ν) (hT : ∀ j, j < n → 1 ≤ t j ∧ t j ≤ 255) (hE : eOK (envC ν)) : ∀ (m fuel p : Nat) (l1 l2 : Int), m ≤ 160 → m < fuel → 320 ≤ p + 2 * m → p ≤ n → (l2 = 0 ∧ l1 = 0 ∨ l2 = 1) → match lawL t n m p with
      | none => ∃ r p' f, X2_worth_L6 KE KE fuel l1 l2 ((160 - m : Nat) : Int) (cr ν p (-1)) = some (r, cr ν p' f) ∧ f ≠ -1
      | some L => ∃ p', X2_worth_L6 KE KE fuel l1 l2 ((160 - m : Nat) : Int) (cr ν p (-1)) = some (if l2 = 0 then lawV (envC ν) L else l1, cr ν p' (-1)) := by
  intro m
  induction m with
  | zero =>
    intro fuel p l1 l2 _ hf hp hpn _
    have := h.1
    omega
  | succ m ih =>
    intro fuel p l1 l2 hm hf hp hpn hl
    obtain ⟨f, rfl, hf'⟩ := lt_fuel (d := m + 1) hf
    have h160 := h.1
    have hge := sk_ge (t := t) (n := n) p
    have hle := sk_le (t := t) (n := n) p hpn
    have hk : iA ((160 - (m + 1) : Nat) : Int) 1 = ((160 - m : Nat) : Int) := by rw [iA_nat (by omega)]; omega
    have e0 : X2_worth_L6 KE KE (f + 1) l1 l2 ((160 - (m + 1) : Nat) : Int) (cr ν p (-1)) = bd (X4_need 121 (cr ν p (-1))) fun v2 μ3 => bd (X4_need 58 μ3) fun v5 μ6 => bodyE (fun w1 w2 w3 μq => X2_worth_L6 KE KE f w1 w2 w3 μq) l1 l2 ((160 - (m + 1) : Nat) : Int) μ6 := by
      rw [X2_worth_L6, if_neg (by omega)]
      rfl
    rw [need_eq h hpn 121 (by decide)] at e0
    unfold lawL clS
    by_cases c1 : pk t n p = 121
    · rw [if_pos c1]
      have hq := pk_ne (t := t) (n := n) (p := p) (by omega)
      have hge2 := sk_ge (t := t) (n := n) (sk t n p + 1)
      have hle2 := sk_le (t := t) (n := n) (sk t n p + 1) (by omega)
      rw [if_pos c1, bd_some, need_eq h (by omega) 58 (by decide)] at e0
      by_cases c2 : pk t n (sk t n p + 1) = 58
      · rw [if_pos c2]
        have hq2 := pk_ne (t := t) (n := n) (p := sk t n p + 1) (by omega)
        rw [if_pos c2, bd_some] at e0
        have hB := bodyC h hT hE (p := sk t n (sk t n p + 1) + 1) (by omega) (fun w1 w2 w3 μq => X2_worth_L6 KE KE f w1 w2 w3 μq) l1 l2 ((160 - (m + 1) : Nat) : Int)
        revert hB
        cases bodyS t n (sk t n (sk t n p + 1) + 1) with
        | none =>
          rintro ⟨r, p', f', g1, g2⟩
          exact ⟨r, p', f', e0.trans g1, g2⟩
        | some q =>
          rintro ⟨g1, g2, g3⟩
          rw [nxE_eq, take_eq h g2 59 (by decide), hk] at g1
          have hge3 := sk_ge (t := t) (n := n) q.2
          have hle3 := sk_le (t := t) (n := n) q.2 g2
          rw [g1] at e0
          dsimp only
          by_cases c3 : pk t n q.2 = 59
          · have hq3 := pk_ne (t := t) (n := n) (p := q.2) (by omega)
            rw [if_pos c3]
            rw [if_pos c3, bd_some, if_neg (by decide)] at e0
            have hI := ih f (sk t n q.2 + 1) (if (q.1.1 = [] ∨ vl (envC ν) q.1.1 ≠ 0) ∧ l2 = 0 then vl (envC ν) q.1.2 else l1) (if (q.1.1 = [] ∨ vl (envC ν) q.1.1 ≠ 0) ∧ l2 = 0 then 1 else l2) (by omega) (by omega) (by omega) (by omega) (by
              by_cases c4 : (q.1.1 = [] ∨ vl (envC ν) q.1.1 ≠ 0) ∧ l2 = 0
              · rw [if_pos c4]; exact Or.inr rfl
              · rw [if_neg c4, if_neg c4]; exact hl)
            revert hI
            cases lawL t n m (sk t n q.2 + 1) with
            | none =>
              rintro ⟨r, p', f', g4, g5⟩
              exact ⟨r, p', f', e0.trans g4, g5⟩
            | some L =>
              rintro ⟨p', g4⟩
              refine ⟨p', e0.trans (g4.trans ?_)⟩
              have hv : (if (if (q.1.1 = [] ∨ vl (envC ν) q.1.1 ≠ 0) ∧ l2 = 0 then 1 else l2) = 0 then lawV (envC ν) L else (if (q.1.1 = [] ∨ vl (envC ν) q.1.1 ≠ 0) ∧ l2 = 0 then vl (envC ν) q.1.2 else l1)) = if l2 = 0 then lawV (envC ν) (q.1 :: L) else l1 := by
                rw [lawV_c]
                exact nx_val _ _ _ _ _
              rw [hv]
          · rw [if_neg c3]
            rw [if_neg c3, bd_some, if_pos rfl] at e0
            unfold KE at e0
            rw [needEnd_eq h hle3, pk_sk, sk_sk] at e0
            by_cases c5 : pk t n q.2 = -1
            · rw [if_pos c5]
              rw [if_pos c5, bd_some] at e0
              refine ⟨sk t n q.2, e0.trans ?_⟩
              have hv : (if (q.1.1 = [] ∨ vl (envC ν) q.1.1 ≠ 0) ∧ l2 = 0 then vl (envC ν) q.1.2 else l1) = if l2 = 0 then lawV (envC ν) [q.1] else l1 := by
                rw [lawV_c]
                by_cases c6 : l2 = 0
                · by_cases c4 : q.1.1 = [] ∨ vl (envC ν) q.1.1 ≠ 0
                  · rw [if_pos ⟨c4, c6⟩, if_pos c6, if_pos c4]
                  · rw [if_neg (fun z => c4 z.1), if_pos c6, if_neg c4]
                    show l1 = 0
                    omega
                · rw [if_neg (fun z => c6 z.2), if_neg c6]
              rw [hv]
            · rw [if_neg c5]
              rw [if_neg c5, bd_some] at e0
              exact ⟨_, _, _, e0, by omega⟩
      · rw [if_neg c2]
        rw [if_neg c2, bd_some] at e0
        obtain ⟨r, f', g1, g2⟩ := body_F h (k6 := fun w1 w2 w3 μq => X2_worth_L6 KE KE f w1 w2 w3 μq) (l1 := l1) (l2 := l2) (l3 := ((160 - (m + 1) : Nat) : Int)) (p := sk t n (sk t n p + 1)) (g := ((sk t n (sk t n p + 1) : Nat) : Int)) (by omega)
        exact ⟨_, _, _, e0.trans g1, g2⟩
    · rw [if_neg c1]
      rw [if_neg c1, bd_some, need_F (by omega) (by decide), bd_some] at e0
      obtain ⟨r, f', g1, g2⟩ := body_F h (k6 := fun w1 w2 w3 μq => X2_worth_L6 KE KE f w1 w2 w3 μq) (l1 := l1) (l2 := l2) (l3 := ((160 - (m + 1) : Nat) : Int)) (p := sk t n p) (g := ((sk t n p : Nat) : Int)) (by omega)
      exact ⟨_, _, _, e0.trans g1, g2⟩
theorem worthC {t : Nat → Int} {n : Nat} {ν : Mm} (h : Tx t n ν) (hT : ∀ j, j < n → 1 ≤ t j ∧ t j ≤ 255) (hE : eOK (envC ν)) : match lawS t n with
      | none => ∃ r p' f, X2_worth (cr ν 0 (-1)) = some (r, cr ν p' f) ∧ f ≠ -1
      | some L => ∃ p', X2_worth (cr ν 0 (-1)) = some (lawV (envC ν) L, cr ν p' (-1)) := by
  have hI := worthC_L h hT hE 160 FU 0 0 0 (by omega) (by decide) (by omega) (by omega) (Or.inl ⟨rfl, rfl⟩)
  have e : X2_worth (cr ν 0 (-1)) = X2_worth_L6 KE KE FU 0 0 ((160 - 160 : Nat) : Int) (cr ν 0 (-1)) := rfl
  unfold lawS
  rw [e]
  revert hI
  cases lawL t n 160 0 with
  | none => exact id
  | some L => exact id
theorem checkC {t : Nat → Int} {n : Nat} {ν : Mm} (h : Tx t n ν) (hT : ∀ j, j < n → 1 ≤ t j ∧ t j ≤ 255) (hE : eOK (envC ν)) : ∃ p' f, X2_check (cr ν 0 (-1)) = some (f, cr ν p' f) ∧ (f = -1 ↔ lawS t n ≠ none) := by
  have hI := worthC h hT hE
  unfold X2_check
  revert hI
  cases lawS t n with
  | none =>
    rintro ⟨r, p', f, e1, e2⟩
    rw [e1, bd_some, cr_2]
    exact ⟨p', f, rfl, fun z => absurd z e2, fun z => absurd rfl z⟩
  | some L =>
    rintro ⟨p', e1⟩
    rw [e1, bd_some, cr_2]
    exact ⟨p', -1, rfl, fun _ => by simp, fun _ => rfl⟩
