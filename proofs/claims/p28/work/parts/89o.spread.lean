/-! WAYS in the reference: by rounds -/
theorem isPl_n2 {μ : Mm} (h6 : μ 70 23 ≤ 6) {a : Int} (ha : rI a) (h : ∀ p : Nat, a = (p : Int) → ¬ (p < 60 ∧ isP μ p)) : X11_isPlace a μ = some (0, μ) := by
  by_cases c : a < 0
  · unfold X11_isPlace
    rw [if_pos c]
  · by_cases c2 : 60 ≤ a
    · unfold X11_isPlace
      have h10 := (iD_10 a ha).1
      rw [if_neg c, if_pos (by omega)]
    · obtain ⟨p, rfl⟩ : ∃ p : Nat, a = (p : Int) := ⟨a.toNat, by omega⟩
      exact isPl_n (by omega) (fun z => h p rfl ⟨by omega, z⟩)
/-- what looking at one place does -/
def RE (O : Nat → Prop) (a v : Int) (ν ν' : Mm) : Prop := (∀ k, k ≠ 87 → ν' k = ν k) ∧ (∀ p, p < 60 → (ν 87 p ≠ -1 → ν' 87 p = ν 87 p) ∧ (ν 87 p = -1 → (a = (p : Int) → O p → ν' 87 p = v) ∧ (¬ (a = (p : Int) ∧ O p) → ν' 87 p = -1)))
theorem opM_f {ν ν' : Mm} (h : ∀ k, k ≠ 87 → ν' k = ν k) (p : Nat) : opM ν' p ↔ opM ν p := by
  unfold opM isP
  rw [h 70 (by decide), h 82 (by decide)]
theorem rchM {O : Nat → Prop} {ν : Mm} (h6 : ν 70 23 ≤ 6) (hO : ∀ p, opM ν p ↔ O p) {a v : Int} (ha : rI a) : ∃ ν', X11_reach a v ν = some (0, ν') ∧ RE O a v ν ν' := by
  by_cases c : ∃ p : Nat, a = (p : Int) ∧ p < 60 ∧ isP ν p
  · obtain ⟨p, rfl, hp, ip⟩ := c
    have e : X11_reach (p : Int) v ν = if ν 82 p = 1 then some (0, ν) else (if ν 87 p = -1 then some (0, sM ν 87 p v) else some (0, ν)) := by
      unfold X11_reach
      rw [isPl_y hp ip, bd_some, if_neg (by decide)]
      unfold ldA stA
      rw [if_pos (by show (0 : Int) ≤ (p : Int) ∧ (p : Int) < 60; omega), Int.toNat_natCast]
      dsimp only
      by_cases c1 : ν 82 p = 1
      · rw [if_pos c1, if_pos c1]
      · rw [if_neg c1, if_neg c1, if_pos (by show (0 : Int) ≤ (p : Int) ∧ (p : Int) < 60; omega)]
        by_cases c2 : ν 87 p = -1
        · rw [if_pos c2, if_pos c2, if_pos (by show (0 : Int) ≤ (p : Int) ∧ (p : Int) < 60; omega)]
        · rw [if_neg c2, if_neg c2]
    rw [e]
    by_cases c1 : ν 82 p = 1
    · refine ⟨ν, by rw [if_pos c1], fun _ _ => rfl, fun q hq => ⟨fun _ => rfl, fun z => ⟨fun e2 ho => ?_, fun _ => z⟩⟩⟩
      have e3 : q = p := by omega
      rw [e3] at ho
      exact absurd c1 ((hO p).mpr ho).2.2
    · rw [if_neg c1]
      by_cases c2 : ν 87 p = -1
      · refine ⟨sM ν 87 p v, by rw [if_pos c2], fun k hk => by funext j; exact sM_a hk, fun q hq => ⟨fun z => ?_, fun z => ⟨fun e2 _ => ?_, fun n => ?_⟩⟩⟩
        · rw [sM_if, if_neg (fun e3 => z (by rw [e3]; exact c2))]
        · rw [sM_if, if_pos (by omega)]
        · have e3 : q ≠ p := fun e3 => n ⟨by rw [e3], (hO q).mp (by rw [e3]; exact ⟨hp, ip, c1⟩)⟩
          rw [sM_if, if_neg e3]; exact z
      · refine ⟨ν, by rw [if_neg c2], fun _ _ => rfl, fun q hq => ⟨fun _ => rfl, fun z => ⟨fun e2 _ => ?_, fun _ => z⟩⟩⟩
        have e3 : q = p := by omega
        rw [e3] at z
        exact absurd z c2
  · refine ⟨ν, ?_, fun _ _ => rfl, fun q hq => ⟨fun _ => rfl, fun z => ⟨fun e2 ho => ?_, fun _ => z⟩⟩⟩
    · unfold X11_reach
      rw [isPl_n2 h6 ha (fun p e h => c ⟨p, e, h.1, h.2⟩), bd_some, if_pos rfl]
    · have := (hO q).mpr ho
      exact absurd ⟨q, e2, this.1, this.2.1⟩ c
/-- the round n, over the places ahead of k -/
def SI (O : Nat → Prop) (n k : Nat) (ν ν' : Mm) : Prop := (∀ c, c ≠ 87 → ν' c = ν c) ∧ (∀ p, p < 60 → (ν 87 p ≠ -1 → ν' 87 p = ν 87 p) ∧ (ν 87 p = -1 → ((O p ∧ ∃ q, q < k ∧ ν 87 q = (n : Int) ∧ adj q p) → ν' 87 p = ((n + 1 : Nat) : Int)) ∧ (¬ (O p ∧ ∃ q, q < k ∧ ν 87 q = (n : Int) ∧ adj q p) → ν' 87 p = -1)))
def fS (n k : Nat) (f : Int) (ν : Mm) : Prop := (f = 1 ∧ ∃ q, q < k ∧ ν 87 q = (n : Int)) ∨ (f = 0 ∧ ∀ q, q < k → ν 87 q ≠ (n : Int))
theorem SI_0 {O : Nat → Prop} {n : Nat} {ν : Mm} : SI O n 0 ν ν :=
  ⟨fun _ _ => rfl, fun p hp => ⟨fun _ => rfl, fun z => ⟨fun h => h.2.elim (fun q y => absurd y.1 (by omega)), fun _ => z⟩⟩⟩
/-- four places are looked at -/
theorem four4 {O : Nat → Prop} {a1 a2 a3 a4 v : Int} (hv : v ≠ -1) {ν ν1 ν2 ν3 ν4 : Mm} (h1 : RE O a1 v ν ν1) (h2 : RE O a2 v ν1 ν2) (h3 : RE O a3 v ν2 ν3) (h4 : RE O a4 v ν3 ν4) : (∀ c, c ≠ 87 → ν4 c = ν c) ∧ ∀ p, p < 60 → (ν 87 p ≠ -1 → ν4 87 p = ν 87 p) ∧ (ν 87 p = -1 → ((O p ∧ (a1 = (p : Int) ∨ a2 = (p : Int) ∨ a3 = (p : Int) ∨ a4 = (p : Int))) → ν4 87 p = v) ∧ (¬ (O p ∧ (a1 = (p : Int) ∨ a2 = (p : Int) ∨ a3 = (p : Int) ∨ a4 = (p : Int))) → ν4 87 p = -1)) := by
  refine ⟨fun c hc => by rw [h4.1 c hc, h3.1 c hc, h2.1 c hc, h1.1 c hc], fun p hp => ?_⟩
  have k1 := h1.2 p hp
  have k2 := h2.2 p hp
  have k3 := h3.2 p hp
  have k4 := h4.2 p hp
  have st : ∀ {x : Mm} , x 87 p = v → x 87 p ≠ -1 := fun e => by rw [e]; exact hv
  constructor
  · intro z
    have e1 := k1.1 z
    have e2 := k2.1 (by rw [e1]; exact z)
    have e3 := k3.1 (by rw [e2, e1]; exact z)
    have e4 := k4.1 (by rw [e3, e2, e1]; exact z)
    rw [e4, e3, e2, e1]
  · intro z
    by_cases o : O p
    · by_cases c1 : a1 = (p : Int)
      · have e1 := (k1.2 z).1 c1 o
        have e2 := k2.1 (st e1)
        have e3 := k3.1 (by rw [e2]; exact st e1)
        have e4 := k4.1 (by rw [e3, e2]; exact st e1)
        exact ⟨fun _ => by rw [e4, e3, e2, e1], fun n => absurd ⟨o, Or.inl c1⟩ n⟩
      · have e1 := (k1.2 z).2 (fun y => c1 y.1)
        by_cases c2 : a2 = (p : Int)
        · have e2 := (k2.2 e1).1 c2 o
          have e3 := k3.1 (st e2)
          have e4 := k4.1 (by rw [e3]; exact st e2)
          exact ⟨fun _ => by rw [e4, e3, e2], fun n => absurd ⟨o, Or.inr (Or.inl c2)⟩ n⟩
        · have e2 := (k2.2 e1).2 (fun y => c2 y.1)
          by_cases c3 : a3 = (p : Int)
          · have e3 := (k3.2 e2).1 c3 o
            have e4 := k4.1 (st e3)
            exact ⟨fun _ => by rw [e4, e3], fun n => absurd ⟨o, Or.inr (Or.inr (Or.inl c3))⟩ n⟩
          · have e3 := (k3.2 e2).2 (fun y => c3 y.1)
            by_cases c4 : a4 = (p : Int)
            · have e4 := (k4.2 e3).1 c4 o
              exact ⟨fun _ => e4, fun n => absurd ⟨o, Or.inr (Or.inr (Or.inr c4))⟩ n⟩
            · have e4 := (k4.2 e3).2 (fun y => c4 y.1)
              refine ⟨fun y => ?_, fun _ => e4⟩
              rcases y.2 with y | y | y | y
              · exact absurd y c1
              · exact absurd y c2
              · exact absurd y c3
              · exact absurd y c4
    · have e1 := (k1.2 z).2 (fun y => o y.2)
      have e2 := (k2.2 e1).2 (fun y => o y.2)
      have e3 := (k3.2 e2).2 (fun y => o y.2)
      have e4 := (k4.2 e3).2 (fun y => o y.2)
      exact ⟨fun y => absurd y.1 o, fun _ => e4⟩
theorem J104_eq {K : Int → Int → Mm → Rs} {l2 l3 l4 s1 : Int} {μ ν3 ν4 : Mm} {s2 : Int} (h3 : X11_reach s1 (iA l3 1) μ = some (0, ν3)) (hs : s2 = if 9 ≤ (iR l4 10) then -1 else iA l4 1) (h4 : X11_reach s2 (iA l3 1) ν3 = some (0, ν4)) : X11_spread_J104 K l2 l3 l4 s1 μ = K l2 (iA l4 1) ν4 := by
  unfold X11_spread_J104
  rw [h3, bd_some]
  by_cases c : 9 ≤ (iR l4 10)
  · rw [if_pos c] at hs ⊢
    rw [← hs, h4, bd_some]
  · rw [if_neg c] at hs ⊢
    rw [← hs, h4, bd_some]
theorem iA_n2 {p : Nat} (h : p ≤ 2000000) : iA (p : Int) 1 = ((p + 1 : Nat) : Int) := by
  rw [iA_id (by omega) (by omega)]
  rfl
theorem L43_p {O : Nat → Prop} {n : Nat} (hn : n ≤ 1000000) {K : Int → Mm → Rs} {ν : Mm} (h6 : ν 70 23 ≤ 6) (h9 : ν 70 24 ≤ 9) (hO : ∀ p, opM ν p ↔ O p) (hq8 : ∀ q, q < 60 → ν 87 q = (n : Int) → O q) {q : Int × Mm} : ∀ (fuel k : Nat) (l2 : Int) (ν' : Mm), X11_spread_L43 (n : Int) K fuel l2 (k : Int) ν' = some q → k ≤ 60 → SI O n k ν ν' → fS n k l2 ν → ∃ f ν'', K f ν'' = some q ∧ SI O n 60 ν ν'' ∧ fS n 60 f ν := by
  intro fuel
  induction fuel with
  | zero => intro k l2 ν' e; cases e
  | succ fuel ih =>
    intro k l2 ν' e hk hS hF
    have e' : (if 60 ≤ (k : Int) then (K l2 ν') else (ldA ν' 87 (k : Int) fun v10 => if v10 = (n : Int) then (bd (X11_reach (iS (k : Int) 10) (iA (n : Int) 1) ν') fun v13 μ14 => bd (X11_reach (iA (k : Int) 10) (iA (n : Int) 1) μ14) fun v16 μ17 => if (iR (k : Int) 10) ≤ 0 then (X11_spread_J104 (fun w2 w4 μq => X11_spread_L43 (n : Int) K fuel w2 w4 μq) 1 (n : Int) (k : Int) (-1) μ17) else (X11_spread_J104 (fun w2 w4 μq => X11_spread_L43 (n : Int) K fuel w2 w4 μq) 1 (n : Int) (k : Int) (iS (k : Int) 1) μ17)) else (X11_spread_L43 (n : Int) K fuel l2 (iA (k : Int) 1) ν'))) = some q := e
    by_cases c : k = 60
    · rw [if_pos (by omega)] at e'
      subst c
      exact ⟨l2, ν', e', hS, hF⟩
    · have hk6 : k < 60 := by omega
      rw [if_neg (by omega)] at e'
      unfold ldA at e'
      rw [if_pos (by show (0 : Int) ≤ (k : Int) ∧ (k : Int) < 60; omega), Int.toNat_natCast] at e'
      dsimp only at e'
      have hO' : ∀ p, opM ν' p ↔ O p := fun p => (opM_f hS.1 p).trans (hO p)
      have g6 : ν' 70 23 ≤ 6 := by rw [hS.1 70 (by decide)]; exact h6
      have ek : iA (k : Int) 1 = ((k + 1 : Nat) : Int) := iA_nat (by omega)
      have en : iA (n : Int) 1 = ((n + 1 : Nat) : Int) := iA_n2 (by omega)
      have iff : ν' 87 k = (n : Int) ↔ ν 87 k = (n : Int) := by
        have z := hS.2 k hk6
        by_cases y : ν 87 k = -1
        · have z2 := z.2 y
          by_cases x : (O k ∧ ∃ q, q < k ∧ ν 87 q = (n : Int) ∧ adj q k)
          · rw [z2.1 x, y]
            exact ⟨fun w => absurd w (by omega), fun w => absurd w (by omega)⟩
          · rw [z2.2 x, y]
        · rw [z.1 y]
      by_cases c2 : ν' 87 k = (n : Int)
      · have c3 := iff.mp c2
        rw [if_pos c2, en] at e'
        have d10 := iR_10 (k : Int) ⟨by omega, by omega⟩
        have hm : iR (k : Int) 10 = (k : Int) % 10 := d10.2.2.resolve_left (by omega)
        rw [hm, iS_id (a := (k : Int)) (b := 10) (by omega) (by omega), iA_id (a := (k : Int)) (b := 10) (by omega) (by omega), iS_id (a := (k : Int)) (b := 1) (by omega) (by omega)] at e'
        obtain ⟨ν1, r1, s1⟩ := rchM g6 hO' (a := (k : Int) - 10) (v := ((n + 1 : Nat) : Int)) ⟨by omega, by omega⟩
        have hO1 : ∀ p, opM ν1 p ↔ O p := fun p => (opM_f s1.1 p).trans (hO' p)
        have g61 : ν1 70 23 ≤ 6 := by rw [s1.1 70 (by decide)]; exact g6
        obtain ⟨ν2, r2, s2⟩ := rchM g61 hO1 (a := (k : Int) + 10) (v := ((n + 1 : Nat) : Int)) ⟨by omega, by omega⟩
        have hO2 : ∀ p, opM ν2 p ↔ O p := fun p => (opM_f s2.1 p).trans (hO1 p)
        have g62 : ν2 70 23 ≤ 6 := by rw [s2.1 70 (by decide)]; exact g61
        rw [r1, bd_some, r2, bd_some] at e'
        obtain ⟨a3, ha3⟩ : ∃ a3 : Int, a3 = if (k : Int) % 10 ≤ 0 then -1 else (k : Int) - 1 := ⟨_, rfl⟩
        obtain ⟨a4, ha4⟩ : ∃ a4 : Int, a4 = if 9 ≤ (k : Int) % 10 then -1 else (k : Int) + 1 := ⟨_, rfl⟩
        have b3 : rI a3 := by rw [ha3]; unfold rI; split <;> omega
        have b4 : rI a4 := by rw [ha4]; unfold rI; split <;> omega
        obtain ⟨ν3, r3, s3⟩ := rchM g62 hO2 (a := a3) (v := ((n + 1 : Nat) : Int)) b3
        have hO3 : ∀ p, opM ν3 p ↔ O p := fun p => (opM_f s3.1 p).trans (hO2 p)
        have g63 : ν3 70 23 ≤ 6 := by rw [s3.1 70 (by decide)]; exact g62
        obtain ⟨ν4, r4, s4⟩ := rchM g63 hO3 (a := a4) (v := ((n + 1 : Nat) : Int)) b4
        have e4 : X11_spread_L43 (n : Int) K fuel 1 ((k + 1 : Nat) : Int) ν4 = some q := by
          have ej := J104_eq (K := fun w2 w4 μq => X11_spread_L43 (n : Int) K fuel w2 w4 μq) (l2 := 1) (l3 := (n : Int)) (l4 := (k : Int)) (s1 := a3) (μ := ν2) (ν3 := ν3) (ν4 := ν4) (s2 := a4) (by rw [en]; exact r3) (by rw [ha4, hm, ek, ← ek, iA_id (by omega) (by omega)]) (by rw [en]; exact r4)
          rw [ek] at ej
          by_cases c5 : (k : Int) % 10 ≤ 0
          · rw [if_pos c5] at e' ha3
            rw [← ha3, ej] at e'
            exact e'
          · rw [if_neg c5] at e' ha3
            rw [← ha3, ej] at e'
            exact e'
        have hf := four4 (by omega) s1 s2 s3 s4
        have had : ∀ p, p < 60 → O p → (((k : Int) - 10 = (p : Int) ∨ (k : Int) + 10 = (p : Int) ∨ a3 = (p : Int) ∨ a4 = (p : Int)) ↔ adj k p) := by
          intro p hp hop
          have ip := ((hO p).mpr hop).2.1
          have w8 : ((p % 10 : Nat) : Int) < ν 70 24 := ip.2
          have w9 : ((k % 10 : Nat) : Int) < ν 70 24 := ((hO k).mpr (hq8 k hk6 c3)).2.1.2
          rw [ha3, ha4]
          unfold adj
          constructor
          · rintro (z | z | z | z)
            · omega
            · omega
            · split at z <;> omega
            · split at z <;> omega
          · rintro (z | z | z | z)
            · right; left; omega
            · left; omega
            · right; right; right; rw [if_neg (by omega)]; omega
            · right; right; left; rw [if_neg (by omega)]; omega
        refine ih (k + 1) 1 ν4 e4 (by omega) ⟨fun c hc => by rw [hf.1 c hc, hS.1 c hc], fun p hp => ?_⟩ (Or.inl ⟨rfl, k, by omega, c3⟩)
        have z := hS.2 p hp
        have y := hf.2 p hp
        constructor
        · intro x
          rw [y.1 (by rw [z.1 x]; exact x), z.1 x]
        · intro x
          by_cases w : (O p ∧ ∃ q, q < k ∧ ν 87 q = (n : Int) ∧ adj q p)
          · have z2 := (z.2 x).1 w
            have y2 := y.1 (by rw [z2]; omega)
            rw [y2, z2]
            exact ⟨fun _ => rfl, fun v => absurd ⟨w.1, w.2.elim (fun q u => ⟨q, by omega, u.2⟩)⟩ v⟩
          · have z2 := (z.2 x).2 w
            have y2 := y.2 z2
            by_cases o : O p
            · by_cases u : adj k p
              · rw [y2.1 ⟨o, (had p hp o).mpr u⟩]
                exact ⟨fun _ => rfl, fun v => absurd ⟨o, k, by omega, c3, u⟩ v⟩
              · rw [y2.2 (fun v => u ((had p hp o).mp v.2))]
                refine ⟨fun v => ?_, fun _ => rfl⟩
                obtain ⟨_, q', q1, q2, q3⟩ := v
                by_cases qk : q' = k
                · rw [qk] at q3; exact absurd q3 u
                · exact absurd ⟨o, q', by omega, q2, q3⟩ w
            · rw [y2.2 (fun v => o v.1)]
              exact ⟨fun v => absurd v.1 o, fun _ => rfl⟩
      · have c3 : ν 87 k ≠ (n : Int) := fun z => c2 (iff.mpr z)
        rw [if_neg c2, ek] at e'
        refine ih (k + 1) l2 ν' e' (by omega) ⟨hS.1, fun p hp => ?_⟩ ?_
        · have z := hS.2 p hp
          refine ⟨z.1, fun x => ⟨fun w => (z.2 x).1 ⟨w.1, ?_⟩, fun w => (z.2 x).2 (fun v => w ⟨v.1, v.2.elim (fun q u => ⟨q, by omega, u.2⟩)⟩)⟩⟩
          obtain ⟨q', q1, q2, q3⟩ := w.2
          by_cases qk : q' = k
          · rw [qk] at q2; exact absurd q2 c3
          · exact ⟨q', by omega, q2, q3⟩
        · rcases hF with ⟨f1, q', q1, q2⟩ | ⟨f1, f2⟩
          · exact Or.inl ⟨f1, q', by omega, q2⟩
          · refine Or.inr ⟨f1, fun q' q1 => ?_⟩
            by_cases qk : q' = k
            · rw [qk]; exact c3
            · exact f2 q' (by omega)
def LM (O : Nat → Prop) (s n : Nat) (ν : Mm) : Prop := ∀ p, p < 60 → (ν 87 p = -1 ∧ ∀ m, m ≤ n → ¬ lv O s m p) ∨ (∃ d : Nat, d ≤ n ∧ ν 87 p = (d : Int) ∧ lv O s d p ∧ ∀ m, m < d → ¬ lv O s m p)
theorem lv_60 {O : Nat → Prop} (hO : ∀ p, O p → p < 60) {s : Nat} (hs : s < 60) {n p : Nat} (h : lv O s n p) : p < 60 := by
  cases n with
  | zero => have e : p = s := h; omega
  | succ n => exact hO p h.1
theorem LM_n {O : Nat → Prop} (hO : ∀ p, O p → p < 60) {s n : Nat} (hs : s < 60) {ν ν' : Mm} (h : LM O s n ν) (hS : SI O n 60 ν ν') : LM O s (n + 1) ν' := by
  intro p hp
  have z := hS.2 p hp
  rcases h p hp with ⟨h1, h2⟩ | ⟨d, h0, h1, h2, h3⟩
  · by_cases c : (O p ∧ ∃ q, q < 60 ∧ ν 87 q = (n : Int) ∧ adj q p)
    · obtain ⟨o, q, q1, q2, q3⟩ := c
      refine Or.inr ⟨n + 1, Nat.le_refl _, (z.2 h1).1 ⟨o, q, q1, q2, q3⟩, ⟨o, q, ?_, q3⟩, fun m hm => h2 m (by omega)⟩
      rcases h q q1 with ⟨k1, _⟩ | ⟨d, _, k1, k2, _⟩
      · omega
      · have e : d = n := by omega
        rw [← e]; exact k2
    · refine Or.inl ⟨(z.2 h1).2 c, fun m hm hl => ?_⟩
      by_cases cm : m ≤ n
      · exact h2 m cm hl
      · have e : m = n + 1 := by omega
        rw [e] at hl
        obtain ⟨o, q, q2, q3⟩ := hl
        have q1 := lv_60 hO hs q2
        rcases h q q1 with ⟨_, k2⟩ | ⟨d, d0, k1, k2, k3⟩
        · exact k2 n (Nat.le_refl _) q2
        · by_cases cd : d = n
          · exact c ⟨o, q, q1, by rw [k1, cd], q3⟩
          · exact h2 (d + 1) (by omega) ⟨o, q, k2, q3⟩
  · exact Or.inr ⟨d, by omega, by rw [z.1 (by omega)]; exact h1, h2, h3⟩
theorem LM_e {O : Nat → Prop} (hO : ∀ p, O p → p < 60) {s n : Nat} (hs : s < 60) {ν : Mm} (h : LM O s n ν) (hn : ∀ q, q < 60 → ν 87 q ≠ (n : Int)) : ds O s (ν 87) := by
  have k : ∀ m p, p < 60 → lv O s m p → ν 87 p ≠ -1 := by
    intro m
    induction m with
    | zero =>
      intro p hp hl e
      rcases h p hp with ⟨_, h2⟩ | ⟨d, _, h1, _⟩
      · exact h2 0 (Nat.zero_le _) hl
      · omega
    | succ m ih =>
      intro p hp hl e
      obtain ⟨o, q, q2, q3⟩ := hl
      have q1 := lv_60 hO hs q2
      rcases h p hp with ⟨_, h2⟩ | ⟨d, _, h1, _⟩
      · rcases h q q1 with ⟨k1, _⟩ | ⟨d, d0, k1, k2, _⟩
        · exact ih q q1 q2 k1
        · have : d ≠ n := fun z => hn q q1 (by rw [k1, z])
          exact h2 (d + 1) (by omega) ⟨o, q, k2, q3⟩
      · omega
  intro p hp
  rcases h p hp with ⟨h1, _⟩ | ⟨d, _, h1, h2, h3⟩
  · exact Or.inl ⟨h1, fun m hl => k m p hp hl h1⟩
  · exact Or.inr ⟨d, h1, h2, h3⟩
theorem L34_p {O : Nat → Prop} (hO6 : ∀ p, O p → p < 60) {s : Nat} (hs : s < 60) (hOs : O s) {r : Int} {μ' : Mm} : ∀ (fuel n : Nat) (l2 : Int) (ν : Mm), X11_spread_L34 fuel l2 (n : Int) ν = some (r, μ') → n + fuel ≤ 1000000 → ν 70 23 ≤ 6 → ν 70 24 ≤ 9 → (∀ p, opM ν p ↔ O p) → LM O s n ν → (l2 = 0 → ds O s (ν 87)) → ds O s (μ' 87) ∧ ∀ c, c ≠ 87 → μ' c = ν c := by
  intro fuel
  induction fuel with
  | zero => intro n l2 ν e; cases e
  | succ fuel ih =>
    intro n l2 ν e hb h6 h9 hO hL h0
    have e' : (if l2 = 0 then (some (0, ν)) else (X11_spread_L43 (n : Int) (fun v30 μ31 => X11_spread_L34 fuel v30 (iA (n : Int) 1) μ31) FU 0 0 ν)) = some (r, μ') := e
    by_cases c : l2 = 0
    · rw [if_pos c] at e'
      cases e'
      exact ⟨h0 c, fun _ _ => rfl⟩
    · rw [if_neg c] at e'
      have e2 : X11_spread_L43 (n : Int) (fun v30 μ31 => X11_spread_L34 fuel v30 (iA (n : Int) 1) μ31) FU 0 ((0 : Nat) : Int) ν = some (r, μ') := e'
      obtain ⟨f, ν', e3, hS, hF⟩ := L43_p (by omega) h6 h9 hO (fun q hq e => by
        rcases hL q hq with ⟨h1, _⟩ | ⟨d, _, h1, h2, _⟩
        · omega
        · cases d with
          | zero => have e3 : q = s := h2; rw [e3]; exact hOs
          | succ d => exact h2.1) FU 0 0 ν e2 (by decide) SI_0 (Or.inr ⟨rfl, fun q hq => absurd hq (by omega)⟩)
      rw [iA_n2 (by omega)] at e3
      have hO' : ∀ p, opM ν' p ↔ O p := fun p => (opM_f hS.1 p).trans (hO p)
      have hL' := LM_n hO6 hs hL hS
      have fin := ih (n + 1) f ν' e3 (by omega) (by rw [hS.1 70 (by decide)]; exact h6) (by rw [hS.1 70 (by decide)]; exact h9) hO' hL' (fun hf => ?_)
      · exact ⟨fin.1, fun c hc => by rw [fin.2 c hc, hS.1 c hc]⟩
      · rcases hF with ⟨f1, _⟩ | ⟨_, f2⟩
        · omega
        · refine ds_g (fun p hp => ?_) (LM_e hO6 hs hL f2)
          have z := hS.2 p hp
          by_cases y : ν 87 p = -1
          · rw [(z.2 y).2 (fun w => w.2.elim (fun q u => f2 q u.1 u.2.1)), y]
          · exact z.1 y
theorem L2_p {s : Nat} (K : Mm → Rs) {q : Int × Mm} : ∀ (fuel k : Nat) (ν : Mm), X11_spread_L2 (s : Int) K fuel (k : Int) ν = some q → k ≤ 60 → ∃ ν', K ν' = some q ∧ (∀ c, c ≠ 87 → ν' c = ν c) ∧ (∀ j, j < k → ν' 87 j = ν 87 j) ∧ ∀ j, k ≤ j → j < 60 → ν' 87 j = if j = s then 0 else -1 := by
  intro fuel
  induction fuel with
  | zero => intro k ν e; cases e
  | succ fuel ih =>
    intro k ν e hk
    have e' : (if 60 ≤ (k : Int) then (K ν) else (if (k : Int) = (s : Int) then (stA ν 87 (k : Int) 0 fun μ5 => X11_spread_L2 (s : Int) K fuel (iA (k : Int) 1) μ5) else (stA ν 87 (k : Int) (-1) fun μ3 => X11_spread_L2 (s : Int) K fuel (iA (k : Int) 1) μ3))) = some q := e
    by_cases c : k = 60
    · rw [if_pos (by omega)] at e'
      exact ⟨ν, e', fun _ _ => rfl, fun _ _ => rfl, fun j h1 h2 => absurd h1 (by omega)⟩
    · rw [if_neg (by omega)] at e'
      have step : ∀ v : Int, v = (if k = s then 0 else -1) → X11_spread_L2 (s : Int) K fuel ((k + 1 : Nat) : Int) (sM ν 87 k v) = some q → ∃ ν', K ν' = some q ∧ (∀ c, c ≠ 87 → ν' c = ν c) ∧ (∀ j, j < k → ν' 87 j = ν 87 j) ∧ ∀ j, k ≤ j → j < 60 → ν' 87 j = if j = s then 0 else -1 := by
        intro v hv e2
        obtain ⟨ν', g1, g2, g3, g4⟩ := ih (k + 1) _ e2 (by omega)
        refine ⟨ν', g1, fun c hc => ?_, fun j hj => ?_, fun j h1 h2 => ?_⟩
        · rw [g2 c hc]; funext i; exact sM_a hc
        · rw [g3 j (by omega), sM_j (by omega)]
        · by_cases cj : j = k
          · rw [cj, g3 k (by omega), sM_s]; exact hv
          · exact g4 j (by omega) h2
      unfold stA at e'
      by_cases c2 : k = s
      · rw [if_pos (by omega), if_pos (by show (0 : Int) ≤ (k : Int) ∧ (k : Int) < 60; omega), Int.toNat_natCast, iA_nat (by omega)] at e'
        exact step 0 (by rw [if_pos c2]) e'
      · rw [if_neg (by omega), if_pos (by show (0 : Int) ≤ (k : Int) ∧ (k : Int) < 60; omega), Int.toNat_natCast, iA_nat (by omega)] at e'
        exact step (-1) (by rw [if_neg c2]) e'
/-- WAYS from a place, in the reference: how far each is -/
theorem sprM {μ : Mm} (hB : Bm μ) {s : Nat} (hsO : opM μ s) : ∃ r ν, X11_spread (s : Int) μ = some (r, ν) ∧ (∀ c, c ≠ 87 → ν c = μ c) ∧ (∀ j, rI (ν 87 j)) ∧ ds (opM μ) s (ν 87) := by
  have hs := hsO.1
  obtain ⟨r, ν, e, h1, h2⟩ := wp_ex (w_spread (s : Int) hB)
  refine ⟨r, ν, e, h1, h2, ?_⟩
  have e' : X11_spread_L2 (s : Int) (fun μ7 => X11_spread_L34 FU 1 0 μ7) FU ((0 : Nat) : Int) μ = some (r, ν) := e
  obtain ⟨ν', g1, g2, _, g4⟩ := L2_p _ FU 0 μ e' (by decide)
  have g1' : X11_spread_L34 FU 1 ((0 : Nat) : Int) ν' = some (r, ν) := g1
  have hO : ∀ p, opM ν' p ↔ opM μ p := opM_f g2
  have e70 : ν' 70 = μ 70 := g2 70 (by decide)
  refine (L34_p (fun p h => h.1) hs hsO FU 0 1 ν' g1' (by decide) (by rw [e70]; exact (hB 70 23 (by decide)).2) (by rw [e70]; exact (hB 70 24 (by decide)).2) hO (fun p hp => ?_) (fun z => absurd z (by decide))).1
  have h4 := g4 p (Nat.zero_le _) hp
  by_cases c : p = s
  · rw [if_pos c] at h4
    exact Or.inr ⟨0, Nat.le_refl _, h4, c, fun m hm => absurd hm (by omega)⟩
  · rw [if_neg c] at h4
    refine Or.inl ⟨h4, fun m hm hl => ?_⟩
    have e0 : m = 0 := by omega
    rw [e0] at hl
    exact c hl
