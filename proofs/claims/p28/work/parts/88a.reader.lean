/-! THE READERS of both systems over one text: t its bytes, n how many -/
def skF (t : Nat → Int) (n : Nat) : Nat → Nat → Nat
  | 0, p => p
  | d + 1, p => if p < n ∧ t p = 32 then skF t n d (p + 1) else p
/-- behind blanks -/
def sk (t : Nat → Int) (n p : Nat) : Nat := skF t n (n - p) p
/-- the sign that is looked at; -1 at the end -/
def pk (t : Nat → Int) (n p : Nat) : Int := if sk t n p < n then t (sk t n p) else -1
theorem sk_id {t : Nat → Int} {n p : Nat} (h : ¬ (p < n ∧ t p = 32)) : sk t n p = p := by
  unfold sk
  cases hd : n - p with
  | zero => rfl
  | succ d => show (if p < n ∧ t p = 32 then _ else p) = p; rw [if_neg h]
theorem sk_step {t : Nat → Int} {n p : Nat} (h : p < n) (h2 : t p = 32) : sk t n p = sk t n (p + 1) := by
  unfold sk
  obtain ⟨d, hd⟩ : ∃ d, n - p = d + 1 := ⟨n - p - 1, by omega⟩
  have h3 : n - (p + 1) = d := by omega
  rw [hd, h3]
  show (if p < n ∧ t p = 32 then _ else p) = _
  rw [if_pos ⟨h, h2⟩]
theorem sk_ind {t : Nat → Int} {n : Nat} {P : Nat → Prop} (h1 : ∀ p, ¬ (p < n ∧ t p = 32) → P p) (h2 : ∀ p, p < n → t p = 32 → P (p + 1) → P p) : ∀ (d p : Nat), n ≤ p + d → P p := by
  intro d
  induction d with
  | zero => intro p hp; exact h1 p (fun h => by omega)
  | succ d ih =>
    intro p hp
    by_cases c : p < n ∧ t p = 32
    · exact h2 p c.1 c.2 (ih (p + 1) (by omega))
    · exact h1 p c
theorem sk_ge {t : Nat → Int} {n : Nat} (p : Nat) : p ≤ sk t n p :=
  sk_ind (P := fun p => p ≤ sk t n p) (fun p h => by rw [sk_id h]; exact Nat.le_refl _) (fun p h1 h2 h => by rw [sk_step h1 h2]; omega) n p (by omega)
theorem sk_le {t : Nat → Int} {n : Nat} (p : Nat) : p ≤ n → sk t n p ≤ n :=
  sk_ind (P := fun p => p ≤ n → sk t n p ≤ n) (fun p h hp => by rw [sk_id h]; exact hp) (fun p h1 h2 h _ => by rw [sk_step h1 h2]; exact h (by omega)) n p (by omega)
theorem sk_stop {t : Nat → Int} {n : Nat} (p : Nat) : ¬ (sk t n p < n ∧ t (sk t n p) = 32) :=
  sk_ind (P := fun p => ¬ (sk t n p < n ∧ t (sk t n p) = 32)) (fun p h => by rw [sk_id h]; exact h) (fun p h1 h2 h => by rw [sk_step h1 h2]; exact h) n p (by omega)
theorem sk_sk {t : Nat → Int} {n : Nat} (p : Nat) : sk t n (sk t n p) = sk t n p := sk_id (sk_stop p)
theorem pk_sk {t : Nat → Int} {n : Nat} (p : Nat) : pk t n (sk t n p) = pk t n p := by
  unfold pk; rw [sk_sk]
theorem pk_ne {t : Nat → Int} {n p : Nat} (h : pk t n p ≠ -1) : sk t n p < n ∧ pk t n p = t (sk t n p) := by
  unfold pk at h ⊢
  by_cases c : sk t n p < n
  · exact ⟨c, if_pos c⟩
  · rw [if_neg c] at h; exact absurd rfl h
/-! the class -/
/-- the reader has this text open -/
def Tx (t : Nat → Int) (n : Nat) (ν : Mm) : Prop := n ≤ 160 ∧ ∃ x : Nat, ν 3 0 = (x : Int) ∧ kD x = (17, 2) ∧ ν x 1 = (n : Int) ∧ ∀ j, j < n → ν (x + 1) j = t j
/-- ν with the reader at p, with the FAULT f -/
def cr (ν : Mm) (p : Nat) (f : Int) : Mm := sM (sM ν 3 1 (p : Int)) 3 2 f
theorem cr_1 (ν : Mm) (p : Nat) (f : Int) : cr ν p f 3 1 = (p : Int) := by
  unfold cr; rw [sM_j (by decide), sM_s]
theorem cr_2 (ν : Mm) (p : Nat) (f : Int) : cr ν p f 3 2 = f := by
  unfold cr; rw [sM_s]
theorem cr_0 (ν : Mm) (p : Nat) (f : Int) : cr ν p f 3 0 = ν 3 0 := by
  unfold cr; rw [sM_j (by decide), sM_j (by decide)]
theorem cr_c {ν : Mm} {p : Nat} {f : Int} {c : Nat} (h : c ≠ 3) (j : Nat) : cr ν p f c j = ν c j := by
  unfold cr; rw [sM_a h, sM_a h]
theorem cr_p (ν : Mm) (p q : Nat) (f : Int) : sM (cr ν p f) 3 1 (q : Int) = cr ν q f := by
  funext k j
  unfold cr sM
  by_cases c1 : k = 3 ∧ j = 1
  · have c2 : ¬ (k = 3 ∧ j = 2) := by omega
    simp [c1]
  · by_cases c2 : k = 3 ∧ j = 2
    · simp [c2]
    · simp [c1, c2]
theorem cr_f (ν : Mm) (p : Nat) (f g : Int) : sM (cr ν p f) 3 2 g = cr ν p g := by
  funext k j
  unfold cr sM
  by_cases c2 : k = 3 ∧ j = 2
  · simp [c2]
  · simp [c2]
theorem cr_s {ν : Mm} {p : Nat} {f : Int} {c j : Nat} {v : Int} (h : c ≠ 3) : sM (cr ν p f) c j v = cr (sM ν c j v) p f := by
  funext k i
  unfold cr sM
  by_cases c1 : k = 3 ∧ i = 2
  · have : ¬ (k = c ∧ i = j) := by omega
    simp [c1, show ¬ (3 = c ∧ 2 = j) by omega]
  · by_cases c2 : k = 3 ∧ i = 1
    · simp [c2, show ¬ (3 = c ∧ 1 = j) by omega]
    · simp [c1, c2]
theorem cr_self {ν : Mm} {p : Nat} {f : Int} (h1 : ν 3 1 = (p : Int)) (h2 : ν 3 2 = f) : cr ν p f = ν := by
  unfold cr
  rw [← h1, sM_id, ← h2, sM_id]
theorem Tx_s {t : Nat → Int} {n : Nat} {ν : Mm} (h : Tx t n ν) {c j : Nat} {v : Int} (hc : c < 70) (hk : (kD c).1 ≠ 17 ∧ (kD c).1 ≠ 14 ∧ ∀ x, kD x = (17, 2) → x + 1 ≠ c) : Tx t n (sM ν c j v) := by
  obtain ⟨h1, x, h2, h3, h4, h5⟩ := h
  refine ⟨h1, x, ?_, h3, ?_, fun i hi => ?_⟩
  · rw [sM_a (fun e => hk.2.1 (by rw [← e]; decide)), h2]
  · rw [sM_a (fun e => hk.1 (by rw [← e, h3])), h4]
  · rw [sM_a (hk.2.2 x h3), h5 i hi]
/-- the cell of the reader's text, as it stands in any place of the reader -/
theorem rd_mR {t : Nat → Int} {n : Nat} {ν : Mm} (h : Tx t n ν) {p : Nat} {f : Int} {g : Nat → Rs} : ∃ x : Nat, kD x = (17, 2) ∧ ν x 1 = (n : Int) ∧ (∀ j, j < n → ν (x + 1) j = t j) ∧ mR (cr ν p f) 3 0 (17, 2) g = g x ∧ x ≠ 3 ∧ x + 1 ≠ 3 ∧ aN (x + 1) = 160 := by
  obtain ⟨h1, x, h2, h3, h4, h5⟩ := h
  have e : (cr ν p f 3 0).toNat = x := by rw [cr_0, h2, Int.toNat_natCast]
  have hx := kTr h3
  refine ⟨x, h3, h4, h5, ?_, by omega, by omega, ?_⟩
  · unfold mR
    rw [e, if_pos h3]
  · rcases hx with rfl | rfl | rfl | rfl | rfl <;> rfl
theorem rd_at {t : Nat → Int} {n : Nat} {ν : Mm} (h : Tx t n ν) {p : Nat} {f : Int} : ∃ x : Nat, kD x = (17, 2) ∧ cr ν p f x 1 = (n : Int) ∧ (∀ g : Nat → Rs, mR (cr ν p f) 3 0 (17, 2) g = g x) ∧ (∀ (q : Nat) (g : Int → Rs), q < n → ldA (cr ν p f) (x + 1) (q : Int) g = g (t q)) := by
  obtain ⟨h1, x, h2, h3, h4, h5⟩ := h
  have e : (cr ν p f 3 0).toNat = x := by rw [cr_0, h2, Int.toNat_natCast]
  have hx := kTr h3
  have ha : aN (x + 1) = 160 := by rcases hx with rfl | rfl | rfl | rfl | rfl <;> rfl
  refine ⟨x, h3, by rw [cr_c (by omega), h4], fun g => ?_, fun q g hq => ?_⟩
  · unfold mR
    rw [e, if_pos h3]
  · unfold ldA
    rw [if_pos (by rw [ha]; omega), cr_c (by omega), Int.toNat_natCast, h5 q hq]
theorem iA_nat {p : Nat} (h : p < 100000) : iA (p : Int) 1 = ((p + 1 : Nat) : Int) := by
  rw [iA_id (by omega) (by omega)]; omega
theorem peek_L {t : Nat → Int} {n : Nat} {ν : Mm} (h : Tx t n ν) (k : Mm → Rs) : ∀ (d m p : Nat), n ≤ p + d → d < m → p ≤ n → X4_peek_L10 k m (cr ν p (-1)) = k (cr ν (sk t n p) (-1)) := by
  intro d
  induction d with
  | zero =>
    intro m p hp hm hpn
    obtain ⟨m', rfl, -⟩ := lt_fuel hm
    obtain ⟨x, hx, h1, h2, h3⟩ := rd_at h (p := p) (f := -1)
    rw [X4_peek_L10, h2, h1, cr_1, if_pos (by omega), sk_id (fun c => by omega)]
  | succ d ih =>
    intro m p hp hm hpn
    obtain ⟨m', rfl, hm'⟩ := lt_fuel hm
    obtain ⟨x, hx, h1, h2, h3⟩ := rd_at h (p := p) (f := -1)
    have h160 := h.1
    rw [X4_peek_L10, h2, h1, cr_1]
    by_cases c : (n : Int) ≤ (p : Int)
    · rw [if_pos c, sk_id (fun c => by omega)]
    · rw [if_neg c, h2, h3 p _ (by omega)]
      by_cases c2 : t p = 32
      · rw [if_pos c2]
        unfold sF
        dsimp only
        rw [iA_nat (by omega), cr_p, ih m' (p + 1) (by omega) hm' (by omega), sk_step (by omega) c2]
      · rw [if_neg c2, sk_id (fun c3 => c2 c3.2)]
theorem peek_eq {t : Nat → Int} {n : Nat} {ν : Mm} (h : Tx t n ν) {p : Nat} (hp : p ≤ n) : X4_peek (cr ν p (-1)) = some (pk t n p, cr ν (sk t n p) (-1)) := by
  unfold X4_peek
  have h160 := h.1
  rw [cr_2, if_pos rfl, peek_L h _ n FU p (by omega) (by show n < 1000000; omega) hp]
  unfold X4_peek_J54
  obtain ⟨x, hx, h1, h2, h3⟩ := rd_at h (p := sk t n p) (f := -1)
  rw [h2, h1, cr_1]
  unfold pk
  by_cases c : sk t n p < n
  · rw [if_neg (by omega), h2, h3 _ _ c, if_pos c]
  · rw [if_pos (by omega), if_neg c]
theorem peek_F {ν : Mm} {p : Nat} {f : Int} (hf : f ≠ -1) : X4_peek (cr ν p f) = some (-1, cr ν p f) := by
  unfold X4_peek
  rw [cr_2, if_neg hf]
theorem refuse_eq {ν : Mm} {p : Nat} {x : Int} : X4_refuseAt x (cr ν p (-1)) = some (0, cr ν p x) := by
  unfold X4_refuseAt sF
  dsimp only
  rw [cr_2, if_pos rfl, cr_f]
theorem refuse_F {ν : Mm} {p : Nat} {f x : Int} (hf : f ≠ -1) : X4_refuseAt x (cr ν p f) = some (0, cr ν p f) := by
  unfold X4_refuseAt
  rw [cr_2, if_neg hf]
theorem pass_eq {t : Nat → Int} {n : Nat} {ν : Mm} (h : Tx t n ν) {p : Nat} {f : Int} (hp : p < n) : X4_pass (cr ν p f) = some (0, cr ν (p + 1) f) := by
  unfold X4_pass
  obtain ⟨x, hx, h1, h2, h3⟩ := rd_at h (p := p) (f := f)
  have h160 := h.1
  rw [h2, h1, cr_1, if_neg (by omega)]
  unfold sF
  dsimp only
  rw [iA_nat (by omega), cr_p]
theorem take_eq {t : Nat → Int} {n : Nat} {ν : Mm} (h : Tx t n ν) {p : Nat} (hp : p ≤ n) (c : Int) (hc : c ≠ -1) : X4_take c (cr ν p (-1)) = if pk t n p = c then some (1, cr ν (sk t n p + 1) (-1)) else some (0, cr ν (sk t n p) (-1)) := by
  unfold X4_take
  rw [peek_eq h hp, bd_some]
  have h160 := h.1
  by_cases e : pk t n p = c
  · have hl := pk_ne (by rw [e]; exact hc)
    rw [if_pos e, if_pos e]
    unfold sF
    dsimp only
    rw [cr_1, iA_nat (by omega), cr_p]
  · rw [if_neg e, if_neg e]
theorem take_F {ν : Mm} {p : Nat} {f : Int} (hf : f ≠ -1) {c : Int} (hc : c ≠ -1) : X4_take c (cr ν p f) = some (0, cr ν p f) := by
  unfold X4_take
  rw [peek_F hf, bd_some, if_neg (fun e => hc e.symm)]
theorem need_eq {t : Nat → Int} {n : Nat} {ν : Mm} (h : Tx t n ν) {p : Nat} (hp : p ≤ n) (c : Int) (hc : c ≠ -1) : X4_need c (cr ν p (-1)) = if pk t n p = c then some (0, cr ν (sk t n p + 1) (-1)) else some (0, cr ν (sk t n p) ((sk t n p : Nat) : Int)) := by
  unfold X4_need
  rw [peek_eq h hp, bd_some]
  have h160 := h.1
  by_cases e : pk t n p = c
  · have hl := pk_ne (by rw [e]; exact hc)
    rw [if_pos e, if_pos e]
    unfold sF
    dsimp only
    rw [cr_1, iA_nat (by omega), cr_p]
  · rw [if_neg e, if_neg e, cr_1, refuse_eq, bd_some]
theorem need_F {ν : Mm} {p : Nat} {f : Int} (hf : f ≠ -1) {c : Int} (hc : c ≠ -1) : X4_need c (cr ν p f) = some (0, cr ν p f) := by
  unfold X4_need
  rw [peek_F hf, bd_some, if_neg (fun e => hc e.symm), cr_1, refuse_F hf, bd_some]
theorem needEnd_eq {t : Nat → Int} {n : Nat} {ν : Mm} (h : Tx t n ν) {p : Nat} (hp : p ≤ n) : X4_needEnd (cr ν p (-1)) = if pk t n p = -1 then some (0, cr ν (sk t n p) (-1)) else some (0, cr ν (sk t n p) ((sk t n p : Nat) : Int)) := by
  unfold X4_needEnd
  rw [peek_eq h hp, bd_some]
  by_cases e : pk t n p = -1
  · rw [if_pos e, if_pos e]
  · rw [if_neg e, if_neg e, cr_1, refuse_eq, bd_some]
theorem needEnd_F {ν : Mm} {p : Nat} {f : Int} (hf : f ≠ -1) : X4_needEnd (cr ν p f) = some (0, cr ν p f) := by
  unfold X4_needEnd
  rw [peek_F hf, bd_some, if_pos rfl]
/-! numbers -/
theorem cdig (x : Int) (μ : Mm) : X4_isDigit x μ = some (b2 (48 ≤ x ∧ x ≤ 57), μ) := by
  unfold X4_isDigit
  by_cases h1 : x < 48
  · rw [if_pos h1, b2_f (fun h => by omega)]
  · rw [if_neg h1]
    by_cases h2 : 57 < x
    · rw [if_pos h2, b2_f (fun h => by omega)]
    · rw [if_neg h2, b2_t (by omega)]
theorem mdig (x : Int) (μ : Mm) : X11_isDigit x μ = some (b2 (48 ≤ x ∧ x ≤ 57), μ) := by
  unfold X11_isDigit
  by_cases h1 : x < 48
  · rw [if_pos h1, b2_f (fun h => by omega)]
  · rw [if_neg h1]
    by_cases h2 : 57 < x
    · rw [if_pos h2, b2_f (fun h => by omega)]
    · rw [if_neg h2, b2_t (by omega)]
/-- the digits from p on, m at most: the number, and where it ends -/
def nmF (t : Nat → Int) (n : Nat) : Nat → Nat → Int → Int × Nat
  | 0, p, v => (v, p)
  | m + 1, p, v => if p < n ∧ 48 ≤ t p ∧ t p ≤ 57 then nmF t n m (p + 1) (10 * v + t p - 48) else (v, p)
theorem nmF_b {t : Nat → Int} {n : Nat} : ∀ (m p : Nat) (v : Int), p ≤ n → p ≤ (nmF t n m p v).2 ∧ (nmF t n m p v).2 ≤ n ∧ (nmF t n m p v).2 ≤ p + m := by
  intro m
  induction m with
  | zero => intro p v hp; exact ⟨Nat.le_refl _, hp, Nat.le_refl _⟩
  | succ m ih =>
    intro p v hp
    unfold nmF
    by_cases c : p < n ∧ 48 ≤ t p ∧ t p ≤ 57
    · rw [if_pos c]
      have := ih (p + 1) (10 * v + t p - 48) (by omega)
      omega
    · rw [if_neg c]; exact ⟨Nat.le_refl _, hp, by omega⟩
theorem nmF_v {t : Nat → Int} {n : Nat} : ∀ (m p : Nat) (v : Int), m ≤ 4 → 0 ≤ v → v ≤ 10 ^ (4 - m) - 1 → 0 ≤ (nmF t n m p v).1 ∧ (nmF t n m p v).1 ≤ 9999 := by
  intro m
  induction m with
  | zero => intro p v _ h1 h2; exact ⟨h1, h2⟩
  | succ m ih =>
    intro p v hm h1 h2
    unfold nmF
    have e : (4 - m) = (4 - (m + 1)) + 1 := by omega
    have hp := p10_succ (4 - (m + 1))
    rw [← e] at hp
    by_cases c : p < n ∧ 48 ≤ t p ∧ t p ≤ 57
    · rw [if_pos c]
      exact ih (p + 1) (10 * v + t p - 48) (by omega) (by omega) (by omega)
    · rw [if_neg c]
      have : (10 : Int) ^ (4 - (m + 1)) ≤ 10 ^ 4 := p10_mono (by omega)
      have e4 : (10 : Int) ^ 4 = 10000 := by decide
      exact ⟨h1, by show v ≤ 9999; omega⟩
