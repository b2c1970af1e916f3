/-! numbers, and the reference's look -/
theorem num_L {t : Nat → Int} {n : Nat} {ν : Mm} (h : Tx t n ν) (hT : ∀ j, j < n → 1 ≤ t j ∧ t j ≤ 255) {M : Nat} (hM : M ≤ 4) : ∀ (m fuel p d : Nat) (v : Int), d + m = M → 0 ≤ v → v ≤ 10 ^ d - 1 → m < fuel → p ≤ n → X4_number_L24 (M : Int) fuel v (d : Int) (cr ν p (-1)) = some ((nmF t n m p v).1, cr ν (nmF t n m p v).2 (-1)) := by
  intro m
  induction m with
  | zero =>
    intro fuel p d v hd h1 h2 hf hp
    obtain ⟨f', rfl, -⟩ := lt_fuel hf
    rw [X4_number_L24, if_pos (by omega)]
    rfl
  | succ m ih =>
    intro fuel p d v hd h1 h2 hf hp
    obtain ⟨f', rfl, hf'⟩ := lt_fuel hf
    obtain ⟨x, hx, e1, e2, e3⟩ := rd_at h (p := p) (f := -1)
    have h160 := h.1
    have hv9 : v ≤ 999 := by
      have h3 : (10 : Int) ^ d ≤ 10 ^ 3 := p10_mono (by omega)
      have h4 : (10 : Int) ^ 3 = 1000 := by decide
      omega
    rw [X4_number_L24, if_neg (by omega), e2, e1, cr_1]
    unfold nmF
    by_cases c : p < n
    · rw [if_neg (by omega), e2, e3 p _ c, cdig, bd_some]
      by_cases c2 : 48 ≤ t p ∧ t p ≤ 57
      · rw [b2_t c2, if_neg (by decide), e2, cr_1, e3 p _ c, if_pos ⟨c, c2⟩]
        unfold lt_ sF
        dsimp only
        rw [iA_nat (p := p) (by omega), cr_p, iM_id (by omega) (by omega), iA_id (a := 10 * v) (by omega) (by omega), iS_id (by omega) (by omega), iA_nat (p := d) (by omega)]
        exact ih f' (p + 1) (d + 1) (10 * v + t p - 48) (by omega) (by omega) (by rw [p10_succ]; omega) hf' (by omega)
      · rw [b2_f c2, if_pos rfl, if_neg (fun z => c2 z.2)]
    · rw [if_pos (by omega), if_neg (fun z => c z.1)]
theorem number_eq {t : Nat → Int} {n : Nat} {ν : Mm} (h : Tx t n ν) (hT : ∀ j, j < n → 1 ≤ t j ∧ t j ≤ 255) {M : Nat} (hM : M ≤ 4) {p : Nat} (hp : p ≤ n) : X4_number (M : Int) (cr ν p (-1)) = if 48 ≤ pk t n p ∧ pk t n p ≤ 57 then some ((nmF t n M (sk t n p) 0).1, cr ν (nmF t n M (sk t n p) 0).2 (-1)) else some (0, cr ν (sk t n p) ((sk t n p : Nat) : Int)) := by
  unfold X4_number
  rw [peek_eq h hp, bd_some, cdig, bd_some]
  by_cases c : 48 ≤ pk t n p ∧ pk t n p ≤ 57
  · rw [b2_t c, if_neg (by decide), if_pos c]
    exact num_L h hT hM M FU (sk t n p) 0 0 (by omega) (by decide) (by decide) (by show M < 1000000; omega) (sk_le p hp)
  · rw [b2_f c, if_pos rfl, if_neg c, cr_1, refuse_eq, bd_some]
theorem number_F {ν : Mm} {p : Nat} {f M : Int} (hf : f ≠ -1) : X4_number M (cr ν p f) = some (0, cr ν p f) := by
  unfold X4_number
  rw [peek_F hf, bd_some, cdig, bd_some, b2_f (by decide), if_pos rfl, refuse_F hf, bd_some]
/-! the reference -/
def Tm (t : Nat → Int) (n : Nat) (μ : Mm) : Prop := n ≤ 160 ∧ μ 70 2 = (n : Int) ∧ ∀ j, j < n → μ 71 j = t j
def ma (μ : Mm) (p : Nat) : Mm := sM μ 70 3 (p : Int)
theorem ma_3 (μ : Mm) (p : Nat) : ma μ p 70 3 = (p : Int) := by unfold ma; rw [sM_s]
theorem ma_j {μ : Mm} {p j : Nat} (h : j ≠ 3) : ma μ p 70 j = μ 70 j := by unfold ma; rw [sM_j h]
theorem ma_c {μ : Mm} {p c : Nat} (h : c ≠ 70) (j : Nat) : ma μ p c j = μ c j := by unfold ma; rw [sM_a h]
theorem ma_ma (μ : Mm) (p q : Nat) : sM (ma μ p) 70 3 (q : Int) = ma μ q := by
  funext k j
  unfold ma sM
  by_cases c : k = 70 ∧ j = 3
  · simp [c]
  · simp [c]
theorem ma_s {μ : Mm} {p c j : Nat} {v : Int} (h : ¬ (c = 70 ∧ j = 3)) : sM (ma μ p) c j v = ma (sM μ c j v) p := by
  funext k i
  unfold ma sM
  by_cases c1 : k = 70 ∧ i = 3
  · have c2 : ¬ (k = c ∧ i = j) := fun e => h ⟨e.1.symm.trans c1.1, e.2.symm.trans c1.2⟩
    rw [if_neg c2, if_pos c1, if_pos c1]
  · rw [if_neg c1, if_neg c1]
theorem ma_self {μ : Mm} {p : Nat} (h : μ 70 3 = (p : Int)) : ma μ p = μ := by unfold ma; rw [← h, sM_id]
theorem Tm_s {t : Nat → Int} {n : Nat} {μ : Mm} (h : Tm t n μ) {c j : Nat} {v : Int} (hc : ¬ (c = 70 ∧ j = 2)) (h71 : c ≠ 71) : Tm t n (sM μ c j v) := by
  refine ⟨h.1, ?_, fun i hi => ?_⟩
  · unfold sM
    rw [if_neg (fun e => hc ⟨e.1.symm, e.2.symm⟩)]; exact h.2.1
  · rw [sM_a (fun e => h71 e.symm)]; exact h.2.2 i hi
theorem here_eq {t : Nat → Int} {n : Nat} {μ : Mm} (h : Tm t n μ) (p : Nat) : X11_here (ma μ p) = some (if p < n then t p else -1, ma μ p) := by
  unfold X11_here
  have h160 := h.1
  rw [ma_3, ma_j (by decide), h.2.1]
  by_cases c : p < n
  · rw [if_neg (by omega), if_pos c]
    unfold ldA
    rw [if_pos (by show (0 : Int) ≤ (p : Int) ∧ (p : Int) < 160; omega), Int.toNat_natCast, ma_c (by decide), h.2.2 p c]
  · rw [if_pos (by omega), if_neg c]
theorem look_L {t : Nat → Int} {n : Nat} {μ : Mm} (h : Tm t n μ) (k : Mm → Rs) : ∀ (d m p : Nat), n ≤ p + d → d < m → p < 100000 → X11_look_L0 k m (ma μ p) = k (ma μ (sk t n p)) := by
  intro d
  induction d with
  | zero =>
    intro m p hp hm _
    obtain ⟨m', rfl, -⟩ := lt_fuel hm
    rw [X11_look_L0, here_eq h, bd_some, if_neg (by rw [if_neg (by omega)]; decide), sk_id (fun c => by omega)]
  | succ d ih =>
    intro m p hp hm hpl
    obtain ⟨m', rfl, hm'⟩ := lt_fuel hm
    have h160 := h.1
    rw [X11_look_L0, here_eq h, bd_some]
    by_cases c : p < n ∧ t p = 32
    · rw [if_pos c.1, if_pos c.2]
      unfold sF
      dsimp only
      rw [ma_3, iA_nat hpl, ma_ma, ih m' (p + 1) (by omega) hm' (by omega), sk_step c.1 c.2]
    · rw [sk_id c]
      by_cases c1 : p < n
      · rw [if_pos c1, if_neg (fun e => c ⟨c1, e⟩)]
      · rw [if_neg c1, if_neg (by decide)]
theorem look_eq {t : Nat → Int} {n : Nat} {μ : Mm} (h : Tm t n μ) {p : Nat} (hp : p < 100000) : X11_look (ma μ p) = some (pk t n p, ma μ (sk t n p)) := by
  unfold X11_look
  have h160 := h.1
  rw [look_L h _ n FU p (by omega) (by show n < 1000000; omega) hp, here_eq h, bd_some]
  rfl
theorem bad_eq {μ : Mm} {p : Nat} (hw : μ 70 4 = -1) : X11_bad (ma μ p) = some (0, ma (sM μ 70 4 (p : Int)) p) := by
  unfold X11_bad sF
  dsimp only
  rw [ma_j (by decide), if_pos hw, ma_3, ma_s (by decide)]
theorem bad_F {μ : Mm} (hw : μ 70 4 ≠ -1) : X11_bad μ = some (0, μ) := by
  unfold X11_bad sF
  dsimp only
  rw [if_neg hw, sM_id]
theorem cueN_L {t : Nat → Int} {n : Nat} {μ : Mm} (h : Tm t n μ) (hT : ∀ j, j < n → 1 ≤ t j ∧ t j ≤ 255) {l1 l2 : Int} (K : Int → Mm → Rs) : ∀ (m fuel p d : Nat) (v : Int), d + m = 3 → 0 ≤ v → v ≤ 10 ^ d - 1 → m < fuel → p < 100000 - m → X11_cueText_L75 l1 l2 K fuel v (d : Int) (ma μ p) = K (nmF t n m p v).1 (ma μ (nmF t n m p v).2) := by
  intro m
  induction m with
  | zero =>
    intro fuel p d v hd h1 h2 hf hp
    obtain ⟨f', rfl, -⟩ := lt_fuel hf
    rw [X11_cueText_L75, if_pos (by omega)]
    rfl
  | succ m ih =>
    intro fuel p d v hd h1 h2 hf hp
    obtain ⟨f', rfl, hf'⟩ := lt_fuel hf
    have hv9 : v ≤ 999 := by
      have h3 : (10 : Int) ^ d ≤ 10 ^ 3 := p10_mono (by omega)
      have h4 : (10 : Int) ^ 3 = 1000 := by decide
      omega
    rw [X11_cueText_L75, if_neg (by omega), here_eq h, bd_some, mdig, bd_some]
    unfold nmF
    by_cases c : p < n ∧ 48 ≤ t p ∧ t p ≤ 57
    · rw [if_pos c.1, b2_t c.2, if_neg (by decide), if_pos c, here_eq h, bd_some, if_pos c.1]
      unfold lt_ sF
      dsimp only
      rw [ma_3, iA_nat (p := p) (by omega), ma_ma, iM_id (by omega) (by omega), iA_id (a := 10 * v) (by omega) (by omega), iS_id (by omega) (by omega), iA_nat (p := d) (by omega)]
      exact ih f' (p + 1) (d + 1) (10 * v + t p - 48) (by omega) (by omega) (by rw [p10_succ]; omega) hf' (by omega)
    · rw [if_neg c, b2_f, if_pos rfl]
      intro z
      by_cases c1 : p < n
      · rw [if_pos c1] at z; exact c ⟨c1, z⟩
      · rw [if_neg c1] at z; omega
theorem plainN_L {t : Nat → Int} {n : Nat} {μ : Mm} (h : Tm t n μ) (hT : ∀ j, j < n → 1 ≤ t j ∧ t j ≤ 255) (K : Int → Mm → Rs) : ∀ (m fuel p d : Nat) (v : Int), d + m = 4 → 0 ≤ v → v ≤ 10 ^ d - 1 → m < fuel → p < 100000 - m → X11_plainNumber_L4 K fuel v (d : Int) (ma μ p) = K (nmF t n m p v).1 (ma μ (nmF t n m p v).2) := by
  intro m
  induction m with
  | zero =>
    intro fuel p d v hd h1 h2 hf hp
    obtain ⟨f', rfl, -⟩ := lt_fuel hf
    rw [X11_plainNumber_L4, if_pos (by omega)]
    rfl
  | succ m ih =>
    intro fuel p d v hd h1 h2 hf hp
    obtain ⟨f', rfl, hf'⟩ := lt_fuel hf
    have hv9 : v ≤ 999 := by
      have h3 : (10 : Int) ^ d ≤ 10 ^ 3 := p10_mono (by omega)
      have h4 : (10 : Int) ^ 3 = 1000 := by decide
      omega
    rw [X11_plainNumber_L4, if_neg (by omega), here_eq h, bd_some, mdig, bd_some]
    unfold nmF
    by_cases c : p < n ∧ 48 ≤ t p ∧ t p ≤ 57
    · rw [if_pos c.1, b2_t c.2, if_neg (by decide), if_pos c, here_eq h, bd_some, if_pos c.1]
      unfold lt_ sF
      dsimp only
      rw [ma_3, iA_nat (p := p) (by omega), ma_ma, iM_id (by omega) (by omega), iA_id (a := 10 * v) (by omega) (by omega), iS_id (by omega) (by omega), iA_nat (p := d) (by omega)]
      exact ih f' (p + 1) (d + 1) (10 * v + t p - 48) (by omega) (by omega) (by rw [p10_succ]; omega) hf' (by omega)
    · rw [if_neg c, b2_f, if_pos rfl]
      intro z
      by_cases c1 : p < n
      · rw [if_pos c1] at z; exact c ⟨c1, z⟩
      · rw [if_neg c1] at z; omega
