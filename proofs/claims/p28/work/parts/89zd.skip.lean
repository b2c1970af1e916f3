/-! SKIP -/
def tsk (T : Nat → Int) (j : Nat) (δ : Int) (k x : Nat) : Int := if j < x ∧ x < k then T x - δ else T x
theorem tsk_s {T : Nat → Int} {j k : Nat} {δ : Int} (h : j < k) : (fun x => if x = k then T k - δ else tsk T j δ k x) = tsk T j δ (k + 1) := by
  funext x
  unfold tsk
  by_cases c : x = k
  · rw [if_pos c, if_pos ⟨by omega, by omega⟩, c]
  · rw [if_neg c]
    by_cases d : j < x ∧ x < k
    · rw [if_pos d, if_pos ⟨d.1, by omega⟩]
    · rw [if_neg d, if_neg (fun z => d ⟨z.1, by omega⟩)]
theorem tsk_n {T : Nat → Int} {j k : Nat} {δ : Int} (h : ¬ j < k) : tsk T j δ k = tsk T j δ (k + 1) := by
  funext x
  unfold tsk
  rw [if_neg (fun z => h (by omega)), if_neg (fun z => h (by omega))]
theorem tm_mono {T : Nat → Int} {m : Nat} (h : ∀ k, k + 1 < m → T k ≤ T (k + 1)) {a : Nat} : ∀ d, a + d < m → T a ≤ T (a + d) := by
  intro d
  induction d with
  | zero => intro _; exact Int.le_refl _
  | succ d ih =>
    intro hd
    exact Int.le_trans (ih (by omega)) (h (a + d) (by omega))
section SKP
variable {m : Nat} {B : Nat → Nat → Int} {T T' Wd : Nat → Int} {cr : Nat → Nat} {S : Int} {i j : Nat} {δ : Int}
theorem JobC_t {ν : Mm} {q : Nat} {v : Int} (hC : JobC 48 ν m B T Wd cr S) : JobC 48 (sM ν 50 q v) m B (fun k => if k = q then v else T k) Wd cr S := by
  refine ⟨by rw [sM_a (by decide)]; exact hC.1, by rw [sM_a (by decide)]; exact hC.2.1, fun k hk => ⟨by rw [sM_a (by decide)]; exact (hC.2.2.1 k hk).1, ?_, by rw [sM_a (by decide)]; exact (hC.2.2.1 k hk).2.2⟩, fun a b ha hb => by rw [sM_a (by decide)]; exact hC.2.2.2.1 a b ha hb, fun b hb => by rw [sM_a (by decide)]; exact hC.2.2.2.2 b hb⟩
  show sM ν 50 q v 50 k = if k = q then v else T k
  rw [sM_if]
  by_cases c : k = q
  · rw [if_pos c, if_pos c]
  · rw [if_neg c, if_neg c]; exact (hC.2.2.1 k hk).2.1
theorem skC_L (hm : m ≤ 8) (hT : ∀ k, k < m → 0 ≤ T k ∧ T k ≤ 1099) (hδ : 0 ≤ δ ∧ δ ≤ 1099) {K : Int → Mm → Rs} : ∀ (r k fuel : Nat) (M : Int) (ν : Mm), k + r = m → r < fuel → i ≤ k → JobC 48 ν m B (tsk T j δ k) Wd cr S → (∀ d, d < 32 → (gb M d = true ↔ d < m ∧ ¬ (i ≤ d ∧ d < k ∧ d ≤ j))) → ∃ (ν' : Mm) (M' : Int), X10_skip_L65 (j : Int) δ K fuel M (k : Int) ν = K M' ν' ∧ JobC 48 ν' m B (tsk T j δ m) Wd cr S ∧ ∀ d, d < 32 → (gb M' d = true ↔ d < m ∧ ¬ (i ≤ d ∧ d < m ∧ d ≤ j)) := by
  intro r
  induction r with
  | zero =>
    intro k fuel M ν hr hf hi hC hM
    obtain ⟨g, rfl, _⟩ := lt_fuel hf
    have e : k = m := by omega
    subst e
    refine ⟨ν, M, ?_, hC, hM⟩
    show (if (ν 48 5) ≤ (k : Int) then _ else _) = _
    rw [hC.1, if_pos (Int.le_refl _)]
  | succ r ih =>
    intro k fuel M ν hr hf hi hC hM
    obtain ⟨g, rfl, _⟩ := lt_fuel hf
    have hTk := hT k (by omega)
    by_cases c : j < k
    · have e50 : ν 50 k = T k := by
        have h := (hC.2.2.1 k (by omega)).2.1
        have z : tsk T j δ k k = T k := if_neg (fun z => absurd z.2 (Nat.lt_irrefl _))
        rw [z] at h
        exact h
      have hC1 : JobC 48 (sM ν 50 k (T k - δ)) m B (tsk T j δ (k + 1)) Wd cr S := by
        have h := JobC_t (q := k) (v := T k - δ) hC
        rw [tsk_s c] at h
        exact h
      have e0 : X10_skip_L65 (j : Int) δ K (g + 1) M (k : Int) ν = X10_skip_L65 (j : Int) δ K g M ((k + 1 : Nat) : Int) (sM ν 50 k (T k - δ)) := by
        show (if (ν 48 5) ≤ (k : Int) then _ else _) = _
        rw [hC.1, if_neg (by omega), if_pos (by omega)]
        unfold ldA stA
        rw [if_pos (by show (0 : Int) ≤ (k : Int) ∧ (k : Int) < 8; omega), Int.toNat_natCast, e50]
        try dsimp only
        rw [if_pos (by show (0 : Int) ≤ (k : Int) ∧ (k : Int) < 8; omega), iS_id (by omega) (by omega), iA_nat (by omega)]
      rw [e0]
      exact ih (k + 1) g M _ (by omega) (by omega) (by omega) hC1 (fun d hd => by
        rw [hM d hd]
        constructor
        · rintro ⟨z1, z2⟩; exact ⟨z1, fun z => z2 ⟨z.1, by omega, z.2.2⟩⟩
        · rintro ⟨z1, z2⟩; exact ⟨z1, fun z => z2 ⟨z.1, by omega, z.2.2⟩⟩)
    · have e0 : X10_skip_L65 (j : Int) δ K (g + 1) M (k : Int) ν = X10_skip_L65 (j : Int) δ K g (bA M (bX (bL 1 (k : Int)) (-1))) ((k + 1 : Nat) : Int) ν := by
        show (if (ν 48 5) ≤ (k : Int) then _ else _) = _
        rw [hC.1, if_neg (by omega), if_neg (by omega)]
        unfold lt_
        try dsimp only
        rw [iA_nat (by omega)]
      rw [e0]
      rw [tsk_n c] at hC
      exact ih (k + 1) g _ _ (by omega) (by omega) (by omega) hC (fun d hd => by
        rw [gb_off (by omega) M hd, hM d hd]
        constructor
        · rintro ⟨⟨z1, z2⟩, z3⟩; exact ⟨z1, fun z => z2 ⟨z.1, by omega, z.2.2⟩⟩
        · rintro ⟨z1, z2⟩; exact ⟨⟨z1, fun z => z2 ⟨z.1, by omega, z.2.2⟩⟩, fun z => z2 ⟨by omega, by omega, by omega⟩⟩)
theorem skJ (hJ : JOK m B T' Wd S) {ξ : Mm} (hM : JobM ξ m B T Wd S) (hT : ∀ k, k < m → 0 ≤ T k ∧ T k ≤ 1099) (hδ : 0 ≤ δ ∧ δ ≤ 1099) {o : Nat → Nat} {n N k : Nat} (hN : n < N) (hN8 : N ≤ 8) (ho : ∀ x, x < N → o x < m) (hok : o n = k) (hF : feas m B o n) (hs : T' k = if j < k then T k - δ else T k) {K : Int → Int → Int → Int → Mm → Rs} : (B (frO m o n) k = -1 → X11_skip_J91 K (i : Int) (j : Int) δ ((frO m o n : Nat) : Int) (rt m B T' Wd S o n) (sK (laK m B T' Wd S o) n) (k : Int) ξ = some (-1, ξ)) ∧ (B (frO m o n) k ≠ -1 → X11_skip_J91 K (i : Int) (j : Int) δ ((frO m o n : Nat) : Int) (rt m B T' Wd S o n) (sK (laK m B T' Wd S o) n) (k : Int) ξ = K (k : Int) (rt m B T' Wd S o (n + 1)) (sK (laK m B T' Wd S o) (n + 1)) ((k + 1 : Nat) : Int) ξ) := by
  have hm8 := hJ.2.1
  have hkm : k < m := by rw [← hok]; exact ho n hN
  have hfr : frO m o n ≤ m := fr_le ho hN
  have e89 : ξ 89 (8 * frO m o n + k) = B (frO m o n) k := hM.2.2.2 _ _ hfr hkm
  have e88 := (hM.2.2.1 k hkm).1
  have e90 := (hM.2.2.1 k hkm).2
  have hTk := hT k hkm
  have i89 : (0 : Int) ≤ ((8 * frO m o n + k : Nat) : Int) ∧ ((8 * frO m o n + k : Nat) : Int) < 72 := by omega
  have i8 : (0 : Int) ≤ (k : Int) ∧ (k : Int) < 8 := by omega
  constructor
  · intro c
    unfold X11_skip_J91 ldA
    rw [off8 (by omega) (by omega), if_pos (by exact i89), Int.toNat_natCast (8 * frO m o n + k), e89]
    try dsimp only
    rw [if_pos c]
  · intro c
    have hF' : feas m B o (n + 1) := fun x hx => by
      by_cases z : x = n
      · rw [z, hok]; exact c
      · exact hF x (by omega)
    have hw := way_b hJ ho hN (by rw [hok]; exact c)
    rw [hok] at hw
    have hb := rt_b hJ ho n (by omega) hF
    have hb1 := rt_b hJ ho (n + 1) (by omega) hF'
    have hW := hJ.2.2.2.2.2 k hkm
    have hl := (laK_b hJ hN8 ho hN hF').1
    have hs4 := sK_b (f := laK m B T' Wd S o) (c := 6000) (by decide) n (fun x hx => (laK_b hJ hN8 ho (k := x) (by omega) (fun y hy => hF y (by omega))).1)
    have ert : rt m B T' Wd S o (n + 1) = mX (rt m B T' Wd S o n + B (frO m o n) k * S + Wd k) (T' k) := by
      show mX (rt m B T' Wd S o n + B (frO m o n) (o n) * S + Wd (o n)) (T' (o n)) = _
      rw [hok]
    have ela : laK m B T' Wd S o n = rt m B T' Wd S o (n + 1) - T' k := by
      show rt m B T' Wd S o (n + 1) - T' (o n) = _
      rw [hok]
    have esk : sK (laK m B T' Wd S o) (n + 1) = sK (laK m B T' Wd S o) n + (rt m B T' Wd S o (n + 1) - T' k) := by
      show sK (laK m B T' Wd S o) n + laK m B T' Wd S o n = _
      rw [ela]
    have eJ2 : X11_skip_J136 (fun w5 w6 w7 w8 μq => K w5 w6 w7 w8 μq) (i : Int) (j : Int) δ ((frO m o n : Nat) : Int) (rt m B T' Wd S o n) (sK (laK m B T' Wd S o) n) (k : Int) (T' k) ξ = K (k : Int) (rt m B T' Wd S o (n + 1)) (sK (laK m B T' Wd S o) (n + 1)) ((k + 1 : Nat) : Int) ξ := by
      have a1 : iA (iA (rt m B T' Wd S o n) (iM (B (frO m o n) k) S)) (Wd k) = rt m B T' Wd S o n + B (frO m o n) k * S + Wd k := by
        rw [iM_id (by omega) (by omega), iA_id (a := rt m B T' Wd S o n) (by omega) (by omega), iA_id (by omega) (by omega)]
      have a2 : iA (sK (laK m B T' Wd S o) n) (iS (rt m B T' Wd S o (n + 1)) (T' k)) = sK (laK m B T' Wd S o) (n + 1) := by
        rw [iS_id (by omega) (by omega), iA_id (by omega) (by omega), esk]
      unfold X11_skip_J136 ldA lt_
      try dsimp only
      rw [off8 (by omega) (by omega), if_pos (by exact i89), Int.toNat_natCast (8 * frO m o n + k), e89]
      try dsimp only
      rw [if_pos (by exact i8), Int.toNat_natCast, e90, hM.2.1, a1, ← ert, a2, iA_nat (by omega)]
      try dsimp only
    unfold X11_skip_J91 ldA
    rw [off8 (by omega) (by omega), if_pos (by exact i89), Int.toNat_natCast (8 * frO m o n + k), e89]
    try dsimp only
    rw [if_neg c]
    by_cases c2 : (k : Int) ≤ (j : Int)
    · have hs' : T' k = T k := by rw [hs, if_neg (by omega)]
      rw [if_pos c2, if_pos (by exact i8), Int.toNat_natCast, e88, ← hs']
      try dsimp only
      exact eJ2
    · have hs' : T' k = T k - δ := by rw [hs, if_pos (by omega)]
      rw [if_neg c2, if_pos (by exact i8), Int.toNat_natCast, e88, iS_id (by omega) (by omega), ← hs']
      try dsimp only
      exact eJ2
theorem skM_L (hJ : JOK m B T' Wd S) {ξ : Mm} (hM : JobM ξ m B T Wd S) (hT : ∀ k, k < m → 0 ≤ T k ∧ T k ≤ 1099) (hδ : 0 ≤ δ ∧ δ ≤ 1099) (hT' : ∀ x, x < m → T' x = if j < x then T x - δ else T x) (hij : i ≤ j) {b : Nat → Bool} (hb : ∀ x, x < m → (b x = true ↔ ¬ (i ≤ x ∧ x ≤ j))) : ∀ (r k fuel : Nat), k + r = m → r < fuel → feas m B (oN b m) (cN b k) → (feas m B (oN b m) (cN b m) → X11_skip_L70 (i : Int) (j : Int) δ fuel ((frO m (oN b m) (cN b k) : Nat) : Int) (rt m B T' Wd S (oN b m) (cN b k)) (sK (laK m B T' Wd S (oN b m)) (cN b k)) (k : Int) ξ = some (sK (laK m B T' Wd S (oN b m)) (cN b m), ξ)) ∧ (¬ feas m B (oN b m) (cN b m) → X11_skip_L70 (i : Int) (j : Int) δ fuel ((frO m (oN b m) (cN b k) : Nat) : Int) (rt m B T' Wd S (oN b m) (cN b k)) (sK (laK m B T' Wd S (oN b m)) (cN b k)) (k : Int) ξ = some (-1, ξ)) := by
  have hm8 := hJ.2.1
  have ho : ∀ k, k < cN b m → oN b m k < m := fun k hk => oN_lt m k hk
  have hcm := cN_le (b := b) m
  intro r
  induction r with
  | zero =>
    intro k fuel hr hf hF
    obtain ⟨g, rfl, _⟩ := lt_fuel hf
    have e : k = m := by omega
    subst e
    refine ⟨fun _ => ?_, fun z => absurd hF z⟩
    show (if (ξ 70 37) ≤ (k : Int) then _ else _) = _
    rw [hM.1, if_pos (Int.le_refl _)]
  | succ r ih =>
    intro k fuel hr hf hF
    obtain ⟨g, rfl, _⟩ := lt_fuel hf
    have hkm : k < m := by omega
    by_cases cb : b k = true
    · have hcn := cN_y cb
      have hlt := cN_lt hkm cb
      have hok := oN_at m k hkm cb
      have hN8 : cN b m ≤ 8 := by omega
      have hno : ¬ (i ≤ k ∧ k ≤ j) := (hb k hkm).mp cb
      have hj := skJ (i := i) hJ hM hT hδ hlt hN8 ho hok hF (hT' k hkm) (K := fun w5 w6 w7 w8 μq => X11_skip_L70 (i : Int) (j : Int) δ g w5 w6 w7 w8 μq)
      have e0 : ∀ x y z, X11_skip_L70 (i : Int) (j : Int) δ (g + 1) x y z (k : Int) ξ = X11_skip_J91 (fun w5 w6 w7 w8 μq => X11_skip_L70 (i : Int) (j : Int) δ g w5 w6 w7 w8 μq) (i : Int) (j : Int) δ x y z (k : Int) ξ := fun x y z => by
        show (if (ξ 70 37) ≤ (k : Int) then _ else _) = _
        rw [hM.1, if_neg (by omega)]
        by_cases c1 : (k : Int) < (i : Int)
        · rw [if_pos c1]
        · rw [if_neg c1, if_neg (by omega)]
      rw [e0]
      by_cases c : B (frO m (oN b m) (cN b k)) k = -1
      · refine ⟨fun z => absurd c (by have := z (cN b k) hlt; rw [hok] at this; exact this), fun _ => hj.1 c⟩
      · have hF' : feas m B (oN b m) (cN b (k + 1)) := fun x hx => by
          rw [hcn] at hx
          by_cases z : x = cN b k
          · rw [z, hok]; exact c
          · exact hF x (by omega)
        have h2 := ih (k + 1) g (by omega) (by omega) hF'
        have efr : frO m (oN b m) (cN b k + 1) = k := by
          show oN b m (cN b k) = k
          exact hok
        rw [hcn, efr] at h2
        rw [hj.2 c]
        exact h2
    · have hcn := cN_n cb
      have hin : i ≤ k ∧ k ≤ j := Classical.byContradiction (fun z => cb ((hb k hkm).mpr z))
      have e0 : ∀ x y z, X11_skip_L70 (i : Int) (j : Int) δ (g + 1) x y z (k : Int) ξ = X11_skip_L70 (i : Int) (j : Int) δ g x y z ((k + 1 : Nat) : Int) ξ := fun x y z => by
        show (if (ξ 70 37) ≤ (k : Int) then _ else _) = _
        rw [hM.1, if_neg (by omega), if_neg (by omega), if_pos (by omega), iA_nat (by omega)]
      rw [e0, ← hcn]
      exact ih (k + 1) g (by omega) (by omega) (by rw [hcn]; exact hF)
end SKP
theorem m_skip : ∀ a0, rI a0 → ∀ a1, rI a1 → ∀ a2, rI a2 → sI Inv Inv (X10_skip a0 a1 a2) (X11_skip a0 a1 a2) := by
  intro a ha b hb c hc μ hI
  have t1 := t_X10_skip (W := scr) (μs := μ) (hW := fun _ _ h => h) (hp_l1 := ha) (hp_l2 := hb) (hp_l3 := hc) (St_rf hI.1)
  by_cases cr0 : μ 70 23 = 0 ∨ ¬ (0 ≤ a ∧ a < μ 70 28)
  · refine ⟨-1, μ, μ, ?_, ?_, hI⟩
    · unfold X10_skip
      rw [lay_no hI cr0, bd_some, if_pos rfl]
    · unfold X11_skip
      rw [rdy_no hI.2.1.1 cr0, bd_some, if_pos rfl]
  · have h23 : μ 70 23 ≠ 0 := fun z => cr0 (Or.inl z)
    have hap : 0 ≤ a ∧ a < μ 70 28 := Classical.byContradiction (fun z => cr0 (Or.inr z))
    obtain ⟨p, rfl⟩ : ∃ p : Nat, a = (p : Int) := ⟨a.toNat, by omega⟩
    obtain ⟨L, B, T, Wd, S, ν, hJ, ⟨⟨hTm, _⟩, _⟩, _, g1, g2, g3, _, g5⟩ := ready hI h23 hap.2
    have hm1 := hJ.1
    have hm8 := hJ.2.1
    have hT := hJ.2.2.2.2.1
    by_cases cb : 1 ≤ b ∧ b ≤ c ∧ c < (L.length : Int)
    · obtain ⟨i, rfl⟩ : ∃ i : Nat, b = (i : Int) := ⟨b.toNat, by omega⟩
      obtain ⟨j, rfl⟩ : ∃ j : Nat, c = (j : Int) := ⟨c.toNat, by omega⟩
      obtain ⟨δ, hδe⟩ : ∃ δ, δ = T j - T (i - 1) := ⟨_, rfl⟩
      have hTj := hT j (by omega)
      have hTi := hT (i - 1) (by omega)
      have hji : T (i - 1) ≤ T j := by
        have h := tm_mono hTm (a := i - 1) (j - (i - 1)) (by omega)
        have e : i - 1 + (j - (i - 1)) = j := by omega
        rw [e] at h
        exact h
      have hδ : 0 ≤ δ ∧ δ ≤ 1099 := by omega
      have hJ' : JOK L.length B (tsk T j δ L.length) Wd S := JOK_T hJ (fun x hx => by
        have hx0 := hT x hx
        unfold tsk
        by_cases z : j < x ∧ x < L.length
        · rw [if_pos z]
          have h := tm_mono hTm (a := j) (x - j) (by omega)
          have e : j + (x - j) = x := by omega
          rw [e] at h
          omega
        · rw [if_neg z]; exact hx0)
      have e00 : tsk T j δ i = T := by
        funext x
        unfold tsk
        rw [if_neg (fun z => by omega)]
      have hall : ∀ d, d < 32 → (gb (iS (bL 1 (L.length : Int)) 1) d = true ↔ d < L.length ∧ ¬ (i ≤ d ∧ d < i ∧ d ≤ j)) := fun d hd => by
        rw [gb_all _ (by omega) d hd, decide_eq_true_iff]
        exact ⟨fun z => ⟨z, fun y => by omega⟩, fun z => z.1⟩
      obtain ⟨ν1, M, k1, k2, k3⟩ := skC_L (cr := lets L) (i := i) hm8 hT hδ (K := fun v22 μ23 => bd (X10_latesByBook v22 μ23) fun v24 μ25 => some (v24, μ25)) (L.length - i) i FU (iS (bL 1 (L.length : Int)) 1) ν (by omega) (by show L.length - i < 1000000; omega) (Nat.le_refl _) (by rw [e00]; exact g3) hall
      obtain ⟨ν2, w1, w2, w3⟩ := lbb (M := M) hJ' k2
      have hbit : ∀ x, x < L.length → (bt M x = true ↔ ¬ (i ≤ x ∧ x ≤ j)) := fun x hx => by
        rw [bt_iff, bt1 (by omega), k3 x (by omega)]
        exact ⟨fun z y => z.2 ⟨y.1, hx, y.2⟩, fun z => ⟨hx, fun y => z ⟨y.1, y.2.2⟩⟩⟩
      have R1 : X10_skip (p : Int) (i : Int) (j : Int) μ = bd (X10_latesByBook M ν1) fun v24 μ25 => some (v24, μ25) := by
        rw [← k1]
        unfold X10_skip
        rw [g1, bd_some, if_neg (by decide), if_neg (by omega), if_neg (by omega), g3.1, if_pos (by omega)]
        have ei : iS (i : Int) 1 = ((i - 1 : Nat) : Int) := by rw [iS_id (by omega) (by omega)]; omega
        unfold ldA X1_allCues
        rw [if_pos (by show (0 : Int) ≤ (j : Int) ∧ (j : Int) < 8; omega), Int.toNat_natCast, (g3.2.2.1 j (by omega)).2.1]
        try dsimp only
        rw [ei, if_pos (by show (0 : Int) ≤ ((i - 1 : Nat) : Int) ∧ ((i - 1 : Nat) : Int) < 8; omega), Int.toNat_natCast, (g3.2.2.1 (i - 1) (by omega)).2.1, bd_some, g3.1, iS_id (a := T j) (by omega) (by omega), ← hδe]
        try dsimp only
      have hT' : ∀ x, x < L.length → tsk T j δ L.length x = if j < x then T x - δ else T x := fun x hx => by
        unfold tsk
        by_cases z : j < x
        · rw [if_pos ⟨z, hx⟩, if_pos z]
        · rw [if_neg (fun y => z y.1), if_neg z]
      have hmain : ∀ ξ, JobM ξ L.length B T Wd S → X11_isReady (p : Int) ν2 = some (1, ξ) → ∀ v, (X11_skip_L70 (i : Int) (j : Int) δ FU (L.length : Int) 0 0 0 ξ = some (v, ξ)) → X11_skip (p : Int) (i : Int) (j : Int) ν2 = some (v, ξ) := fun ξ y3 y1 v hv => by
        have ei : iS (i : Int) 1 = ((i - 1 : Nat) : Int) := by rw [iS_id (by omega) (by omega)]; omega
        unfold X11_skip
        rw [y1, bd_some, if_neg (by decide), y3.1, iS_id (a := (L.length : Int)) (by omega) (by omega), in_rg _ (by omega), bd_some, if_neg (by decide), y3.1, iS_id (a := (L.length : Int)) (by omega) (by omega), in_rg _ (by omega), bd_some, if_neg (by decide)]
        unfold ldA
        rw [if_pos (by show (0 : Int) ≤ (j : Int) ∧ (j : Int) < 8; omega), Int.toNat_natCast, (y3.2.2.1 j (by omega)).1]
        try dsimp only
        rw [ei, if_pos (by show (0 : Int) ≤ ((i - 1 : Nat) : Int) ∧ ((i - 1 : Nat) : Int) < 8; omega), Int.toNat_natCast, (y3.2.2.1 (i - 1) (by omega)).1, iS_id (a := T j) (by omega) (by omega), ← hδe, y3.1]
        try dsimp only
        exact hv
      have hloop : ∀ ξ, JobM ξ L.length B T Wd S → (feas L.length B (oN (bt M) L.length) (cN (bt M) L.length) → X11_skip_L70 (i : Int) (j : Int) δ FU (L.length : Int) 0 0 0 ξ = some (sK (laK L.length B (tsk T j δ L.length) Wd S (oN (bt M) L.length)) (cN (bt M) L.length), ξ)) ∧ (¬ feas L.length B (oN (bt M) L.length) (cN (bt M) L.length) → X11_skip_L70 (i : Int) (j : Int) δ FU (L.length : Int) 0 0 0 ξ = some (-1, ξ)) := fun ξ y3 =>
        skM_L hJ' y3 hT hδ hT' (by omega) hbit L.length 0 FU (by omega) (by show L.length < 1000000; omega) (fun x hx => absurd hx (Nat.not_lt_zero _))
      by_cases hF : feas L.length B (oN (bt M) L.length) (cN (bt M) L.length)
      · rw [w2 hF, bd_some] at R1
        rw [R1, wp_some] at t1
        have hI1 := Inv_St hI t1.1
        obtain ⟨ξ, y1, y2, y3⟩ := g5 ν2 hI1 t1.1.2
        exact ⟨_, ν2, ξ, R1, hmain ξ y3 y1 _ ((hloop ξ y3).1 hF), Inv_Sm hI1 y2⟩
      · rw [w3 hF, bd_some] at R1
        rw [R1, wp_some] at t1
        have hI1 := Inv_St hI t1.1
        obtain ⟨ξ, y1, y2, y3⟩ := g5 ν2 hI1 t1.1.2
        exact ⟨_, ν2, ξ, R1, hmain ξ y3 y1 _ ((hloop ξ y3).2 hF), Inv_Sm hI1 y2⟩
    · have R1 : X10_skip (p : Int) b c μ = some (-1, ν) := by
        unfold X10_skip
        rw [g1, bd_some, if_neg (by decide)]
        by_cases c1 : b ≤ 0
        · rw [if_pos c1]
        · rw [if_neg c1]
          by_cases c2 : c < b
          · rw [if_pos c2]
          · rw [if_neg c2, g3.1, if_neg (by omega)]
      rw [R1, wp_some] at t1
      have hI1 := Inv_St hI t1.1
      obtain ⟨ξ, y1, y2, y3⟩ := g5 ν hI1 t1.1.2
      refine ⟨_, ν, ξ, R1, ?_, Inv_Sm hI1 y2⟩
      unfold X11_skip
      rw [y1, bd_some, if_neg (by decide), y3.1, iS_id (a := (L.length : Int)) (by omega) (by omega)]
      by_cases c1 : 1 ≤ b ∧ b ≤ (L.length : Int) - 1
      · rw [in_rg _ c1, bd_some, if_neg (by decide), y3.1, iS_id (a := (L.length : Int)) (by omega) (by omega), in_no _ (by omega), bd_some, if_pos rfl]
      · rw [in_no _ c1, bd_some, if_pos rfl]
