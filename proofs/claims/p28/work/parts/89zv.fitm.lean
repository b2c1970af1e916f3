/-! FIT in the reference, and both alike -/
theorem lv_sy {O : Nat → Prop} {s : Nat} (hs : O s) : ∀ n p, lv O s n p → ∃ n', lv O p n' s := by
  intro n
  induction n with
  | zero =>
    intro p h
    have h : p = s := h
    exact ⟨0, h.symm⟩
  | succ n ih =>
    rintro p ⟨h1, q, h2, h3⟩
    obtain ⟨k, hk⟩ := ih q h2
    have hq : O q := by
      cases n with
      | zero =>
        have h2 : q = s := h2
        rw [h2]; exact hs
      | succ n => exact h2.1
    have h4 : lv O p 1 q := ⟨hq, p, rfl, by unfold adj at h3 ⊢; omega⟩
    exact ⟨1 + k, lv_tr h4 k _ hk⟩
theorem RD_sy {O : Nat → Prop} {s : Nat} (hs : O s) {pa pb x y z : Int} (ha : pa = -1 ∨ (0 ≤ pa ∧ pa < 60)) (hb : pb = -1 ∨ (0 ≤ pb ∧ pb < 60)) (h1 : RWy O (s : Int) pa x) (h2 : RWy O (s : Int) pb z) (h3 : RWy O pa pb y) (hx : x ≠ -1) (hz : z ≠ -1) : y ≠ -1 := by
  have ha' : 0 ≤ pa ∧ pa < 60 := ha.resolve_left (fun e => hx (h1.2.1 e))
  have hb' : 0 ≤ pb ∧ pb < 60 := hb.resolve_left (fun e => hz (h2.2.1 e))
  obtain ⟨f, f1, f2⟩ := h1.2.2 s pa.toNat rfl (by omega)
  obtain ⟨g, g1, g2⟩ := h2.2.2 s pb.toNat rfl (by omega)
  obtain ⟨e, e1, e2⟩ := h3.2.2 pa.toNat pb.toNat (by omega) (by omega)
  rcases f1 pa.toNat (by omega) with ⟨z1, _⟩ | ⟨n, _, z2, _⟩
  · exact absurd (by rw [f2, z1]) hx
  · rcases g1 pb.toNat (by omega) with ⟨z3, _⟩ | ⟨n', _, z4, _⟩
    · exact absurd (by rw [g2, z3]) hz
    · rcases e1 pb.toNat (by omega) with ⟨_, z6⟩ | ⟨n'', z5, _, _⟩
      · obtain ⟨k, hk⟩ := lv_sy hs n _ z2
        exact absurd (lv_tr hk n' _ z4) (z6 _)
      · rw [e2, z5]; omega
section CG2
variable {O : Nat → Prop} {Q : Nat → Int} {s : Nat} {cr : Nat → Nat} {m : Nat}
theorem bW_A (hG : Cg O Q s) (hcr : ∀ k, k < m → cr k < 8) (h : ∀ b, b < m → bW O Q s cr m m b ≠ -1) : ∀ a b, a ≤ m → b < m → bW O Q s cr m a b ≠ -1 := by
  intro a b ha hb
  by_cases c : a = m
  · rw [c]; exact h b hb
  · have ha' : a < m := by omega
    have r1 := (bW_ok hG hcr (Nat.le_refl m) ha').1
    have r2 := (bW_ok hG hcr (Nat.le_refl m) hb).1
    have r3 := (bW_ok hG hcr ha hb).1
    rw [if_pos rfl] at r1 r2
    rw [if_neg c] at r3
    exact RD_sy hG.2.1 (Cg_r hG (hG.2.2 _ (hcr a ha'))) (Cg_r hG (hG.2.2 _ (hcr b hb))) r1 r2 r3 (h a ha') (h b hb)
theorem bW_F (hG : Cg O Q s) (hcr : ∀ k, k < m → cr k < 8) (hQ : ∀ c c', c < 8 → c' < 8 → Q c ≠ -1 → Q c = Q c' → c = c') : FB m (bW O Q s cr m) cr := by
  intro a b ha hb h0
  have h := (bW_ok hG hcr (Nat.le_of_lt ha) hb).1
  rw [if_neg (by omega), h0] at h
  have na : Q (cr a) ≠ -1 := fun e => absurd (h.1 e) (by decide)
  have nb : Q (cr b) ≠ -1 := fun e => absurd (h.2.1 e) (by decide)
  have ra := (Cg_r hG (hG.2.2 _ (hcr a ha))).resolve_left na
  have rb := (Cg_r hG (hG.2.2 _ (hcr b hb))).resolve_left nb
  obtain ⟨f, f1, f2⟩ := h.2.2 (Q (cr a)).toNat (Q (cr b)).toNat (by omega) (by omega)
  rcases f1 (Q (cr b)).toNat (by omega) with ⟨z1, _⟩ | ⟨n, z1, z2, _⟩
  · rw [z1] at f2
    exact absurd f2 (by decide)
  · have hn : n = 0 := by omega
    rw [hn] at z2
    have z2 : (Q (cr b)).toNat = (Q (cr a)).toNat := z2
    exact hQ _ _ (hcr a ha) (hcr b hb) na (by omega)
end CG2
def EnM (ξ : Mm) (p m : Nat) (cr : Nat → Nat) (N : Nat) (ts tc : Nat → Int) : Prop := ξ 70 45 = (N : Int) ∧ (∀ d, d < N → ξ 93 d = ts d ∧ ξ 94 d = tc d) ∧ ∀ c, c < m → ξ 83 (8 * p + c) = ((cr c : Nat) : Int)
def WfM (k j : Nat) : Prop := k = 91 ∨ k = 92 ∨ (k = 70 ∧ (j = 46 ∨ j = 47))
def stM (ξ : Mm) : Int × Int := (ξ 70 46, ξ 70 47)
/-- the THUD d at the CUE c -/
def hdM (ξ : Mm) (cr : Nat → Nat) (ts tc : Nat → Int) (d c : Nat) : Prop := ((cr c : Nat) : Int) = tc d ∧ ξ 91 c ≤ ts d ∧ ts d ≤ ξ 92 c
section FM
variable {m p N : Nat} {B : Nat → Nat → Int} {T Wd : Nat → Int} {S w : Int} {cr : Nat → Nat} {ts tc : Nat → Int}
theorem EnM_c {ξ ξ' : Mm} (h : EnM ξ p m cr N ts tc) (f : fw WfM ξ ξ') : EnM ξ' p m cr N ts tc :=
  ⟨by rw [f 70 45 (by unfold WfM; omega)]; exact h.1, fun d hd => by rw [f 93 d (by unfold WfM; omega), f 94 d (by unfold WfM; omega)]; exact h.2.1 d hd, fun c hc => by rw [f 83 _ (by unfold WfM; omega)]; exact h.2.2 c hc⟩
theorem JobM_f {ξ ξ' : Mm} (h : JobM ξ m B T Wd S) (f : fw WfM ξ ξ') : JobM ξ' m B T Wd S :=
  ⟨by rw [f 70 37 (by unfold WfM; omega)]; exact h.1, by rw [f 70 38 (by unfold WfM; omega)]; exact h.2.1, fun k hk => by
    rw [f 88 k (by unfold WfM; omega), f 90 k (by unfold WfM; omega)]; exact h.2.2.1 k hk, fun a b ha hb => by rw [f 89 _ (by unfold WfM; omega)]; exact h.2.2.2 a b ha hb⟩
theorem fits15 (hm : m ≤ 8) (hp : p ≤ 4) (hN : N ≤ 10) {ν : Mm} (h37 : ν 70 37 = (m : Int)) (hE : EnM ν p m cr N ts tc) {d : Nat} (hd : d < N) {K : Int → Mm → Rs} : ∀ (r c fuel : Nat) (h : Int), c + r = m → r < fuel → (h = 0 ∨ h = 1) → ((h = 1 ∨ ∃ e, c ≤ e ∧ e < m ∧ hdM ν cr ts tc d e) → X11_fits_L15 (p : Int) (d : Int) K fuel h (c : Int) ν = K 1 ν) ∧ (¬ (h = 1 ∨ ∃ e, c ≤ e ∧ e < m ∧ hdM ν cr ts tc d e) → X11_fits_L15 (p : Int) (d : Int) K fuel h (c : Int) ν = K 0 ν) := by
  obtain ⟨h1, h2, h3⟩ := hE
  intro r
  induction r with
  | zero =>
    intro c fuel h hr hf hh
    obtain ⟨g, rfl, _⟩ := lt_fuel hf
    have e0 : X11_fits_L15 (p : Int) (d : Int) K (g + 1) h (c : Int) ν = K h ν := by
      show (if (ν 70 37) ≤ (c : Int) then _ else _) = _
      rw [h37, if_pos (by omega)]
    rw [e0]
    constructor
    · rintro (z | ⟨e, z1, z2, _⟩)
      · rw [z]
      · exact absurd z2 (by omega)
    · intro z
      rcases hh with y | y
      · rw [y]
      · exact absurd (Or.inl y) z
  | succ r ih =>
    intro c fuel h hr hf hh
    obtain ⟨g, rfl, _⟩ := lt_fuel hf
    have hc : c < m := by omega
    rcases hh with y | y
    · subst y
      have i83 : (0 : Int) ≤ ((8 * p + c : Nat) : Int) ∧ ((8 * p + c : Nat) : Int) < 48 := by omega
      have i10 : (0 : Int) ≤ (d : Int) ∧ (d : Int) < 10 := by omega
      have i8 : (0 : Int) ≤ (c : Int) ∧ (c : Int) < 8 := by omega
      have L83 : ∀ f : Int → Rs, ldA ν 83 ((8 * p + c : Nat) : Int) f = f ((cr c : Nat) : Int) := fun f => by
        unfold ldA
        rw [if_pos (by exact i83), Int.toNat_natCast (8 * p + c), h3 c hc]
      have L94 : ∀ f : Int → Rs, ldA ν 94 (d : Int) f = f (tc d) := fun f => by
        unfold ldA
        rw [if_pos (by exact i10), Int.toNat_natCast, (h2 d hd).2]
      have L93 : ∀ f : Int → Rs, ldA ν 93 (d : Int) f = f (ts d) := fun f => by
        unfold ldA
        rw [if_pos (by exact i10), Int.toNat_natCast, (h2 d hd).1]
      have L91 : ∀ f : Int → Rs, ldA ν 91 (c : Int) f = f (ν 91 c) := fun f => by
        unfold ldA
        rw [if_pos (by exact i8), Int.toNat_natCast]
      have L92 : ∀ f : Int → Rs, ldA ν 92 (c : Int) f = f (ν 92 c) := fun f => by
        unfold ldA
        rw [if_pos (by exact i8), Int.toNat_natCast]
      have e0 : X11_fits_L15 (p : Int) (d : Int) K (g + 1) 0 (c : Int) ν = if ((cr c : Nat) : Int) = tc d then bd (X11_in (ts d) (ν 91 c) (ν 92 c) ν) fun v15 μ16 => if v15 = 0 then (X11_fits_L15 (p : Int) (d : Int) K g 0 ((c + 1 : Nat) : Int) μ16) else (X11_fits_L15 (p : Int) (d : Int) K g 1 ((c + 1 : Nat) : Int) μ16) else X11_fits_L15 (p : Int) (d : Int) K g 0 ((c + 1 : Nat) : Int) ν := by
        show (if (ν 70 37) ≤ (c : Int) then _ else _) = _
        rw [h37, if_neg (by omega), if_pos rfl, off8 (by omega) (by omega), iA_nat (by omega), L83]
        try dsimp only
        rw [L94]
        try dsimp only
        rw [L93]
        try dsimp only
        rw [L91]
        try dsimp only
        rw [L92]
      have nx : ¬ hdM ν cr ts tc d c → X11_fits_L15 (p : Int) (d : Int) K (g + 1) 0 (c : Int) ν = X11_fits_L15 (p : Int) (d : Int) K g 0 ((c + 1 : Nat) : Int) ν → (((0 : Int) = 1 ∨ ∃ e, c ≤ e ∧ e < m ∧ hdM ν cr ts tc d e) → X11_fits_L15 (p : Int) (d : Int) K (g + 1) 0 (c : Int) ν = K 1 ν) ∧ (¬ ((0 : Int) = 1 ∨ ∃ e, c ≤ e ∧ e < m ∧ hdM ν cr ts tc d e) → X11_fits_L15 (p : Int) (d : Int) K (g + 1) 0 (c : Int) ν = K 0 ν) := by
        intro hn e1
        have h := ih (c + 1) g 0 (by omega) (by omega) (Or.inl rfl)
        rw [e1]
        refine ⟨fun z => h.1 ?_, fun z => h.2 ?_⟩
        · rcases z with z | ⟨e, z1, z2, z3⟩
          · exact absurd z (by decide)
          · by_cases ce : e = c
            · rw [ce] at z3; exact absurd z3 hn
            · exact Or.inr ⟨e, by omega, z2, z3⟩
        · rintro (y | ⟨e, z1, z2, z3⟩)
          · exact absurd y (by decide)
          · exact z (Or.inr ⟨e, by omega, z2, z3⟩)
      by_cases c1 : ((cr c : Nat) : Int) = tc d
      · rw [if_pos c1] at e0
        by_cases c2 : ν 91 c ≤ ts d ∧ ts d ≤ ν 92 c
        · rw [in_rg ν c2, bd_some, if_neg (by decide)] at e0
          have h := ih (c + 1) g 1 (by omega) (by omega) (Or.inr rfl)
          rw [e0]
          exact ⟨fun _ => h.1 (Or.inl rfl), fun z => absurd (Or.inr ⟨c, Nat.le_refl _, hc, c1, c2.1, c2.2⟩) z⟩
        · rw [in_no ν c2, bd_some, if_pos rfl] at e0
          exact nx (fun z => c2 z.2) e0
      · rw [if_neg c1] at e0
        exact nx (fun z => c1 z.1) e0
    · subst y
      have e0 : X11_fits_L15 (p : Int) (d : Int) K (g + 1) 1 (c : Int) ν = X11_fits_L15 (p : Int) (d : Int) K g 1 ((c + 1 : Nat) : Int) ν := by
        show (if (ν 70 37) ≤ (c : Int) then _ else _) = _
        rw [h37, if_neg (by omega), if_neg (by decide), iA_nat (by omega)]
      rw [e0]
      have h := ih (c + 1) g 1 (by omega) (by omega) (Or.inr rfl)
      exact ⟨fun _ => h.1 (Or.inl rfl), fun z => absurd (Or.inl rfl) z⟩
theorem fits2 (hm : m ≤ 8) (hp : p ≤ 4) (hN : N ≤ 10) {ν : Mm} (h37 : ν 70 37 = (m : Int)) (hE : EnM ν p m cr N ts tc) : ∀ (r d fuel : Nat), d + r = N → r < fuel → ((∀ e, d ≤ e → e < N → ∃ c, c < m ∧ hdM ν cr ts tc e c) → X11_fits_L2 (p : Int) fuel (d : Int) ν = some (1, ν)) ∧ ((∃ e, d ≤ e ∧ e < N ∧ ¬ ∃ c, c < m ∧ hdM ν cr ts tc e c) → X11_fits_L2 (p : Int) fuel (d : Int) ν = some (0, ν)) := by
  intro r
  induction r with
  | zero =>
    intro d fuel hr hf
    obtain ⟨g, rfl, _⟩ := lt_fuel hf
    refine ⟨fun _ => ?_, fun z => ?_⟩
    · show (if (ν 70 45) ≤ (d : Int) then _ else _) = _
      rw [hE.1, if_pos (by omega)]
    · obtain ⟨e, e1, e2, _⟩ := z
      exact absurd e2 (by omega)
  | succ r ih =>
    intro d fuel hr hf
    obtain ⟨g, rfl, _⟩ := lt_fuel hf
    have hd : d < N := by omega
    have h15 := fits15 hm hp hN h37 hE hd (K := fun v19 μ20 => if v19 = 0 then (some (0, μ20)) else (X11_fits_L2 (p : Int) g (iA (d : Int) 1) μ20)) m 0 FU 0 (by omega) (by show m < 1000000; omega) (Or.inl rfl)
    have e0 : X11_fits_L2 (p : Int) (g + 1) (d : Int) ν = X11_fits_L15 (p : Int) (d : Int) (fun v19 μ20 => if v19 = 0 then (some (0, μ20)) else (X11_fits_L2 (p : Int) g (iA (d : Int) 1) μ20)) FU 0 ((0 : Nat) : Int) ν := by
      show (if (ν 70 45) ≤ (d : Int) then _ else _) = _
      rw [hE.1, if_neg (by omega)]
      rfl
    have h := ih (d + 1) g (by omega) (by omega)
    by_cases c : ∃ c, c < m ∧ hdM ν cr ts tc d c
    · have e1 : X11_fits_L2 (p : Int) (g + 1) (d : Int) ν = X11_fits_L2 (p : Int) g ((d + 1 : Nat) : Int) ν := by
        rw [e0, h15.1 (Or.inr (by obtain ⟨c, z1, z2⟩ := c; exact ⟨c, Nat.zero_le _, z1, z2⟩))]
        show (if (1 : Int) = 0 then _ else _) = _
        rw [if_neg (by decide), iA_nat (by omega)]
      rw [e1]
      refine ⟨fun z => h.1 (fun e e1 e2 => z e (by omega) e2), fun z => h.2 ?_⟩
      obtain ⟨e, z1, z2, z3⟩ := z
      by_cases ce : e = d
      · rw [ce] at z3; exact absurd c z3
      · exact ⟨e, by omega, z2, z3⟩
    · have e1 : X11_fits_L2 (p : Int) (g + 1) (d : Int) ν = some (0, ν) := by
        rw [e0, h15.2 (fun z => by
          rcases z with z | ⟨e, _, z1, z2⟩
          · exact absurd z (by decide)
          · exact c ⟨e, z1, z2⟩)]
        show (if (0 : Int) = 0 then _ else _) = _
        rw [if_pos rfl]
      exact ⟨fun z => absurd (z d (Nat.le_refl _) hd) c, fun _ => e1⟩
theorem fitsM (hm : m ≤ 8) (hp : p ≤ 4) (hN : N ≤ 10) {ν : Mm} (h37 : ν 70 37 = (m : Int)) (hE : EnM ν p m cr N ts tc) : ((∀ e, e < N → ∃ c, c < m ∧ hdM ν cr ts tc e c) → X11_fits (p : Int) ν = some (1, ν)) ∧ ((∃ e, e < N ∧ ¬ ∃ c, c < m ∧ hdM ν cr ts tc e c) → X11_fits (p : Int) ν = some (0, ν)) := by
  have h := fits2 hm hp hN h37 hE N 0 FU (by omega) (by show N < 1000000; omega)
  exact ⟨fun z => h.1 (fun e _ e2 => z e e2), fun z => h.2 (by obtain ⟨e, z1, z2⟩ := z; exact ⟨e, Nat.zero_le _, z1, z2⟩)⟩
/-- one ORDER, whole -/
theorem fitLf (hJ : JOK m B T Wd S) (hp : p ≤ 4) (hN : N ≤ 10) {o : Nat → Nat} (ho : rngN m o) (hi : injN m o) (hon : ∀ c, c < m → ∃ j, j < m ∧ o j = c) (lf : Nat → Bool) {ξ : Mm} (hB : Bm ξ) (hM : JobM ξ m B T Wd S) (hE : EnM ξ p m cr N ts tc) (hs : 0 ≤ ξ 70 46 ∧ ξ 70 46 < 20000000) : ∃ ξ', (bd (X11_go (dig o m) ξ) fun v10 μ11 => if v10 = 0 then (some (0, μ11)) else (bd (X11_fits (p : Int) μ11) fun v14 μ15 => if v14 = 0 then (some (0, μ15)) else (if (μ15 70 46) = w then (sF μ15 70 47 (dig o m) fun μ21 => sF μ21 70 46 (iA (μ21 70 46) 1) fun μ22 => some (0, μ22)) else (sF μ15 70 47 (μ15 70 47) fun μ19 => sF μ19 70 46 (iA (μ19 70 46) 1) fun μ20 => some (0, μ20))))) = some (0, ξ') ∧ Bm ξ' ∧ fw WfM ξ ξ' ∧ stM ξ' = (FTo m B T Wd S cr N ts tc 0 lf m o).foldl (stF w) (stM ξ) := by
  have hm8 := hJ.2.1
  have h10 : ∀ j, j < m → o j < 10 := fun j hj => by have := ho j hj; omega
  have hP := dig_PO hm8 ho hi
  have hd : ∀ j, j < m → dgN m (dig o m) j = o j := fun j hj => dig_dg h10 hj
  have hdb := dig_b (o := o) m h10
  have p8 : (10 : Int) ^ m ≤ 100000000 := p10_mono (b := 8) (by omega)
  obtain ⟨ξ1, g0, g1, g2, g3⟩ := goM hJ hP hB hM
  have f1 : fw WfM ξ ξ1 := fun k j hn => g1 k j (fun z => hn (by unfold WgM at z; unfold WfM; omega))
  have hE1 := EnM_c hE f1
  have hM1 := JobM_f hM f1
  have s46 : ξ1 70 46 = ξ 70 46 := g1 70 46 (by unfold WgM; omega)
  have s47 : ξ1 70 47 = ξ 70 47 := g1 70 47 (by unfold WgM; omega)
  have hst : stM ξ1 = stM ξ := by unfold stM; rw [s46, s47]
  by_cases cf : feas m B o m
  · obtain ⟨q1, q2⟩ := g2 ((feas_co hd).mpr cf)
    have hR : ∀ k, k < m → ξ1 91 (o k) = rc m B T Wd S o k ∧ ξ1 92 (o k) = rt m B T Wd S o (k + 1) := fun k hk => by
      have h := q2 k hk
      have e1 : rc m B T Wd S (dgN m (dig o m)) k = rc m B T Wd S o k := by
        unfold rc
        rw [rt_co hd k (by omega), fr_co hd hk, hd k hk]
      rw [hd k hk, e1, rt_co hd (k + 1) (by omega)] at h
      exact h
    have hf := fitsM hm8 hp hN hM1.1 hE1
    have key : ∀ d, (∃ c, c < m ∧ hdM ξ1 cr ts tc d c) ↔ hrd m B T Wd S cr ts tc o m d := by
      intro d
      constructor
      · rintro ⟨c, c1, c2, c3, c4⟩
        obtain ⟨j, j1, j2⟩ := hon c c1
        obtain ⟨r1, r2⟩ := hR j j1
        rw [j2] at r1 r2
        exact ⟨j, j1, by rw [j2]; exact c2, by rw [← r1]; exact c3, by rw [← r2]; exact c4⟩
      · rintro ⟨j, j1, j2, j3, j4⟩
        obtain ⟨r1, r2⟩ := hR j j1
        exact ⟨o j, ho j j1, j2, by rw [r1]; exact j3, by rw [r2]; exact j4⟩
    by_cases ca : allH m B T Wd S cr N ts tc o m
    · have hL := (FTo_0 (lf := lf)).1 ⟨cf, ca⟩
      have hv := hf.1 (fun d hd => (key d).mpr (ca d hd))
      have fin : ∀ v : Int, (-2147483648 ≤ v ∧ v ≤ 2147483647) → ∃ ξ', (sF ξ1 70 47 v fun μ21 => sF μ21 70 46 (iA (μ21 70 46) 1) fun μ22 => some (0, μ22)) = some (0, ξ') ∧ Bm ξ' ∧ fw WfM ξ ξ' ∧ stM ξ' = (ξ 70 46 + 1, v) := by
        intro v hv
        have e1 : iA (sM ξ1 70 47 v 70 46) 1 = ξ 70 46 + 1 := by
          rw [sM_j (by decide), s46]
          exact iA_id (by omega) (by omega)
        refine ⟨sM (sM ξ1 70 47 v) 70 46 (ξ 70 46 + 1), ?_, Bm_sM (Bm_sM g0 hv) (show -2147483648 ≤ ξ 70 46 + 1 ∧ ξ 70 46 + 1 ≤ 2147483647 by clear e1; omega), fw_sM (fw_sM f1 (Or.inr (Or.inr ⟨rfl, Or.inr rfl⟩))) (Or.inr (Or.inr ⟨rfl, Or.inl rfl⟩)), ?_⟩
        · rw [sF_r, sF_r, e1]
        · unfold stM
          rw [sM_s, sM_j (by decide), sM_s]
      rw [q1, bd_some, if_neg (by decide), hv, bd_some, if_neg (by decide), hL]
      by_cases cw : ξ1 70 46 = w
      · rw [if_pos cw]
        obtain ⟨ξ', x1, x2, x3, x4⟩ := fin (dig o m) (by omega)
        refine ⟨ξ', x1, x2, x3, ?_⟩
        rw [x4]
        show _ = (ξ 70 46 + 1, if ξ 70 46 = w then dig o m else ξ 70 47)
        rw [if_pos (by rw [← s46]; exact cw)]
      · rw [if_neg cw]
        obtain ⟨ξ', x1, x2, x3, x4⟩ := fin (ξ1 70 47) (g0 70 47 (by decide))
        refine ⟨ξ', x1, x2, x3, ?_⟩
        rw [x4]
        show _ = (ξ 70 46 + 1, if ξ 70 46 = w then dig o m else ξ 70 47)
        rw [if_neg (by rw [← s46]; exact cw), s47]
    · have hL := (FTo_0 (lf := lf)).2 (fun z : feas m B o m ∧ allH m B T Wd S cr N ts tc o m => ca z.2)
      have hn : ∃ d, d < N ∧ ¬ ∃ c, c < m ∧ hdM ξ1 cr ts tc d c := Classical.byContradiction (fun z => ca (fun d hd => Classical.byContradiction (fun y => z ⟨d, hd, fun x => y ((key d).mp x)⟩)))
      refine ⟨ξ1, ?_, g0, f1, by rw [hL]; exact hst⟩
      rw [q1, bd_some, if_neg (by decide), hf.2 hn, bd_some, if_pos rfl]
  · have hL := (FTo_0 (lf := lf)).2 (fun z : feas m B o m ∧ allH m B T Wd S cr N ts tc o m => cf z.1)
    refine ⟨ξ1, ?_, g0, f1, by rw [hL]; exact hst⟩
    rw [g3 (fun z => cf ((feas_co hd).mp z)), bd_some, if_pos rfl]
theorem fitM_L (hm8 : m ≤ 8) {n k : Nat} {o : Nat → Nat} {lf : Nat → Bool} {M : Int} (hk : n + 1 + k = m) (hX : msk M m lf) (ho : ∀ x, x < k → o x < m) {rec : Int → Int → Int → Int → Mm → Rs} (hrec : ∀ i, i < m → lf i = true → ∀ (Y : Int) (ξ1 : Mm), msk Y m (ofB lf i) → Bm ξ1 → JobM ξ1 m B T Wd S → EnM ξ1 p m cr N ts tc → 0 ≤ ξ1 70 46 → ξ1 70 46 + ((8 ^ n : Nat) : Int) ≤ 20000000 → ∃ ξ2, rec (p : Int) Y (10 * dig o k + (i : Int)) w ξ1 = some (0, ξ2) ∧ Bm ξ2 ∧ fw WfM ξ1 ξ2 ∧ stM ξ2 = (FTo m B T Wd S cr N ts tc n (ofB lf i) (k + 1) (uN o k i)).foldl (stF w) (stM ξ1)) {ξ0 : Mm} (hM : JobM ξ0 m B T Wd S) (hE : EnM ξ0 p m cr N ts tc) (hf0 : 0 ≤ ξ0 70 46 ∧ ξ0 70 46 + ((8 ^ (n + 1) : Nat) : Int) ≤ 20000000) : ∀ (r i fuel : Nat) (ξ : Mm), i + r = m → r < fuel → Bm ξ → fw WfM ξ0 ξ → stM ξ = (FTc (fun i => if lf i = true then FTo m B T Wd S cr N ts tc n (ofB lf i) (k + 1) (uN o k i) else []) i).foldl (stF w) (stM ξ0) → ∃ ξ', X11_fitFrom_L55 rec (p : Int) M (dig o k) w fuel (i : Int) ξ = some (0, ξ') ∧ Bm ξ' ∧ fw WfM ξ0 ξ' ∧ stM ξ' = (FTc (fun i => if lf i = true then FTo m B T Wd S cr N ts tc n (ofB lf i) (k + 1) (uN o k i) else []) m).foldl (stF w) (stM ξ0) := by
  obtain ⟨G, hG⟩ : ∃ G : Nat → List Int, G = fun i => if lf i = true then FTo m B T Wd S cr N ts tc n (ofB lf i) (k + 1) (uN o k i) else [] := ⟨_, rfl⟩
  rw [← hG]
  have hGy : ∀ i, lf i = true → G i = FTo m B T Wd S cr N ts tc n (ofB lf i) (k + 1) (uN o k i) := fun i hi => by rw [hG]; exact if_pos hi
  have hGn : ∀ i, ¬ lf i = true → G i = [] := fun i hi => by rw [hG]; exact if_neg hi
  have hlen : ∀ x, x ≤ m → (FTc G x).length ≤ x * 8 ^ n := fun x hx => FTc_len x (fun i hi => by
    by_cases c : lf i = true
    · rw [hGy i c]; exact FTo_len hm8 _ _ _ _
    · rw [hGn i c]; exact Nat.zero_le _)
  have hdg := dig_b (o := o) k (fun j hj => by have := ho j hj; omega)
  have p8 : (10 : Int) ^ k ≤ 10000000 := p10_mono (b := 7) (by omega)
  intro r
  induction r with
  | zero =>
    intro i fuel ξ hr hfu hB hfw hst
    obtain ⟨g, rfl, _⟩ := lt_fuel hfu
    have e : i = m := by omega
    rw [e] at hst
    refine ⟨ξ, ?_, hB, hfw, hst⟩
    show (if (ξ 70 37) ≤ (i : Int) then _ else _) = _
    rw [(JobM_f hM hfw).1, if_pos (by omega)]
  | succ r ih =>
    intro i fuel ξ hr hfu hB hfw hst
    obtain ⟨g, rfl, _⟩ := lt_fuel hfu
    have him : i < m := by omega
    have hMξ := JobM_f hM hfw
    have hEξ := EnM_c hE hfw
    have eF : FTc G (i + 1) = FTc G i ++ G i := rfl
    have e0 : X11_fitFrom_L55 rec (p : Int) M (dig o k) w (g + 1) (i : Int) ξ = if (if lf i = true then (1 : Int) else 0) = 0 then X11_fitFrom_L55 rec (p : Int) M (dig o k) w g ((i + 1 : Nat) : Int) ξ else (bd (rec (p : Int) (bA M (bX (bL 1 (i : Int)) (-1))) (10 * dig o k + (i : Int)) w ξ) fun v7 μ8 => X11_fitFrom_L55 rec (p : Int) M (dig o k) w g ((i + 1 : Nat) : Int) μ8) := by
      have et : iA (iM 10 (dig o k)) (i : Int) = 10 * dig o k + (i : Int) := by
        rw [iM_id (by omega) (by omega), iA_id (by omega) (by omega)]
      show (if (ξ 70 37) ≤ (i : Int) then _ else _) = _
      rw [hMξ.1, if_neg (by clear et; omega), hasM_eq hm8 hX him ξ, bd_some, et, iA_nat (by clear et; omega)]
    by_cases c : lf i = true
    · rw [if_pos c, if_neg (by decide)] at e0
      have h46 : ξ 70 46 = ξ0 70 46 + ((FTc G i).length : Int) := by
        have h := fo1 (w := w) (FTc G i) (stM ξ0)
        rw [← hst] at h
        exact h
      have hl := hlen i (by omega)
      have h8 : (i + 1) * 8 ^ n ≤ 8 ^ (n + 1) := by
        have h1 : (i + 1) * 8 ^ n ≤ 8 * 8 ^ n := Nat.mul_le_mul_right _ (by omega)
        have h2 : 8 ^ (n + 1) = 8 * 8 ^ n := by rw [Nat.pow_succ, Nat.mul_comm]
        omega
      have h9 : (i + 1) * 8 ^ n = i * 8 ^ n + 8 ^ n := Nat.succ_mul _ _
      obtain ⟨ξ2, y1, y2, y3, y4⟩ := hrec i him c _ ξ (msk_off hX (by omega)) hB hMξ hEξ (by omega) (by omega)
      obtain ⟨ξ', z1, z2, z3, z4⟩ := ih (i + 1) g ξ2 (by omega) (by omega) y2 (fw_tr hfw y3) (by
        rw [y4, eF, List.foldl_append, hGy i c, hst])
      refine ⟨ξ', ?_, z2, z3, z4⟩
      rw [e0, y1, bd_some]
      exact z1
    · rw [if_neg c, if_pos rfl] at e0
      rw [e0]
      exact ih (i + 1) g ξ (by omega) (by omega) hB hfw (by rw [eF, hGn i c, List.append_nil]; exact hst)
theorem fitM (hJ : JOK m B T Wd S) (hp : p ≤ 4) (hN : N ≤ 10) : ∀ (n fuel k : Nat) (o : Nat → Nat) (lf : Nat → Bool) (M : Int) (ξ : Mm), n + k = m → n < fuel → msk M m lf → cN lf m = n → (∀ x, x < k → o x < m) → injN k o → (∀ c, c < m → lf c = true → ∀ j, j < k → o j ≠ c) → (∀ c, c < m → lf c = true ∨ ∃ j, j < k ∧ o j = c) → Bm ξ → JobM ξ m B T Wd S → EnM ξ p m cr N ts tc → 0 ≤ ξ 70 46 → ξ 70 46 + ((8 ^ n : Nat) : Int) ≤ 20000000 → ∃ ξ', X11_fitFrom fuel (p : Int) M (dig o k) w ξ = some (0, ξ') ∧ Bm ξ' ∧ fw WfM ξ ξ' ∧ stM ξ' = (FTo m B T Wd S cr N ts tc n lf k o).foldl (stF w) (stM ξ) := by
  have hm8 := hJ.2.1
  intro n
  induction n with
  | zero =>
    intro fuel k o lf M ξ hk hfu hX hn ho hi hof hon hB hM hE h0 h8
    obtain ⟨g, rfl, _⟩ := lt_fuel hfu
    have ekm : k = m := by omega
    subst ekm
    have eM : M = 0 := (msk_0 hm8 hX).mpr hn
    have h81 : ((8 ^ 0 : Nat) : Int) = 1 := rfl
    obtain ⟨ξ', x1, x2⟩ := fitLf (w := w) hJ hp hN ho hi (fun c hc => (hon c hc).resolve_left (fun z => cN_0 _ hn c hc z)) lf hB hM hE ⟨h0, by omega⟩
    refine ⟨ξ', ?_, x2⟩
    show (if M = 0 then _ else _) = _
    rw [if_pos eM]
    exact x1
  | succ n ih =>
    intro fuel k o lf M ξ hk hfu hX hn ho hi hof hon hB hM hE h0 h8
    obtain ⟨g, rfl, _⟩ := lt_fuel hfu
    have eM : M ≠ 0 := fun z => by
      have := (msk_0 hm8 hX).mp z
      omega
    obtain ⟨ξ', l1, l2⟩ := fitM_L (w := w) hm8 hk hX ho (rec := fun w0 w1 w2 w3 μq => X11_fitFrom g w0 w1 w2 w3 μq) (fun i him c Y ξ1 y1 y2 y3 y4 y5 y6 => by
      have edg : dig (uN o k i) (k + 1) = 10 * dig o k + (i : Int) := by
        show 10 * dig (uN o k i) k + ((uN o k i k : Nat) : Int) = _
        rw [uN_k, dig_u (o := uN o k i) (o' := o) k (fun j hj => uN_o hj)]
      have h := ih g (k + 1) (uN o k i) (ofB lf i) Y ξ1 (by omega) (by omega) y1 (by rw [cN_off c, if_pos him, hn]; rfl) (fun x hx => by
        by_cases e : x = k
        · rw [e, uN_k]; exact him
        · rw [uN_o (by omega)]; exact ho x (by omega)) (fun a b hab hb => by
        by_cases e : b = k
        · rw [e, uN_k, uN_o (by omega)]
          exact hof i him c a (by omega)
        · rw [uN_o (show b < k by omega), uN_o (by omega)]
          exact hi a b hab (by omega)) (fun d hd z j hj => by
        unfold ofB at z
        by_cases e : d = i
        · rw [if_pos e] at z; exact absurd z (by decide)
        · rw [if_neg e] at z
          by_cases e2 : j = k
          · rw [e2, uN_k]; exact fun y => e y.symm
          · rw [uN_o (by omega)]; exact hof d hd z j (by omega)) (fun d hd => by
        by_cases e : d = i
        · exact Or.inr ⟨k, by omega, by rw [uN_k, e]⟩
        · rcases hon d hd with z | ⟨j, z1, z2⟩
          · refine Or.inl ?_
            unfold ofB
            rw [if_neg e]; exact z
          · exact Or.inr ⟨j, by omega, by rw [uN_o z1]; exact z2⟩) y2 y3 y4 y5 y6
      rw [edg] at h
      exact h) hM hE ⟨h0, h8⟩ m 0 FU ξ (by omega) (by show m < 1000000; omega) hB fw_rf rfl
    refine ⟨ξ', ?_, l2⟩
    show (if M = 0 then _ else _) = _
    rw [if_neg eM]
    exact l1
end FM
theorem m_fit : ∀ a0, rI a0 → ∀ a1, rI a1 → sI Inv Inv (X10_fit a0 a1) (X11_fit a0 a1) := by
  intro a ha x hx μ hI
  have t1 := t_X10_fit (W := scr) (μs := μ) (hW := fun _ _ h => h) (hp_l1 := ha) (hp_l2 := hx) (St_rf hI.1)
  have hK := hI.2.2.2.2.2.1
  by_cases cr0 : μ 70 23 = 0 ∨ ¬ (0 ≤ a ∧ a < μ 70 28)
  · have hr : X11_fit a x μ = some (-1, μ) := by
      unfold X11_fit
      rw [rdy_no hI.2.1.1 cr0, bd_some, if_pos rfl]
    refine ⟨-1, μ, μ, ?_, hr, hI⟩
    unfold X10_fit
    by_cases c : x < -1
    · rw [if_pos c]
    · rw [if_neg c, lay_no hI cr0, bd_some, if_pos rfl]
  · have h23 : μ 70 23 ≠ 0 := fun z => cr0 (Or.inl z)
    have hap : 0 ≤ a ∧ a < μ 70 28 := Classical.byContradiction (fun z => cr0 (Or.inr z))
    obtain ⟨p, rfl⟩ : ∃ p : Nat, a = (p : Int) := ⟨a.toNat, by omega⟩
    obtain ⟨L, T, ν, s, hPk, ⟨hG, hs, h53, hW, h86, h57, hP⟩, g1, g2, hC⟩ := layB hI h23 hap.2
    obtain ⟨p4, _, l1, l8, hL, hPp, hMm, H, hH, hTT⟩ := id hPk
    have hcr : ∀ k, k < L.length → lets L k < 8 := fun k hk => (lets_e hL hk).2
    have hT := Pk_T hPk
    have hJ : JOK L.length (bW (opM μ) (μ 7) s (lets L) L.length) T (fun k => μ 8 (lets L k)) (μ 70 30) := bW_J hG hcr l1 l8 hW.1 hT hW.2
    obtain ⟨N, n10, n1, n2, n3⟩ := hI.2.2.2.2.2.2.2.2
    have hFB : FB L.length (bW (opM μ) (μ 7) s (lets L) L.length) (lets L) := bW_F hG hcr (fun c c' hc hc' h e => by
      obtain ⟨q, _, q1, _, q2⟩ := Kc_q hK hc h
      obtain ⟨q', _, q3, _, q4⟩ := Kc_q hK hc' (by rw [← e]; exact h)
      have : q = q' := by omega
      rw [this] at q2
      omega)
    have hTR := bW_T hG hcr
    have ref : ∀ ν3, Inv ν3 → sameK μ ν3 → ∃ ξ', X11_fit (p : Int) x ν3 = some (if x = -1 then ((FTo L.length (bW (opM μ) (μ 7) s (lets L) L.length) T (fun k => μ 8 (lets L k)) (μ 70 30) (lets L) N (μ 93) (μ 94) L.length (fun _ => true) 0 (fun _ => 0)).length : Int) else ((FTo L.length (bW (opM μ) (μ 7) s (lets L) L.length) T (fun k => μ 8 (lets L k)) (μ 70 30) (lets L) N (μ 93) (μ 94) L.length (fun _ => true) 0 (fun _ => 0)).foldl (stF x) (0, -1)).2, ξ') ∧ Sm ν3 ξ' := by
      intro ν3 hI1 e1
      have nn : nearM μ ν3 := fun k j h1 _ _ _ => e1 k j h1
      obtain ⟨m1, m2, m3, m4⟩ := nearM_p nn hMm hH
      have e82 : ∀ j, ν3 82 j = μ 82 j := fun j => e1 82 j (by unfold scr; omega)
      have e23 := e1 70 23 (by unfold scr; omega)
      have e24 := e1 70 24 (by unfold scr; omega)
      have i3 : ∀ y, isP ν3 y ↔ isP μ y := isP_congr e23 e24
      have o3 : ∀ y, opM ν3 y ↔ opM μ y := fun y => by unfold opM; rw [i3, e82]
      have hTM : TrM ν3 (opM μ) (μ 7) s (μ 8) (μ 70 30) := ⟨hI1.2.1, o3, PlM_c e82 e23 e24 (Kc_PlM hK), ⟨hs.1, (i3 s).mpr hs.2.1, by rw [e82]; exact hs.2.2⟩, fun d hd => by rw [e1 86 d (by unfold scr; omega)]; exact (h86 d hd).symm, e1 70 30 (by unfold scr; omega), by rw [e23]; exact h23⟩
      obtain ⟨ξ, y1, y2, y3⟩ := rdyB (T := T) l8 hL (by rw [m3]; exact hap.2) m1 m2 hG hTM (fun k _ => by rw [m4]; exact hTT k)
      have nS : ∀ k j, ¬ scr k j → ¬ scrM k j → ξ k j = μ k j := fun k j h1 h2 => by rw [y2.2 k j h2, e1 k j h1]
      obtain ⟨ξ1, hξ1⟩ : ∃ z, z = sM (sM ξ 70 46 0) 70 47 (-1) := ⟨_, rfl⟩
      have f1 : fw WfM ξ ξ1 := by
        rw [hξ1]
        exact fw_sM (fw_sM fw_rf (Or.inr (Or.inr ⟨rfl, Or.inl rfl⟩))) (Or.inr (Or.inr ⟨rfl, Or.inr rfl⟩))
      have b1 : Bm ξ1 := by
        rw [hξ1]
        exact Bm_sM (Bm_sM y2.1 (show (-2147483648 : Int) ≤ 0 ∧ (0 : Int) ≤ 2147483647 by decide)) (show (-2147483648 : Int) ≤ -1 ∧ (-1 : Int) ≤ 2147483647 by decide)
      have h46 : ξ1 70 46 = 0 := by rw [hξ1, sM_j (by decide), sM_s]
      have h47 : ξ1 70 47 = -1 := by rw [hξ1, sM_s]
      have hE : EnM ξ p L.length (lets L) N (μ 93) (μ 94) := ⟨by rw [nS 70 45 (by unfold scr; omega) (by unfold scrM; omega)]; exact n2, fun d _ => ⟨nS 93 d (by unfold scr; omega) (by unfold scrM; omega), nS 94 d (by unfold scr; omega) (by unfold scrM; omega)⟩, fun k hk => by
        have := (hMm.2 k hk).1
        rw [Nat.zero_add] at this
        rw [nS 83 _ (by unfold scr; omega) (by unfold scrM; omega), this, (lets_e hL hk).1]⟩
      have hM1 := JobM_f y3 f1
      have h8m : 8 ^ L.length ≤ 8 ^ 8 := Nat.pow_le_pow_right (by decide) l8
      have h88 : 8 ^ 8 = 16777216 := by decide
      obtain ⟨ξ', v1, v2, v3, v4⟩ := fitM (w := x) hJ p4 n10 L.length RD 0 (fun _ => 0) (fun _ => true) _ ξ1 (by omega) (by show L.length < 12; omega) (msk_all l8) cN_all (fun z hz => absurd hz (Nat.not_lt_zero _)) (fun i j _ hj => absurd hj (Nat.not_lt_zero _)) (fun _ _ _ j hj => absurd hj (Nat.not_lt_zero _)) (fun _ _ => Or.inl rfl) b1 hM1 (EnM_c hE f1) (by omega) (by omega)
      have v1 : X11_fitFrom RD (p : Int) (iS (bL 1 (L.length : Int)) 1) 0 x ξ1 = some (0, ξ') := v1
      have v4 : stM ξ' = (FTo L.length (bW (opM μ) (μ 7) s (lets L) L.length) T (fun k => μ 8 (lets L k)) (μ 70 30) (lets L) N (μ 93) (μ 94) L.length (fun _ => true) 0 (fun _ => 0)).foldl (stF x) (0, -1) := by
        rw [v4]
        unfold stM
        rw [h46, h47]
      refine ⟨ξ', ?_, v2, fun k j hn => ?_⟩
      · unfold X11_fit
        rw [y1, bd_some, if_neg (by decide), sF_r, sF_r, ← hξ1]
        unfold X11_all
        rw [hM1.1, bd_some, v1, bd_some]
        by_cases c : x = -1
        · rw [if_pos c, if_pos c]
          have h := fo1 (w := x) (FTo L.length (bW (opM μ) (μ 7) s (lets L) L.length) T (fun k => μ 8 (lets L k)) (μ 70 30) (lets L) N (μ 93) (μ 94) L.length (fun _ => true) 0 (fun _ => 0)) (0, -1)
          rw [← v4] at h
          have h : ξ' 70 46 = 0 + ((FTo L.length (bW (opM μ) (μ 7) s (lets L) L.length) T (fun k => μ 8 (lets L k)) (μ 70 30) (lets L) N (μ 93) (μ 94) L.length (fun _ => true) 0 (fun _ => 0)).length : Int) := h
          rw [h, Int.zero_add]
        · rw [if_neg c, if_neg c, ← v4]
          rfl
      · rw [v3 k j (fun z => hn (by unfold WfM at z; unfold scrM; omega)), f1 k j (fun z => hn (by unfold WfM at z; unfold scrM; omega)), y2.2 k j hn]
    by_cases c : x < -1
    · obtain ⟨ξ', r1, r2⟩ := ref μ hI (fun _ _ _ => rfl)
      refine ⟨-1, μ, ξ', by unfold X10_fit; rw [if_pos c], ?_, Inv_Sm hI r2⟩
      rw [r1, if_neg (by omega), fo2 _ _ (Or.inl (by show x < 0; omega))]
    · obtain ⟨ν3, c1⟩ := fitC (w := x) hJ hFB hTR (bW_A hG hcr) n10 ⟨by omega, hx.2⟩ hC (N := N) (ts := μ 93) (tc := μ 94) ⟨by rw [g2.2 67 2 (by unfold scr; omega)]; exact n1, fun j hj => by
        rw [g2.2 68 j (by unfold scr; omega), g2.2 69 j (by unfold scr; omega)]
        exact n3 j hj⟩
      have e2 : X10_fit (p : Int) x μ = bd (X8_fitting 48 x ν) fun v6 μ7 => some (v6, μ7) := by
        unfold X10_fit
        rw [if_neg c, g1, bd_some, if_neg (by decide)]
      rw [c1, bd_some] at e2
      have R2 := e2
      rw [R2, wp_some] at t1
      have hI1 := Inv_St hI t1.1
      obtain ⟨ξ', r1, r2⟩ := ref ν3 hI1 t1.1.2
      exact ⟨_, ν3, ξ', R2, r1, Inv_Sm hI1 r2⟩
