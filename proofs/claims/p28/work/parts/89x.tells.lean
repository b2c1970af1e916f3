/-! ORDER, DONE, WHERE, WALK -/
theorem sK_u {f : Nat → Int} {x : Nat} {v : Int} : ∀ n, sK (fun c => if c = x then v else f c) n = sK f n + (if x < n then v - f x else 0) := by
  intro n
  induction n with
  | zero => rfl
  | succ n ih =>
    show sK (fun c => if c = x then v else f c) n + (if n = x then v else f n) = sK f n + f n + (if x < n + 1 then v - f x else 0)
    rw [ih]
    by_cases c : n = x
    · subst c
      rw [if_pos rfl, if_neg (by omega), if_pos (by omega)]
      omega
    · rw [if_neg c]
      by_cases c2 : x < n
      · rw [if_pos c2, if_pos (by omega)]; omega
      · rw [if_neg c2, if_neg (by omega)]; omega
theorem sK_c {f g : Nat → Int} : ∀ n, (∀ k, k < n → f k = g k) → sK f n = sK g n := by
  intro n
  induction n with
  | zero => intro _; rfl
  | succ n ih =>
    intro h
    show sK f n + f n = sK g n + g n
    rw [ih (fun k hk => h k (by omega)), h n (by omega)]
theorem mK_c {f g : Nat → Int} : ∀ n, (∀ k, k < n → f k = g k) → mK f n = mK g n := by
  intro n
  induction n with
  | zero => intro _; rfl
  | succ n ih =>
    intro h
    show mX (mK f n) (f n) = mX (mK g n) (g n)
    rw [ih (fun k hk => h k (by omega)), h n (by omega)]
theorem cK_c {f g : Nat → Int} : ∀ n, (∀ k, k < n → f k = g k) → cK f n = cK g n := by
  intro n
  induction n with
  | zero => intro _; rfl
  | succ n ih =>
    intro h
    show cK f n + (if f n ≤ 0 then 0 else 1) = cK g n + (if g n ≤ 0 then 0 else 1)
    rw [ih (fun k hk => h k (by omega)), h n (by omega)]
theorem mK_0 {f : Nat → Int} (h : ∀ k, 0 ≤ f k) : ∀ n, 0 ≤ mK f n := by
  intro n
  induction n with
  | zero => exact Int.le_refl _
  | succ n ih =>
    show 0 ≤ mX (mK f n) (f n)
    rw [mX_eq]; omega
theorem mK_u {f : Nat → Int} (hf : ∀ k, 0 ≤ f k) {x : Nat} {v : Int} (hv : 0 ≤ v) (hx : f x = 0) : ∀ n, mK (fun c => if c = x then v else f c) n = if x < n then mX (mK f n) v else mK f n := by
  intro n
  induction n with
  | zero => rfl
  | succ n ih =>
    have h0 := mK_0 hf n
    have hn := hf n
    show mX (mK (fun c => if c = x then v else f c) n) (if n = x then v else f n) = if x < n + 1 then mX (mX (mK f n) (f n)) v else mX (mK f n) (f n)
    rw [ih]
    by_cases c : n = x
    · subst c
      rw [if_pos rfl, if_neg (by omega), if_pos (by omega), hx]
      simp only [mX_eq]
      omega
    · rw [if_neg c]
      by_cases c2 : x < n
      · rw [if_pos c2, if_pos (by omega)]
        simp only [mX_eq]
        omega
      · rw [if_neg c2, if_neg (by omega)]
theorem cK_u {f : Nat → Int} {x : Nat} {v : Int} (hx : f x = 0) : ∀ n, cK (fun c => if c = x then v else f c) n = cK f n + (if x < n then (if v ≤ 0 then 0 else 1) else 0) := by
  intro n
  induction n with
  | zero => rfl
  | succ n ih =>
    show cK (fun c => if c = x then v else f c) n + (if (if n = x then v else f n) ≤ 0 then 0 else 1) = cK f n + (if f n ≤ 0 then 0 else 1) + (if x < n + 1 then (if v ≤ 0 then 0 else 1) else 0)
    rw [ih]
    by_cases c : n = x
    · subst c
      rw [if_pos rfl, if_neg (show ¬ n < n by omega), if_pos (show n < n + 1 by omega), hx, if_pos (Int.le_refl 0)]
    · rw [if_neg c]
      by_cases c2 : x < n
      · rw [if_pos c2, if_pos (show x < n + 1 by omega)]; omega
      · rw [if_neg c2, if_neg (show ¬ x < n + 1 by omega), Int.add_zero, Int.add_zero]
/-- what has been told of the CUES gone through -/
def Vf (g : Nat → Int) (o : Nat → Nat) : Nat → Nat → Int
  | 0 => fun _ => 0
  | i + 1 => fun c => if c = o i then g (o i) else Vf g o i c
theorem Vf_0 {g : Nat → Int} {o : Nat → Nat} {c : Nat} : ∀ i, (∀ j, j < i → o j ≠ c) → Vf g o i c = 0 := by
  intro i
  induction i with
  | zero => intro _; rfl
  | succ i ih =>
    intro h
    show (if c = o i then g (o i) else Vf g o i c) = 0
    rw [if_neg (fun e => h i (by omega) e.symm), ih (fun j hj => h j (by omega))]
theorem Vf_1 {g : Nat → Int} {o : Nat → Nat} : ∀ i j, j < i → Vf g o i (o j) = g (o j) := by
  intro i
  induction i with
  | zero => intro j hj; exact absurd hj (by omega)
  | succ i ih =>
    intro j hj
    show (if o j = o i then g (o i) else Vf g o i (o j)) = g (o j)
    by_cases c : o j = o i
    · rw [if_pos c, c]
    · rw [if_neg c]
      exact ih j (Classical.byContradiction (fun z => c (by rw [show j = i by omega])))
theorem Vf_n {g : Nat → Int} (hg : ∀ c, 0 ≤ g c) {o : Nat → Nat} : ∀ i c, 0 ≤ Vf g o i c := by
  intro i
  induction i with
  | zero => intro c; exact Int.le_refl _
  | succ i ih =>
    intro c
    show 0 ≤ (if c = o i then g (o i) else Vf g o i c)
    split
    · exact hg _
    · exact ih c
theorem perm {m : Nat} {g : Nat → Int} (hg : ∀ c, 0 ≤ g c) {o : Nat → Nat} (hr : rngN m o) (hi : injN m o) : sK (fun k => g (o k)) m = sK g m ∧ mK (fun k => g (o k)) m = mK g m ∧ cK (fun k => g (o k)) m = cK g m := by
  have h : ∀ i, i ≤ m → sK (fun k => g (o k)) i = sK (Vf g o i) m ∧ mK (fun k => g (o k)) i = mK (Vf g o i) m ∧ cK (fun k => g (o k)) i = cK (Vf g o i) m := by
    intro i
    induction i with
    | zero =>
      intro _
      have z1 : ∀ n, sK (Vf g o 0) n = 0 := fun n => by
        induction n with
        | zero => rfl
        | succ n ih => show sK (Vf g o 0) n + 0 = 0; rw [ih]; rfl
      have z2 : ∀ n, mK (Vf g o 0) n = 0 := fun n => by
        induction n with
        | zero => rfl
        | succ n ih => show mX (mK (Vf g o 0) n) 0 = 0; rw [ih]; rfl
      have z3 : ∀ n, cK (Vf g o 0) n = 0 := fun n => by
        induction n with
        | zero => rfl
        | succ n ih => show cK (Vf g o 0) n + 0 = 0; rw [ih]; rfl
      exact ⟨(z1 m).symm, (z2 m).symm, (z3 m).symm⟩
    | succ i ih =>
      intro hi1
      obtain ⟨h1, h2, h3⟩ := ih (by omega)
      have hoi := hr i (by omega)
      have v0 : Vf g o i (o i) = 0 := Vf_0 i (fun j hj => hi j i hj (by omega))
      refine ⟨?_, ?_, ?_⟩
      · show sK (fun k => g (o k)) i + g (o i) = sK (fun c => if c = o i then g (o i) else Vf g o i c) m
        rw [sK_u, if_pos hoi, v0, h1]
        omega
      · show mX (mK (fun k => g (o k)) i) (g (o i)) = mK (fun c => if c = o i then g (o i) else Vf g o i c) m
        rw [mK_u (Vf_n hg i) (hg _) v0, if_pos hoi, h2]
      · show cK (fun k => g (o k)) i + (if g (o i) ≤ 0 then 0 else 1) = cK (fun c => if c = o i then g (o i) else Vf g o i c) m
        rw [cK_u v0, if_pos hoi, h3]
  obtain ⟨h1, h2, h3⟩ := h m (Nat.le_refl _)
  have e : ∀ c, c < m → Vf g o m c = g c := fun c hc => by
    obtain ⟨j, j1, j2⟩ := inj_sur hr hi c hc
    rw [← j2]
    exact Vf_1 m j j1
  exact ⟨h1.trans (sK_c m e), h2.trans (mK_c m e), h3.trans (cK_c m e)⟩
/-- how late a CUE is, by what the reference's run left -/
def laC (ξ : Mm) (T : Nat → Int) (c : Nat) : Int := mX 0 (ξ 92 c - T c)
theorem laC_0 (ξ : Mm) (T : Nat → Int) (c : Nat) : 0 ≤ laC ξ T c := by unfold laC; rw [mX_eq]; omega
section TELL
variable {m : Nat} {B : Nat → Nat → Int} {T Wd : Nat → Int} {S : Int} {o : Nat → Nat}
theorem laC_o (hJ : JOK m B T Wd S) (hr : rngN m o) {ξ : Mm} (hR : RunM ξ m B T Wd S o m) (hf : feas m B o m) {k : Nat} (hk : k < m) : laC ξ T (o k) = laK m B T Wd S o k := by
  have h := (laK_b hJ hJ.2.1 hr hk (fun j hj => hf j (by omega))).1
  unfold laC
  rw [(hR k hk).2]
  have e : rt m B T Wd S o (k + 1) - T (o k) = laK m B T Wd S o k := rfl
  rw [e, mX_eq]
  omega
theorem lateM (hJ : JOK m B T Wd S) (hr : rngN m o) (hi : injN m o) {ξ : Mm} (hM : JobM ξ m B T Wd S) (hR : RunM ξ m B T Wd S o m) (hf : feas m B o m) {c : Nat} (hc : c < m) : X11_late (c : Int) ξ = some (laC ξ T c, ξ) ∧ laC ξ T c ≤ 6000 := by
  have hm8 := hJ.2.1
  obtain ⟨k, hk, e⟩ := inj_sur hr hi c hc
  have hb := (laK_b hJ hm8 hr hk (fun j hj => hf j (by omega))).1
  have hl := laC_o hJ hr hR hf hk
  have h92 : ξ 92 c = rt m B T Wd S o (k + 1) := by rw [← e]; exact (hR k hk).2
  have hrt := rt_b hJ hr (k + 1) (by omega) (fun j hj => hf j (by omega))
  have hT := hJ.2.2.2.2.1 c hc
  rw [e] at hl
  refine ⟨?_, by omega⟩
  unfold X11_late ldA
  rw [if_pos (by show (0 : Int) ≤ (c : Int) ∧ (c : Int) < 8; omega), Int.toNat_natCast]
  dsimp only
  rw [if_pos (by show (0 : Int) ≤ (c : Int) ∧ (c : Int) < 8; omega), (hM.2.2.1 c hc).1, iS_id (by omega) (by omega)]
  rfl
theorem tell_L (hJ : JOK m B T Wd S) (hr : rngN m o) (hi : injN m o) {ξ : Mm} (hM : JobM ξ m B T Wd S) (hR : RunM ξ m B T Wd S o m) (hf : feas m B o m) {l1 l2 : Int} {K : Int → Int → Int → Mm → Rs} : ∀ (r i fuel : Nat), i + r = m → r < fuel → X11_tellOf_L11 l1 l2 K fuel (sK (laC ξ T) i) (mK (laC ξ T) i) (cK (laC ξ T) i) (i : Int) ξ = K (sK (laC ξ T) m) (mK (laC ξ T) m) (cK (laC ξ T) m) ξ := by
  have hm8 := hJ.2.1
  intro r
  induction r with
  | zero =>
    intro i fuel hr2 hf2
    obtain ⟨g, rfl, _⟩ := lt_fuel hf2
    have e : i = m := by omega
    subst e
    show (if (ξ 70 37) ≤ (i : Int) then _ else _) = _
    rw [hM.1, if_pos (by omega)]
  | succ r ih =>
    intro i fuel hr2 hf2
    obtain ⟨g, rfl, _⟩ := lt_fuel hf2
    have him : i < m := by omega
    obtain ⟨e1, b1⟩ := lateM hJ hr hi hM hR hf him
    have b0 := laC_0 ξ T i
    have hs := sK_b (f := laC ξ T) (c := 6000) (by decide) i (fun j hj => ⟨laC_0 ξ T j, (lateM hJ hr hi hM hR hf (show j < m by omega)).2⟩)
    have hc := cK_b (f := laC ξ T) i
    have hn := ih (i + 1) g (by omega) (by omega)
    have es : iA (sK (laC ξ T) i) (laC ξ T i) = sK (laC ξ T) (i + 1) := iA_id (by omega) (by omega)
    have ec : cK (laC ξ T) (i + 1) = cK (laC ξ T) i + (if laC ξ T i ≤ 0 then 0 else 1) := rfl
    have em : mX (mK (laC ξ T) i) (laC ξ T i) = mK (laC ξ T) (i + 1) := rfl
    rw [← hn]
    show (if (ξ 70 37) ≤ (i : Int) then _ else _) = _
    rw [hM.1, if_neg (by omega), e1, bd_some, e1, bd_some, e1, bd_some, es, em, iA_nat (by omega), ec]
    by_cases c : laC ξ T i ≤ 0
    · rw [if_pos c, if_pos c]
      have z : iA (cK (laC ξ T) i) 0 = cK (laC ξ T) i + 0 := iA_id (by omega) (by omega)
      rw [z]
    · rw [if_neg c, if_neg c]
      have z : iA (cK (laC ξ T) i) 1 = cK (laC ξ T) i + 1 := iA_id (by omega) (by omega)
      rw [z]
/-- what is told of an ORDER -/
def tlV (m : Nat) (B : Nat → Nat → Int) (T Wd : Nat → Int) (S : Int) (o : Nat → Nat) (w : Int) : Int := if w = 0 then sK (laK m B T Wd S o) m else if w = 1 then mK (laK m B T Wd S o) m else if w = 2 then cK (laK m B T Wd S o) m else rt m B T Wd S o m
theorem tellM (hJ : JOK m B T Wd S) {ord : Int} (hP : PO m ord) {ξ : Mm} (hM : JobM ξ m B T Wd S) (hR : RunM ξ m B T Wd S (dgN m ord) m) (hf : feas m B (dgN m ord) m) {w : Int} : X11_tellOf ord w ξ = some (tlV m B T Wd S (dgN m ord) w, ξ) := by
  have hm1 := hJ.1
  have hm8 := hJ.2.1
  have hr := hP.2.2.1
  have hi := hP.2.2.2
  have h := tell_L hJ hr hi hM hR hf (l1 := ord) (l2 := w) (K := fun v12 v13 v14 μ15 => if w = 0 then (some (v12, μ15)) else (if w = 1 then (some (v13, μ15)) else (if w = 2 then (some (v14, μ15)) else (ldA μ15 92 (iR ord 10) fun v19 => some (v19, μ15))))) m 0 FU (by omega) (by show m < 1000000; omega)
  obtain ⟨p1, p2, p3⟩ := perm (g := laC ξ T) (laC_0 ξ T) hr hi
  have e1 : sK (laC ξ T) m = sK (laK m B T Wd S (dgN m ord)) m := by rw [← p1]; exact sK_c m (fun k hk => laC_o hJ hr hR hf hk)
  have e2 : mK (laC ξ T) m = mK (laK m B T Wd S (dgN m ord)) m := by rw [← p2]; exact mK_c m (fun k hk => laC_o hJ hr hR hf hk)
  have e3 : cK (laC ξ T) m = cK (laK m B T Wd S (dgN m ord)) m := by rw [← p3]; exact cK_c m (fun k hk => laC_o hJ hr hR hf hk)
  have h8 : (10 : Int) ^ m ≤ 100000000 := p10_mono (b := 8) (by omega)
  have hlast : iR ord 10 = ((dgN m ord (m - 1) : Nat) : Int) := by
    have hlt := hP.2.1
    rw [iR_id hP.1 (by omega) (by decide)]
    have := dgN_e (m := m) (o := ord) (k := m - 1)
    rw [Nat.sub_self, Int.pow_zero, Int.ediv_one] at this
    exact this
  have hl8 := hr (m - 1) (by omega)
  have e4 : ξ 92 (dgN m ord (m - 1)) = rt m B T Wd S (dgN m ord) m := by
    rw [(hR (m - 1) (by omega)).2]
    have : m - 1 + 1 = m := by omega
    rw [this]
  have h' : X11_tellOf ord w ξ = (if w = 0 then (some (sK (laC ξ T) m, ξ)) else (if w = 1 then (some (mK (laC ξ T) m, ξ)) else (if w = 2 then (some (cK (laC ξ T) m, ξ)) else (ldA ξ 92 (iR ord 10) fun v19 => some (v19, ξ))))) := h
  rw [h', e1, e2, e3]
  unfold tlV
  by_cases c0 : w = 0
  · rw [if_pos c0, if_pos c0]
  · rw [if_neg c0, if_neg c0]
    by_cases c1 : w = 1
    · rw [if_pos c1, if_pos c1]
    · rw [if_neg c1, if_neg c1]
      by_cases c2 : w = 2
      · rw [if_pos c2, if_pos c2]
      · rw [if_neg c2, if_neg c2, hlast]
        unfold ldA
        rw [if_pos (by show (0 : Int) ≤ ((dgN m ord (m - 1) : Nat) : Int) ∧ ((dgN m ord (m - 1) : Nat) : Int) < 8; omega), Int.toNat_natCast, e4]
end TELL
/-- the reference: no such run; and such a run -/
def RefNo (a b : Int) (ν : Mm) : Prop := X11_isReady a ν = some (0, ν) ∨ ∃ ξ, X11_isReady a ν = some (1, ξ) ∧ Sm ν ξ ∧ (X11_isOrder b ξ = some (0, ξ) ∨ (X11_isOrder b ξ = some (1, ξ) ∧ ∃ ξ', X11_go b ξ = some (0, ξ') ∧ Sm ν ξ'))
def RefYes (a b : Int) (ν : Mm) (m : Nat) (B : Nat → Nat → Int) (T Wd : Nat → Int) (S : Int) : Prop := ∃ ξ ξ', X11_isReady a ν = some (1, ξ) ∧ Sm ν ξ ∧ JobM ξ m B T Wd S ∧ X11_isOrder b ξ = some (1, ξ) ∧ X11_go b ξ = some (1, ξ') ∧ Sm ν ξ' ∧ JobM ξ' m B T Wd S ∧ RunM ξ' m B T Wd S (dgN m b) m
def sameK (μ ν : Mm) : Prop := ∀ k j, ¬ scr k j → ν k j = μ k j
theorem Sm_go {ν ξ ξ' : Mm} (h : Sm ν ξ) (hB : Bm ξ') (hf : fw WgM ξ ξ') : Sm ν ξ' :=
  ⟨hB, fun k j hn => by rw [hf k j (fun z => hn (by unfold WgM at z; unfold scrM; omega)), h.2 k j hn]⟩
theorem runs2 {μ : Mm} (hI : Inv μ) {a b : Int} (ha : rI a) (hb : rI b) : (∃ ν, X10_runs a b μ = some (0, ν) ∧ St scr μ ν ∧ ∀ ν', Inv ν' → sameK μ ν' → RefNo a b ν') ∨ ∃ (ν : Mm) (m p : Nat) (B : Nat → Nat → Int) (T Wd : Nat → Int) (cr : Nat → Nat) (S : Int), a = (p : Int) ∧ p ≤ 4 ∧ PO m b ∧ JOK m B T Wd S ∧ feas m B (dgN m b) m ∧ X10_runs a b μ = some (1, ν) ∧ St scr μ ν ∧ JobC 48 ν m B T Wd cr S ∧ ν 58 3 = (m : Int) ∧ (∀ k, k < m → ν 59 k = ((dgN m b k : Nat) : Int)) ∧ RunC ν m B T Wd S (dgN m b) m ∧ (∀ k, k < m → cr k < 8 ∧ μ 83 (8 * p + k) = ((cr k : Nat) : Int)) ∧ ∀ ν', Inv ν' → sameK μ ν' → RefYes a b ν' m B T Wd S := by
  have t1 := t_X10_runs (W := scr) (μs := μ) (hW := fun _ _ h => h) (hp_l1 := ha) (hp_l2 := hb) (St_rf hI.1)
  by_cases cr0 : μ 70 23 = 0 ∨ ¬ (0 ≤ a ∧ a < μ 70 28)
  · refine Or.inl ⟨μ, ?_, St_rf hI.1, fun ν' hI' e => Or.inl ?_⟩
    · unfold X10_runs
      rw [lay_no hI cr0, bd_some, if_pos rfl]
    · refine rdy_no hI'.2.1.1 ?_
      rw [e 70 23 (by unfold scr; omega), e 70 28 (by unfold scr; omega)]
      exact cr0
  · have h23 : μ 70 23 ≠ 0 := fun z => cr0 (Or.inl z)
    have hap : 0 ≤ a ∧ a < μ 70 28 := Classical.byContradiction (fun z => cr0 (Or.inr z))
    obtain ⟨p, rfl⟩ : ∃ p : Nat, a = (p : Int) := ⟨a.toNat, by omega⟩
    have hb28 : 0 ≤ μ 70 28 ∧ μ 70 28 ≤ 5 := hI.2.1.1 70 28 (by decide)
    obtain ⟨L, B, T, Wd, S, ν, hJ, _, _, g1, g2, g3, g4, g5⟩ := ready hI h23 hap.2
    obtain ⟨ν1, k1, k2, k3, k4⟩ := tkO (m := L.length) ⟨hJ.1, hJ.2.1⟩ hb ν
    by_cases hP : PO L.length b
    · obtain ⟨k5, k6⟩ := k3 hP
      have hC1 : JobC 48 ν1 L.length B T Wd (lets L) S := JobC_c (by decide) g3 (fun k j h1 h2 => k1 k j (by omega))
      obtain ⟨ν2, x1, x2, x3⟩ := goC (l0 := 48) (by decide) hJ hJ.2.1 hP.2.2.1 hP.2.2.2 hC1 k2 k6
      by_cases hF : feas L.length B (dgN L.length b) L.length
      · obtain ⟨x4, x5⟩ := x2 hF
        have r1 : X10_runs (p : Int) b μ = some (1, ν2) := by
          unfold X10_runs
          rw [g1, bd_some, if_neg (by decide), g3.1, k5, bd_some, if_neg (by decide), x4, bd_some, if_neg (by decide)]
        rw [r1, wp_some] at t1
        refine Or.inr ⟨ν2, L.length, p, B, T, Wd, lets L, S, rfl, by omega, hP, hJ, hF, r1, t1.1, JobC_c (by decide) hC1 (fun k j h1 h2 => x1 k j (by unfold Wgo; omega)), by rw [x1 58 3 (by unfold Wgo; omega)]; exact k2, fun k hk => by rw [x1 59 k (by unfold Wgo; omega)]; exact k6 k hk, x5, g4, fun ν' hI' e => ?_⟩
        obtain ⟨ξ, y1, y2, y3⟩ := g5 ν' hI' e
        obtain ⟨ξ', z0, z1, z2, _⟩ := goM hJ hP y2.1 y3
        obtain ⟨z3, z4⟩ := z2 hF
        exact ⟨ξ, ξ', y1, y2, y3, (isOM hJ.2.1 hb y2.1 y3.1).1 hP, z3, Sm_go y2 z0 z1, JobM_c y3 z1, z4⟩
      · have x4 := x3 hF
        have r1 : X10_runs (p : Int) b μ = some (0, ν2) := by
          unfold X10_runs
          rw [g1, bd_some, if_neg (by decide), g3.1, k5, bd_some, if_neg (by decide), x4, bd_some, if_pos rfl]
        rw [r1, wp_some] at t1
        refine Or.inl ⟨ν2, r1, t1.1, fun ν' hI' e => ?_⟩
        obtain ⟨ξ, y1, y2, y3⟩ := g5 ν' hI' e
        obtain ⟨ξ', z0, z1, _, z2⟩ := goM hJ hP y2.1 y3
        exact Or.inr ⟨ξ, y1, y2, Or.inr ⟨(isOM hJ.2.1 hb y2.1 y3.1).1 hP, ξ', z2 hF, Sm_go y2 z0 z1⟩⟩
    · have k5 := k4 hP
      have r1 : X10_runs (p : Int) b μ = some (0, ν1) := by
        unfold X10_runs
        rw [g1, bd_some, if_neg (by decide), g3.1, k5, bd_some, if_pos rfl]
      rw [r1, wp_some] at t1
      refine Or.inl ⟨ν1, r1, t1.1, fun ν' hI' e => ?_⟩
      obtain ⟨ξ, y1, y2, y3⟩ := g5 ν' hI' e
      exact Or.inr ⟨ξ, y1, y2, Or.inl ((isOM hJ.2.1 hb y2.1 y3.1).2 hP)⟩
theorem sameK_rf {μ : Mm} : sameK μ μ := fun _ _ _ => rfl
theorem St_same {μ ν : Mm} (h : St scr μ ν) : sameK μ ν := h.2
theorem RefYes_no {a b : Int} {ν : Mm} {m : Nat} {B : Nat → Nat → Int} {T Wd : Nat → Int} {S : Int} (h : RefYes a b ν m B T Wd S) : ∃ ξ ξ', X11_isReady a ν = some (1, ξ) ∧ Sm ν ξ ∧ X11_isOrder b ξ = some (1, ξ) ∧ X11_go b ξ = some (1, ξ') ∧ Sm ν ξ' := by
  obtain ⟨ξ, ξ', h1, h2, _, h3, h4, h5, _⟩ := h
  exact ⟨ξ, ξ', h1, h2, h3, h4, h5⟩
/-- whatever the reference does of a run that the class hasn't made, it ends -/
def RefAny (a b : Int) (ν : Mm) : Prop := RefNo a b ν ∨ ∃ ξ ξ', X11_isReady a ν = some (1, ξ) ∧ Sm ν ξ ∧ X11_isOrder b ξ = some (1, ξ) ∧ X11_go b ξ = some (1, ξ') ∧ Sm ν ξ'
theorem refAny {μ : Mm} (hI : Inv μ) {a b : Int} (ha : rI a) (hb : rI b) : RefAny a b μ := by
  rcases runs2 hI ha hb with ⟨ν, _, _, h⟩ | ⟨ν, m, p, B, T, Wd, cr, S, _, _, _, _, _, _, _, _, _, _, _, _, h⟩
  · exact Or.inl (h μ hI sameK_rf)
  · exact Or.inr (RefYes_no (h μ hI sameK_rf))
theorem m_order : ∀ a0, rI a0 → ∀ a1, rI a1 → ∀ a2, rI a2 → sI Inv Inv (X10_order a0 a1 a2) (X11_order a0 a1 a2) := by
  intro a ha b hb c hc μ hI
  have no : ∀ ν, Inv ν → RefNo a b ν → ∃ μ2, X11_order a b c ν = some (-1, μ2) ∧ Inv μ2 := by
    intro ν hν h
    rcases h with h | ⟨ξ, h1, h2, h | ⟨h3, ξ', h4, h5⟩⟩
    · exact ⟨ν, by unfold X11_order; rw [h, bd_some, if_pos rfl], hν⟩
    · exact ⟨ξ, by unfold X11_order; rw [h1, bd_some, if_neg (by decide), h, bd_some, if_pos rfl], Inv_Sm hν h2⟩
    · by_cases cc : 0 ≤ c ∧ c ≤ 3
      · exact ⟨ξ', by unfold X11_order; rw [h1, bd_some, if_neg (by decide), h3, bd_some, if_neg (by decide), in_rg _ cc, bd_some, if_neg (by decide), h4, bd_some, if_pos rfl], Inv_Sm hν h5⟩
      · exact ⟨ξ, by unfold X11_order; rw [h1, bd_some, if_neg (by decide), h3, bd_some, if_neg (by decide), in_no _ cc, bd_some, if_pos rfl], Inv_Sm hν h2⟩
  by_cases cc : 0 ≤ c ∧ c ≤ 3
  · rcases runs2 hI ha hb with ⟨ν, r1, g1, g2⟩ | ⟨ν, m, p, B, T, Wd, cr, S, _, _, hP, hJ, hF, r1, g1, hCJ, _, _, hR, _, g2⟩
    · have hI1 := Inv_St hI g1
      obtain ⟨μ2, e2, h2⟩ := no ν hI1 (g2 ν hI1 (St_same g1))
      refine ⟨-1, ν, μ2, ?_, e2, h2⟩
      unfold X10_order
      rw [if_neg (by omega), if_neg (by omega), r1, bd_some, if_pos rfl]
    · have hI1 := Inv_St hI g1
      obtain ⟨ξ, ξ', y1, y2, y3, y4, y5, y6, y7, y8⟩ := g2 ν hI1 (St_same g1)
      refine ⟨tlV m B T Wd S (dgN m b) c, ν, ξ', ?_, ?_, Inv_Sm hI1 y6⟩
      · unfold X10_order tlV
        rw [if_neg (by omega), if_neg (by omega), r1, bd_some, if_neg (by decide), hR.1, hR.2.1, hR.2.2.1, hR.2.2.2.1]
        by_cases c0 : c = 0
        · rw [if_pos c0, if_pos c0]
        · rw [if_neg c0, if_neg c0]
          by_cases c1 : c = 1
          · rw [if_pos c1, if_pos c1]
          · rw [if_neg c1, if_neg c1]
            by_cases c2 : c = 2
            · rw [if_pos c2, if_pos c2]
            · rw [if_neg c2, if_neg c2]
      · unfold X11_order
        rw [y1, bd_some, if_neg (by decide), y4, bd_some, if_neg (by decide), in_rg _ cc, bd_some, if_neg (by decide), y5, bd_some, if_neg (by decide), tellM hJ hP y7 y8 hF, bd_some]
  · have r1 : X10_order a b c μ = some (-1, μ) := by
      unfold X10_order
      by_cases c0 : c < 0
      · rw [if_pos c0]
      · rw [if_neg c0, if_pos (by omega)]
    rcases refAny hI ha hb with h | ⟨ξ, ξ', h1, h2, h3, h4, h5⟩
    · obtain ⟨μ2, e2, h2⟩ := no μ hI h
      exact ⟨_, _, _, r1, e2, h2⟩
    · refine ⟨_, _, ξ, r1, ?_, Inv_Sm hI h2⟩
      unfold X11_order
      rw [h1, bd_some, if_neg (by decide), h3, bd_some, if_neg (by decide), in_no _ cc, bd_some, if_pos rfl]
theorem m_done : ∀ a0, rI a0 → ∀ a1, rI a1 → ∀ a2, rI a2 → ∀ a3, rI a3 → sI Inv Inv (X10_done a0 a1 a2 a3) (X11_done a0 a1 a2 a3) := by
  intro a ha b hb c hc d hd μ hI
  -- the reference refuses
  have no : ∀ ν, Inv ν → (RefNo a b ν ∨ (RefAny a b ν ∧ (¬ (0 ≤ d ∧ d ≤ 2) ∨ ∀ ξ, X11_isReady a ν = some (1, ξ) → ¬ (0 ≤ c ∧ c ≤ ξ 70 37 - 1)))) → ∃ μ2, X11_done a b c d ν = some (-1, μ2) ∧ Inv μ2 := by
    intro ν hν h
    have stp : ∀ ξ ξ' (v : Int), (v = 0 ∨ v = 1) → X11_isReady a ν = some (1, ξ) → Sm ν ξ → X11_isOrder b ξ = some (1, ξ) → X11_go b ξ = some (v, ξ') → Sm ν ξ' → (v = 0 ∨ ¬ (0 ≤ d ∧ d ≤ 2) ∨ ¬ (0 ≤ c ∧ c ≤ ξ 70 37 - 1)) → ∃ μ2, X11_done a b c d ν = some (-1, μ2) ∧ Inv μ2 := by
      intro ξ ξ' v hv h1 h2 h3 h4 h5 hno
      have hb37 : 0 ≤ ξ 70 37 ∧ ξ 70 37 ≤ 8 := h2.1 70 37 (by decide)
      by_cases c1 : 0 ≤ c ∧ c ≤ ξ 70 37 - 1
      · by_cases c2 : 0 ≤ d ∧ d ≤ 2
        · have v0 : v = 0 := by
            rcases hno with z | z | z
            · exact z
            · exact absurd c2 z
            · exact absurd c1 z
          exact ⟨ξ', by unfold X11_done; rw [h1, bd_some, if_neg (by decide), h3, bd_some, if_neg (by decide), iS_id (by omega) (by omega), in_rg _ c1, bd_some, if_neg (by decide), in_rg _ c2, bd_some, if_neg (by decide), h4, v0, bd_some, if_pos rfl], Inv_Sm hν h5⟩
        · exact ⟨ξ, by unfold X11_done; rw [h1, bd_some, if_neg (by decide), h3, bd_some, if_neg (by decide), iS_id (by omega) (by omega), in_rg _ c1, bd_some, if_neg (by decide), in_no _ c2, bd_some, if_pos rfl], Inv_Sm hν h2⟩
      · exact ⟨ξ, by unfold X11_done; rw [h1, bd_some, if_neg (by decide), h3, bd_some, if_neg (by decide), iS_id (by omega) (by omega), in_no _ c1, bd_some, if_pos rfl], Inv_Sm hν h2⟩
    have base : RefNo a b ν → ∃ μ2, X11_done a b c d ν = some (-1, μ2) ∧ Inv μ2 := by
      intro h
      rcases h with h | ⟨ξ, h1, h2, h | ⟨h3, ξ', h4, h5⟩⟩
      · exact ⟨ν, by unfold X11_done; rw [h, bd_some, if_pos rfl], hν⟩
      · exact ⟨ξ, by unfold X11_done; rw [h1, bd_some, if_neg (by decide), h, bd_some, if_pos rfl], Inv_Sm hν h2⟩
      · exact stp ξ ξ' 0 (Or.inl rfl) h1 h2 h3 h4 h5 (Or.inl rfl)
    rcases h with h | ⟨h | ⟨ξ, ξ', h1, h2, h3, h4, h5⟩, hno⟩
    · exact base h
    · exact base h
    · exact stp ξ ξ' 1 (Or.inr rfl) h1 h2 h3 h4 h5 (Or.inr (hno.elim Or.inl (fun z => Or.inr (z ξ h1))))
  by_cases cd : 0 ≤ d ∧ d ≤ 2
  · rcases runs2 hI ha hb with ⟨ν, r1, g1, g2⟩ | ⟨ν, m, p, B, T, Wd, cr, S, _, _, hP, hJ, hF, r1, g1, hCJ, _, _, hR, _, g2⟩
    · have hI1 := Inv_St hI g1
      obtain ⟨μ2, e2, h2⟩ := no ν hI1 (Or.inl (g2 ν hI1 (St_same g1)))
      refine ⟨-1, ν, μ2, ?_, e2, h2⟩
      unfold X10_done
      rw [if_neg (by omega), if_neg (by omega), r1, bd_some, if_pos rfl]
    · have hI1 := Inv_St hI g1
      have hm8 := hJ.2.1
      obtain ⟨ξ, ξ', y1, y2, y3, y4, y5, y6, y7, y8⟩ := g2 ν hI1 (St_same g1)
      by_cases cc : 0 ≤ c ∧ c < (m : Int)
      · obtain ⟨q, rfl⟩ : ∃ q : Nat, c = (q : Int) := ⟨c.toNat, by omega⟩
        have hq : q < m := by omega
        obtain ⟨k, hk, ek⟩ := inj_sur hP.2.2.1 hP.2.2.2 q hq
        have hlat := laC_o hJ hP.2.2.1 y8 hF hk
        have elat := (lateM hJ hP.2.2.1 hP.2.2.2 y7 y8 hF hq).1
        rw [ek] at hlat
        have c60 : ν 60 q = rc m B T Wd S (dgN m b) k := by rw [← ek]; exact (hR.2.2.2.2.2.2 k hk).1
        have c61 : ν 61 q = rt m B T Wd S (dgN m b) (k + 1) := by rw [← ek]; exact (hR.2.2.2.2.2.2 k hk).2
        have m91 : ξ' 91 q = rc m B T Wd S (dgN m b) k := by rw [← ek]; exact (y8 k hk).1
        have m92 : ξ' 92 q = rt m B T Wd S (dgN m b) (k + 1) := by rw [← ek]; exact (y8 k hk).2
        have c50 : ν 50 q = T q := (hCJ.2.2.1 q hq).2.1
        have hrt := rt_b hJ hP.2.2.1 (k + 1) (by omega) (fun j hj => hF j (by omega))
        have hT := hJ.2.2.2.2.1 q hq
        have el : laK m B T Wd S (dgN m b) k = rt m B T Wd S (dgN m b) (k + 1) - T q := by rw [← ek]; rfl
        have R2 : X11_done a b (q : Int) d ν = (if d = 0 then (ldA ξ' 92 (q : Int) fun v28 => some (v28, ξ')) else (if d = 1 then (bd (X11_late (q : Int) ξ') fun v25 μ26 => some (v25, μ26)) else (ldA ξ' 91 (q : Int) fun v23 => some (v23, ξ')))) := by
          unfold X11_done
          rw [y1, bd_some, if_neg (by decide), y4, bd_some, if_neg (by decide), y3.1, iS_id (by omega) (by omega), in_rg _ (by omega), bd_some, if_neg (by decide), in_rg _ cd, bd_some, if_neg (by decide), y5, bd_some, if_neg (by decide)]
        have R1 : X10_done a b (q : Int) d μ = (if d = 2 then (ldA ν 60 (q : Int) fun v17 => some (v17, ν)) else (if d = 0 then (ldA ν 61 (q : Int) fun v15 => some (v15, ν)) else (ldA ν 61 (q : Int) fun v11 => ldA ν 50 (q : Int) fun v13 => some (iS v11 v13, ν)))) := by
          unfold X10_done
          rw [if_neg (by omega), if_neg (by omega), r1, bd_some, if_neg (by decide), if_neg (by omega), hCJ.1, if_pos (by omega)]
        have hq8 : (0 : Int) ≤ (q : Int) ∧ (q : Int) < 8 := by omega
        have L60 : ∀ f : Int → Rs, ldA ν 60 (q : Int) f = f (rc m B T Wd S (dgN m b) k) := fun f => by
          unfold ldA; rw [if_pos (show (0 : Int) ≤ (q : Int) ∧ (q : Int) < ((aN 60 : Nat) : Int) from hq8), Int.toNat_natCast, c60]
        have L61 : ∀ f : Int → Rs, ldA ν 61 (q : Int) f = f (rt m B T Wd S (dgN m b) (k + 1)) := fun f => by
          unfold ldA; rw [if_pos (show (0 : Int) ≤ (q : Int) ∧ (q : Int) < ((aN 61 : Nat) : Int) from hq8), Int.toNat_natCast, c61]
        have L50 : ∀ f : Int → Rs, ldA ν 50 (q : Int) f = f (T q) := fun f => by
          unfold ldA; rw [if_pos (show (0 : Int) ≤ (q : Int) ∧ (q : Int) < ((aN 50 : Nat) : Int) from hq8), Int.toNat_natCast, c50]
        have L91 : ∀ f : Int → Rs, ldA ξ' 91 (q : Int) f = f (rc m B T Wd S (dgN m b) k) := fun f => by
          unfold ldA; rw [if_pos (show (0 : Int) ≤ (q : Int) ∧ (q : Int) < ((aN 91 : Nat) : Int) from hq8), Int.toNat_natCast, m91]
        have L92 : ∀ f : Int → Rs, ldA ξ' 92 (q : Int) f = f (rt m B T Wd S (dgN m b) (k + 1)) := fun f => by
          unfold ldA; rw [if_pos (show (0 : Int) ≤ (q : Int) ∧ (q : Int) < ((aN 92 : Nat) : Int) from hq8), Int.toNat_natCast, m92]
        rw [L60, L61, L61, L50] at R1
        rw [L92, L91, elat, bd_some, hlat, el] at R2
        have hI2 := Inv_Sm hI1 y6
        by_cases d2 : d = 2
        · rw [if_pos d2] at R1
          rw [if_neg (by omega), if_neg (by omega)] at R2
          exact ⟨_, _, _, R1, R2, hI2⟩
        · rw [if_neg d2] at R1
          by_cases d0 : d = 0
          · rw [if_pos d0] at R1 R2
            exact ⟨_, _, _, R1, R2, hI2⟩
          · rw [if_neg d0, iS_id (by omega) (by omega)] at R1
            rw [if_neg d0, if_pos (by omega)] at R2
            exact ⟨_, _, _, R1, R2, hI2⟩
      · obtain ⟨μ2, e2, h2⟩ := no ν hI1 (Or.inr ⟨Or.inr ⟨ξ, ξ', y1, y2, y4, y5, y6⟩, Or.inr (fun x hx => by
          rw [y1] at hx
          cases hx
          rw [y3.1]
          omega)⟩)
        refine ⟨-1, ν, μ2, ?_, e2, h2⟩
        unfold X10_done
        rw [if_neg (by omega), if_neg (by omega), r1, bd_some, if_neg (by decide)]
        by_cases c0 : c < 0
        · rw [if_pos c0]
        · rw [if_neg c0, hCJ.1, if_neg (by omega)]
  · have r1 : X10_done a b c d μ = some (-1, μ) := by
      unfold X10_done
      by_cases c0 : d < 0
      · rw [if_pos c0]
      · rw [if_neg c0, if_pos (by omega)]
    obtain ⟨μ2, e2, h2⟩ := no μ hI (Or.inr ⟨refAny hI ha hb, Or.inl cd⟩)
    exact ⟨_, _, _, r1, e2, h2⟩
