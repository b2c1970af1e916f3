/-! LAWS, the reference's reader: chains, conditions -/
def NX (K : Int → Mm → Rs) (μ : Mm) : Rs := if μ 70 4 = -1 then bd (X11_look μ) K else K (-1) μ
/-- one piece more, and the code that joins it on -/
def Jx (o : Int) (F : Mm → Rs) (K : Int → Mm → Rs) (μ : Mm) : Rs := sF μ 70 3 (iA (μ 70 3) 1) fun μ6 => bd (F μ6) fun _ μ8 => bd (X11_put o 0 μ8) fun _ μ12 => NX K μ12
def LpM (s1 s2 o1 o2 : Int) (F : Mm → Rs) (L : Nat → Int → Mm → Rs) : Prop := ∀ f v μ, L (f + 1) v μ = if v = s1 then Jx o1 F (L f) μ else if v = s2 then Jx o2 F (L f) μ else some (0, μ)
theorem FL_mono {n q l : Nat} {r : Rs} {μ0 : Mm} {i0 p0 i p : Nat} {μ : Mm} (hf : fw (wF q) μ0 μ) (h : FL n q l r μ i p) (hi : i + p0 ≤ i0 + p) : FL n q l r μ0 i0 p0 := by
  obtain ⟨μ', a, i', f1, f2, f3, f4, f5, f6, f7⟩ := h
  exact ⟨μ', a, i', f1, f2, fw_tr hf f3, f4, f5, f6, by omega⟩
theorem FL_eq {n q l : Nat} {r r' : Rs} {μ : Mm} {i p : Nat} (h : FL n q l r μ i p) (e : r' = r) : FL n q l r' μ i p := by rw [e]; exact h
/-- a code is laid where something is wrong already -/
theorem put_FL {n q l : Nat} {r : Rs} {μ : Mm} {i p : Nat} {o : Int} (ho : 2 ≤ o ∧ o ≤ 11) (hn : n ≤ 160) (hl : l ≤ 6) (hq : q ≤ 4) (h14 : μ 70 14 = (q : Int)) (hip : i ≤ p + 1) (h : FL n q l r μ i (p + 1)) {g : Mm → Rs} (hg : ∀ μ2 a, μ2 70 4 ≠ -1 → g (ma μ2 a) = some (0, ma μ2 a)) : FL n q l (bd r fun _ μ8 => bd (X11_put o 0 μ8) fun _ μ12 => g μ12) μ i p := by
  obtain ⟨μ', a, i', f1, f2, f3, f4, f5, f6, f7⟩ := h
  have h14' : μ' 70 14 = (q : Int) := by rw [f3 70 14 (by unfold wF wKd; omega)]; exact h14
  have hw : put1 μ' q i' (o, 0) 70 4 ≠ -1 := by
    rw [put1_fw (o, 0) (show i' < 340 by omega) 70 4 (by unfold wKd; omega)]; exact f4
  refine ⟨put1 μ' q i' (o, 0), a, i' + 1, ?_, put1_Bm f2 (by omega) (Or.inr (Or.inr ⟨ho.1, ho.2, rfl⟩)), fw_tr f3 (fwF_K (put1_fw _ (by omega))), hw, f5, by unfold put1; rw [sM_s], by omega⟩
  rw [f1, bd_some, put_eq h14' f6 hq (by omega), bd_some, hg _ _ hw]
theorem LpM_F {s1 s2 o1 o2 : Int} {F : Mm → Rs} {L : Nat → Int → Mm → Rs} (hL : LpM s1 s2 o1 o2 F L) (h1 : s1 ≠ -1) (h2 : s2 ≠ -1) {f : Nat} {μ : Mm} {a : Nat} (hw : μ 70 4 ≠ -1) : NX (L (f + 1)) (ma μ a) = some (0, ma μ a) := by
  unfold NX
  rw [ma_j (by decide), if_neg hw, hL, if_neg (fun z => h1 z.symm), if_neg (fun z => h2 z.symm)]
theorem chM {t : Nat → Int} {n q l : Nat} {s1 s2 o1 o2 : Int} (h1 : s1 ≠ -1) (h2 : s2 ≠ -1) (ho1 : 2 ≤ o1 ∧ o1 ≤ 11 ∧ o1 ≠ 9) (ho2 : 2 ≤ o2 ∧ o2 ≤ 11 ∧ o2 ≠ 9) {F : Mm → Rs} {L : Nat → Int → Mm → Rs} (hL : LpM s1 s2 o1 o2 F L) {S : Nat → Pr} (hF : MLs t n q l F S) (hG : GP n S) : ∀ (m fuel : Nat) (a : Cd) (μ : Mm) (i p0 p : Nat), m ≤ 160 → m < fuel → 161 ≤ p + m → PM t n q l μ i p0 → Gp n p0 (a, p) → match chL t n s1 s2 o1 o2 S m a p with
      | some w => NX (L fuel) (ma (wrc μ q i a) p) = some (0, ma (wrc μ q i w.1) w.2)
      | none => FL n q l (NX (L fuel) (ma (wrc μ q i a) p)) μ i p0 := by
  intro m
  induction m with
  | zero =>
    intro fuel a μ i p0 p _ _ hp hP hg
    have := hP.1.1
    have : p ≤ n := hg.2.1
    omega
  | succ m ih =>
    intro fuel a μ i p0 p hm hf hp hP hg
    obtain ⟨f, rfl, hf'⟩ := lt_fuel (d := m + 1) hf
    obtain ⟨f2, rfl⟩ : ∃ f2, f = f2 + 1 := ⟨f - 1, by omega⟩
    have h160 := hP.1.1
    have hpn : p ≤ n := hg.2.1
    have hge := sk_ge (t := t) (n := n) p
    have hle := sk_le (t := t) (n := n) p hpn
    have hP1 := PM_wrc hP hg
    have hlen : a.length + p0 ≤ p := hg.2.2.2.1
    have hip := hP.2.2.2.2.2.2.1
    have hfa := fwF_K (wrc_fw (q := q) a (μ := μ) (i := i) (by omega))
    have e0 : NX (L (f2 + 1 + 1)) (ma (wrc μ q i a) p) = L (f2 + 1 + 1) (pk t n p) (ma (wrc μ q i a) (sk t n p)) := by
      unfold NX
      rw [ma_j (by decide), if_pos hP1.2.2.1, look_eq hP1.1 (by omega), bd_some]
    rw [e0, hL]
    have step : ∀ {o : Int} (ho : 2 ≤ o ∧ o ≤ 11 ∧ o ≠ 9), sk t n p < n → match (match S (sk t n p + 1) with | none => none | some w => chL t n s1 s2 o1 o2 S m (bin o a w.1) w.2) with
        | some w => Jx o F (L (f2 + 1)) (ma (wrc μ q i a) (sk t n p)) = some (0, ma (wrc μ q i w.1) w.2)
        | none => FL n q l (Jx o F (L (f2 + 1)) (ma (wrc μ q i a) (sk t n p))) μ i p0 := by
      intro o ho hlt
      have eJ : Jx o F (L (f2 + 1)) (ma (wrc μ q i a) (sk t n p)) = bd (F (ma (wrc μ q i a) (sk t n p + 1))) fun _ μ8 => bd (X11_put o 0 μ8) fun _ μ12 => NX (L (f2 + 1)) μ12 := by
        unfold Jx sF
        dsimp only
        rw [ma_3, iA_nat (by omega), ma_ma]
      have hP2 : PM t n q l (wrc μ q i a) (i + a.length) (sk t n p + 1) := by
        obtain ⟨g1, g2, g3, g4, g5, g6, g7, g8, g9, g10⟩ := hP1
        exact ⟨g1, g2, g3, g4, g5, g6, by omega, by omega, g9, g10⟩
      have hF1 := hF _ _ _ hP2
      have hG1 := hG (sk t n p + 1)
      rw [eJ]
      revert hF1 hG1
      cases S (sk t n p + 1) with
      | none =>
        intro hF1 _
        exact FL_mono hfa (put_FL ⟨ho.1, ho.2.1⟩ h160 hP.2.2.2.2.2.2.2.2.2 hP.2.2.2.2.2.2.2.2.1 hP1.2.2.2.1 (by omega) hF1 (fun μ2 b hw => LpM_F hL h1 h2 hw)) (by omega)
      | some w =>
        intro hF1 hG1
        have hF1 : F (ma (wrc μ q i a) (sk t n p + 1)) = some (0, ma (wrc (wrc μ q i a) q (i + a.length) w.1) w.2) := hF1
        have hw := hG1 w (by omega) rfl
        have hb := Gp_bin ho hg hge hw
        have hP3 := PM_wrc hP2 hw
        have hwl := hw.2.2.2.1
        have hput := put_eq (a := w.2) (l1 := o) (l2 := 0) hP3.2.2.2.1 hP3.2.2.2.2.1 hP.2.2.2.2.2.2.2.2.1 (by have := hw.2.1; omega)
        have ec : put1 (wrc (wrc μ q i a) q (i + a.length) w.1) q (i + a.length + w.1.length) (o, 0) = wrc μ q i (bin o a w.1) := by
          unfold bin
          rw [wrc_app, wrc_app]
          rfl
        rw [ec] at hput
        have hI := ih (f2 + 1) (bin o a w.1) μ i p0 w.2 (by omega) (by omega) (by have := hw.1; omega) hP hb
        rw [hF1, bd_some, hput, bd_some]
        exact hI
    unfold chL
    by_cases c1 : pk t n p = s1
    · rw [if_pos c1, if_pos c1]
      exact step ho1 (pk_ne (t := t) (n := n) (p := p) (by rw [c1]; exact h1)).1
    · rw [if_neg c1, if_neg c1]
      by_cases c2 : pk t n p = s2
      · rw [if_pos c2, if_pos c2]
        exact step ho2 (pk_ne (t := t) (n := n) (p := p) (by rw [c2]; exact h2)).1
      · rw [if_neg c2, if_neg c2]
theorem chMS {t : Nat → Int} {n q l : Nat} {s1 s2 o1 o2 : Int} (h1 : s1 ≠ -1) (h2 : s2 ≠ -1) (ho1 : 2 ≤ o1 ∧ o1 ≤ 11 ∧ o1 ≠ 9) (ho2 : 2 ≤ o2 ∧ o2 ≤ 11 ∧ o2 ≠ 9) {F : Mm → Rs} {L : Nat → Int → Mm → Rs} (hL : LpM s1 s2 o1 o2 F L) {S : Nat → Pr} (hF : MLs t n q l F S) (hG : GP n S) : MLs t n q l (fun μ => bd (F μ) fun _ μ2 => NX (L FU) μ2) (chS t n s1 s2 o1 o2 S) := by
  intro μ i p hP
  have hF1 := hF _ _ _ hP
  have hG1 := hG p
  unfold chS
  revert hF1 hG1
  cases S p with
  | none =>
    rintro ⟨μ', a, i', f1, f2, f3, f4, f5⟩ _
    refine ⟨μ', a, i', ?_, f2, f3, f4, f5⟩
    show (bd (F (ma μ p)) fun _ μ2 => NX (L FU) μ2) = _
    rw [f1, bd_some]
    exact LpM_F hL h1 h2 f4
  | some w =>
    intro hF1 hG1
    have hF1 : F (ma μ p) = some (0, ma (wrc μ q i w.1) w.2) := hF1
    have hw := hG1 w hP.2.2.2.2.2.2.2.1 rfl
    have hI := chM h1 h2 ho1 ho2 hL hF hG 160 FU w.1 μ i p w.2 (by omega) (by decide) (by have := hw.1; omega) hP hw
    have e : (bd (F (ma μ p)) fun _ μ2 => NX (L FU) μ2) = NX (L FU) (ma (wrc μ q i w.1) w.2) := by rw [hF1, bd_some]
    dsimp only
    rw [e]
    exact hI
theorem MLs_eq {t : Nat → Int} {n q l : Nat} {F F' : Mm → Rs} {S : Nat → Pr} (h : MLs t n q l F S) (e : ∀ μ, F' μ = F μ) : MLs t n q l F' S := by
  have : F' = F := funext e
  rw [this]; exact h
theorem LpM_term (rec : Mm → Rs) : LpM 42 47 4 5 (X11_atom_o rec) (X11_term_L21 rec) := by
  intro f v μ
  rw [X11_term_L21]
  unfold X11_term_J33 Jx X11_term_J59 NX
  by_cases c1 : v = 42
  · simp only [c1, if_true]
  · by_cases c2 : v = 47
    · rw [if_neg c1, if_neg c1, if_pos c2, if_pos c2, c2]
      rfl
    · rw [if_neg c1, if_neg c1, if_neg c2, if_neg c2]
theorem LpM_sum (rec : Mm → Rs) : LpM 43 45 2 3 (X11_term_o rec) (X11_sum_L21 rec) := by
  intro f v μ
  rw [X11_sum_L21]
  unfold X11_sum_J33 Jx X11_sum_J59 NX
  by_cases c1 : v = 43
  · simp only [c1, if_true]
  · by_cases c2 : v = 45
    · rw [if_neg c1, if_neg c1, if_pos c2, if_pos c2, c2]
      rfl
    · rw [if_neg c1, if_neg c1, if_neg c2, if_neg c2]
theorem sumOM {t : Nat → Int} {n : Nat} (hT : ∀ j, j < n → 1 ≤ t j ∧ t j ≤ 255) {q l : Nat} {rec : Mm → Rs} {S : Nat → Pr} (hS : (1 ≤ l ∧ MLs t n q (l - 1) rec S) ∨ (l = 0 ∧ ∀ p, S p = none)) (hG : GP n S) : MLs t n q l (fun μ => bd (X11_term_o rec μ) fun _ μ2 => NX (X11_sum_L21 rec FU) μ2) (sumO t n S) :=
  chMS (by decide) (by decide) (by decide) (by decide) (LpM_sum rec) (chMS (by decide) (by decide) (by decide) (by decide) (LpM_term rec) (atomM hT hS hG) (atom_G hG)) (chS_G (by decide) (by decide) (by decide) (atom_G hG))
theorem sum_unf (f : Nat) (μ : Mm) : X11_sum (f + 1) μ = bd (X11_term_o (fun μq => X11_sum f μq) μ) fun _ μ2 => NX (X11_sum_L21 (fun μq => X11_sum f μq) FU) μ2 := by
  rw [X11_sum]
  unfold X11_sum_J20 NX
  rfl
theorem sumM {t : Nat → Int} {n : Nat} (hT : ∀ j, j < n → 1 ≤ t j ∧ t j ≤ 255) {q : Nat} : ∀ (l fuel : Nat), l ≤ 6 → l < fuel → MLs t n q l (X11_sum fuel) (sumS t n l) := by
  intro l
  induction l with
  | zero =>
    intro fuel _ hf
    obtain ⟨f, rfl, hf'⟩ := lt_fuel hf
    exact MLs_eq (sumOM hT (rec := fun μq => X11_sum f μq) (S := fun _ => none) (Or.inr ⟨rfl, fun _ => rfl⟩) none_G) (sum_unf f)
  | succ l ih =>
    intro fuel hl hf
    obtain ⟨f, rfl, hf'⟩ := lt_fuel (d := l + 1) hf
    exact MLs_eq (sumOM hT (rec := fun μq => X11_sum f μq) (S := sumS t n l) (Or.inl ⟨by omega, ih f (by omega) (by omega)⟩) (sumS_G l)) (sum_unf f)
theorem isSign_eq (x : Int) (μ : Mm) : X11_isSign x μ = some (if cop x = -1 then 0 else 1, μ) := by
  unfold X11_isSign cop
  by_cases c1 : x = 61
  · rw [if_pos c1, if_pos c1, if_neg (by decide)]
  · rw [if_neg c1, if_neg c1]
    by_cases c2 : x = 60
    · rw [if_pos c2, if_pos c2, if_neg (by decide)]
    · rw [if_neg c2, if_neg c2]
      by_cases c3 : x = 62
      · rw [if_pos c3, if_pos c3, if_neg (by decide)]
      · rw [if_neg c3, if_neg c3, if_pos rfl]
theorem bd_0 (r : Rs) (h : ∃ μ, r = some (0, μ)) : (bd r fun _ μ => some (0, μ)) = r := by
  obtain ⟨μ, rfl⟩ := h; rfl
/-- behind a first sum: a sign of comparison and a second -/
theorem cmpRM {t : Nat → Int} {n : Nat} (hT : ∀ j, j < n → 1 ≤ t j ∧ t j ≤ 255) {q l : Nat} (hl : l ≤ 6) {a : Cd} {μ : Mm} {i p0 p : Nat} (hP : PM t n q l μ i p0) (hg : Gp n p0 (a, p)) (F : Nat → Mm → Rs) (hF : MLs t n q l (X11_sum RD) (sumS t n l)) : match cmpR t n l a p with
      | some w => X11_compare (ma (wrc μ q i a) p) = some (0, ma (wrc μ q i w.1) w.2)
      | none => FL n q l (X11_compare (ma (wrc μ q i a) p)) μ i p0 := by
  have h160 := hP.1.1
  have hpn : p ≤ n := hg.2.1
  have hge := sk_ge (t := t) (n := n) p
  have hle := sk_le (t := t) (n := n) p hpn
  have hP1 := PM_wrc hP hg
  have hlen : a.length + p0 ≤ p := hg.2.2.2.1
  have hip := hP.2.2.2.2.2.2.1
  have hfa := fwF_K (wrc_fw (q := q) a (μ := μ) (i := i) (by omega))
  have e0 : X11_compare (ma (wrc μ q i a) p) = X11_compare_J16 (pk t n p) (ma (wrc μ q i a) (sk t n p)) := by
    unfold X11_compare
    rw [ma_j (by decide), if_pos hP1.2.2.1, look_eq hP1.1 (by omega), bd_some]
  rw [e0]
  unfold X11_compare_J16 cmpR
  rw [isSign_eq, bd_some]
  by_cases c : cop (pk t n p) = -1
  · rw [if_neg (fun z => z c), if_pos (by rw [if_pos c]), bad_eq hP1.2.2.1, bd_some]
    exact FL_mono hfa (FL_bad rfl hP1.2.1 hle h160 hP1.2.2.2.2.1 hge) (by omega)
  · rw [if_pos c, if_neg (by rw [if_neg c]; decide)]
    have hq := pk_ne (t := t) (n := n) (p := p) (fun z => c (by rw [z]; decide))
    have hcb := cop_b (pk t n p)
    have hP2 : PM t n q l (wrc μ q i a) (i + a.length) (sk t n p + 1) := by
      obtain ⟨g1, g2, g3, g4, g5, g6, g7, g8, g9, g10⟩ := hP1
      exact ⟨g1, g2, g3, g4, g5, g6, by omega, by omega, g9, g10⟩
    have hF1 := hF _ _ _ hP2
    have hG1 := sumS_G (t := t) (n := n) l (sk t n p + 1)
    have ep : (sF (ma (wrc μ q i a) (sk t n p)) 70 3 (iA (ma (wrc μ q i a) (sk t n p) 70 3) 1) fun μ6 => bd (X11_sum RD μ6) fun v7 μ8 => if pk t n p = 61 then (bd (X11_put 6 0 μ8) fun v18 μ19 => some (0, μ19)) else (if pk t n p = 60 then (bd (X11_put 7 0 μ8) fun v15 μ16 => some (0, μ16)) else (bd (X11_put 8 0 μ8) fun v12 μ13 => some (0, μ13)))) = bd (X11_sum RD (ma (wrc μ q i a) (sk t n p + 1))) fun _ μ8 => bd (X11_put (cop (pk t n p)) 0 μ8) fun _ μ12 => some (0, μ12) := by
      unfold sF
      dsimp only
      rw [ma_3, iA_nat (by omega), ma_ma]
      congr 1
      funext v7 μ8
      unfold cop at c ⊢
      by_cases d1 : pk t n p = 61
      · rw [if_pos d1, if_pos d1]
      · rw [if_neg d1] at c
        rw [if_neg d1, if_neg d1]
        by_cases d2 : pk t n p = 60
        · rw [if_pos d2, if_pos d2]
        · rw [if_neg d2] at c
          rw [if_neg d2, if_neg d2]
          by_cases d3 : pk t n p = 62
          · rw [if_pos d3]
          · rw [if_neg d3] at c; exact absurd rfl c
    rw [ep]
    revert hF1 hG1
    cases sumS t n l (sk t n p + 1) with
    | none =>
      intro hF1 _
      exact FL_mono hfa (put_FL (by omega) h160 hP.2.2.2.2.2.2.2.2.2 hP.2.2.2.2.2.2.2.2.1 hP1.2.2.2.1 (by omega) hF1 (fun μ2 b hw => rfl)) (by omega)
    | some w =>
      intro hF1 hG1
      have hF1 : X11_sum RD (ma (wrc μ q i a) (sk t n p + 1)) = some (0, ma (wrc (wrc μ q i a) q (i + a.length) w.1) w.2) := hF1
      have hw := hG1 w (by omega) rfl
      have hP3 := PM_wrc hP2 hw
      have hwl := hw.2.2.2.1
      have hput := put_eq (a := w.2) (l1 := cop (pk t n p)) (l2 := 0) hP3.2.2.2.1 hP3.2.2.2.2.1 hP.2.2.2.2.2.2.2.2.1 (by have := hw.2.1; omega)
      have ec : put1 (wrc (wrc μ q i a) q (i + a.length) w.1) q (i + a.length + w.1.length) (cop (pk t n p), 0) = wrc μ q i (bin (cop (pk t n p)) a w.1) := by
        unfold bin
        rw [wrc_app, wrc_app]
        rfl
      rw [ec] at hput
      show _ = some (0, ma (wrc μ q i (bin (cop (pk t n p)) a w.1)) w.2)
      rw [hF1, bd_some, hput, bd_some]
/-- the loops over & and | as those over two signs -/
def lpA (rec : Mm → Rs) : Nat → Int → Mm → Rs
  | 0, _, _ => none
  | f + 1, v, μ => if v = 38 then Jx 10 rec (lpA rec f) μ else some (0, μ)
def lpO (F : Mm → Rs) : Nat → Int → Mm → Rs
  | 0, _, _ => none
  | f + 1, v, μ => if v = 124 then Jx 11 F (lpO F f) μ else some (0, μ)
theorem LpM_A (rec : Mm → Rs) : LpM 38 38 10 10 rec (lpA rec) := by
  intro f v μ
  rw [lpA]
  by_cases c : v = 38
  · rw [if_pos c, if_pos c]
  · rw [if_neg c, if_neg c]
theorem LpM_O (F : Mm → Rs) : LpM 124 124 11 11 F (lpO F) := by
  intro f v μ
  rw [lpO]
  by_cases c : v = 124
  · rw [if_pos c, if_pos c]
  · rw [if_neg c, if_neg c]
theorem and_eq (rec : Mm → Rs) : ∀ (f : Nat) (μ : Mm), X11_goOnAnd_L0 rec f μ = if f = 0 then none else NX (lpA rec f) μ := by
  intro f
  induction f with
  | zero => intro μ; rfl
  | succ f ih =>
    intro μ
    rw [if_neg (by omega), X11_goOnAnd_L0]
    unfold NX
    by_cases c : μ 70 4 = -1
    · rw [if_pos c, if_pos c]
      congr 1
      funext v2 μ3
      rw [lpA]
      by_cases c2 : v2 = 38
      · rw [if_pos c2, if_pos c2]
        unfold Jx
        congr 1
        funext μ6
        congr 1
        funext _ μ8
        congr 1
        funext _ μ11
        rw [ih]
        by_cases c3 : f = 0
        · rw [if_pos c3, c3]
          unfold NX lpA
          split
          · unfold bd; split <;> rfl
          · rfl
        · rw [if_neg c3]
      · rw [if_neg c2, if_neg c2]
    · rw [if_neg c, if_neg c, lpA, if_neg (by decide)]
theorem or_eq (rec : Mm → Rs) : ∀ (f : Nat) (μ : Mm), X11_goOnOr_L0 rec f μ = if f = 0 then none else NX (lpO (fun μ => bd (rec μ) fun _ μ8 => X11_goOnAnd_o rec μ8) f) μ := by
  intro f
  induction f with
  | zero => intro μ; rfl
  | succ f ih =>
    intro μ
    rw [if_neg (by omega), X11_goOnOr_L0]
    unfold NX
    by_cases c : μ 70 4 = -1
    · rw [if_pos c, if_pos c]
      congr 1
      funext v2 μ3
      rw [lpO]
      by_cases c2 : v2 = 124
      · rw [if_pos c2, if_pos c2]
        unfold Jx
        congr 1
        funext μ6
        have assoc : ∀ (x : Rs) (g : Int → Mm → Rs) (k : Int → Mm → Rs), bd (bd x g) k = bd x fun v μ => bd (g v μ) k := by
          intro x g k; cases x <;> rfl
        rw [assoc]
        congr 1
        funext _ μ8
        congr 1
        funext _ μ11
        congr 1
        funext _ μ14
        rw [ih]
        by_cases c3 : f = 0
        · rw [if_pos c3, c3]
          unfold NX lpO
          split
          · unfold bd; split <;> rfl
          · rfl
        · rw [if_neg c3]
      · rw [if_neg c2, if_neg c2]
    · rw [if_neg c, if_neg c, lpO, if_neg (by decide)]
theorem truM {t : Nat → Int} {n q l : Nat} {rec : Mm → Rs} {S : Nat → Pr} (hF : MLs t n q l rec S) (hG : GP n S) : MLs t n q l (fun μ => bd (rec μ) fun _ μ8 => X11_goOnAnd_o rec μ8) (truS t n S) := by
  refine MLs_eq (chMS (by decide) (by decide) (by decide) (by decide) (LpM_A rec) hF hG) (fun μ => ?_)
  have e : (fun (_ : Int) μ8 => X11_goOnAnd_o rec μ8) = fun _ μ2 => NX (lpA rec FU) μ2 := by
    funext _ μ8
    unfold X11_goOnAnd_o
    rw [and_eq, if_neg (by decide)]
  rw [e]
theorem conM {t : Nat → Int} {n q l : Nat} {rec : Mm → Rs} {S : Nat → Pr} (hF : MLs t n q l rec S) (hG : GP n S) : MLs t n q l (X11_condition_o rec) (conS t n S) := by
  have h0 := chMS (by decide) (by decide) (by decide) (by decide) (LpM_O (fun μ => bd (rec μ) fun _ μ8 => X11_goOnAnd_o rec μ8)) (truM hF hG) (chS_G (by decide) (by decide) (by decide) hG)
  have e : ∀ μ, X11_condition_o rec μ = bd (bd (bd (rec μ) fun _ μ8 => X11_goOnAnd_o rec μ8) fun _ μ2 => NX (lpO (fun μ => bd (rec μ) fun _ μ8 => X11_goOnAnd_o rec μ8) FU) μ2) fun _ μ => some (0, μ) := by
    intro μ
    unfold X11_condition_o
    have assoc : ∀ (x : Rs) (g : Int → Mm → Rs) (k : Int → Mm → Rs), bd (bd x g) k = bd x fun v μ => bd (g v μ) k := by
      intro x g k; cases x <;> rfl
    rw [assoc, assoc]
    congr 1
    funext _ μ2
    congr 1
    funext _ μ5
    unfold X11_goOnOr_o
    rw [or_eq, if_neg (by decide)]
  intro μ i p hP
  have h1 := h0 μ i p hP
  rw [e]
  revert h1
  show (match conS t n S p with | some w => _ | none => _) → _
  cases conS t n S p with
  | none =>
    rintro ⟨μ', a, i', f1, f2⟩
    refine ⟨μ', a, i', ?_, f2⟩
    dsimp only at f1
    rw [f1]; rfl
  | some w =>
    intro h1
    dsimp only at h1
    show _ = some (0, ma (wrc μ q i w.1) w.2)
    rw [h1]; rfl
