/-! LAWS, the reference's reader -/
def put1 (μ : Mm) (q i : Nat) (x : Int × Int) : Mm := sM (sM (sM μ 72 (340 * q + i) x.1) 73 (340 * q + i) x.2) 74 q ((i + 1 : Nat) : Int)
def wrc (μ : Mm) (q i : Nat) : Cd → Mm
  | [] => μ
  | x :: c => wrc (put1 μ q i x) q (i + 1) c
theorem wrc_app (q : Nat) : ∀ (a b : Cd) (μ : Mm) (i : Nat), wrc μ q i (a ++ b) = wrc (wrc μ q i a) q (i + a.length) b := by
  intro a
  induction a with
  | nil => intro b μ i; rfl
  | cons x a ih =>
    intro b μ i
    show wrc (put1 μ q i x) q (i + 1) (a ++ b) = wrc (wrc (put1 μ q i x) q (i + 1) a) q (i + (a.length + 1)) b
    rw [ih, show i + 1 + a.length = i + (a.length + 1) by omega]
def wKd (q i k j : Nat) : Prop := ((k = 72 ∨ k = 73) ∧ 340 * q + i ≤ j ∧ j < 340 * q + 340) ∨ (k = 74 ∧ j = q)
theorem put1_fw {μ : Mm} {q i : Nat} (x : Int × Int) (h : i < 340) : fw (wKd q i) μ (put1 μ q i x) := by
  unfold put1
  exact fw_sM (fw_sM (fw_sM fw_rf (by unfold wKd; omega)) (by unfold wKd; omega)) (by unfold wKd; omega)
theorem wrc_fw {q : Nat} : ∀ (c : Cd) {μ : Mm} {i : Nat}, i + c.length ≤ 340 → fw (wKd q i) μ (wrc μ q i c) := by
  intro c
  induction c with
  | nil => intro μ i _; exact fw_rf
  | cons x c ih =>
    intro μ i h
    have h' : i + (c.length + 1) ≤ 340 := h
    refine fw_tr (put1_fw x (by omega)) (fun k j hn => ih (μ := put1 μ q i x) (i := i + 1) (by omega) k j (fun z => hn ?_))
    unfold wKd at z ⊢
    omega
def hasC (μ : Mm) (q i : Nat) (c : Cd) : Prop := ∀ k, k < c.length → μ 72 (340 * q + i + k) = (c.getD k (0, 0)).1 ∧ μ 73 (340 * q + i + k) = (c.getD k (0, 0)).2
theorem wrc_has {q : Nat} : ∀ (c : Cd) {μ : Mm} {i : Nat}, i + c.length ≤ 340 → hasC (wrc μ q i c) q i c := by
  intro c
  induction c with
  | nil => intro μ i _ k hk; exact absurd hk (Nat.not_lt_zero k)
  | cons x c ih =>
    intro μ i h k hk
    have h' : i + (c.length + 1) ≤ 340 := h
    show (wrc (put1 μ q i x) q (i + 1) c) 72 _ = _ ∧ _
    cases k with
    | zero =>
      have hf := wrc_fw (q := q) c (μ := put1 μ q i x) (i := i + 1) (by omega)
      rw [hf 72 _ (by unfold wKd; omega)]
      show _ ∧ (wrc (put1 μ q i x) q (i + 1) c) 73 _ = _
      rw [hf 73 _ (by unfold wKd; omega)]
      unfold put1
      refine ⟨?_, ?_⟩
      · rw [sM_a (by decide), sM_a (by decide), Nat.add_zero, sM_s]; rfl
      · rw [sM_a (by decide), Nat.add_zero, sM_s]; rfl
    | succ k =>
      have := ih (μ := put1 μ q i x) (i := i + 1) (by omega) k (by have : k + 1 < c.length + 1 := hk; omega)
      have e : 340 * q + i + (k + 1) = 340 * q + (i + 1) + k := by omega
      rw [e]
      exact this
theorem wrc_74 {q : Nat} : ∀ (c : Cd) {μ : Mm} {i : Nat}, μ 74 q = (i : Int) → wrc μ q i c 74 q = ((i + c.length : Nat) : Int) := by
  intro c
  induction c with
  | nil => intro μ i h; exact h
  | cons x c ih =>
    intro μ i _
    show wrc (put1 μ q i x) q (i + 1) c 74 q = _
    rw [ih (μ := put1 μ q i x) (i := i + 1) (by unfold put1; rw [sM_s])]
    show _ = ((i + (c.length + 1) : Nat) : Int)
    rw [show i + 1 + c.length = i + (c.length + 1) by omega]
theorem put1_Bm {μ : Mm} {q i : Nat} {x : Int × Int} (h : Bm μ) (hi : i < 340) (hx : okx x) : Bm (put1 μ q i x) := by
  unfold put1
  have hx1 : 0 ≤ x.1 ∧ x.1 ≤ 11 ∧ 0 ≤ x.2 ∧ x.2 ≤ 9999 := by unfold okx at hx; omega
  refine Bm_sM (Bm_sM (Bm_sM h ?_) ?_) ?_
  · show (-2147483648 : Int) ≤ x.1 ∧ x.1 ≤ 2147483647
    omega
  · show (-2147483648 : Int) ≤ x.2 ∧ x.2 ≤ 2147483647
    omega
  · show (0 : Int) ≤ ((i + 1 : Nat) : Int) ∧ ((i + 1 : Nat) : Int) ≤ 340
    omega
theorem wrc_Bm {q : Nat} : ∀ (c : Cd) {μ : Mm} {i : Nat}, Bm μ → i + c.length ≤ 340 → (∀ x, x ∈ c → okx x) → Bm (wrc μ q i c) := by
  intro c
  induction c with
  | nil => intro μ i h _ _; exact h
  | cons x c ih =>
    intro μ i h hi hx
    have hi' : i + (c.length + 1) ≤ 340 := hi
    exact ih (put1_Bm h (by omega) (hx x (List.mem_cons_self ..))) (by omega) (fun y hy => hx y (List.mem_cons_of_mem _ hy))
theorem sM_c {μ : Mm} {a b c d : Nat} {v w : Int} (h : ¬ (a = c ∧ b = d)) : sM (sM μ a b v) c d w = sM (sM μ c d w) a b v := by
  funext k j
  unfold sM
  by_cases h1 : k = c ∧ j = d
  · rw [if_pos h1, if_neg (fun z => h ⟨z.1.symm.trans h1.1, z.2.symm.trans h1.2⟩), if_pos h1]
  · rw [if_neg h1, if_neg h1]
theorem sM_ov {μ : Mm} {a b : Nat} {v w : Int} : sM (sM μ a b v) a b w = sM μ a b w := by
  funext k j
  unfold sM
  by_cases h1 : k = a ∧ j = b
  · rw [if_pos h1, if_pos h1]
  · rw [if_neg h1, if_neg h1, if_neg h1]
theorem put1_5 {μ : Mm} {q i : Nat} {x : Int × Int} {v : Int} : put1 (sM μ 70 5 v) q i x = sM (put1 μ q i x) 70 5 v := by
  unfold put1
  rw [sM_c (a := 70) (b := 5) (c := 72) (fun z => absurd z.1 (by decide)), sM_c (a := 70) (b := 5) (c := 73) (fun z => absurd z.1 (by decide)), sM_c (a := 70) (b := 5) (c := 74) (fun z => absurd z.1 (by decide))]
theorem wrc_5 {q : Nat} {v : Int} : ∀ (c : Cd) {μ : Mm} {i : Nat}, wrc (sM μ 70 5 v) q i c = sM (wrc μ q i c) 70 5 v := by
  intro c
  induction c with
  | nil => intro μ i; rfl
  | cons x c ih =>
    intro μ i
    show wrc (put1 (sM μ 70 5 v) q i x) q (i + 1) c = sM (wrc (put1 μ q i x) q (i + 1) c) 70 5 v
    rw [put1_5, ih]
/-- may go on at p, with i codes laid and l more openings -/
def PM (t : Nat → Int) (n q l : Nat) (μ : Mm) (i p : Nat) : Prop := Tm t n μ ∧ Bm μ ∧ μ 70 4 = -1 ∧ μ 70 14 = (q : Int) ∧ μ 74 q = (i : Int) ∧ μ 70 5 = ((6 - l : Nat) : Int) ∧ i ≤ p ∧ p ≤ n ∧ q ≤ 4 ∧ l ≤ 6
/-- what reading may write -/
def wF (q k j : Nat) : Prop := (k = 70 ∧ (j = 3 ∨ j = 4 ∨ j = 5)) ∨ wKd q 0 k j
def FL (n q l : Nat) (r : Rs) (μ : Mm) (i p : Nat) : Prop := ∃ μ' a i', r = some (0, ma μ' a) ∧ Bm μ' ∧ fw (wF q) μ μ' ∧ μ' 70 4 ≠ -1 ∧ a ≤ n + 2 + l ∧ μ' 74 q = ((i' : Nat) : Int) ∧ i' + p ≤ i + a
def MLs (t : Nat → Int) (n q l : Nat) (F : Mm → Rs) (S : Nat → Pr) : Prop := ∀ μ i p, PM t n q l μ i p → match S p with
  | some w => F (ma μ p) = some (0, ma (wrc μ q i w.1) w.2)
  | none => FL n q l (F (ma μ p)) μ i p
theorem PM_wrc {t : Nat → Int} {n q l : Nat} {μ : Mm} {i p : Nat} (h : PM t n q l μ i p) {c : Cd} {p' : Nat} (hg : Gp n p (c, p')) : PM t n q l (wrc μ q i c) (i + c.length) p' := by
  obtain ⟨h1, h2, h3, h4, h5, h6, h7, h8, h9, h10⟩ := h
  obtain ⟨g1, g2, g3, g4, g5⟩ := hg
  have g2 : p' ≤ n := g2
  have g4 : c.length + p ≤ p' := g4
  have h160 := h1.1
  have hf := wrc_fw (q := q) c (μ := μ) (i := i) (by omega)
  have e70 : ∀ j, wrc μ q i c 70 j = μ 70 j := fun j => hf 70 j (by unfold wKd; omega)
  refine ⟨⟨h160, by rw [e70]; exact h1.2.1, fun j hj => by rw [hf 71 j (by unfold wKd; omega)]; exact h1.2.2 j hj⟩, wrc_Bm c h2 (by omega) g3.2.2.2.1, by rw [e70]; exact h3, by rw [e70]; exact h4, wrc_74 c h5, by rw [e70]; exact h6, by omega, g2, h9, h10⟩
theorem put_eq {μ : Mm} {q i a : Nat} {l1 l2 : Int} (h14 : μ 70 14 = (q : Int)) (h74 : μ 74 q = (i : Int)) (hq : q ≤ 4) (hi : i < 340) : X11_put l1 l2 (ma μ a) = some (0, ma (put1 μ q i (l1, l2)) a) := by
  have hii : iA (iM 340 (q : Int)) (i : Int) = ((340 * q + i : Nat) : Int) := by
    rw [iM_id (by omega) (by omega), iA_id (by omega) (by omega)]; omega
  have b74 : (0 : Int) ≤ (q : Int) ∧ (q : Int) < ((aN 74 : Nat) : Int) := by show _ ∧ _ < (5 : Int); omega
  have b72 : (0 : Int) ≤ ((340 * q + i : Nat) : Int) ∧ ((340 * q + i : Nat) : Int) < ((aN 72 : Nat) : Int) := by show _ ∧ _ < (1700 : Int); omega
  have b73 : (0 : Int) ≤ ((340 * q + i : Nat) : Int) ∧ ((340 * q + i : Nat) : Int) < ((aN 73 : Nat) : Int) := by show _ ∧ _ < (1700 : Int); omega
  unfold X11_put ldA stA
  rw [ma_j (by decide), h14, if_pos b74, Int.toNat_natCast, ma_c (by decide), h74]
  dsimp only
  rw [hii, if_pos b72, Int.toNat_natCast]
  rw [ma_s (by omega), ma_j (by decide), sM_a (by decide), h14, if_pos b74, Int.toNat_natCast, ma_c (by decide), sM_a (by decide), h74, hii, if_pos b73, Int.toNat_natCast, ma_s (by omega), ma_j (by decide), sM_a (by decide), sM_a (by decide), h14, if_pos b74, Int.toNat_natCast, ma_c (by decide), sM_a (by decide), sM_a (by decide), h74, if_pos b74, iA_nat (by omega), ma_s (by omega)]
  rfl
theorem mltr_eq (x : Int) (μ : Mm) : X11_letterOf x μ = some (ltr x, μ) := by
  unfold X11_letterOf ltr
  repeat' split
  all_goals rfl
theorem FL_bad {n q l : Nat} {μ : Mm} {i p : Nat} {r : Rs} {s : Nat} (hr : r = some (0, ma (sM μ 70 4 (s : Int)) s)) (hB : Bm μ) (hs : s ≤ n) (hn : n ≤ 160) (h74 : μ 74 q = (i : Int)) (hps : p ≤ s) : FL n q l r μ i p :=
  ⟨_, s, i, hr, Bm_sM hB (show (-1 : Int) ≤ (s : Int) ∧ (s : Int) ≤ 1000 by omega), fw_sM fw_rf (by unfold wF; omega), by rw [sM_s]; omega, by omega, by rw [sM_a (by decide)]; exact h74, by omega⟩
theorem fwF_K {q i : Nat} {μ μ' : Mm} (h : fw (wKd q i) μ μ') : fw (wF q) μ μ' := fun k j hn => h k j (fun z => hn (by unfold wF; unfold wKd at z ⊢; omega))
theorem number_m {t : Nat → Int} {n : Nat} (hT : ∀ j, j < n → 1 ≤ t j ∧ t j ≤ 255) {μ : Mm} (h : Tm t n μ) {s : Nat} (hs : s ≤ n) (hw : μ 70 4 = -1) : X11_plainNumber (ma μ s) = if (nmF t n 4 s 0).2 < n ∧ 48 ≤ t (nmF t n 4 s 0).2 ∧ t (nmF t n 4 s 0).2 ≤ 57 then some ((nmF t n 4 s 0).1, ma (sM μ 70 4 (((nmF t n 4 s 0).2 : Nat) : Int)) (nmF t n 4 s 0).2) else some ((nmF t n 4 s 0).1, ma μ (nmF t n 4 s 0).2) := by
  have h160 := h.1
  unfold X11_plainNumber
  have hL := plainN_L h hT (fun v14 μ15 => bd (X11_here μ15) fun v16 μ17 => bd (X11_isDigit v16 μ17) fun v19 μ20 => if v19 = 0 then (some (v14, μ20)) else (bd (X11_bad μ20) fun v23 μ24 => some (v14, μ24))) 4 FU s 0 0 (by omega) (by decide) (by decide) (by decide) (by omega)
  have hL : X11_plainNumber_L4 (fun v14 μ15 => bd (X11_here μ15) fun v16 μ17 => bd (X11_isDigit v16 μ17) fun v19 μ20 => if v19 = 0 then (some (v14, μ20)) else (bd (X11_bad μ20) fun v23 μ24 => some (v14, μ24))) FU 0 0 (ma μ s) = _ := hL
  rw [hL, here_eq h, bd_some, mdig, bd_some]
  by_cases c : (nmF t n 4 s 0).2 < n ∧ 48 ≤ t (nmF t n 4 s 0).2 ∧ t (nmF t n 4 s 0).2 ≤ 57
  · rw [if_pos c, if_pos c.1, b2_t c.2, if_neg (by decide), bad_eq hw, bd_some]
  · rw [if_neg c, b2_f, if_pos rfl]
    intro z
    by_cases c1 : (nmF t n 4 s 0).2 < n
    · rw [if_pos c1] at z; exact c ⟨c1, z⟩
    · rw [if_neg c1] at z; omega
theorem opens_0 {μ : Mm} {s : Nat} (hw : μ 70 4 = -1) (h5 : μ 70 5 = 6) (hs : s < 1000) : X11_opens (ma μ s) = some (0, ma (sM (sM μ 70 4 (s : Int)) 70 5 7) (s + 1)) := by
  unfold X11_opens
  rw [ma_j (by decide), h5, if_pos rfl, bad_eq hw, bd_some]
  unfold X11_opens_J13 sF
  dsimp only
  rw [ma_j (by decide), sM_j (by decide), h5, ma_s (by decide), ma_3, iA_nat (by omega), ma_ma]
  rfl
theorem opens_1 {μ : Mm} {s d : Nat} (h5 : μ 70 5 = (d : Int)) (hd : d < 6) (hs : s < 1000) : X11_opens (ma μ s) = some (0, ma (sM μ 70 5 ((d + 1 : Nat) : Int)) (s + 1)) := by
  unfold X11_opens
  rw [ma_j (by decide), h5, if_neg (by omega)]
  unfold X11_opens_J13 sF
  dsimp only
  rw [ma_j (by decide), h5, iA_nat (p := d) (by omega), ma_s (by decide), ma_3, iA_nat (by omega), ma_ma]
theorem J20_eq {μ : Mm} {s : Nat} (hs : s < 1000) : X11_closes_J20 (ma μ s) = some (0, ma (sM μ 70 5 (iS (μ 70 5) 1)) (s + 1)) := by
  unfold X11_closes_J20 sF
  dsimp only
  rw [ma_3, iA_nat (by omega), ma_ma, ma_j (by decide), ma_s (by decide)]
theorem wI5 (x : Int) : (bm 70 5).1 ≤ iS x 1 ∧ iS x 1 ≤ (bm 70 5).2 := wI_r _
/-- after a piece that failed, its closing -/
theorem closes_F {n q l : Nat} {μ μ' : Mm} {i p a i' : Nat} {c : Int} (hB : Bm μ') (hf : fw (wF q) μ μ') (hw : μ' 70 4 ≠ -1) (ha : a ≤ n + 1 + l) (hn : n ≤ 160) (hl : l ≤ 6) (h74 : μ' 74 q = ((i' : Nat) : Int)) (hi : i' + p ≤ i + a) : FL n q l (X11_closes c (ma μ' a)) μ i p := by
  unfold X11_closes
  rw [ma_j (by decide), if_neg hw, J20_eq (by omega)]
  exact ⟨_, a + 1, i', rfl, Bm_sM hB (wI5 _), fw_sM hf (by unfold wF; omega), by rw [sM_j (by decide)]; exact hw, by omega, by rw [sM_a (by decide)]; exact h74, by omega⟩
theorem atomM {t : Nat → Int} {n : Nat} (hT : ∀ j, j < n → 1 ≤ t j ∧ t j ≤ 255) {q l : Nat} {rec : Mm → Rs} {S : Nat → Pr} (hS : (1 ≤ l ∧ MLs t n q (l - 1) rec S) ∨ (l = 0 ∧ ∀ p, S p = none)) (hG : GP n S) : MLs t n q l (X11_atom_o rec) (atomS t n S) := by
  intro μ i p hP
  obtain ⟨h1, h2, h3, h4, h5, h6, h7, h8, h9, h10⟩ := id hP
  have h160 := h1.1
  have hge := sk_ge (t := t) (n := n) p
  have hle := sk_le (t := t) (n := n) p h8
  unfold atomS
  by_cases c1 : 48 ≤ pk t n p ∧ pk t n p ≤ 57
  · rw [if_pos c1]
    have hn4 := nm4 h8 c1
    have e : X11_atom_o rec (ma μ p) = bd (X11_plainNumber (ma μ (sk t n p))) fun v33 μ34 => bd (X11_put 0 v33 μ34) fun v36 μ37 => some (0, μ37) := by
      unfold X11_atom_o
      rw [look_eq h1 (by omega), bd_some, mdig, bd_some, b2_t c1, if_neg (by decide)]
    rw [number_m hT h1 hle h3] at e
    by_cases hx : (nmF t n 4 (sk t n p) 0).2 < n ∧ 48 ≤ t (nmF t n 4 (sk t n p) 0).2 ∧ t (nmF t n 4 (sk t n p) 0).2 ≤ 57
    · rw [if_pos hx]
      rw [if_pos hx, bd_some, put_eq (μ := sM μ 70 4 (((nmF t n 4 (sk t n p) 0).2 : Nat) : Int)) (by rw [sM_j (by decide)]; exact h4) (by rw [sM_a (by decide)]; exact h5) h9 (by omega), bd_some] at e
      refine ⟨_, _, i + 1, e, put1_Bm (Bm_sM h2 (show (-1 : Int) ≤ _ ∧ _ ≤ (1000 : Int) by omega)) (by omega) (Or.inl ⟨rfl, hn4.2.2⟩), fw_tr (fw_sM fw_rf (by unfold wF; omega)) (fwF_K (put1_fw _ (by omega))), ?_, by omega, by unfold put1; rw [sM_s], by omega⟩
      unfold put1
      rw [sM_a (by decide), sM_a (by decide), sM_a (by decide), sM_s]
      omega
    · rw [if_neg hx]
      rw [if_neg hx, bd_some, put_eq h4 h5 h9 (by omega), bd_some] at e
      exact e
  · rw [if_neg c1]
    by_cases c2 : ltr (pk t n p) = -1
    · rw [if_neg (fun z => z c2)]
      have e0 : X11_atom_o rec (ma μ p) = if pk t n p = 91 then (bd (X11_opens (ma μ (sk t n p))) fun v16 μ17 => if (μ17 70 4) = (-1) then (bd (rec μ17) fun v20 μ21 => bd (X11_closes 93 μ21) fun v23 μ24 => some (0, μ24)) else (some (0, μ17))) else (bd (X11_bad (ma μ (sk t n p))) fun v13 μ14 => some (0, μ14)) := by
        unfold X11_atom_o
        rw [look_eq h1 (by omega), bd_some, mdig, bd_some, b2_f c1, if_pos rfl, mltr_eq, bd_some, if_pos c2]
      by_cases c3 : pk t n p = 91
      · rw [if_pos c3]
        rw [if_pos c3] at e0
        have hq := pk_ne (t := t) (n := n) (p := p) (by omega)
        rcases hS with ⟨hl, hM⟩ | ⟨hl, hM⟩
        · rw [opens_1 h6 (by omega) (by omega), bd_some, ma_j (by decide), sM_j (by decide), if_pos h3] at e0
          have ed : 6 - l + 1 = 6 - (l - 1) := by omega
          have hP1 : PM t n q (l - 1) (sM μ 70 5 ((6 - l + 1 : Nat) : Int)) i (sk t n p + 1) := by
            refine ⟨Tm_s h1 (by decide) (by decide), Bm_sM h2 (show (-2147483648 : Int) ≤ _ ∧ _ ≤ (2147483647 : Int) by omega), by rw [sM_j (by decide)]; exact h3, by rw [sM_j (by decide)]; exact h4, by rw [sM_a (by decide)]; exact h5, by rw [sM_s, ed], by omega, by omega, h9, by omega⟩
          have hm := hM _ _ _ hP1
          have hg := hG (sk t n p + 1)
          revert hm hg
          cases S (sk t n p + 1) with
          | none =>
            rintro ⟨μ', a, i', f1, f2, f3, f4, f5, f6, f7⟩ _
            rw [f1, bd_some] at e0
            have hc := closes_F (a := a) (i' := i') (n := n) (q := q) (l := l) (μ := μ) (i := i) (p := p) (c := 93) f2 (fw_tr (fw_sM fw_rf (by unfold wF; omega)) f3) f4 (by omega) h160 h10 f6 (by omega)
            obtain ⟨μ2, a2, i2, k1, k2⟩ := hc
            rw [k1, bd_some] at e0
            exact ⟨μ2, a2, i2, e0, k2⟩
          | some w =>
            intro hm hg
            have hm : rec (ma (sM μ 70 5 ((6 - l + 1 : Nat) : Int)) (sk t n p + 1)) = some (0, ma (wrc (sM μ 70 5 ((6 - l + 1 : Nat) : Int)) q i w.1) w.2) := hm
            have hgw := hg w (by omega) rfl
            have hP2 := PM_wrc hP1 hgw
            have hgw2 : w.2 ≤ n := hgw.2.1
            have hle2 := sk_le (t := t) (n := n) w.2 hgw2
            have hge2 := sk_ge (t := t) (n := n) w.2
            rw [hm, bd_some] at e0
            dsimp only
            have ecl : X11_closes 93 (ma (wrc (sM μ 70 5 ((6 - l + 1 : Nat) : Int)) q i w.1) w.2) = if pk t n w.2 = 93 then some (0, ma (wrc μ q i w.1) (sk t n w.2 + 1)) else bd (X11_bad (ma (wrc (sM μ 70 5 ((6 - l + 1 : Nat) : Int)) q i w.1) (sk t n w.2))) fun v8 μ9 => X11_closes_J20 μ9 := by
              unfold X11_closes
              rw [ma_j (by decide), if_pos hP2.2.2.1, look_eq hP2.1 (by omega), bd_some]
              by_cases c4 : pk t n w.2 = 93
              · rw [if_pos c4, if_pos c4, J20_eq (by omega), hP2.2.2.2.2.2.1, wrc_5]
                have : iS ((6 - (l - 1) : Nat) : Int) 1 = ((6 - l : Nat) : Int) := by rw [iS_id (by omega) (by omega)]; omega
                have e3 : wrc μ q i w.1 70 5 = ((6 - l : Nat) : Int) := by
                  rw [wrc_fw (q := q) w.1 (μ := μ) (i := i) (by have := hgw.2.2.2.1; omega) 70 5 (by unfold wKd; omega)]; exact h6
                rw [this, sM_ov, ← e3, sM_id]
              · rw [if_neg c4, if_neg c4]
            rw [ecl] at e0
            by_cases c4 : pk t n w.2 = 93
            · rw [if_pos c4]
              rw [if_pos c4, bd_some] at e0
              exact e0
            · rw [if_neg c4]
              rw [if_neg c4, bad_eq hP2.2.2.1, bd_some, J20_eq (by omega), bd_some] at e0
              refine ⟨_, _, i + w.1.length, e0, Bm_sM (Bm_sM hP2.2.1 (show (-1 : Int) ≤ _ ∧ _ ≤ (1000 : Int) by omega)) (wI5 _), ?_, ?_, by omega, ?_, ?_⟩
              · refine fw_sM (fw_sM (fw_tr (fw_sM fw_rf (by unfold wF; omega)) (fwF_K (wrc_fw (q := q) w.1 (by have := hgw.2.2.2.1; omega)))) (by unfold wF; omega)) (by unfold wF; omega)
              · rw [sM_j (by decide), sM_s]; omega
              · rw [sM_a (by decide), sM_a (by decide)]; exact hP2.2.2.2.2.1
              · have := hgw.2.2.2.1
                omega
        · rw [hM]
          rw [opens_0 h3 (by rw [h6, hl]; rfl) (by omega), bd_some, ma_j (by decide), sM_j (by decide), sM_s, if_neg (by omega)] at e0
          exact ⟨_, _, i, e0, Bm_sM (Bm_sM h2 (show (-1 : Int) ≤ _ ∧ _ ≤ (1000 : Int) by omega)) (by decide), fw_sM (fw_sM fw_rf (by unfold wF; omega)) (by unfold wF; omega), by rw [sM_j (by decide), sM_s]; omega, by omega, by rw [sM_a (by decide), sM_a (by decide)]; exact h5, by omega⟩
      · rw [if_neg c3]
        rw [if_neg c3, bad_eq h3, bd_some] at e0
        exact FL_bad e0 h2 hle h160 h5 hge
    · rw [if_pos c2]
      have hq := pk_ne (t := t) (n := n) (p := p) (fun z => c2 (by rw [z]; decide))
      show X11_atom_o rec (ma μ p) = some (0, ma (put1 μ q i (1, ltr (pk t n p))) (sk t n p + 1))
      unfold X11_atom_o
      rw [look_eq h1 (by omega), bd_some, mdig, bd_some, b2_f c1, if_pos rfl, mltr_eq, bd_some, if_neg c2]
      unfold sF
      dsimp only
      rw [ma_3, iA_nat (by omega), ma_ma, mltr_eq, bd_some, put_eq h4 h5 h9 (by omega), bd_some]
