/-! TIMES: the class's and the reference's -/
def en5 (t k n c l : Int) (i : Nat) : Int := if i = 0 then t else if i = 1 then k else if i = 2 then n else if i = 3 then c else if i = 4 then l else 0
theorem ev1_c {e e' : Nat → Int} (h : ∀ i, i < 5 → e i = e' i) {x : Int × Int} (hx : okx x) (s : List Int) : ev1 e x s = ev1 e' x s := by
  unfold ev1
  rcases hx with ⟨h0, _⟩ | ⟨h1, h2, h3⟩ | ⟨h1, h2, _⟩
  · rw [if_pos h0, if_pos h0]
  · rw [if_neg (by omega), if_pos h1, if_neg (by omega), if_pos h1, h x.2.toNat (by omega)]
  · rw [if_neg (by omega), if_neg (by omega), if_neg (by omega), if_neg (by omega)]
theorem ev_c {e e' : Nat → Int} (h : ∀ i, i < 5 → e i = e' i) : ∀ (c : Cd) (s : List Int), (∀ x, x ∈ c → okx x) → ev e c s = ev e' c s := by
  intro c
  induction c with
  | nil => intro s _; rfl
  | cons x c ih =>
    intro s hx
    show ev e c (ev1 e x s) = ev e' c (ev1 e' x s)
    rw [ev1_c h (hx x (List.mem_cons_self ..)), ih _ (fun y hy => hx y (List.mem_cons_of_mem _ hy))]
theorem vl_c {e e' : Nat → Int} (h : ∀ i, i < 5 → e i = e' i) {c : Cd} (hg : gd c) : vl e c = vl e' c := by
  unfold vl
  rw [ev_c h c [] hg.2.2.2.1]
theorem lawV_e {e e' : Nat → Int} (h : ∀ i, i < 5 → e i = e' i) : ∀ (L : List (Cd × Cd)), (∀ x, x ∈ L → (x.1 = [] ∨ gd x.1) ∧ gd x.2) → lawV e L = lawV e' L := by
  intro L
  induction L with
  | nil => intro _; rfl
  | cons x L ih =>
    intro hx
    have h1 := hx x (List.mem_cons_self ..)
    have h2 := ih (fun y hy => hx y (List.mem_cons_of_mem _ hy))
    show (if x.1 = [] then vl e x.2 else if vl e x.1 = 0 then lawV e L else vl e x.2) = (if x.1 = [] then vl e' x.2 else if vl e' x.1 = 0 then lawV e' L else vl e' x.2)
    rw [h2, vl_c h h1.2]
    rcases h1.1 with h3 | h3
    · rw [if_pos h3, if_pos h3]
    · rw [vl_c h h3]
theorem rows_gd {μ : Mm} {q : Nat} : ∀ (L : List (Cd × Cd)) (g i : Nat), rowsAt μ q g i L → ∀ x, x ∈ L → (x.1 = [] ∨ gd x.1) ∧ gd x.2 := by
  intro L
  induction L with
  | nil => intro g i _ x hx; exact nomatch hx
  | cons y L ih =>
    intro g i h x hx
    obtain ⟨⟨_, _, _, _, h5, h6, _⟩, h11⟩ := h
    rcases List.mem_cons.mp hx with e | e
    · rw [e]; exact ⟨h6, h5⟩
    · exact ih _ _ h11 x e
/-- what a LAW adds -/
def wrt (H : Option (List (Cd × Cd))) (e : Nat → Int) : Int := match H with
  | none => 0
  | some LW => mX (-99) (mN 99 (lawV e LW))
theorem wrt_b (H : Option (List (Cd × Cd))) (e : Nat → Int) : -99 ≤ wrt H e ∧ wrt H e ≤ 99 := by
  unfold wrt
  cases H with
  | none => exact (show (-99 : Int) ≤ 0 ∧ (0 : Int) ≤ 99 by decide)
  | some LW =>
    show -99 ≤ mX (-99) (mN 99 (lawV e LW)) ∧ mX (-99) (mN 99 (lawV e LW)) ≤ 99
    rw [mX_eq, mN_eq]; omega
def vT (H : Option (List (Cd × Cd))) (n : Int) (L : List (Int × Int)) (k : Nat) : Int := (L.getD k (0, 0)).2 + wrt H (en5 (L.getD k (0, 0)).2 (k : Int) n (L.getD k (0, 0)).1 (L.length : Int))
def pv (H : Option (List (Cd × Cd))) (n : Int) (L : List (Int × Int)) : Nat → Int
  | 0 => 0
  | k + 1 => mX (pv H n L k) (vT H n L k)
/-- the TIME of the CUE k -/
def tmF (H : Option (List (Cd × Cd))) (n : Int) (L : List (Int × Int)) (k : Nat) : Int := pv H n L (k + 1)
theorem vT_b {H : Option (List (Cd × Cd))} {n : Int} {L : List (Int × Int)} (hL : plOK L) {k : Nat} (hk : k < L.length) : -99 ≤ vT H n L k ∧ vT H n L k ≤ 1098 := by
  have h1 := plOK_at hL hk
  have h2 := wrt_b H (en5 (L.getD k (0, 0)).2 (k : Int) n (L.getD k (0, 0)).1 (L.length : Int))
  unfold vT
  omega
theorem pv_b {H : Option (List (Cd × Cd))} {n : Int} {L : List (Int × Int)} (hL : plOK L) : ∀ k, k ≤ L.length → 0 ≤ pv H n L k ∧ pv H n L k ≤ 1098 := by
  intro k
  induction k with
  | zero => intro _; exact ⟨Int.le_refl _, (show (0 : Int) ≤ 1098 by decide)⟩
  | succ k ih =>
    intro hk
    have h1 := ih (by omega)
    have h2 := vT_b (H := H) (n := n) hL (k := k) (by omega)
    show 0 ≤ mX (pv H n L k) (vT H n L k) ∧ mX (pv H n L k) (vT H n L k) ≤ 1098
    rw [mX_eq]; omega
theorem pv_mono {H : Option (List (Cd × Cd))} {n : Int} {L : List (Int × Int)} (k : Nat) : pv H n L k ≤ pv H n L (k + 1) := by
  show pv H n L k ≤ mX (pv H n L k) (vT H n L k)
  rw [mX_eq]; omega
theorem tm_b {H : Option (List (Cd × Cd))} {n : Int} {L : List (Int × Int)} (hL : plOK L) {k : Nat} (hk : k < L.length) : 0 ≤ tmF H n L k ∧ tmF H n L k ≤ 1098 := pv_b hL (k + 1) (by omega)
/-- the LAW that holds, to both -/
def HL (μ : Mm) (H : Option (List (Cd × Cd))) : Prop := (μ 70 32 = -1 ∧ H = none) ∨ ∃ (q n : Nat) (LW : List (Cd × Cd)), q < 4 ∧ μ 70 32 = (q : Int) ∧ H = some LW ∧ n ≤ 160 ∧ μ (37 + 2 * q) 1 = (n : Int) ∧ (∀ j, j < n → 1 ≤ μ (38 + 2 * q) j ∧ μ (38 + 2 * q) j ≤ 255) ∧ lawS (μ (38 + 2 * q)) n = some LW ∧ rowsAt μ q 0 0 LW
theorem inv_HL {μ : Mm} (hI : Inv μ) : ∃ H, HL μ H := by
  have h32 : -1 ≤ μ 70 32 ∧ μ 70 32 ≤ 3 := hI.2.1.1 70 32 (by decide)
  have h13 := hI.2.1.2.2.2.2.1
  obtain ⟨m, l1, l2, l3, l4⟩ := hI.2.2.2.2.1
  by_cases c : μ 70 32 = -1
  · exact ⟨none, Or.inl ⟨c, rfl⟩⟩
  · obtain ⟨n, LW, g1, g2, g3, g4, g5⟩ := l4 (μ 70 32).toNat (by omega)
    exact ⟨some LW, Or.inr ⟨(μ 70 32).toNat, n, LW, by omega, by omega, rfl, g1, g2, g3, g4, g5⟩⟩
/-- where the class finds it -/
def hC (μ : Mm) : Int := if μ 70 32 = -1 then -1 else ((37 + 2 * (μ 70 32).toNat : Nat) : Int)
theorem holds_eq {μ : Mm} (hI : Inv μ) : X10_lawThatHolds μ = some (hC μ, μ) := by
  have h32 : -1 ≤ μ 70 32 ∧ μ 70 32 ≤ 3 := hI.2.1.1 70 32 (by decide)
  have h13 := hI.2.1.2.2.2.2.1
  have hw : μ 0 17 = μ 70 32 := hI.2.2.2.2.2.2.1
  obtain ⟨m, l1, l2, l3, _⟩ := hI.2.2.2.2.1
  unfold X10_lawThatHolds hC
  rw [hw]
  by_cases c : μ 70 32 = -1
  · rw [if_pos (by omega), if_pos c]
  · have e36 : ((aN 36 : Nat) : Int) = 4 := rfl
    rw [if_neg (by omega), if_neg (by omega), if_neg (by rw [e36]; omega), if_neg c]
    unfold aL
    rw [if_pos (by show 0 ≤ μ 70 32 ∧ μ 70 32 < 4; omega)]
    rfl
def Wt (k _ : Nat) : Prop := k = 3 ∨ k = 4 ∨ k = 50
theorem open_l (l : Nat) (μ : Mm) : X4_open l μ = some (0, cr (sM μ 3 0 (l : Int)) 0 (-1)) := rfl
theorem J101_eq {K : Int → Int → Mm → Rs} {l1 : Nat} {l2 l5 l7 : Int} {k : Nat} (hk : k < 8) {μ : Mm} : X2_fillTimes_J101 K l1 l2 50 l5 (k : Int) l7 μ = K (mX l5 l7) ((k + 1 : Nat) : Int) (sM μ 50 k (mX l5 l7)) := by
  unfold X2_fillTimes_J101 stA
  rw [if_pos (by show (0 : Int) ≤ (k : Int) ∧ (k : Int) < 8; omega), Int.toNat_natCast, iA_nat (by omega)]
theorem pl_60 {l1 : Nat} (hk : kD l1 = (13, 3)) : aN (l1 + 1) = 8 ∧ aN (l1 + 2) = 8 ∧ 5 ≤ l1 ∧ l1 + 2 < 45 := by
  have h : ∀ l, l < 98 → kD l = (13, 3) → aN (l + 1) = 8 ∧ aN (l + 2) = 8 ∧ 5 ≤ l ∧ l + 2 < 45 := by decide +kernel
  by_cases c : l1 < 98
  · exact h l1 c hk
  · have e : kD l1 = (99, 0) := by
      unfold kD
      rw [List.getD_eq_getElem?_getD, List.getElem?_eq_none (by have : kL.length = 98 := rfl; omega)]
      rfl
    rw [e] at hk
    cases hk
theorem kD_lt2 : ∀ q, q < 4 → kD (37 + 2 * q) = (17, 2) := by decide
theorem fillC_L {μ : Mm} {H : Option (List (Cd × Cd))} (hH : HL μ H) {l1 : Nat} (hk : kD l1 = (13, 3)) {L : List (Int × Int)} (hP : hasP μ l1 0 L) (hl8 : L.length ≤ 8) (hL : plOK L) {n : Int} (hn : 0 ≤ n ∧ n ≤ 99) : ∀ (r k fuel : Nat) (ν : Mm), k + r = L.length → r < fuel → fw Wt μ ν → ν 4 3 = n → ν 4 5 = (L.length : Int) → ∃ ν', X2_fillTimes_L19 l1 (hC μ) 50 fuel (pv H n L k) (k : Int) ν = some (0, ν') ∧ fw Wt μ ν' ∧ (∀ j, j < k → ν' 50 j = ν 50 j) ∧ ∀ j, k ≤ j → j < L.length → ν' 50 j = tmF H n L j := by
  obtain ⟨p1, p2, p3, p4⟩ := pl_60 hk
  have size : ∀ {ν : Mm}, fw Wt μ ν → ν l1 2 = (L.length : Int) := fun h => by
    rw [h l1 2 (by unfold Wt; omega), hP.1, Nat.zero_add]
  intro r
  induction r with
  | zero =>
    intro k fuel ν hr hf hw h3 h5
    obtain ⟨g, rfl, _⟩ := lt_fuel hf
    refine ⟨ν, ?_, hw, fun _ _ => rfl, fun j h1 h2 => absurd h1 (by omega)⟩
    show (if (ν l1 2) ≤ (k : Int) then _ else _) = _
    rw [size hw, if_pos (by omega)]
  | succ r ih =>
    intro k fuel ν hr hf hw h3 h5
    obtain ⟨g, rfl, _⟩ := lt_fuel hf
    have hk8 : k < 8 := by omega
    have hkl : k < L.length := by omega
    have hb := plOK_at hL hkl
    have hPk := hP.2 k hkl
    rw [Nat.zero_add] at hPk
    have n1 : ν (l1 + 1) k = (L.getD k (0, 0)).1 := by rw [hw _ _ (by unfold Wt; omega)]; exact hPk.1
    have n2 : ν (l1 + 2) k = (L.getD k (0, 0)).2 := by rw [hw _ _ (by unfold Wt; omega)]; exact hPk.2
    have e50 : ((aN 50 : Nat) : Int) = 8 := rfl
    have hpv := pv_b (H := H) (n := n) hL k (by omega)
    have hvT := vT_b (H := H) (n := n) hL hkl
    -- the three letters written
    obtain ⟨ν1, hν1⟩ : ∃ ν1, ν1 = sM (sM (sM ν 4 1 (L.getD k (0, 0)).2) 4 2 (k : Int)) 4 4 (L.getD k (0, 0)).1 := ⟨_, rfl⟩
    have w1 : fw Wt μ ν1 := by
      rw [hν1]
      exact fw_sM (fw_sM (fw_sM hw (Or.inr (Or.inl rfl))) (Or.inr (Or.inl rfl))) (Or.inr (Or.inl rfl))
    have f1 : ν1 4 1 = (L.getD k (0, 0)).2 ∧ ν1 4 2 = (k : Int) ∧ ν1 4 3 = n ∧ ν1 4 4 = (L.getD k (0, 0)).1 ∧ ν1 4 5 = (L.length : Int) := by
      rw [hν1]
      refine ⟨?_, ?_, ?_, ?_, ?_⟩
      · rw [sM_j (by decide), sM_j (by decide), sM_s]
      · rw [sM_j (by decide), sM_s]
      · rw [sM_j (by decide), sM_j (by decide), sM_j (by decide)]; exact h3
      · rw [sM_s]
      · rw [sM_j (by decide), sM_j (by decide), sM_j (by decide)]; exact h5
    have f50 : ∀ j, ν1 50 j = ν 50 j := fun j => by rw [hν1, sM_a (by decide), sM_a (by decide), sM_a (by decide)]
    have e1 : X2_fillTimes_L19 l1 (hC μ) 50 (g + 1) (pv H n L k) (k : Int) ν = if hC μ = -1 then (X2_fillTimes_J101 (fun w5 w6 μq => X2_fillTimes_L19 l1 (hC μ) 50 g w5 w6 μq) l1 (hC μ) 50 (pv H n L k) (k : Int) (ν1 4 1) ν1) else (kC (hC μ) (17, 2) fun _ => bd (X4_open ((hC μ).toNat) ν1) fun v16 μ17 => bd (X2_worth μ17) fun v19 μ20 => lt_ (iA (ν1 4 1) (mX (-99) (mN 99 v19))) fun v22 => X2_fillTimes_J101 (fun w5 w6 μq => X2_fillTimes_L19 l1 (hC μ) 50 g w5 w6 μq) l1 (hC μ) 50 (pv H n L k) (k : Int) v22 μ20) := by
      show (if (ν l1 2) ≤ (k : Int) then _ else _) = _
      rw [size hw, if_neg (by omega), e50, if_neg (by omega)]
      unfold ldA sF
      rw [if_pos (by rw [p2]; omega), Int.toNat_natCast, n2]
      dsimp only
      have n1' : sM (sM ν 4 1 (L.getD k (0, 0)).2) 4 2 (k : Int) (l1 + 1) k = (L.getD k (0, 0)).1 := by rw [sM_a (by omega), sM_a (by omega)]; exact n1
      rw [if_pos (by rw [p1]; omega), n1', ← hν1]
    -- what goes on
    have go : ∀ (v : Int) (ν2 : Mm), v = vT H n L k → fw Wt μ ν2 → ν2 4 3 = n → ν2 4 5 = (L.length : Int) → (∀ j, ν2 50 j = ν 50 j) → ∃ ν', X2_fillTimes_J101 (fun w5 w6 μq => X2_fillTimes_L19 l1 (hC μ) 50 g w5 w6 μq) l1 (hC μ) 50 (pv H n L k) (k : Int) v ν2 = some (0, ν') ∧ fw Wt μ ν' ∧ (∀ j, j < k → ν' 50 j = ν 50 j) ∧ ∀ j, k ≤ j → j < L.length → ν' 50 j = tmF H n L j := by
      intro v ν2 hv w2 g3 g5 g50
      rw [J101_eq hk8, hv]
      obtain ⟨ν', r1, r2, r3, r4⟩ := ih (k + 1) g (sM ν2 50 k (mX (pv H n L k) (vT H n L k))) (by omega) (by omega) (fw_sM w2 (Or.inr (Or.inr rfl))) (by rw [sM_a (by decide)]; exact g3) (by rw [sM_a (by decide)]; exact g5)
      refine ⟨ν', r1, r2, fun j hj => by rw [r3 j (by omega), sM_j (by omega), g50], fun j j1 j2 => ?_⟩
      by_cases c : j = k
      · rw [c, r3 k (by omega), sM_s]; rfl
      · exact r4 j (by omega) j2
    rw [e1]
    rcases hH with ⟨h1, h2⟩ | ⟨q, m, LW, q1, q2, q3, q4, q5, q6, q7, q8⟩
    · have ec : hC μ = -1 := by unfold hC; rw [if_pos h1]
      rw [if_pos ec]
      refine go _ ν1 ?_ w1 f1.2.2.1 f1.2.2.2.2 f50
      rw [f1.1]
      unfold vT
      rw [h2]
      show _ = _ + (0 : Int)
      omega
    · have ec : hC μ = ((37 + 2 * q : Nat) : Int) := by
        unfold hC
        rw [if_neg (by omega), q2, Int.toNat_natCast]
      have kq := kD_lt2 q q1
      obtain ⟨ν2, hν2⟩ : ∃ ν2, ν2 = sM ν1 3 0 ((37 + 2 * q : Nat) : Int) := ⟨_, rfl⟩
      have w2 : fw Wt μ ν2 := by rw [hν2]; exact fw_sM w1 (Or.inl rfl)
      have hTx : Tx (μ (38 + 2 * q)) m ν2 := by
        refine ⟨q4, 37 + 2 * q, by rw [hν2, sM_s], kq, ?_, fun j hj => ?_⟩
        · rw [w2 _ _ (by unfold Wt; omega)]; exact q5
        · have e38 : 37 + 2 * q + 1 = 38 + 2 * q := by omega
          rw [w2 _ _ (by unfold Wt; omega), e38]
      have o4 : ∀ i, ν2 4 i = ν1 4 i := fun i => by rw [hν2, sM_a (by decide)]
      have henv : ∀ i, i < 5 → envC ν2 i = en5 (L.getD k (0, 0)).2 (k : Int) n (L.getD k (0, 0)).1 (L.length : Int) i := by
        intro i hi
        show ν2 4 (i + 1) = _
        rw [o4]
        have hi' : i = 0 ∨ i = 1 ∨ i = 2 ∨ i = 3 ∨ i = 4 := by omega
        rcases hi' with rfl | rfl | rfl | rfl | rfl
        · exact f1.1
        · exact f1.2.1
        · exact f1.2.2.1
        · exact f1.2.2.2.1
        · exact f1.2.2.2.2
      have hE : eOK (envC ν2) := by
        intro i hi
        rw [henv i hi]
        have hi' : i = 0 ∨ i = 1 ∨ i = 2 ∨ i = 3 ∨ i = 4 := by omega
        rcases hi' with rfl | rfl | rfl | rfl | rfl
        · show -2147483648 ≤ (L.getD k (0, 0)).2 ∧ (L.getD k (0, 0)).2 ≤ 2147483647
          omega
        · show -2147483648 ≤ (k : Int) ∧ (k : Int) ≤ 2147483647
          omega
        · show -2147483648 ≤ n ∧ n ≤ 2147483647
          omega
        · show -2147483648 ≤ (L.getD k (0, 0)).1 ∧ (L.getD k (0, 0)).1 ≤ 2147483647
          omega
        · show -2147483648 ≤ (L.length : Int) ∧ (L.length : Int) ≤ 2147483647
          omega
      have hW := worthC hTx q6 hE
      rw [q7] at hW
      obtain ⟨p', hW⟩ := hW
      have ev : lawV (envC ν2) LW = lawV (en5 (L.getD k (0, 0)).2 (k : Int) n (L.getD k (0, 0)).1 (L.length : Int)) LW := lawV_e henv LW (rows_gd LW _ _ q8)
      have w3 : fw Wt μ (cr ν2 p' (-1)) := by
        unfold cr
        exact fw_sM (fw_sM w2 (Or.inl rfl)) (Or.inl rfl)
      rw [if_neg (by rw [ec]; omega)]
      unfold kC
      rw [ec, Int.toNat_natCast, if_pos kq, open_l, bd_some, ← hν2, hW, bd_some, f1.1, ← ec]
      unfold lt_
      refine go _ _ ?_ w3 (by rw [cr_c (by decide), o4]; exact f1.2.2.1) (by rw [cr_c (by decide), o4]; exact f1.2.2.2.2) (fun j => by rw [cr_c (by decide), hν2, sM_a (by decide), f50])
      rw [ev]
      have hwb := wrt_b H (en5 (L.getD k (0, 0)).2 (k : Int) n (L.getD k (0, 0)).1 (L.length : Int))
      rw [q3] at hwb
      unfold vT
      rw [q3]
      have e9 : wrt (some LW) (en5 (L.getD k (0, 0)).2 (k : Int) n (L.getD k (0, 0)).1 (L.length : Int)) = mX (-99) (mN 99 (lawV (en5 (L.getD k (0, 0)).2 (k : Int) n (L.getD k (0, 0)).1 (L.length : Int)) LW)) := rfl
      rw [e9] at hwb ⊢
      exact iA_id (by omega) (by omega)
theorem fillC {μ : Mm} {H : Option (List (Cd × Cd))} (hH : HL μ H) {l1 : Nat} (hk : kD l1 = (13, 3)) {L : List (Int × Int)} (hP : hasP μ l1 0 L) (hl8 : L.length ≤ 8) (hL : plOK L) {n : Int} (hn : 0 ≤ n ∧ n ≤ 99) : ∃ ν, X2_fillTimes l1 (hC μ) n 50 μ = some (0, ν) ∧ fw Wt μ ν ∧ ∀ j, j < L.length → ν 50 j = tmF H n L j := by
  have hp := pl_60 hk
  have e5 : sM μ 4 3 n l1 2 = (L.length : Int) := by rw [sM_a (by omega), hP.1, Nat.zero_add]
  obtain ⟨ν, r1, r2, _, r4⟩ := fillC_L hH hk hP hl8 hL hn L.length 0 FU (sM (sM μ 4 3 n) 4 5 (L.length : Int)) (by omega) (by show L.length < 1000000; omega) (fw_sM (fw_sM fw_rf (Or.inr (Or.inl rfl))) (Or.inr (Or.inl rfl))) (by rw [sM_j (by decide), sM_s]) (by rw [sM_s])
  refine ⟨ν, ?_, r2, fun j hj => r4 j (Nat.zero_le _) hj⟩
  unfold X2_fillTimes
  rw [sF_r, sF_r, e5]
  exact r1
/-! the reference -/
def Wm (k _ : Nat) : Prop := k = 79 ∨ k = 80 ∨ k = 88
theorem J107_eq {K : Int → Mm → Rs} {l1 l2 v : Int} {k : Nat} (hk : k < 8) {μ : Mm} : X11_layTimes_J107 K l1 l2 (k : Int) v μ = K ((k + 1 : Nat) : Int) (sM μ 88 k (mX (if k = 0 then 0 else μ 88 (k - 1)) v)) := by
  unfold X11_layTimes_J107 ldA stA
  by_cases c : k = 0
  · subst c
    rw [if_pos rfl, if_pos (by decide)]
    rfl
  · have e : iS (k : Int) 1 = ((k - 1 : Nat) : Int) := by rw [iS_id (by omega) (by omega)]; omega
    rw [if_neg (by omega), e, if_pos (by show (0 : Int) ≤ ((k - 1 : Nat) : Int) ∧ ((k - 1 : Nat) : Int) < 8; omega), Int.toNat_natCast, if_neg c]
    dsimp only
    rw [if_pos (by show (0 : Int) ≤ (k : Int) ∧ (k : Int) < 8; omega), Int.toNat_natCast, iA_nat (by omega)]
theorem layT_L {μ : Mm} {H : Option (List (Cd × Cd))} (hH : HL μ H) {p : Nat} (hp : p ≤ 4) {L : List (Int × Int)} (hM : hasM μ p 0 L) (hl8 : L.length ≤ 8) (hL : plOK L) {n : Int} (hn : 0 ≤ n ∧ n ≤ 99) : ∀ (r k fuel : Nat) (ν : Mm), k + r = L.length → r < fuel → Bm ν → fw Wm μ ν → (∀ j, j < k → ν 88 j = tmF H n L j) → ∃ ν', X11_layTimes_L2 (p : Int) n fuel (k : Int) ν = some (0, ν') ∧ Bm ν' ∧ fw Wm μ ν' ∧ ∀ j, j < L.length → ν' 88 j = tmF H n L j := by
  have size : ∀ {ν : Mm}, fw Wm μ ν → ν 85 p = (L.length : Int) := fun h => by
    rw [h 85 p (by unfold Wm; omega), hM.1, Nat.zero_add]
  intro r
  induction r with
  | zero =>
    intro k fuel ν hr hf hB hw h88
    obtain ⟨g, rfl, _⟩ := lt_fuel hf
    refine ⟨ν, ?_, hB, hw, fun j hj => h88 j (by omega)⟩
    show ldA ν 85 (p : Int) _ = _
    unfold ldA
    rw [if_pos (by show (0 : Int) ≤ (p : Int) ∧ (p : Int) < 6; omega), Int.toNat_natCast, size hw]
    dsimp only
    rw [if_pos (by omega)]
  | succ r ih =>
    intro k fuel ν hr hf hB hw h88
    obtain ⟨g, rfl, _⟩ := lt_fuel hf
    have hk8 : k < 8 := by omega
    have hkl : k < L.length := by omega
    have hb := plOK_at hL hkl
    have hMk := hM.2 k hkl
    rw [Nat.zero_add] at hMk
    have n1 : ν 83 (8 * p + k) = (L.getD k (0, 0)).1 := by rw [hw _ _ (by unfold Wm; omega)]; exact hMk.1
    have n2 : ν 84 (8 * p + k) = (L.getD k (0, 0)).2 := by rw [hw _ _ (by unfold Wm; omega)]; exact hMk.2
    have hvT := vT_b (H := H) (n := n) hL hkl
    have hpv := pv_b (H := H) (n := n) hL k (by omega)
    have e1 : X11_layTimes_L2 (p : Int) n (g + 1) (k : Int) ν = if (ν 70 32) = (-1) then (X11_layTimes_J107 (fun w3 μq => X11_layTimes_L2 (p : Int) n g w3 μq) (p : Int) n (k : Int) (L.getD k (0, 0)).2 ν) else (bd (X11_worthOf (ν 70 32) (sM (sM (sM (sM (sM ν 79 0 (L.getD k (0, 0)).2) 79 1 (k : Int)) 79 2 n) 79 3 (L.getD k (0, 0)).1) 79 4 (L.length : Int))) fun v28 μ29 => lt_ (iA (L.getD k (0, 0)).2 (mX (-99) (mN 99 v28))) fun v31 => X11_layTimes_J107 (fun w3 μq => X11_layTimes_L2 (p : Int) n g w3 μq) (p : Int) n (k : Int) v31 μ29) := by
      show ldA ν 85 (p : Int) _ = _
      unfold ldA
      rw [if_pos (by show (0 : Int) ≤ (p : Int) ∧ (p : Int) < 6; omega), Int.toNat_natCast, size hw]
      dsimp only
      rw [if_neg (by omega), iA_off (l := p) (k := k) (by omega) (by omega), if_pos (by show (0 : Int) ≤ ((8 * p + k : Nat) : Int) ∧ ((8 * p + k : Nat) : Int) < 48; omega), Int.toNat_natCast, n2]
      by_cases c : ν 70 32 = -1
      · rw [if_pos c, if_pos c]
      · rw [if_neg c, if_neg c]
        unfold stA
        rw [if_pos (by decide)]
        try dsimp only
        rw [if_pos (by decide)]
        try dsimp only
        rw [if_pos (by decide)]
        try dsimp only
        rw [if_pos (by show (0 : Int) ≤ ((8 * p + k : Nat) : Int) ∧ ((8 * p + k : Nat) : Int) < 48; omega)]
        try dsimp only
        rw [if_pos (by decide)]
        try dsimp only
        rw [if_pos (by show (0 : Int) ≤ (p : Int) ∧ (p : Int) < 6; omega)]
        try dsimp only
        rw [if_pos (by decide)]
        have a83 : ∀ (x : Mm), x 83 (8 * p + k) = x 83 (8 * p + k) := fun _ => rfl
        have z83 : sM (sM (sM ν 79 (0 : Int).toNat (L.getD k (0, 0)).2) 79 (1 : Int).toNat (k : Int)) 79 (2 : Int).toNat n 83 (8 * p + k) = (L.getD k (0, 0)).1 := by rw [sM_a (by decide), sM_a (by decide), sM_a (by decide)]; exact n1
        have z85 : sM (sM (sM (sM ν 79 (0 : Int).toNat (L.getD k (0, 0)).2) 79 (1 : Int).toNat (k : Int)) 79 (2 : Int).toNat n) 79 (3 : Int).toNat (L.getD k (0, 0)).1 85 p = (L.length : Int) := by rw [sM_a (by decide), sM_a (by decide), sM_a (by decide), sM_a (by decide)]; exact size hw
        rw [z83, z85]
        have z32 : sM (sM (sM (sM (sM ν 79 (0 : Int).toNat (L.getD k (0, 0)).2) 79 (1 : Int).toNat (k : Int)) 79 (2 : Int).toNat n) 79 (3 : Int).toNat (L.getD k (0, 0)).1) 79 (4 : Int).toNat (L.length : Int) 70 32 = ν 70 32 := by rw [sM_a (by decide), sM_a (by decide), sM_a (by decide), sM_a (by decide), sM_a (by decide)]
        rw [z32]
        rfl
    have go : ∀ (v : Int) (ν2 : Mm), v = vT H n L k → Bm ν2 → fw Wm μ ν2 → (∀ j, ν2 88 j = ν 88 j) → ∃ ν', X11_layTimes_J107 (fun w3 μq => X11_layTimes_L2 (p : Int) n g w3 μq) (p : Int) n (k : Int) v ν2 = some (0, ν') ∧ Bm ν' ∧ fw Wm μ ν' ∧ ∀ j, j < L.length → ν' 88 j = tmF H n L j := by
      intro v ν2 hv hB2 w2 g88
      have ep : (if k = 0 then 0 else ν2 88 (k - 1)) = pv H n L k := by
        by_cases c : k = 0
        · rw [if_pos c, c]; rfl
        · rw [if_neg c, g88, h88 (k - 1) (by omega)]
          have : k - 1 + 1 = k := by omega
          unfold tmF
          rw [this]
      have et : tmF H n L k = mX (pv H n L k) (vT H n L k) := rfl
      have hb3 := tm_b (H := H) (n := n) hL hkl
      rw [J107_eq hk8, ep, hv, ← et]
      refine ih (k + 1) g _ (by omega) (by omega) (Bm_sM hB2 (show (-2147483648 : Int) ≤ tmF H n L k ∧ tmF H n L k ≤ 2147483647 by omega)) (fw_sM w2 (Or.inr (Or.inr rfl))) (fun j hj => ?_)
      by_cases c : j = k
      · rw [c, sM_s]
      · rw [sM_j c, g88, h88 j (by omega)]
    rw [e1]
    rcases hH with ⟨h1, h2⟩ | ⟨q, m, LW, q1, q2, q3, q4, q5, q6, q7, q8⟩
    · rw [if_pos (by rw [hw 70 32 (by unfold Wm; omega)]; exact h1)]
      refine go _ ν ?_ hB hw (fun _ => rfl)
      unfold vT
      rw [h2]
      show _ = _ + (0 : Int)
      omega
    · have e32 : ν 70 32 = (q : Int) := by rw [hw 70 32 (by unfold Wm; omega)]; exact q2
      rw [if_neg (by omega), e32]
      obtain ⟨ν1, hν1⟩ : ∃ ν1, ν1 = sM (sM (sM (sM (sM ν 79 0 (L.getD k (0, 0)).2) 79 1 (k : Int)) 79 2 n) 79 3 (L.getD k (0, 0)).1) 79 4 (L.length : Int) := ⟨_, rfl⟩
      rw [← hν1]
      have hB1 : Bm ν1 := by
        rw [hν1]
        exact Bm_sM (Bm_sM (Bm_sM (Bm_sM (Bm_sM hB (show (-2147483648 : Int) ≤ (L.getD k (0, 0)).2 ∧ (L.getD k (0, 0)).2 ≤ 2147483647 by omega)) (show (-2147483648 : Int) ≤ (k : Int) ∧ (k : Int) ≤ 2147483647 by omega)) (show (-2147483648 : Int) ≤ n ∧ n ≤ 2147483647 by omega)) (show (-2147483648 : Int) ≤ (L.getD k (0, 0)).1 ∧ (L.getD k (0, 0)).1 ≤ 2147483647 by omega)) (show (-2147483648 : Int) ≤ (L.length : Int) ∧ (L.length : Int) ≤ 2147483647 by omega)
      have w1 : fw Wm μ ν1 := by
        rw [hν1]
        exact fw_sM (fw_sM (fw_sM (fw_sM (fw_sM hw (Or.inl rfl)) (Or.inl rfl)) (Or.inl rfl)) (Or.inl rfl)) (Or.inl rfl)
      have hR1 : rowsAt ν1 q 0 0 LW := rows_agr (agr_of _ (fun k j h1 h2 => w1 k j (by unfold Wm; omega))) _ _ _ q8
      obtain ⟨ν2, g1, g2, g3, g4⟩ := worthM (by omega) hB1 hR1
      have hB2 : Bm ν2 := fun k j hk => by
        by_cases c : k = 80
        · rw [c]; exact g3 j
        · rw [g2 k j c]; exact hB1 k j hk
      have w2 : fw Wm μ ν2 := fun k j hn2 => by rw [g2 k j (fun z => hn2 (Or.inr (Or.inl z))), w1 k j hn2]
      rw [g1, bd_some]
      unfold lt_
      refine go _ ν2 ?_ hB2 w2 (fun j => by rw [g2 88 j (by unfold f80; decide), hν1, sM_a (by decide), sM_a (by decide), sM_a (by decide), sM_a (by decide), sM_a (by decide)])
      have henv : ∀ i, i < 5 → ν1 79 i = en5 (L.getD k (0, 0)).2 (k : Int) n (L.getD k (0, 0)).1 (L.length : Int) i := by
        intro i hi
        rw [hν1]
        have hi' : i = 0 ∨ i = 1 ∨ i = 2 ∨ i = 3 ∨ i = 4 := by omega
        rcases hi' with rfl | rfl | rfl | rfl | rfl
        · rw [sM_j (by decide), sM_j (by decide), sM_j (by decide), sM_j (by decide), sM_s]; rfl
        · rw [sM_j (by decide), sM_j (by decide), sM_j (by decide), sM_s]; rfl
        · rw [sM_j (by decide), sM_j (by decide), sM_s]; rfl
        · rw [sM_j (by decide), sM_s]; rfl
        · rw [sM_s]; rfl
      have ev : lawV (ν1 79) LW = lawV (en5 (L.getD k (0, 0)).2 (k : Int) n (L.getD k (0, 0)).1 (L.length : Int)) LW := lawV_e henv LW (rows_gd LW _ _ q8)
      rw [ev]
      have hwb := wrt_b H (en5 (L.getD k (0, 0)).2 (k : Int) n (L.getD k (0, 0)).1 (L.length : Int))
      rw [q3] at hwb
      unfold vT
      rw [q3]
      have e9 : wrt (some LW) (en5 (L.getD k (0, 0)).2 (k : Int) n (L.getD k (0, 0)).1 (L.length : Int)) = mX (-99) (mN 99 (lawV (en5 (L.getD k (0, 0)).2 (k : Int) n (L.getD k (0, 0)).1 (L.length : Int)) LW)) := rfl
      rw [e9] at hwb ⊢
      exact iA_id (by omega) (by omega)
theorem layT {μ : Mm} (hB : Bm μ) {H : Option (List (Cd × Cd))} (hH : HL μ H) {p : Nat} (hp : p ≤ 4) {L : List (Int × Int)} (hM : hasM μ p 0 L) (hl8 : L.length ≤ 8) (hL : plOK L) {n : Int} (hn : 0 ≤ n ∧ n ≤ 99) : ∃ ν, X11_layTimes (p : Int) n μ = some (0, ν) ∧ Bm ν ∧ fw Wm μ ν ∧ ∀ j, j < L.length → ν 88 j = tmF H n L j :=
  layT_L hH hp hM hl8 hL hn L.length 0 FU μ (by omega) (by show L.length < 1000000; omega) hB fw_rf (fun j hj => absurd hj (by omega))
