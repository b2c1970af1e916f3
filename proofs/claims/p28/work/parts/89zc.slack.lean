/-! SLACK -/
section MO
variable {m : Nat} {B : Nat → Nat → Int} {T Wd Wd' : Nat → Int} {S : Int} {o : Nat → Nat}
theorem rt_mono (h : ∀ k, Wd k ≤ Wd' k) : ∀ k, rt m B T Wd S o k ≤ rt m B T Wd' S o k := by
  intro k
  induction k with
  | zero => exact Int.le_refl _
  | succ k ih =>
    have h1 := h (o k)
    show mX (rt m B T Wd S o k + B (frO m o k) (o k) * S + Wd (o k)) (T (o k)) ≤ mX (rt m B T Wd' S o k + B (frO m o k) (o k) * S + Wd' (o k)) (T (o k))
    rw [mX_eq, mX_eq]
    omega
end MO
theorem sK_le {f g : Nat → Int} : ∀ n, (∀ k, k < n → f k ≤ g k) → sK f n ≤ sK g n := by
  intro n
  induction n with
  | zero => intro _; exact Int.le_refl _
  | succ n ih =>
    intro h
    have h1 := ih (fun k hk => h k (by omega))
    have h2 := h n (by omega)
    show sK f n + f n ≤ sK g n + g n
    omega
def wi (Wd : Nat → Int) (q i : Nat) (k : Nat) : Int := if k = q then Wd q + (i : Int) else Wd k
theorem wi_0 {Wd : Nat → Int} {q : Nat} : wi Wd q 0 = Wd := by
  funext k
  unfold wi
  by_cases c : k = q
  · rw [if_pos c, c]; omega
  · rw [if_neg c]
theorem wi_s {Wd : Nat → Int} {q i : Nat} {v : Int} (h : v = Wd q + ((i + 1 : Nat) : Int)) : (fun k => if k = q then v else wi Wd q i k) = wi Wd q (i + 1) := by
  funext k
  unfold wi
  by_cases c : k = q
  · rw [if_pos c, if_pos c, h]
  · rw [if_neg c, if_neg c, if_neg c]
theorem wi_c {Wd : Nat → Int} {q i i' : Nat} {v : Int} (h : v = Wd q + ((i' : Nat) : Int)) : (fun k => if k = q then v else wi Wd q i k) = wi Wd q i' := by
  funext k
  unfold wi
  by_cases c : k = q
  · rw [if_pos c, if_pos c, h]
  · rw [if_neg c, if_neg c, if_neg c]
def sl (V : Nat → Int) : Nat → Nat
  | 0 => 0
  | i + 1 => if V (i + 1) ≤ V 0 then i + 1 else sl V i
theorem sl_all {V : Nat → Int} : ∀ i, (∀ j, j ≤ i → V j ≤ V 0) → sl V i = i := by
  intro i
  induction i with
  | zero => intro _; rfl
  | succ i ih => intro h; exact if_pos (h (i + 1) (Nat.le_refl _))
theorem sl_stop {V : Nat → Int} {i : Nat} (h : ∀ j, i < j → ¬ V j ≤ V 0) : ∀ d, sl V (i + d) = sl V i := by
  intro d
  induction d with
  | zero => rfl
  | succ d ih =>
    have : sl V (i + d + 1) = sl V (i + d) := if_neg (h (i + d + 1) (by omega))
    show sl V (i + d + 1) = sl V i
    rw [this, ih]
section SK
variable {m : Nat} {B : Nat → Nat → Int} {T Wd : Nat → Int} {cr : Nat → Nat} {S : Int} {V : Nat → Int} {q : Nat}
theorem JobC_w {ν : Mm} {W : Nat → Int} {v : Int} (hC : JobC 48 ν m B T W cr S) : JobC 48 (sM ν 51 q v) m B T (fun k => if k = q then v else W k) cr S := by
  refine ⟨by rw [sM_a (by decide)]; exact hC.1, by rw [sM_a (by decide)]; exact hC.2.1, fun k hk => ⟨by rw [sM_a (by decide)]; exact (hC.2.2.1 k hk).1, by rw [sM_a (by decide)]; exact (hC.2.2.1 k hk).2.1, ?_⟩, fun a b ha hb => by rw [sM_a (by decide)]; exact hC.2.2.2.1 a b ha hb, fun b hb => by rw [sM_a (by decide)]; exact hC.2.2.2.2 b hb⟩
  show sM ν 51 q v 51 k = if k = q then v else W k
  rw [sM_if]
  by_cases c : k = q
  · rw [if_pos c, if_pos c]
  · rw [if_neg c, if_neg c]; exact (hC.2.2.1 k hk).2.2
theorem JobM_w {ξ : Mm} {W : Nat → Int} {v : Int} (hM : JobM ξ m B T W S) : JobM (sM ξ 90 q v) m B T (fun k => if k = q then v else W k) S := by
  refine ⟨by rw [sM_a (by decide)]; exact hM.1, by rw [sM_a (by decide)]; exact hM.2.1, fun k hk => ⟨by rw [sM_a (by decide)]; exact (hM.2.2.1 k hk).1, ?_⟩, fun a b ha hb => by rw [sM_a (by decide)]; exact hM.2.2.2 a b ha hb⟩
  show sM ξ 90 q v 90 k = if k = q then v else W k
  rw [sM_if]
  by_cases c : k = q
  · rw [if_pos c, if_pos c]
  · rw [if_neg c, if_neg c]; exact (hM.2.2.1 k hk).2
theorem wi_b (hW : ∀ k, k < m → 1 ≤ Wd k ∧ Wd k ≤ 30) {i : Nat} (hi : i ≤ 30) (hq : q < m) : ∀ k, k < m → 1 ≤ wi Wd q i k ∧ wi Wd q i k ≤ 60 := by
  intro k hk
  unfold wi
  by_cases c : k = q
  · have := hW q hq
    rw [if_pos c]; omega
  · have := hW k hk
    rw [if_neg c]; omega
theorem slC_L (hJ : JOK m B T Wd S) (hW : ∀ k, k < m → 1 ≤ Wd k ∧ Wd k ≤ 30) (hq : q < m) (hF : feas m B idN m) (hV : ∀ i, V i = sK (laK m B T (wi Wd q i) S idN) m) (hVm : ∀ i j, i ≤ j → V i ≤ V j) {K : Int → Mm → Rs} (hK : ∀ v μ, K v μ = some (v, μ)) : ∀ (r i fuel : Nat) (ν : Mm), i + r = 30 → r < fuel → JobC 48 ν m B T (wi Wd q i) cr S → (∀ j, j ≤ i → V j ≤ V 0) → ∃ ν', X10_slack_L50 (q : Int) (V 0) K fuel (i : Int) ((i + 1 : Nat) : Int) ν = some (((sl V 30 : Nat) : Int), ν') := by
  have hm8 := hJ.2.1
  intro r
  induction r with
  | zero =>
    intro i fuel ν hr hf hCJ hv
    obtain ⟨g, rfl, _⟩ := lt_fuel hf
    have ei : i = 30 := by omega
    subst ei
    refine ⟨ν, ?_⟩
    rw [sl_all 30 hv]
    show (if (30 : Int) < ((30 + 1 : Nat) : Int) then _ else _) = _
    rw [if_pos (by decide)]
  | succ r ih =>
    intro i fuel ν hr hf hCJ hv
    obtain ⟨g, rfl, _⟩ := lt_fuel hf
    have hwq := hW q hq
    have e51 : ν 51 q = Wd q + (i : Int) := by
      have h := (hCJ.2.2.1 q hq).2.2
      have z : wi Wd q i q = Wd q + (i : Int) := if_pos rfl
      rw [z] at h
      exact h
    have hC1 : JobC 48 (sM ν 51 q (Wd q + ((i + 1 : Nat) : Int))) m B T (wi Wd q (i + 1)) cr S := by
      have h := JobC_w (q := q) (v := Wd q + ((i + 1 : Nat) : Int)) hCJ
      rw [wi_s rfl] at h
      exact h
    obtain ⟨ν2, w2, b1, b2, _⟩ := bookC (JOK_W hJ (wi_b hW (i := i + 1) (by omega) hq)) hC1
    have e0 : X10_slack_L50 (q : Int) (V 0) K (g + 1) (i : Int) ((i + 1 : Nat) : Int) ν = if V (i + 1) ≤ V 0 then X10_slack_L50 (q : Int) (V 0) K g ((i + 1 : Nat) : Int) ((i + 1 + 1 : Nat) : Int) ν2 else K (i : Int) ν2 := by
      show (if (30 : Int) < ((i + 1 : Nat) : Int) then _ else _) = _
      rw [if_neg (by omega)]
      unfold ldA stA
      rw [if_pos (by show (0 : Int) ≤ (q : Int) ∧ (q : Int) < 8; omega), Int.toNat_natCast, e51]
      try dsimp only
      have e1 : iA (Wd q + (i : Int)) 1 = Wd q + ((i + 1 : Nat) : Int) := by
        rw [iA_id (by omega) (by omega)]; omega
      rw [if_pos (by show (0 : Int) ≤ (q : Int) ∧ (q : Int) < 8; omega), e1]
      try dsimp only
      rw [b1, bd_some, b2 hF, bd_some, ← hV (i + 1)]
      by_cases c : V (i + 1) ≤ V 0
      · rw [if_pos c, if_pos c, iA_nat (by omega)]
      · rw [if_neg c, if_neg c]
    rw [e0]
    by_cases c : V (i + 1) ≤ V 0
    · rw [if_pos c]
      exact ih (i + 1) g ν2 (by omega) (by omega) (JobC_lb hC1 w2) (fun j hj => by
        by_cases z : j = i + 1
        · rw [z]; exact c
        · exact hv j (by omega))
    · rw [if_neg c, hK]
      refine ⟨ν2, ?_⟩
      have h1 := sl_stop (V := V) (i := i) (fun j hj z => c (Int.le_trans (hVm (i + 1) j (by omega)) z)) (30 - i)
      have e2 : i + (30 - i) = 30 := by omega
      rw [e2] at h1
      rw [h1, sl_all i hv]
theorem slM_L (hJ : JOK m B T Wd S) (hW : ∀ k, k < m → 1 ≤ Wd k ∧ Wd k ≤ 30) (hq : q < m) (hF : feas m B idN m) (hV : ∀ i, V i = sK (laK m B T (wi Wd q i) S idN) m) {ν : Mm} : ∀ (r i fuel : Nat) (ξ : Mm) (i0 : Nat), i + r = 30 → r < fuel → Sm ν ξ → JobM ξ m B T (wi Wd q i0) S → ∃ ξ', Sm ν ξ' ∧ X11_slack_L59 (q : Int) (V 0) (Wd q) fuel ((sl V i : Nat) : Int) ((i + 1 : Nat) : Int) ξ = some (((sl V 30 : Nat) : Int), ξ') := by
  have hm8 := hJ.2.1
  intro r
  induction r with
  | zero =>
    intro i fuel ξ i0 hr hf hS hM
    obtain ⟨g, rfl, _⟩ := lt_fuel hf
    have ei : i = 30 := by omega
    subst ei
    refine ⟨ξ, hS, ?_⟩
    show (if (30 : Int) < ((30 + 1 : Nat) : Int) then _ else _) = _
    rw [if_pos (by decide)]
  | succ r ih =>
    intro i fuel ξ i0 hr hf hS hM
    obtain ⟨g, rfl, _⟩ := lt_fuel hf
    have hwq := hW q hq
    have hM1 : JobM (sM ξ 90 q (Wd q + ((i + 1 : Nat) : Int))) m B T (wi Wd q (i + 1)) S := by
      have h := JobM_w (q := q) (v := Wd q + ((i + 1 : Nat) : Int)) hM
      rw [wi_c (i' := i + 1) rfl] at h
      exact h
    have hS1 : Sm ν (sM ξ 90 q (Wd q + ((i + 1 : Nat) : Int))) := Sm_sM hS (by unfold scrM; omega) (show (-2147483648 : Int) ≤ Wd q + ((i + 1 : Nat) : Int) ∧ Wd q + ((i + 1 : Nat) : Int) ≤ 2147483647 by omega)
    obtain ⟨b0, ξ2, g1, g2, g3, g4, _⟩ := bookM (JOK_W hJ (wi_b hW (i := i + 1) (by omega) hq)) hS1.1 hM1
    obtain ⟨g5, g6⟩ := g4 hF
    have e0 : X11_slack_L59 (q : Int) (V 0) (Wd q) (g + 1) ((sl V i : Nat) : Int) ((i + 1 : Nat) : Int) ξ = X11_slack_L59 (q : Int) (V 0) (Wd q) g ((sl V (i + 1) : Nat) : Int) ((i + 1 + 1 : Nat) : Int) ξ2 := by
      show (if (30 : Int) < ((i + 1 : Nat) : Int) then _ else _) = _
      rw [if_neg (by omega)]
      unfold stA
      have e1 : iA (Wd q) ((i + 1 : Nat) : Int) = Wd q + ((i + 1 : Nat) : Int) := iA_id (by omega) (by omega)
      rw [if_pos (by show (0 : Int) ≤ (q : Int) ∧ (q : Int) < 8; omega), Int.toNat_natCast, e1]
      try dsimp only
      rw [b0 _ hM1.1, bd_some, g5, bd_some, b0 _ g3.1, bd_some, g6, bd_some, ← hV (i + 1)]
      by_cases c : V (i + 1) ≤ V 0
      · have z : sl V (i + 1) = i + 1 := if_pos c
        rw [if_neg (by omega), iA_nat (by omega), z]
      · have z : sl V (i + 1) = sl V i := if_neg c
        rw [if_pos (by omega), iA_nat (by omega), z]
    rw [e0]
    exact ih (i + 1) g ξ2 (i + 1) (by omega) (by omega) (Sm_go hS1 g1 g2) g3
end SK
theorem m_slack : ∀ a0, rI a0 → ∀ a1, rI a1 → sI Inv Inv (X10_slack a0 a1) (X11_slack a0 a1) := by
  intro a ha b hb μ hI
  have t1 := t_X10_slack (W := scr) (μs := μ) (hW := fun _ _ h => h) (hp_l1 := ha) (hp_l2 := hb) (St_rf hI.1)
  by_cases cr0 : μ 70 23 = 0 ∨ ¬ (0 ≤ a ∧ a < μ 70 28)
  · refine ⟨-1, μ, μ, ?_, ?_, hI⟩
    · unfold X10_slack
      rw [lay_no hI cr0, bd_some, if_pos rfl]
    · unfold X11_slack
      rw [rdy_no hI.2.1.1 cr0, bd_some, if_pos rfl]
  · have h23 : μ 70 23 ≠ 0 := fun z => cr0 (Or.inl z)
    have hap : 0 ≤ a ∧ a < μ 70 28 := Classical.byContradiction (fun z => cr0 (Or.inr z))
    obtain ⟨p, rfl⟩ : ∃ p : Nat, a = (p : Int) := ⟨a.toNat, by omega⟩
    obtain ⟨L, B, T, Wd, S, ν, hJ, ⟨_, hW30⟩, _, g1, g2, g3, _, g5⟩ := ready hI h23 hap.2
    have hm8 := hJ.2.1
    have hW : ∀ k, k < L.length → 1 ≤ Wd k ∧ Wd k ≤ 30 := fun k hk => ⟨(hJ.2.2.2.2.2 k hk).1, (hW30 k hk).1⟩
    by_cases cb : 0 ≤ b ∧ b < (L.length : Int)
    · obtain ⟨q, rfl⟩ : ∃ q : Nat, b = (q : Int) := ⟨b.toNat, by omega⟩
      have hq : q < L.length := by omega
      obtain ⟨ν1, w1, b1, b2, b3⟩ := bookC hJ g3
      have R1 : X10_slack (p : Int) (q : Int) μ = bd (X10_latesByBook (iS (bL 1 (L.length : Int)) 1) ν) fun v10 μ11 => if v10 = (-1) then (some ((-1), μ11)) else (X10_slack_L50 (q : Int) v10 (fun v26 μ27 => some (v26, μ27)) FU 0 1 μ11) := by
        unfold X10_slack
        rw [g1, bd_some, if_neg (by decide), if_neg (by omega), g3.1, if_pos (by omega), b1, bd_some]
      by_cases hF : feas L.length B idN L.length
      · obtain ⟨V, hV⟩ : ∃ V : Nat → Int, ∀ i, V i = sK (laK L.length B T (wi Wd q i) S idN) L.length := ⟨fun i => sK (laK L.length B T (wi Wd q i) S idN) L.length, fun _ => rfl⟩
        have hVm : ∀ i j, i ≤ j → V i ≤ V j := fun i j hij => by
          rw [hV i, hV j]
          refine sK_le _ (fun k hk => ?_)
          have := rt_mono (m := L.length) (B := B) (T := T) (S := S) (o := idN) (Wd := wi Wd q i) (Wd' := wi Wd q j) (fun c => by
            unfold wi
            by_cases z : c = q
            · rw [if_pos z, if_pos z]; omega
            · rw [if_neg z, if_neg z]; exact Int.le_refl _) (k + 1)
          unfold laK
          omega
        have e0 : sK (laK L.length B T Wd S idN) L.length = V 0 := by rw [hV 0, wi_0]
        have hV0 : 0 ≤ V 0 := by
          rw [← e0]
          exact (sK_b (c := 6000) (by decide) _ (fun j hj => (laK_b hJ hm8 (fun x hx => hx) (k := j) hj (fun x hx => hF x (by omega))).1)).1
        obtain ⟨ν2, k1⟩ := slC_L (cr := lets L) (V := V) hJ hW hq hF hV hVm (K := fun v26 μ27 => some (v26, μ27)) (fun _ _ => rfl) 30 0 FU ν1 (by omega) (by decide) (by rw [wi_0]; exact JobC_lb g3 w1) (fun j hj => by
          have : j = 0 := by omega
          rw [this]; exact Int.le_refl _)
        have k1 : X10_slack_L50 (q : Int) (V 0) (fun v26 μ27 => some (v26, μ27)) FU 0 1 ν1 = some (((sl V 30 : Nat) : Int), ν2) := k1
        have R2 : X10_slack (p : Int) (q : Int) μ = some (((sl V 30 : Nat) : Int), ν2) := by
          rw [R1, b2 hF, bd_some, e0, if_neg (by omega), k1]
        rw [R2, wp_some] at t1
        have hI1 := Inv_St hI t1.1
        obtain ⟨ξ, y1, y2, y3⟩ := g5 ν2 hI1 t1.1.2
        obtain ⟨c0, ξ1, x1, x2, x3, x4, _⟩ := bookM hJ y2.1 y3
        obtain ⟨x5, x6⟩ := x4 hF
        obtain ⟨ξ', s1, s2⟩ := slM_L (V := V) hJ hW hq hF hV 30 0 FU ξ1 0 (by omega) (by decide) (Sm_go y2 x1 x2) (by rw [wi_0]; exact x3)
        have s2 : X11_slack_L59 (q : Int) (V 0) (Wd q) FU 0 1 ξ1 = some (((sl V 30 : Nat) : Int), ξ') := s2
        refine ⟨_, ν2, ξ', R2, ?_, Inv_Sm hI1 s1⟩
        unfold X11_slack
        rw [y1, bd_some, if_neg (by decide), y3.1, iS_id (by omega) (by omega), in_rg _ (by omega), bd_some, if_neg (by decide), c0 _ y3.1, bd_some, x5, bd_some, if_neg (by decide), c0 _ x3.1, bd_some, x6, bd_some, e0]
        unfold ldA
        rw [if_pos (by show (0 : Int) ≤ (q : Int) ∧ (q : Int) < 8; omega), Int.toNat_natCast, (x3.2.2.1 q hq).2]
        try dsimp only
        exact s2
      · have R2 : X10_slack (p : Int) (q : Int) μ = some (-1, ν1) := by
          rw [R1, b3 hF, bd_some, if_pos rfl]
        rw [R2, wp_some] at t1
        have hI1 := Inv_St hI t1.1
        obtain ⟨ξ, y1, y2, y3⟩ := g5 ν1 hI1 t1.1.2
        obtain ⟨c0, ξ1, x1, x2, x3, _, x4⟩ := bookM hJ y2.1 y3
        refine ⟨_, ν1, ξ1, R2, ?_, Inv_Sm hI1 (Sm_go y2 x1 x2)⟩
        unfold X11_slack
        rw [y1, bd_some, if_neg (by decide), y3.1, iS_id (by omega) (by omega), in_rg _ (by omega), bd_some, if_neg (by decide), c0 _ y3.1, bd_some, x4 hF, bd_some, if_pos rfl]
    · have R2 : X10_slack (p : Int) b μ = some (-1, ν) := by
        unfold X10_slack
        rw [g1, bd_some, if_neg (by decide)]
        by_cases c0 : b < 0
        · rw [if_pos c0]
        · rw [if_neg c0, g3.1, if_neg (by omega)]
      rw [R2, wp_some] at t1
      have hI1 := Inv_St hI t1.1
      obtain ⟨ξ, y1, y2, y3⟩ := g5 ν hI1 t1.1.2
      refine ⟨_, ν, ξ, R2, ?_, Inv_Sm hI1 y2⟩
      unfold X11_slack
      rw [y1, bd_some, if_neg (by decide), y3.1, iS_id (by omega) (by omega), in_no _ (by omega), bd_some, if_pos rfl]
