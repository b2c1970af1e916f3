/-! NIGHTS -/
theorem HL_g {μ ν : Mm} {H : Option (List (Cd × Cd))} (e32 : ν 70 32 = μ 70 32) (eb : ∀ k j, 37 ≤ k → k ≤ 44 → ν k j = μ k j) (ea : ∀ k j, 72 ≤ k → k ≤ 78 → ν k j = μ k j) (h : HL μ H) : HL ν H := by
  rcases h with ⟨h1, h2⟩ | ⟨q, n, LW, q1, q2, q3, q4, q5, q6, q7, q8⟩
  · exact Or.inl ⟨by rw [e32]; exact h1, h2⟩
  · have e2 : ∀ j, ν (38 + 2 * q) j = μ (38 + 2 * q) j := fun j => eb _ j (by omega) (by omega)
    exact Or.inr ⟨q, n, LW, q1, by rw [e32]; exact q2, q3, q4, by rw [eb _ _ (by omega) (by omega)]; exact q5, fun j hj => by rw [e2]; exact q6 j hj, by rw [lawS_congr e2]; exact q7, rows_agr (agr_of _ ea) _ _ _ q8⟩
theorem sameK_fw {W : Nat → Nat → Prop} {μ ν ν' : Mm} (hW : ∀ k j, W k j → scr k j) (h : sameK μ ν) (f : fw W ν ν') : sameK μ ν' := fun k j hn => by
  rw [f k j (fun z => hn (hW k j z)), h k j hn]
theorem Wlb_scr : ∀ k j, Wlb k j → scr k j := fun k j h => by unfold Wlb at h; unfold scr; omega
theorem a17_eq {p : Nat} (hp4 : p ≤ 4) (f : Nat → Rs) : aL 17 (p : Int) f = f (18 + 3 * p) := by
  unfold aL
  rw [if_pos (by show (0 : Int) ≤ (p : Int) ∧ (p : Int) < 5; omega), Int.toNat_natCast]
  try dsimp only
  rfl
theorem JobC_lb {m : Nat} {B : Nat → Nat → Int} {T Wd : Nat → Int} {cr : Nat → Nat} {S : Int} {ν ν' : Mm} (hC : JobC 48 ν m B T Wd cr S) (f : fw Wlb ν ν') : JobC 48 ν' m B T Wd cr S := JobC_c (by decide) hC (fun k j _ _ => f k j (by unfold Wlb; omega))
theorem relay {μ : Mm} (hI : Inv μ) {p : Nat} (hp4 : p ≤ 4) {L : List (Int × Int)} {H : Option (List (Cd × Cd))} (hH : HL μ H) (hL : plOK L) (hl8 : L.length ≤ 8) (hP : hasP μ (18 + 3 * p) 0 L) {B : Nat → Nat → Int} {T Wd : Nat → Int} {cr : Nat → Nat} {S : Int} {ν : Mm} (e : sameK μ ν) (hCJ : JobC 48 ν L.length B T Wd cr S) {n : Int} (hn : 0 ≤ n ∧ n ≤ 99) : ∃ ν', sameK μ ν' ∧ JobC 48 ν' L.length B (tmF H n L) Wd cr S ∧ X10_lawThatHolds ν = some (hC μ, ν) ∧ X2_fillTimes (18 + 3 * p) (hC μ) n 50 ν = some (0, ν') := by
  have n1 : ∀ k j, ¬ scr k j → ν k j = μ k j := e
  have hH1 : HL ν H := HL_g (n1 70 32 (by unfold scr; omega)) (fun k j h1 h2 => n1 k j (by unfold scr; omega)) (fun k j h1 h2 => n1 k j (by unfold scr; omega)) hH
  have hP1 : hasP ν (18 + 3 * p) 0 L := ⟨by rw [n1 _ _ (by unfold scr; omega)]; exact hP.1, fun i hi => by rw [n1 _ _ (by unfold scr; omega), n1 _ _ (by unfold scr; omega)]; exact hP.2 i hi⟩
  obtain ⟨ν2, f1, f2, f3⟩ := fillC hH1 (kD_pl p (by omega)) hP1 hl8 hL hn
  have hcc : hC ν = hC μ := by unfold hC; rw [n1 70 32 (by unfold scr; omega)]
  have hld : X10_lawThatHolds ν = some (hC μ, ν) := by
    rw [lth_c (n1 0 17 (by unfold scr; omega)) (n1 0 16 (by unfold scr; omega)), holds_eq hI]
    rfl
  rw [hcc] at f1
  have o2 : ∀ k j, ¬ Wt k j → ν2 k j = ν k j := f2
  refine ⟨ν2, sameK_fw Wt_scr e f2, ⟨by rw [o2 48 5 (by unfold Wt; omega)]; exact hCJ.1, by rw [o2 48 6 (by unfold Wt; omega)]; exact hCJ.2.1, fun k hk => ⟨by rw [o2 49 k (by unfold Wt; omega)]; exact (hCJ.2.2.1 k hk).1, f3 k hk, by rw [o2 51 k (by unfold Wt; omega)]; exact (hCJ.2.2.1 k hk).2.2⟩, fun a b ha hb => by rw [o2 52 _ (by unfold Wt; omega)]; exact hCJ.2.2.2.1 a b ha hb, fun b hb => by rw [o2 52 _ (by unfold Wt; omega)]; exact hCJ.2.2.2.2 b hb⟩, hld, f1⟩
def ngt (V : Nat → Int) : Nat → Int × Int
  | 0 => (-1, -1)
  | k + 1 => if V k ≤ (ngt V k).2 then ngt V k else ((k : Int), V k)
theorem ngt_no {V : Nat → Int} (h : ∀ k, V k = -1) : ∀ n, ngt V n = (-1, -1) := by
  intro n
  induction n with
  | zero => rfl
  | succ n ih =>
    show (if V n ≤ (ngt V n).2 then ngt V n else ((n : Int), V n)) = _
    rw [ih, h n]
    exact if_pos (Int.le_refl _)
theorem ngt_pos {V : Nat → Int} (h : ∀ k, 0 ≤ V k) : ∀ n, 1 ≤ n → 0 ≤ (ngt V n).1 := by
  intro n
  induction n with
  | zero => intro h; exact absurd h (by decide)
  | succ n ih =>
    intro _
    have e : ngt V (n + 1) = if V n ≤ (ngt V n).2 then ngt V n else ((n : Int), V n) := rfl
    by_cases c : V n ≤ (ngt V n).2
    · rw [e, if_pos c]
      by_cases z : n = 0
      · subst z
        have := h 0
        have c : V 0 ≤ -1 := c
        omega
      · exact ih (by omega)
    · rw [e, if_neg c]
      show (0 : Int) ≤ (n : Int)
      omega
section NG
variable {L : List (Int × Int)} {H : Option (List (Cd × Cd))} {B : Nat → Nat → Int} {T0 Wd : Nat → Int} {cr : Nat → Nat} {S : Int} {V : Nat → Int} {p n : Nat} {c : Int} {K : Int → Int → Mm → Rs}
theorem ngC_L {μ : Mm} (hI : Inv μ) (hp4 : p ≤ 4) (hH : HL μ H) (hL : plOK L) (hP : hasP μ (18 + 3 * p) 0 L) (hJ : JOK L.length B T0 Wd S) (hV1 : feas L.length B idN L.length → ∀ k : Nat, V k = sK (laK L.length B (tmF H (k : Int) L) Wd S idN) L.length) (hV2 : ¬ feas L.length B idN L.length → ∀ k, V k = -1) (hn : n ≤ 30) : ∀ (r k fuel : Nat) (ν : Mm) (T : Nat → Int), k + r = n → r < fuel → sameK μ ν → JobC 48 ν L.length B T Wd cr S → ∃ ν', X10_nights_L37 (p : Int) (n : Int) c K fuel (ngt V k).1 (ngt V k).2 (k : Int) ν = K (ngt V n).1 (ngt V n).2 ν' := by
  intro r
  induction r with
  | zero =>
    intro k fuel ν T hr hf e hCJ
    obtain ⟨g, rfl, _⟩ := lt_fuel hf
    have ek : k = n := by omega
    refine ⟨ν, ?_⟩
    show (if (n : Int) ≤ (k : Int) then _ else _) = _
    rw [if_pos (by omega), ek]
  | succ r ih =>
    intro k fuel ν T hr hf e hCJ
    obtain ⟨g, rfl, _⟩ := lt_fuel hf
    obtain ⟨ν1, e1, c1, hld, f1⟩ := relay hI hp4 hH hL hJ.2.1 hP e hCJ (n := (k : Int)) (by omega)
    obtain ⟨ν2, w2, b1, b2, b3⟩ := bookC (JOK_T hJ (fun j hj => tm_c (H := H) (n := (k : Int)) hL hj)) c1
    have hb : X10_latesByBook (iS (bL 1 (L.length : Int)) 1) ν1 = some (V k, ν2) := by
      by_cases hF : feas L.length B idN L.length
      · rw [b2 hF, hV1 hF k]
      · rw [b3 hF, hV2 hF k]
    have e0 : X10_nights_L37 (p : Int) (n : Int) c K (g + 1) (ngt V k).1 (ngt V k).2 (k : Int) ν = X10_nights_L37 (p : Int) (n : Int) c K g (ngt V (k + 1)).1 (ngt V (k + 1)).2 ((k + 1 : Nat) : Int) ν2 := by
      show (if (n : Int) ≤ (k : Int) then _ else _) = _
      rw [if_neg (by omega), a17_eq hp4, hld, bd_some, f1, bd_some, b1, bd_some, hb, bd_some]
      by_cases q : V k ≤ (ngt V k).2
      · have z : ngt V (k + 1) = ngt V k := if_pos q
        rw [if_pos q, iA_nat (by omega), z]
      · have z : ngt V (k + 1) = ((k : Int), V k) := if_neg q
        rw [if_neg q, iA_nat (by omega), z]
    rw [e0]
    exact ih (k + 1) g ν2 _ (by omega) (by omega) (sameK_fw Wlb_scr e1 w2) (JobC_lb c1 w2)
theorem ngM_L {ν : Mm} (hp4 : p ≤ 4) (hH : HL ν H) (hL : plOK L) (hM : hasM ν p 0 L) (hJ : JOK L.length B T0 Wd S) (hF : feas L.length B idN L.length) (hV1 : ∀ k : Nat, V k = sK (laK L.length B (tmF H (k : Int) L) Wd S idN) L.length) (hV0 : ∀ k, 0 ≤ V k) (hn : n ≤ 30) : ∀ (r k fuel : Nat) (ξ : Mm) (T : Nat → Int) (x y : Int), k + r = n → r < fuel → Sm ν ξ → JobM ξ L.length B T Wd S → 1 ≤ n → ((k = 0 ∧ x = -1) ∨ (1 ≤ k ∧ x = (ngt V k).1 ∧ y = (ngt V k).2)) → ∃ ξ', Sm ν ξ' ∧ X11_nights_L38 (p : Int) (n : Int) c K fuel x y (k : Int) ξ = K (ngt V n).1 (ngt V n).2 ξ' := by
  intro r
  induction r with
  | zero =>
    intro k fuel ξ T x y hr hf hS hMJ hn1 hx
    obtain ⟨g, rfl, _⟩ := lt_fuel hf
    have ek : k = n := by omega
    rcases hx with ⟨z, _⟩ | ⟨_, z1, z2⟩
    · omega
    · refine ⟨ξ, hS, ?_⟩
      show (if (n : Int) ≤ (k : Int) then _ else _) = _
      rw [if_pos (by omega), z1, z2, ek]
  | succ r ih =>
    intro k fuel ξ T x y hr hf hS hMJ hn1 hx
    obtain ⟨g, rfl, _⟩ := lt_fuel hf
    have n1 : ∀ k j, ¬ scrM k j → ξ k j = ν k j := hS.2
    have hH1 : HL ξ H := HL_g (n1 70 32 (by unfold scrM; omega)) (fun k j h1 h2 => n1 k j (by unfold scrM; omega)) (fun k j h1 h2 => n1 k j (by unfold scrM; omega)) hH
    have hM1 : hasM ξ p 0 L := ⟨by rw [n1 _ _ (by unfold scrM; omega)]; exact hM.1, fun i hi => by rw [n1 _ _ (by unfold scrM; omega), n1 _ _ (by unfold scrM; omega)]; exact hM.2 i hi⟩
    obtain ⟨ξ1, f1, f2, f3, f4⟩ := layT hS.1 hH1 hp4 hM1 hJ.2.1 hL (n := (k : Int)) (by omega)
    have o2 : ∀ k j, ¬ Wm k j → ξ1 k j = ξ k j := f3
    have hMJ1 : JobM ξ1 L.length B (tmF H (k : Int) L) Wd S := ⟨by rw [o2 70 37 (by unfold Wm; omega)]; exact hMJ.1, by rw [o2 70 38 (by unfold Wm; omega)]; exact hMJ.2.1, fun j hj => ⟨f4 j hj, by rw [o2 90 j (by unfold Wm; omega)]; exact (hMJ.2.2.1 j hj).2⟩, fun a b ha hb => by rw [o2 89 _ (by unfold Wm; omega)]; exact hMJ.2.2.2 a b ha hb⟩
    obtain ⟨b0, ξ2, g1, g2, g3, g4, _⟩ := bookM (JOK_T hJ (fun j hj => tm_c (H := H) (n := (k : Int)) hL hj)) f2 hMJ1
    obtain ⟨g5, g6⟩ := g4 hF
    have hS1 : Sm ν ξ1 := ⟨f2, fun k j hn => by rw [f3 k j (fun z => hn (Wm_scrM k j z)), hS.2 k j hn]⟩
    have hS2 : Sm ν ξ2 := Sm_go hS1 g1 g2
    have e0 : X11_nights_L38 (p : Int) (n : Int) c K (g + 1) x y (k : Int) ξ = X11_nights_L38 (p : Int) (n : Int) c K g (ngt V (k + 1)).1 (ngt V (k + 1)).2 ((k + 1 : Nat) : Int) ξ2 := by
      show (if (n : Int) ≤ (k : Int) then _ else _) = _
      rw [if_neg (by omega), f1, bd_some, b0 ξ1 hMJ1.1, bd_some, g5, bd_some, if_neg (by decide), b0 ξ2 g3.1, bd_some, g6, bd_some, ← hV1 k]
      rcases hx with ⟨z1, z2⟩ | ⟨z0, z1, z2⟩
      · have q : ¬ V k ≤ (ngt V k).2 := by
          rw [z1]
          have := hV0 0
          show ¬ V 0 ≤ -1
          omega
        have z : ngt V (k + 1) = ((k : Int), V k) := if_neg q
        rw [if_pos z2, iA_nat (by omega), z]
      · have hp := ngt_pos hV0 k z0
        rw [z1, z2, if_neg (by omega)]
        by_cases q : V k ≤ (ngt V k).2
        · have z : ngt V (k + 1) = ngt V k := if_pos q
          rw [if_pos q, iA_nat (by omega), z]
        · have z : ngt V (k + 1) = ((k : Int), V k) := if_neg q
          rw [if_neg q, iA_nat (by omega), z]
    rw [e0]
    exact ih (k + 1) g ξ2 _ _ _ (by omega) (by omega) hS2 g3 hn1 (Or.inr ⟨by omega, rfl, rfl⟩)
end NG
theorem rdyAny {ν : Mm} (hI : Inv ν) (a : Int) : X11_isReady a ν = some (0, ν) ∨ ∃ (ξ : Mm) (m : Nat), X11_isReady a ν = some (1, ξ) ∧ Sm ν ξ ∧ ξ 70 37 = (m : Int) ∧ 1 ≤ m ∧ m ≤ 8 := by
  by_cases cr0 : ν 70 23 = 0 ∨ ¬ (0 ≤ a ∧ a < ν 70 28)
  · exact Or.inl (rdy_no hI.2.1.1 cr0)
  · have h23 : ν 70 23 ≠ 0 := fun z => cr0 (Or.inl z)
    have hap : 0 ≤ a ∧ a < ν 70 28 := Classical.byContradiction (fun z => cr0 (Or.inr z))
    obtain ⟨p, rfl⟩ : ∃ p : Nat, a = (p : Int) := ⟨a.toNat, by omega⟩
    obtain ⟨L, B, T, Wd, S, ν1, hJ, _, _, _, _, _, _, g5⟩ := ready hI h23 hap.2
    obtain ⟨ξ, y1, y2, y3⟩ := g5 ν hI (fun _ _ _ => rfl)
    exact Or.inr ⟨ξ, L.length, y1, y2, y3.1, hJ.1, hJ.2.1⟩
theorem half_y {c : Int} {μ : Mm} (h : 0 ≤ c ∧ c ≤ 1) : X10_isHalf c μ = some (1, μ) := by
  unfold X10_isHalf
  by_cases c0 : c = 0
  · rw [if_pos c0]
  · rw [if_neg c0, if_pos (by omega)]
theorem half_n {c : Int} {μ : Mm} (h : ¬ (0 ≤ c ∧ c ≤ 1)) : X10_isHalf c μ = some (0, μ) := by
  unfold X10_isHalf
  rw [if_neg (by omega), if_neg (by omega)]
theorem m_nights : ∀ a0, rI a0 → ∀ a1, rI a1 → ∀ a2, rI a2 → sI Inv Inv (X10_nights a0 a1 a2) (X11_nights a0 a1 a2) := by
  intro a ha b hb c hc μ hI
  have no : ∀ ν, Inv ν → (X11_isReady a ν = some (0, ν) ∨ ¬ (1 ≤ b ∧ b ≤ 30) ∨ ¬ (0 ≤ c ∧ c ≤ 1)) → ∃ μ2, X11_nights a b c ν = some (-1, μ2) ∧ Inv μ2 := by
    intro ν hν h
    rcases rdyAny hν a with z | ⟨ξ, m, h1, h2, h3, h4⟩
    · exact ⟨ν, by unfold X11_nights; rw [z, bd_some, if_pos rfl], hν⟩
    · by_cases cb : 1 ≤ b ∧ b ≤ 30
      · by_cases cc : 0 ≤ c ∧ c ≤ 1
        · rcases h with h | h | h
          · rw [h1] at h
            have := congrArg (fun o : Rs => o.map (fun q => q.1)) h
            simp at this
          · exact absurd cb h
          · exact absurd cc h
        · exact ⟨ξ, by unfold X11_nights; rw [h1, bd_some, if_neg (by decide), in_rg _ cb, bd_some, if_neg (by decide), in_no _ cc, bd_some, if_pos rfl], Inv_Sm hν h2⟩
      · exact ⟨ξ, by unfold X11_nights; rw [h1, bd_some, if_neg (by decide), in_no _ cb, bd_some, if_pos rfl], Inv_Sm hν h2⟩
  have t1 := t_X10_nights (W := scr) (μs := μ) (hW := fun _ _ h => h) (hp_l1 := ha) (hp_l2 := hb) (hp_l3 := hc) (St_rf hI.1)
  by_cases cc : 0 ≤ c ∧ c ≤ 1
  · by_cases cb : 1 ≤ b ∧ b ≤ 30
    · have R1 : X10_nights a b c μ = bd (X10_lay a μ) fun v7 μ8 => if v7 = 0 then (some ((-1), μ8)) else (X10_nights_L37 a b c (fun v27 v28 μ29 => if c = 0 then (some (v27, μ29)) else (some (v28, μ29))) FU (-1) (-1) 0 μ8) := by
        unfold X10_nights
        rw [half_y cc, bd_some, if_neg (by decide), if_neg (by omega), if_neg (by omega)]
      by_cases cr0 : μ 70 23 = 0 ∨ ¬ (0 ≤ a ∧ a < μ 70 28)
      · obtain ⟨μ2, e2, h2⟩ := no μ hI (Or.inl (rdy_no hI.2.1.1 cr0))
        refine ⟨-1, μ, μ2, ?_, e2, h2⟩
        rw [R1, lay_no hI cr0, bd_some, if_pos rfl]
      · have h23 : μ 70 23 ≠ 0 := fun z => cr0 (Or.inl z)
        have hap : 0 ≤ a ∧ a < μ 70 28 := Classical.byContradiction (fun z => cr0 (Or.inr z))
        obtain ⟨p, rfl⟩ : ∃ p : Nat, a = (p : Int) := ⟨a.toNat, by omega⟩
        obtain ⟨n, rfl⟩ : ∃ n : Nat, b = (n : Int) := ⟨b.toNat, by omega⟩
        have hb28 : 0 ≤ μ 70 28 ∧ μ 70 28 ≤ 5 := hI.2.1.1 70 28 (by decide)
        have hp4 : p ≤ 4 := by omega
        obtain ⟨L, B, T, Wd, S, ν, hJ, _, ⟨H, hH, hL, hP, hM⟩, g1, g2, g3, g4, g5⟩ := ready hI h23 hap.2
        obtain ⟨V, hV⟩ : ∃ V : Nat → Int, (feas L.length B idN L.length → ∀ k : Nat, V k = sK (laK L.length B (tmF H (k : Int) L) Wd S idN) L.length) ∧ (¬ feas L.length B idN L.length → ∀ k, V k = -1) := by
          by_cases hF : feas L.length B idN L.length
          · exact ⟨fun k => sK (laK L.length B (tmF H (k : Int) L) Wd S idN) L.length, fun _ _ => rfl, fun z => absurd hF z⟩
          · exact ⟨fun _ => -1, fun z => absurd z hF, fun _ _ => rfl⟩
        obtain ⟨ν1, k1⟩ := ngC_L (cr := lets L) (c := c) (K := fun v27 v28 μ29 => if c = 0 then (some (v27, μ29)) else (some (v28, μ29))) hI hp4 hH hL hP hJ hV.1 hV.2 (n := n) (by omega) n 0 FU ν T (by omega) (by show n < 1000000; omega) g2.2 g3
        have k1 : X10_nights_L37 (p : Int) (n : Int) c (fun v27 v28 μ29 => if c = 0 then (some (v27, μ29)) else (some (v28, μ29))) FU (-1) (-1) 0 ν = if c = 0 then (some ((ngt V n).1, ν1)) else (some ((ngt V n).2, ν1)) := k1
        have R2 : X10_nights (p : Int) (n : Int) c μ = some (if c = 0 then (ngt V n).1 else (ngt V n).2, ν1) := by
          rw [R1, g1, bd_some, if_neg (by decide), k1]
          by_cases c0 : c = 0
          · rw [if_pos c0, if_pos c0]
          · rw [if_neg c0, if_neg c0]
        rw [R2, wp_some] at t1
        have hI1 := Inv_St hI t1.1
        obtain ⟨ξ, y1, y2, y3⟩ := g5 ν1 hI1 t1.1.2
        have q1 : ∀ k j, ¬ scr k j → ν1 k j = μ k j := t1.1.2
        have hH1 : HL ν1 H := HL_g (q1 70 32 (by unfold scr; omega)) (fun k j h1 h2 => q1 k j (by unfold scr; omega)) (fun k j h1 h2 => q1 k j (by unfold scr; omega)) hH
        have hM1 : hasM ν1 p 0 L := ⟨by rw [q1 _ _ (by unfold scr; omega)]; exact hM.1, fun i hi => by rw [q1 _ _ (by unfold scr; omega), q1 _ _ (by unfold scr; omega)]; exact hM.2 i hi⟩
        have R3 : X11_nights (p : Int) (n : Int) c ν1 = X11_nights_L38 (p : Int) (n : Int) c (fun v32 v33 μ34 => if c = 0 then (some (v32, μ34)) else (some (v33, μ34))) FU (-1) 0 0 ξ := by
          unfold X11_nights
          rw [y1, bd_some, if_neg (by decide), in_rg _ cb, bd_some, if_neg (by decide), in_rg _ cc, bd_some, if_neg (by decide)]
        by_cases hF : feas L.length B idN L.length
        · have hV1 := hV.1 hF
          have hV0 : ∀ k, 0 ≤ V k := fun k => by
            rw [hV1 k]
            have hJk := JOK_T hJ (fun j hj => tm_c (H := H) (n := (k : Int)) hL hj)
            exact (sK_b (c := 6000) (by decide) _ (fun j hj => (laK_b hJk hJ.2.1 (fun x hx => hx) (k := j) hj (fun x hx => hF x (by omega))).1)).1
          obtain ⟨ξ', s1, s2⟩ := ngM_L (c := c) (K := fun v32 v33 μ34 => if c = 0 then (some (v32, μ34)) else (some (v33, μ34))) hp4 hH1 hL hM1 hJ hF hV1 hV0 (n := n) (by omega) n 0 FU ξ T (-1) 0 (by omega) (by show n < 1000000; omega) y2 y3 (by omega) (Or.inl ⟨rfl, rfl⟩)
          have s2 : X11_nights_L38 (p : Int) (n : Int) c (fun v32 v33 μ34 => if c = 0 then (some (v32, μ34)) else (some (v33, μ34))) FU (-1) 0 0 ξ = if c = 0 then (some ((ngt V n).1, ξ')) else (some ((ngt V n).2, ξ')) := s2
          refine ⟨_, ν1, ξ', R2, ?_, Inv_Sm hI1 s1⟩
          rw [R3, s2]
          by_cases c0 : c = 0
          · rw [if_pos c0, if_pos c0]
          · rw [if_neg c0, if_neg c0]
        · -- it can't be: the reference ends in its first night
          have hv := ngt_no (hV.2 hF) n
          have hB1 := y2.1
          have q2 : ∀ k j, ¬ scrM k j → ξ k j = ν1 k j := y2.2
          have hH2 : HL ξ H := HL_g (q2 70 32 (by unfold scrM; omega)) (fun k j h1 h2 => q2 k j (by unfold scrM; omega)) (fun k j h1 h2 => q2 k j (by unfold scrM; omega)) hH1
          have hM2 : hasM ξ p 0 L := ⟨by rw [q2 _ _ (by unfold scrM; omega)]; exact hM1.1, fun i hi => by rw [q2 _ _ (by unfold scrM; omega), q2 _ _ (by unfold scrM; omega)]; exact hM1.2 i hi⟩
          obtain ⟨ξ1, f1, f2, f3, f4⟩ := layT y2.1 hH2 hp4 hM2 hJ.2.1 hL (n := 0) (by decide)
          have o2 : ∀ k j, ¬ Wm k j → ξ1 k j = ξ k j := f3
          have hMJ1 : JobM ξ1 L.length B (tmF H 0 L) Wd S := ⟨by rw [o2 70 37 (by unfold Wm; omega)]; exact y3.1, by rw [o2 70 38 (by unfold Wm; omega)]; exact y3.2.1, fun j hj => ⟨f4 j hj, by rw [o2 90 j (by unfold Wm; omega)]; exact (y3.2.2.1 j hj).2⟩, fun a b ha hb => by rw [o2 89 _ (by unfold Wm; omega)]; exact y3.2.2.2 a b ha hb⟩
          obtain ⟨b0, ξ2, x1, x2, x3, _, x4⟩ := bookM (JOK_T hJ (fun j hj => tm_c (H := H) (n := 0) hL hj)) f2 hMJ1
          have hS1 : Sm ν1 ξ1 := ⟨f2, fun k j hn => by rw [f3 k j (fun z => hn (Wm_scrM k j z)), y2.2 k j hn]⟩
          have hS2 : Sm ν1 ξ2 := Sm_go hS1 x1 x2
          refine ⟨-1, ν1, ξ2, ?_, ?_, Inv_Sm hI1 hS2⟩
          · rw [R2, hv]
            by_cases c0 : c = 0
            · rw [if_pos c0]
            · rw [if_neg c0]
          · obtain ⟨g, hg⟩ : ∃ g, FU = g + 1 := ⟨999999, rfl⟩
            rw [R3, hg]
            show (if (n : Int) ≤ 0 then _ else _) = _
            rw [if_neg (by omega), f1, bd_some, b0 ξ1 hMJ1.1, bd_some, x4 hF, bd_some, if_pos rfl]
    · obtain ⟨μ2, e2, h2⟩ := no μ hI (Or.inr (Or.inl cb))
      refine ⟨-1, μ, μ2, ?_, e2, h2⟩
      unfold X10_nights
      rw [half_y cc, bd_some, if_neg (by decide)]
      by_cases c1 : b < 1
      · rw [if_pos c1]
      · rw [if_neg c1, if_pos (by omega)]
  · obtain ⟨μ2, e2, h2⟩ := no μ hI (Or.inr (Or.inr cc))
    refine ⟨-1, μ, μ2, ?_, e2, h2⟩
    unfold X10_nights
    rw [half_n cc, bd_some, if_pos rfl]
