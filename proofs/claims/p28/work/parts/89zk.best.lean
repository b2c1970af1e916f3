/-! BEST, MEND, URGENT -/
theorem half_y2 {c : Int} {μ : Mm} (h : 0 ≤ c ∧ c ≤ 1) : X10_isHalf c μ = some (1, μ) := half_y h
theorem some_ne {ξ ν : Mm} {x : Rs} (h1 : x = some (1, ξ)) (h2 : x = some (0, ν)) : False := by
  have h := congrArg Prod.fst (Option.some.inj (h1.symm.trans h2))
  have h : (1 : Int) = 0 := h
  exact absurd h (by decide)
section BM
variable {m : Nat} {B : Nat → Nat → Int} {T Wd : Nat → Int} {cr : Nat → Nat} {S w : Int}
theorem bs0 : bsF m B T Wd S w 0 = bst m B T Wd S w (fun _ => true) := by
  unfold bsF bst
  rw [cN_all]
  exact fulO_al _ _ _ _ _ _ _ (fun k i _ => decide_eq_true (fun z => absurd z (Nat.not_lt_zero _)))
theorem msk_all (hm : m ≤ 8) : msk (iS (bL 1 (m : Int)) 1) m (fun _ => true) :=
  ⟨all_rI m (by omega), fun d hd => by
    rw [gb_all m (by omega) d hd, decide_eq_true_iff]
    exact ⟨fun z => ⟨z, rfl⟩, fun z => z.1⟩⟩
theorem bestM (hJ : JOK m B T Wd S) {ξ : Mm} (hM : JobM ξ m B T Wd S) : ∃ ξ', X11_all ξ = some (iS (bL 1 (m : Int)) 1, ξ) ∧ X11_leastOf w (iS (bL 1 (m : Int)) 1) ξ = some ((bsF m B T Wd S w 0).2, ξ') ∧ fw Wse ξ ξ' ∧ JobM ξ' m B T Wd S ∧ st2 ξ' = bsF m B T Wd S w 0 := by
  obtain ⟨ξ', g1, g2, g3⟩ := leastM (w := w) hJ (msk_all hJ.2.1) hM
  refine ⟨ξ', ?_, ?_, g2, JobM_se hM g2, ?_⟩
  · unfold X11_all
    rw [hM.1]
  · rw [bs0]; exact g1
  · rw [bs0]; exact g3
theorem leastC (hJ : JOK m B T Wd S) (hTR : TRB m B) {ν : Mm} (hC : JobC 48 ν m B T Wd cr S) : ∃ ν', fw Wsk ν ν' ∧ X10_leastLates ν = some ((bsF m B T Wd S 0 0).2, ν') ∧ JobC 48 ν' m B T Wd cr S := by
  obtain ⟨ν', f, h⟩ := toldC (w := 0) (F := 0) hJ hTR (Nat.zero_le _) hC 1
  refine ⟨ν', f, ?_, JobC_c (by decide) hC (fun k j k1 k2 => f k j (by unfold Wsk; omega))⟩
  have h : X10_told 0 0 1 ν = some ((bsF m B T Wd S 0 0).2, ν') := h
  unfold X10_leastLates
  rw [h, bd_some]
end BM
theorem m_best : ∀ a0, rI a0 → ∀ a1, rI a1 → ∀ a2, rI a2 → sI Inv Inv (X10_best a0 a1 a2) (X11_best a0 a1 a2) := by
  intro a ha b hb c hc μ hI
  have no : ∀ ν, Inv ν → (X11_isReady a ν = some (0, ν) ∨ ¬ (0 ≤ b ∧ b ≤ 2) ∨ ¬ (0 ≤ c ∧ c ≤ 1)) → ∃ μ2, X11_best a b c ν = some (-1, μ2) ∧ Inv μ2 := by
    intro ν hν h
    rcases rdyAny hν a with z | ⟨ξ, m, h1, h2, h3, h4⟩
    · exact ⟨ν, by unfold X11_best; rw [z, bd_some, if_pos rfl], hν⟩
    · by_cases cb : 0 ≤ b ∧ b ≤ 2
      · by_cases cc : 0 ≤ c ∧ c ≤ 1
        · rcases h with h | h | h
          · exact (some_ne h1 h).elim
          · exact absurd cb h
          · exact absurd cc h
        · exact ⟨ξ, by unfold X11_best; rw [h1, bd_some, if_neg (by decide), in_rg _ cb, bd_some, if_neg (by decide), in_no _ cc, bd_some, if_pos rfl], Inv_Sm hν h2⟩
      · exact ⟨ξ, by unfold X11_best; rw [h1, bd_some, if_neg (by decide), in_no _ cb, bd_some, if_pos rfl], Inv_Sm hν h2⟩
  have t1 := t_X10_best (W := scr) (μs := μ) (hW := fun _ _ h => h) (hp_l1 := ha) (hp_l2 := hb) (hp_l3 := hc) (St_rf hI.1)
  by_cases cb : 0 ≤ b ∧ b ≤ 2
  · by_cases cc : 0 ≤ c ∧ c ≤ 1
    · have R1 : X10_best a b c μ = bd (X10_lay a μ) fun v7 μ8 => if v7 = 0 then (some ((-1), μ8)) else (bd (X10_told b 0 c μ8) fun v11 μ12 => some (v11, μ12)) := by
        unfold X10_best
        rw [if_neg (by omega), if_neg (by omega), half_y cc, bd_some, if_neg (by decide)]
      by_cases cr0 : μ 70 23 = 0 ∨ ¬ (0 ≤ a ∧ a < μ 70 28)
      · obtain ⟨μ2, e2, h2⟩ := no μ hI (Or.inl (rdy_no hI.2.1.1 cr0))
        refine ⟨-1, μ, μ2, ?_, e2, h2⟩
        rw [R1, lay_no hI cr0, bd_some, if_pos rfl]
      · have h23 : μ 70 23 ≠ 0 := fun z => cr0 (Or.inl z)
        have hap : 0 ≤ a ∧ a < μ 70 28 := Classical.byContradiction (fun z => cr0 (Or.inr z))
        obtain ⟨p, rfl⟩ : ∃ p : Nat, a = (p : Int) := ⟨a.toNat, by omega⟩
        obtain ⟨L, B, T, Wd, S, ν, hJ, ⟨⟨_, hTR, _⟩, _⟩, _, g1, g2, g3, _, g5⟩ := ready hI h23 hap.2
        obtain ⟨ν1, f1, k1⟩ := toldC (w := b) (F := 0) hJ hTR (Nat.zero_le _) g3 c
        have k1 : X10_told b 0 c ν = some (if c = 0 then (bsF L.length B T Wd S b 0).1 else (bsF L.length B T Wd S b 0).2, ν1) := k1
        rw [g1, bd_some, if_neg (by decide), k1, bd_some] at R1
        rw [R1, wp_some] at t1
        have hI1 := Inv_St hI t1.1
        obtain ⟨ξ, y1, y2, y3⟩ := g5 ν1 hI1 t1.1.2
        obtain ⟨ξ', x1, x2, x3, x4, x5⟩ := bestM (w := b) hJ y3
        have R2 : X11_best (p : Int) b c ν1 = some (if c = 0 then (bsF L.length B T Wd S b 0).1 else (bsF L.length B T Wd S b 0).2, ξ') := by
          unfold X11_best
          rw [y1, bd_some, if_neg (by decide), in_rg _ cb, bd_some, if_neg (by decide), in_rg _ cc, bd_some, if_neg (by decide), x1, bd_some, x2, bd_some]
          have z1 : ξ' 70 41 = (bsF L.length B T Wd S b 0).1 := congrArg Prod.fst x5
          have z2 : ξ' 70 42 = (bsF L.length B T Wd S b 0).2 := congrArg Prod.snd x5
          by_cases c0 : c = 0
          · rw [if_pos c0, if_pos c0, z1]
          · rw [if_neg c0, if_neg c0, z2]
        have t2 := t_X11_best (μs := ν1) hI1.2.1 ha hb hc (Sm_rf hI1.2.1.1)
        rw [R2, wp_some] at t2
        exact ⟨_, ν1, ξ', R1, R2, Inv_Sm hI1 t2.1⟩
    · obtain ⟨μ2, e2, h2⟩ := no μ hI (Or.inr (Or.inr cc))
      refine ⟨-1, μ, μ2, ?_, e2, h2⟩
      unfold X10_best
      rw [if_neg (by omega), if_neg (by omega), half_n cc, bd_some, if_pos rfl]
  · obtain ⟨μ2, e2, h2⟩ := no μ hI (Or.inr (Or.inl cb))
    refine ⟨-1, μ, μ2, ?_, e2, h2⟩
    unfold X10_best
    by_cases c1 : b < 0
    · rw [if_pos c1]
    · rw [if_neg c1, if_pos (by omega)]
/-! URGENT -/
theorem bO_z {x : Int} (h : rI x) : bO x 0 = x := gb_ext (bO_r _ _) h (fun d hd => by rw [gb_or, gb_zero d hd, Bool.or_false])
def ur (V : Nat → Int) (V0 : Int) : Nat → Int
  | 0 => 0
  | k + 1 => if V0 ≤ V k then ur V V0 k else bO (ur V V0 k) (bL 1 (k : Int))
theorem ur_rI {V : Nat → Int} {V0 : Int} : ∀ k, rI (ur V V0 k) := by
  intro k
  induction k with
  | zero => exact (show (-2147483648 : Int) ≤ 0 ∧ (0 : Int) ≤ 2147483647 by decide)
  | succ k ih =>
    by_cases c : V0 ≤ V k
    · have e : ur V V0 (k + 1) = ur V V0 k := if_pos c
      rw [e]; exact ih
    · have e : ur V V0 (k + 1) = bO (ur V V0 k) (bL 1 (k : Int)) := if_neg c
      rw [e]; exact bO_r _ _
def tq (T : Nat → Int) (q : Nat) (v : Int) (k : Nat) : Int := if k = q then v else T k
theorem tq_back {T : Nat → Int} {q : Nat} {u v : Int} (h : v = T q) : tq (tq T q u) q v = T := by
  funext k
  unfold tq
  by_cases c : k = q
  · rw [if_pos c, h, c]
  · rw [if_neg c, if_neg c]
section UR
variable {m : Nat} {B : Nat → Nat → Int} {T Wd : Nat → Int} {cr : Nat → Nat} {S V0 : Int} {V : Nat → Int}
theorem JobC_tq {ν : Mm} {q : Nat} {v : Int} (hC : JobC 48 ν m B T Wd cr S) : JobC 48 (sM ν 50 q v) m B (tq T q v) Wd cr S := by
  refine ⟨by rw [sM_a (by decide)]; exact hC.1, by rw [sM_a (by decide)]; exact hC.2.1, fun k hk => ⟨by rw [sM_a (by decide)]; exact (hC.2.2.1 k hk).1, ?_, by rw [sM_a (by decide)]; exact (hC.2.2.1 k hk).2.2⟩, fun a b ha hb => by rw [sM_a (by decide)]; exact hC.2.2.2.1 a b ha hb, fun b hb => by rw [sM_a (by decide)]; exact hC.2.2.2.2 b hb⟩
  show sM ν 50 q v 50 k = tq T q v k
  unfold tq
  rw [sM_if]
  by_cases c : k = q
  · rw [if_pos c, if_pos c]
  · rw [if_neg c, if_neg c]; exact (hC.2.2.1 k hk).2.1
theorem JobM_tq {ξ : Mm} {q : Nat} {v : Int} (hM : JobM ξ m B T Wd S) : JobM (sM ξ 88 q v) m B (tq T q v) Wd S := by
  refine ⟨by rw [sM_a (by decide)]; exact hM.1, by rw [sM_a (by decide)]; exact hM.2.1, fun k hk => ⟨?_, by rw [sM_a (by decide)]; exact (hM.2.2.1 k hk).2⟩, fun a b ha hb => by rw [sM_a (by decide)]; exact hM.2.2.2 a b ha hb⟩
  show sM ξ 88 q v 88 k = tq T q v k
  unfold tq
  rw [sM_if]
  by_cases c : k = q
  · rw [if_pos c, if_pos c]
  · rw [if_neg c, if_neg c]; exact (hM.2.2.1 k hk).1
theorem tq_J (hJ : JOK m B T Wd S) (hT : ∀ k, k < m → T k ≤ 1098) {q : Nat} : JOK m B (tq T q (T q + 1)) Wd S := JOK_T hJ (fun k hk => by
  have h1 := hJ.2.2.2.2.1 k hk
  have h2 := hT k hk
  unfold tq
  by_cases c : k = q
  · rw [if_pos c, ← c]; omega
  · rw [if_neg c]; omega)
theorem urC_L (hJ : JOK m B T Wd S) (hTR : TRB m B) (hT : ∀ k, k < m → T k ≤ 1098) (hV : ∀ q, V q = (bsF m B (tq T q (T q + 1)) Wd S 0 0).2) : ∀ (r q fuel : Nat) (ν : Mm), q + r = m → r < fuel → JobC 48 ν m B T Wd cr S → ∃ ν', X10_urgent_L27 V0 fuel (ur V V0 q) (q : Int) ν = some (ur V V0 m, ν') := by
  have hm8 := hJ.2.1
  intro r
  induction r with
  | zero =>
    intro q fuel ν hr hf hC
    obtain ⟨g, rfl, _⟩ := lt_fuel hf
    have e : q = m := by omega
    refine ⟨ν, ?_⟩
    show (if (ν 48 5) ≤ (q : Int) then _ else _) = _
    rw [hC.1, if_pos (by omega), e]
  | succ r ih =>
    intro q fuel ν hr hf hC
    obtain ⟨g, rfl, _⟩ := lt_fuel hf
    have hqm : q < m := by omega
    have i8 : (0 : Int) ≤ (q : Int) ∧ (q : Int) < 8 := by omega
    have e50 : ν 50 q = T q := (hC.2.2.1 q hqm).2.1
    have h1 := hJ.2.2.2.2.1 q hqm
    have h2 := hT q hqm
    have ea : iA (T q) 1 = T q + 1 := iA_id (by omega) (by omega)
    have es : iS (T q + 1) 1 = T q := by rw [iS_id (by omega) (by omega)]; omega
    obtain ⟨ν2, f2, k2, c2⟩ := leastC (tq_J hJ hT (q := q)) hTR (JobC_tq (q := q) (v := T q + 1) hC)
    rw [← hV q] at k2
    have e502 : ν2 50 q = T q + 1 := by
      rw [f2 50 q (by unfold Wsk; omega), sM_s]
    have c3 : JobC 48 (sM ν2 50 q (T q)) m B T Wd cr S := by
      have h := JobC_tq (q := q) (v := T q) c2
      rw [tq_back rfl] at h
      exact h
    have e68 : ∀ u, X10_urgent_J68 (fun w3 w4 μq => X10_urgent_L27 V0 g w3 w4 μq) V0 u (q : Int) ν2 = X10_urgent_L27 V0 g u ((q + 1 : Nat) : Int) (sM ν2 50 q (T q)) := by
      intro u
      unfold X10_urgent_J68 ldA stA
      rw [if_pos (by exact i8), Int.toNat_natCast, e502]
      try dsimp only
      rw [if_pos (by exact i8), es, iA_nat (by omega)]
    have e0 : X10_urgent_L27 V0 (g + 1) (ur V V0 q) (q : Int) ν = X10_urgent_L27 V0 g (ur V V0 (q + 1)) ((q + 1 : Nat) : Int) (sM ν2 50 q (T q)) := by
      show (if (ν 48 5) ≤ (q : Int) then _ else _) = _
      rw [hC.1, if_neg (by omega)]
      unfold ldA stA
      rw [if_pos (by exact i8), Int.toNat_natCast, e50]
      try dsimp only
      rw [if_pos (by exact i8), ea]
      try dsimp only
      rw [k2, bd_some]
      by_cases c : V0 ≤ V q
      · have e : ur V V0 (q + 1) = ur V V0 q := if_pos c
        rw [if_pos c, e68, e]
      · have e : ur V V0 (q + 1) = bO (ur V V0 q) (bL 1 (q : Int)) := if_neg c
        rw [if_neg c]
        unfold lt_
        try dsimp only
        rw [e68, e]
    rw [e0]
    exact ih (q + 1) g _ (by omega) (by omega) c3
theorem urM_L (hJ : JOK m B T Wd S) (hT : ∀ k, k < m → T k ≤ 1098) (hV : ∀ q, V q = (bsF m B (tq T q (T q + 1)) Wd S 0 0).2) (hV0 : V0 ≠ -1) {K : Int → Mm → Rs} : ∀ (r q fuel : Nat) (ξ : Mm), q + r = m → r < fuel → JobM ξ m B T Wd S → ∃ ξ', X11_urgent_L25 V0 K fuel (ur V V0 q) (q : Int) ξ = K (ur V V0 m) ξ' := by
  have hm8 := hJ.2.1
  intro r
  induction r with
  | zero =>
    intro q fuel ξ hr hf hM
    obtain ⟨g, rfl, _⟩ := lt_fuel hf
    have e : q = m := by omega
    refine ⟨ξ, ?_⟩
    show (if (ξ 70 37) ≤ (q : Int) then _ else _) = _
    rw [hM.1, if_pos (by omega), e]
  | succ r ih =>
    intro q fuel ξ hr hf hM
    obtain ⟨g, rfl, _⟩ := lt_fuel hf
    have hqm : q < m := by omega
    have i8 : (0 : Int) ≤ (q : Int) ∧ (q : Int) < 8 := by omega
    have e88 : ξ 88 q = T q := (hM.2.2.1 q hqm).1
    have h1 := hJ.2.2.2.2.1 q hqm
    have h2 := hT q hqm
    have ea : iA (T q) 1 = T q + 1 := iA_id (by omega) (by omega)
    have es : iS (T q + 1) 1 = T q := by rw [iS_id (by omega) (by omega)]; omega
    obtain ⟨ξ2, x1, x2, f2, c2, _⟩ := bestM (w := 0) (tq_J hJ hT (q := q)) (JobM_tq (q := q) (v := T q + 1) hM)
    rw [← hV q] at x2
    have e882 : ξ2 88 q = T q + 1 := by
      rw [f2 88 q (by unfold Wse; omega), sM_s]
    have c3 : JobM (sM ξ2 88 q (T q)) m B T Wd S := by
      have h := JobM_tq (q := q) (v := T q) c2
      rw [tq_back rfl] at h
      exact h
    have e72 : ∀ u v, X11_urgent_J72 (fun w3 w4 μq => X11_urgent_L25 V0 K g w3 w4 μq) V0 (q : Int) u v ξ2 = X11_urgent_L25 V0 K g (bO u v) ((q + 1 : Nat) : Int) (sM ξ2 88 q (T q)) := by
      intro u v
      unfold X11_urgent_J72 ldA stA
      rw [if_pos (by exact i8), Int.toNat_natCast, e882]
      try dsimp only
      rw [if_pos (by exact i8), es, iA_nat (by omega)]
    have e0 : X11_urgent_L25 V0 K (g + 1) (ur V V0 q) (q : Int) ξ = X11_urgent_L25 V0 K g (ur V V0 (q + 1)) ((q + 1 : Nat) : Int) (sM ξ2 88 q (T q)) := by
      show (if (ξ 70 37) ≤ (q : Int) then _ else _) = _
      rw [hM.1, if_neg (by omega), if_neg hV0]
      unfold ldA stA
      rw [if_pos (by exact i8), Int.toNat_natCast, e88]
      try dsimp only
      rw [if_pos (by exact i8), ea]
      try dsimp only
      rw [x1, bd_some, x2, bd_some]
      by_cases c : V0 ≤ V q
      · have e : ur V V0 (q + 1) = ur V V0 q := if_pos c
        rw [if_pos c, e72, e, bO_z (ur_rI q)]
      · have e : ur V V0 (q + 1) = bO (ur V V0 q) (bL 1 (q : Int)) := if_neg c
        rw [if_neg c, e72, e]
    rw [e0]
    exact ih (q + 1) g _ (by omega) (by omega) c3
end UR
theorem m_urgent : ∀ a0, rI a0 → sI Inv Inv (X10_urgent a0) (X11_urgent a0) := by
  intro a ha μ hI
  have t1 := t_X10_urgent (W := scr) (μs := μ) (hW := fun _ _ h => h) (hp_l1 := ha) (St_rf hI.1)
  by_cases cr0 : μ 70 23 = 0 ∨ ¬ (0 ≤ a ∧ a < μ 70 28)
  · refine ⟨-1, μ, μ, ?_, ?_, hI⟩
    · unfold X10_urgent
      rw [lay_no hI cr0, bd_some, if_pos rfl]
    · unfold X11_urgent
      rw [rdy_no hI.2.1.1 cr0, bd_some, if_pos rfl]
  · have h23 : μ 70 23 ≠ 0 := fun z => cr0 (Or.inl z)
    have hap : 0 ≤ a ∧ a < μ 70 28 := Classical.byContradiction (fun z => cr0 (Or.inr z))
    obtain ⟨p, rfl⟩ : ∃ p : Nat, a = (p : Int) := ⟨a.toNat, by omega⟩
    obtain ⟨L, B, T, Wd, S, ν, hJ, ⟨⟨_, hTR, _⟩, hWT⟩, _, g1, g2, g3, _, g5⟩ := ready hI h23 hap.2
    have hm8 := hJ.2.1
    have hT : ∀ k, k < L.length → T k ≤ 1098 := fun k hk => (hWT k hk).2
    obtain ⟨ν1, f1, k1, c1⟩ := leastC hJ hTR g3
    obtain ⟨V0, hV0⟩ : ∃ x, x = (bsF L.length B T Wd S 0 0).2 := ⟨_, rfl⟩
    rw [← hV0] at k1
    have R1 : X10_urgent (p : Int) μ = if V0 = -1 then some (-1, ν1) else X10_urgent_L27 V0 FU 0 0 ν1 := by
      unfold X10_urgent
      rw [g1, bd_some, if_neg (by decide), k1, bd_some]
    by_cases c0 : V0 = -1
    · rw [if_pos c0] at R1
      rw [R1, wp_some] at t1
      have hI1 := Inv_St hI t1.1
      obtain ⟨ξ, y1, y2, y3⟩ := g5 ν1 hI1 t1.1.2
      obtain ⟨ξ', x1, x2, _, x4, _⟩ := bestM (w := 0) hJ y3
      rw [← hV0] at x2
      have R2 : X11_urgent (p : Int) ν1 = some (-1, ξ') := by
        obtain ⟨g, hg⟩ : ∃ g, FU = g + 1 := ⟨999999, rfl⟩
        unfold X11_urgent
        rw [y1, bd_some, if_neg (by decide), x1, bd_some, x2, bd_some, hg]
        show (if (ξ' 70 37) ≤ 0 then _ else _) = _
        rw [x4.1]
        by_cases z : (L.length : Int) ≤ 0
        · rw [if_pos z]
          try dsimp only
          rw [if_pos c0]
        · rw [if_neg z, if_pos c0]
          try dsimp only
          rw [if_pos c0]
      have t2 := t_X11_urgent (μs := ν1) hI1.2.1 ha (Sm_rf hI1.2.1.1)
      rw [R2, wp_some] at t2
      exact ⟨_, ν1, ξ', R1, R2, Inv_Sm hI1 t2.1⟩
    · obtain ⟨V, hV⟩ : ∃ V : Nat → Int, ∀ q, V q = (bsF L.length B (tq T q (T q + 1)) Wd S 0 0).2 := ⟨fun q => (bsF L.length B (tq T q (T q + 1)) Wd S 0 0).2, fun _ => rfl⟩
      obtain ⟨ν2, s1⟩ := urC_L (V := V) (V0 := V0) hJ hTR hT hV L.length 0 FU ν1 (by omega) (by show L.length < 1000000; omega) c1
      have s1 : X10_urgent_L27 V0 FU 0 0 ν1 = some (ur V V0 L.length, ν2) := s1
      rw [if_neg c0, s1] at R1
      rw [R1, wp_some] at t1
      have hI1 := Inv_St hI t1.1
      obtain ⟨ξ, y1, y2, y3⟩ := g5 ν2 hI1 t1.1.2
      obtain ⟨ξ1, x1, x2, _, x4, _⟩ := bestM (w := 0) hJ y3
      rw [← hV0] at x2
      obtain ⟨ξ', s2⟩ := urM_L (V := V) (V0 := V0) hJ hT hV c0 (K := fun v28 μ29 => if V0 = (-1) then (some ((-1), μ29)) else (some (v28, μ29))) L.length 0 FU ξ1 (by omega) (by show L.length < 1000000; omega) x4
      have s2 : X11_urgent_L25 V0 (fun v28 μ29 => if V0 = (-1) then (some ((-1), μ29)) else (some (v28, μ29))) FU 0 0 ξ1 = if V0 = -1 then some (-1, ξ') else some (ur V V0 L.length, ξ') := s2
      have R2 : X11_urgent (p : Int) ν2 = some (ur V V0 L.length, ξ') := by
        unfold X11_urgent
        rw [y1, bd_some, if_neg (by decide), x1, bd_some, x2, bd_some, s2, if_neg c0]
      have t2 := t_X11_urgent (μs := ν2) hI1.2.1 ha (Sm_rf hI1.2.1.1)
      rw [R2, wp_some] at t2
      exact ⟨_, ν2, ξ', R1, R2, Inv_Sm hI1 t2.1⟩
/-! MEND -/
theorem cN_up {k : Nat} : ∀ j, cN (up (fun _ => true) k) j = j - k := by
  intro j
  induction j with
  | zero => show 0 = 0 - k; omega
  | succ j ih =>
    by_cases c : k ≤ j
    · rw [cN_y (up_iff.mpr ⟨rfl, c⟩), ih]; omega
    · rw [cN_n (fun z => c (up_iff.mp z).2), ih]; omega
section MN
variable {m : Nat} {B : Nat → Nat → Int} {T Wd : Nat → Int} {S : Int}
theorem mnM_L (hJ : JOK m B T Wd S) {k : Nat} (hk : k ≤ m) {ξ : Mm} (hM : JobM ξ m B T Wd S) {l3 : Int} {K : Int → Int → Int → Int → Mm → Rs} : ∀ (r i fuel a : Nat) (t c d : Int), i + r = k → r < fuel → a ≤ m → Rng i t c d → bsF m B T Wd S 0 k = fulO m B T Wd S 0 (alF m k) (m - i) (up (fun _ => true) i) a t c d (-1, -1) → (∃ (a' : Nat) (t' c' d' : Int), a' ≤ m ∧ Rng k t' c' d' ∧ bsF m B T Wd S 0 k = fulO m B T Wd S 0 (alF m k) (m - k) (up (fun _ => true) k) a' t' c' d' (-1, -1) ∧ X11_mend_L49 (k : Int) l3 K fuel (a : Int) t c d (i : Int) ξ = K (a' : Int) t' c' d' ξ) ∨ (bsF m B T Wd S 0 k = (-1, -1) ∧ X11_mend_L49 (k : Int) l3 K fuel (a : Int) t c d (i : Int) ξ = some (-1, ξ)) := by
  have hm8 := hJ.2.1
  intro r
  induction r with
  | zero =>
    intro i fuel a t c d hr hf ha hR hE
    obtain ⟨g, rfl, _⟩ := lt_fuel hf
    have e : i = k := by omega
    subst e
    refine Or.inl ⟨a, t, c, d, ha, hR, hE, ?_⟩
    show (if (i : Int) ≤ (i : Int) then _ else _) = _
    rw [if_pos (Int.le_refl _)]
  | succ r ih =>
    intro i fuel a t c d hr hf ha hR hE
    obtain ⟨g, rfl, _⟩ := lt_fuel hf
    have him : i < m := by omega
    have i8 : (0 : Int) ≤ (i : Int) ∧ (i : Int) < 8 := by omega
    have i72 : (0 : Int) ≤ ((8 * a + i : Nat) : Int) ∧ ((8 * a + i : Nat) : Int) < 72 := by omega
    have e89 : ξ 89 (8 * a + i) = B a i := hM.2.2.2 a i ha him
    have e88 := (hM.2.2.1 i him).1
    have e90 := (hM.2.2.1 i him).2
    obtain ⟨n, hn⟩ : ∃ n, m - i = n + 1 := ⟨m - i - 1, by omega⟩
    have hal : ∀ j, j ≠ i → ¬ alF m k n j = true := fun j hj => alF_n (q := i) (by omega) (by omega) hj
    have hai : alF m k n i = true := alF_y (q := i) (by omega) (Or.inr rfl)
    have hone : bsF m B T Wd S 0 k = fst2 m B T Wd S 0 (alF m k) n (up (fun _ => true) i) a t c d i (-1, -1) := by
      rw [hE, hn, fulO_s]
      exact flO_one him (fun j s' _ hj => fst2_n (fun z => hal j hj z.2.1))
    have hup : up (fun _ => true) i i = true := up_iff.mpr ⟨rfl, Nat.le_refl _⟩
    by_cases cB : B a i = -1
    · refine Or.inr ⟨?_, ?_⟩
      · rw [hone]
        exact fst2_n (fun z => z.2.2 cB)
      · show (if (k : Int) ≤ (i : Int) then _ else _) = _
        rw [if_neg (by omega)]
        unfold ldA
        rw [off8 (by omega) (by omega), if_pos (by exact i72), Int.toNat_natCast (8 * a + i), e89, cB]
        try dsimp only
        rfl
    · obtain ⟨r1, r4, r5⟩ := rng_s (w := 0) hJ ha him cB hR (by omega)
      have hone2 : bsF m B T Wd S 0 k = fulO m B T Wd S 0 (alF m k) (m - (i + 1)) (up (fun _ => true) (i + 1)) i (stO B T Wd S t a i) (lateW 0 c (stO B T Wd S t a i - T i)) (10 * d + (i : Int)) (-1, -1) := by
        rw [hone, fst2_y ⟨hup, hai, cB⟩]
        unfold fst1
        rw [up_y]
        have e : m - (i + 1) = n := by omega
        rw [e]
      have h3 := hJ.2.2.2.2.1 i him
      have h4 := hJ.2.2.2.2.2 i him
      obtain ⟨q1, q2, q3⟩ := hR
      have p8 : (10 : Int) ^ (i + 1) ≤ 100000000 := p10_mono (b := 8) (by omega)
      have p9 : (10 : Int) ^ (i + 1) = 10 ^ i * 10 := p10_succ i
      have t1 : mX (iA (iA t (iM (B a i) S)) (Wd i)) (T i) = stO B T Wd S t a i := by
        rw [iM_id (by omega) (by omega), iA_id (a := t) (by omega) (by omega), iA_id (by omega) (by omega)]
        rfl
      have t2 : iS (stO B T Wd S t a i) (T i) = stO B T Wd S t a i - T i := iS_id (by omega) (by omega)
      have t4 : iA c (stO B T Wd S t a i - T i) = lateW 0 c (stO B T Wd S t a i - T i) := by
        unfold lateW
        rw [if_pos rfl]
        exact iA_id (by omega) (by omega)
      have t3 : iA (iM 10 d) (i : Int) = 10 * d + (i : Int) := by
        rw [iM_id (by omega) (by omega), iA_id (by omega) (by omega)]
      have e0 : X11_mend_L49 (k : Int) l3 K (g + 1) (a : Int) t c d (i : Int) ξ = X11_mend_L49 (k : Int) l3 K g (i : Int) (stO B T Wd S t a i) (lateW 0 c (stO B T Wd S t a i - T i)) (10 * d + (i : Int)) ((i + 1 : Nat) : Int) ξ := by
        show (if (k : Int) ≤ (i : Int) then _ else _) = _
        rw [if_neg (by omega)]
        unfold ldA lt_
        try dsimp only
        rw [off8 (by omega) (by omega), if_pos (by exact i72), Int.toNat_natCast (8 * a + i), e89]
        try dsimp only
        rw [if_neg cB, if_pos (by exact i72)]
        try dsimp only
        rw [if_pos (by exact i8), Int.toNat_natCast, e90]
        try dsimp only
        rw [if_pos (by exact i8), e88, hM.2.1, t1]
        try dsimp only
        rw [if_pos (by exact i8)]
        try dsimp only
        rw [t2, t4, t3, iA_nat (by omega)]
      rw [e0]
      exact ih (i + 1) g i _ _ _ (by omega) (by omega) (by omega) r1 hone2
theorem mnM (hJ : JOK m B T Wd S) {k : Nat} (hk : k ≤ m) {ξ : Mm} (hM : JobM ξ m B T Wd S) {l3 : Int} : ∃ ξ', X11_mend_L49 (k : Int) l3 (fun v28 v29 v30 v31 μ32 => sF μ32 70 41 (-1) fun μ33 => sF μ33 70 42 (-1) fun μ34 => bd (X11_all μ34) fun v35 μ36 => bd (X11_search RD 0 (bA v35 (bX (iS (bL 1 (k : Int)) 1) (-1))) v28 v29 v30 v31 μ36) fun v38 μ39 => if l3 = 0 then (some (μ39 70 41, μ39)) else (some (μ39 70 42, μ39))) FU (m : Int) 0 0 0 0 ξ = some (if l3 = 0 then (bsF m B T Wd S 0 k).1 else (bsF m B T Wd S 0 k).2, ξ') := by
  have hm8 := hJ.2.1
  have hcn : cN (up (fun _ => true) k) m = m - k := cN_up m
  have hal : ∀ n i, n < m - k → alF m k n i = alT n i := fun n i hn => alF_y (q := m - (n + 1)) (by omega) (Or.inl (by omega))
  rcases mnM_L hJ hk hM (l3 := l3) (K := fun v28 v29 v30 v31 μ32 => sF μ32 70 41 (-1) fun μ33 => sF μ33 70 42 (-1) fun μ34 => bd (X11_all μ34) fun v35 μ36 => bd (X11_search RD 0 (bA v35 (bX (iS (bL 1 (k : Int)) 1) (-1))) v28 v29 v30 v31 μ36) fun v38 μ39 => if l3 = 0 then (some (μ39 70 41, μ39)) else (some (μ39 70 42, μ39))) k 0 FU m 0 0 0 (by omega) (by show k < 1000000; omega) (Nat.le_refl _) ⟨by omega, by omega, by decide⟩ (by rw [up_0]; rfl) with ⟨a', t', c', d', ha, hR, hE, h⟩ | ⟨hE, h⟩
  · obtain ⟨ξ0, hξ0⟩ : ∃ x, x = sM (sM ξ 70 41 (-1)) 70 42 (-1) := ⟨_, rfl⟩
    have f0 : fw Wse ξ ξ0 := by
      rw [hξ0]
      exact fw_sM (fw_sM fw_rf ⟨rfl, Or.inl rfl⟩) ⟨rfl, Or.inr rfl⟩
    have hM0 := JobM_se hM f0
    have hk2 : msk (bA (iS (bL 1 (m : Int)) 1) (bX (iS (bL 1 (k : Int)) 1) (-1))) m (up (fun _ => true) k) := by
      refine ⟨bA_r _ _, fun d hd => ?_⟩
      rw [gb_not _ _ hd, gb_all m (by omega) d hd, gb_all k (by omega) d hd, up_iff, decide_eq_true_iff, decide_eq_true_iff]
      exact ⟨fun z => ⟨z.1, rfl, by omega⟩, fun z => ⟨z.1, by omega⟩⟩
    obtain ⟨ξ', g1, g2, g3⟩ := srM (w := 0) hJ (m - k) RD k _ _ a' t' c' d' ξ0 (by omega) (by show m - k < 12; omega) hk2 hcn ha hR hM0
    have e : st2 ξ0 = (-1, -1) := by
      unfold st2
      rw [hξ0, sM_j (show (41 : Nat) ≠ 42 by decide), sM_s, sM_s]
    rw [e, ← fulO_al _ _ _ _ _ _ _ hal, ← hE] at g3
    have z1 : ξ' 70 41 = (bsF m B T Wd S 0 k).1 := congrArg Prod.fst g3
    have z2 : ξ' 70 42 = (bsF m B T Wd S 0 k).2 := congrArg Prod.snd g3
    refine ⟨ξ', ?_⟩
    have h0 : X11_mend_L49 (k : Int) l3 (fun v28 v29 v30 v31 μ32 => sF μ32 70 41 (-1) fun μ33 => sF μ33 70 42 (-1) fun μ34 => bd (X11_all μ34) fun v35 μ36 => bd (X11_search RD 0 (bA v35 (bX (iS (bL 1 (k : Int)) 1) (-1))) v28 v29 v30 v31 μ36) fun v38 μ39 => if l3 = 0 then (some (μ39 70 41, μ39)) else (some (μ39 70 42, μ39))) FU (m : Int) 0 0 0 0 ξ = sF ξ 70 41 (-1) fun μ33 => sF μ33 70 42 (-1) fun μ34 => bd (X11_all μ34) fun v35 μ36 => bd (X11_search RD 0 (bA v35 (bX (iS (bL 1 (k : Int)) 1) (-1))) (a' : Int) t' c' d' μ36) fun v38 μ39 => if l3 = 0 then (some (μ39 70 41, μ39)) else (some (μ39 70 42, μ39)) := h
    have hA : X11_all ξ0 = some (iS (bL 1 (m : Int)) 1, ξ0) := by
      unfold X11_all
      rw [hM0.1]
    rw [h0, sF_r, sF_r, ← hξ0, hA, bd_some, g1, bd_some]
    by_cases c0 : l3 = 0
    · rw [if_pos c0, if_pos c0, z1]
    · rw [if_neg c0, if_neg c0, z2]
  · refine ⟨ξ, ?_⟩
    have h0 := h
    rw [hE]
    refine Eq.trans h0 ?_
    by_cases c0 : l3 = 0
    · rw [if_pos c0]
    · rw [if_neg c0]
end MN
theorem m_mend : ∀ a0, rI a0 → ∀ a1, rI a1 → ∀ a2, rI a2 → sI Inv Inv (X10_mend a0 a1 a2) (X11_mend a0 a1 a2) := by
  intro a ha b hb c hc μ hI
  have t1 := t_X10_mend (W := scr) (μs := μ) (hW := fun _ _ h => h) (hp_l1 := ha) (hp_l2 := hb) (hp_l3 := hc) (St_rf hI.1)
  have no : ∀ ν, Inv ν → (X11_isReady a ν = some (0, ν) ∨ (∀ ξ, X11_isReady a ν = some (1, ξ) → ¬ (0 ≤ b ∧ b ≤ ξ 70 37)) ∨ ¬ (0 ≤ c ∧ c ≤ 1)) → ∃ μ2, X11_mend a b c ν = some (-1, μ2) ∧ Inv μ2 := by
    intro ν hν h
    rcases rdyAny hν a with z | ⟨ξ, m, h1, h2, h3, h4⟩
    · exact ⟨ν, by unfold X11_mend; rw [z, bd_some, if_pos rfl], hν⟩
    · by_cases cb : 0 ≤ b ∧ b ≤ ξ 70 37
      · by_cases cc : 0 ≤ c ∧ c ≤ 1
        · rcases h with h | h | h
          · exact (some_ne h1 h).elim
          · exact absurd cb (h ξ h1)
          · exact absurd cc h
        · exact ⟨ξ, by unfold X11_mend; rw [h1, bd_some, if_neg (by decide), in_rg _ cb, bd_some, if_neg (by decide), in_no _ cc, bd_some, if_pos rfl], Inv_Sm hν h2⟩
      · exact ⟨ξ, by unfold X11_mend; rw [h1, bd_some, if_neg (by decide), in_no _ cb, bd_some, if_pos rfl], Inv_Sm hν h2⟩
  by_cases cc : 0 ≤ c ∧ c ≤ 1
  · have R1 : X10_mend a b c μ = bd (X10_lay a μ) fun v5 μ6 => if v5 = 0 then (some ((-1), μ6)) else (if b < 0 then (some ((-1), μ6)) else (if b ≤ (μ6 48 5) then (bd (X10_told 0 b c μ6) fun v11 μ12 => some (v11, μ12)) else (some ((-1), μ6)))) := by
      unfold X10_mend
      rw [half_y cc, bd_some, if_neg (by decide)]
    by_cases cr0 : μ 70 23 = 0 ∨ ¬ (0 ≤ a ∧ a < μ 70 28)
    · obtain ⟨μ2, e2, h2⟩ := no μ hI (Or.inl (rdy_no hI.2.1.1 cr0))
      refine ⟨-1, μ, μ2, ?_, e2, h2⟩
      rw [R1, lay_no hI cr0, bd_some, if_pos rfl]
    · have h23 : μ 70 23 ≠ 0 := fun z => cr0 (Or.inl z)
      have hap : 0 ≤ a ∧ a < μ 70 28 := Classical.byContradiction (fun z => cr0 (Or.inr z))
      obtain ⟨p, rfl⟩ : ∃ p : Nat, a = (p : Int) := ⟨a.toNat, by omega⟩
      obtain ⟨L, B, T, Wd, S, ν, hJ, ⟨⟨_, hTR, _⟩, _⟩, _, g1, g2, g3, _, g5⟩ := ready hI h23 hap.2
      rw [g1, bd_some, if_neg (by decide), g3.1] at R1
      by_cases cb : 0 ≤ b ∧ b ≤ (L.length : Int)
      · obtain ⟨k, rfl⟩ : ∃ k : Nat, b = (k : Int) := ⟨b.toNat, by omega⟩
        obtain ⟨ν1, f1, k1⟩ := toldC (w := 0) (F := k) hJ hTR (by omega) g3 c
        rw [if_neg (by omega), if_pos cb.2, k1, bd_some] at R1
        rw [R1, wp_some] at t1
        have hI1 := Inv_St hI t1.1
        obtain ⟨ξ, y1, y2, y3⟩ := g5 ν1 hI1 t1.1.2
        obtain ⟨ξ', x1⟩ := mnM hJ (k := k) (by omega) y3 (l3 := c)
        have R2 : X11_mend (p : Int) (k : Int) c ν1 = some (if c = 0 then (bsF L.length B T Wd S 0 k).1 else (bsF L.length B T Wd S 0 k).2, ξ') := by
          unfold X11_mend
          rw [y1, bd_some, if_neg (by decide), y3.1, in_rg _ cb, bd_some, if_neg (by decide), in_rg _ cc, bd_some, if_neg (by decide), y3.1]
          exact x1
        have t2 := t_X11_mend (μs := ν1) hI1.2.1 ha hb hc (Sm_rf hI1.2.1.1)
        rw [R2, wp_some] at t2
        exact ⟨_, ν1, ξ', R1, R2, Inv_Sm hI1 t2.1⟩
      · have R3 : X10_mend (p : Int) b c μ = some (-1, ν) := by
          rw [R1]
          by_cases c1 : b < 0
          · rw [if_pos c1]
          · rw [if_neg c1, if_neg (by omega)]
        rw [R3, wp_some] at t1
        have hI1 := Inv_St hI t1.1
        obtain ⟨ξ, y1, y2, y3⟩ := g5 ν hI1 t1.1.2
        obtain ⟨μ2, e2, h2⟩ := no ν hI1 (Or.inr (Or.inl (fun ξ1 z => by
          have e : ξ = ξ1 := congrArg Prod.snd (Option.some.inj (y1.symm.trans z))
          rw [← e, y3.1]
          exact cb)))
        exact ⟨-1, ν, μ2, R3, e2, h2⟩
  · obtain ⟨μ2, e2, h2⟩ := no μ hI (Or.inr (Or.inr cc))
    refine ⟨-1, μ, μ2, ?_, e2, h2⟩
    unfold X10_mend
    rw [half_n cc, bd_some, if_pos rfl]
