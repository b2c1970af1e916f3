/-! a CELLAR as if it were so: told to the class in its trial, to the reference in its own -/
noncomputable def bW (O : Nat → Prop) (Q : Nat → Int) (s : Nat) (cr : Nat → Nat) (m a b : Nat) : Int := Classical.epsilon (fun v => RWy O (if a = m then (s : Int) else Q (cr a)) (Q (cr b)) v)
def Cg (O : Nat → Prop) (Q : Nat → Int) (s : Nat) : Prop := (∀ p, O p → p < 60) ∧ O s ∧ ∀ c, c < 8 → Q c = -1 ∨ ∃ p : Nat, Q c = (p : Int) ∧ O p
noncomputable def memO (O : Nat → Prop) : Mm := fun k j => if k = 14 then @ite Int (O j) (Classical.propDecidable (O j)) 0 1 else 0
section CG
variable {O : Nat → Prop} {Q : Nat → Int} {s : Nat} {cr : Nat → Nat} {m : Nat}
theorem memO_op (h : ∀ p, O p → p < 60) (p : Nat) : opC 13 (memO O) p ↔ O p := by
  have e : memO O (13 + 1) p = @ite Int (O p) (Classical.propDecidable (O p)) 0 1 := if_pos rfl
  unfold opC
  rw [e]
  by_cases c : O p
  · rw [if_pos c]; exact ⟨fun _ => c, fun _ => ⟨h p c, by decide, by decide⟩⟩
  · rw [if_neg c]; exact ⟨fun z => absurd rfl z.2.2, fun z => absurd z c⟩
theorem RW_ex (h : ∀ p, O p → p < 60) {sa pb : Int} (h1 : sa = -1 ∨ ∃ s : Nat, sa = (s : Int) ∧ O s) (h2 : pb = -1 ∨ (0 ≤ pb ∧ pb < 60)) : ∃ v, RWy O sa pb v ∧ -1 ≤ v ∧ v ≤ 59 := by
  rcases h1 with h1 | ⟨s, h1, hs⟩
  · exact ⟨-1, ⟨fun _ => rfl, fun _ => rfl, fun s p e _ => by omega⟩, by decide, by decide⟩
  · rcases h2 with h2 | h2
    · exact ⟨-1, ⟨fun _ => rfl, fun _ => rfl, fun s p _ e => by omega⟩, by decide, by decide⟩
    · obtain ⟨ν, _, _, d, hi⟩ := meaC2 (l0 := 13) (by decide) (μ := memO O) (s := s) ((memO_op h s).mpr hs)
      have hd := ds_c (memO_op h) d
      refine ⟨ν 46 pb.toNat, ⟨fun e => by omega, fun e => by omega, fun s' p e e2 => ⟨ν 46, ?_, ?_⟩⟩, ds_b hd (by omega), hi _ (by omega)⟩
      · have : s' = s := by omega
        rw [this]; exact hd
      · rw [e2, Int.toNat_natCast]
        try dsimp only
theorem Cg_a (hG : Cg O Q s) (hcr : ∀ k, k < m → cr k < 8) {a : Nat} (ha : a ≤ m) : (if a = m then (s : Int) else Q (cr a)) = -1 ∨ ∃ p : Nat, (if a = m then (s : Int) else Q (cr a)) = (p : Int) ∧ O p := by
  by_cases c : a = m
  · rw [if_pos c]; exact Or.inr ⟨s, rfl, hG.2.1⟩
  · rw [if_neg c]; exact hG.2.2 _ (hcr a (by omega))
theorem Cg_r (hG : Cg O Q s) {x : Int} (h : x = -1 ∨ ∃ p : Nat, x = (p : Int) ∧ O p) : x = -1 ∨ (0 ≤ x ∧ x < 60) := by
  rcases h with z | ⟨p, z1, z2⟩
  · exact Or.inl z
  · have := hG.1 p z2
    exact Or.inr (by omega)
theorem bW_ok (hG : Cg O Q s) (hcr : ∀ k, k < m → cr k < 8) {a b : Nat} (ha : a ≤ m) (hb : b < m) : RWy O (if a = m then (s : Int) else Q (cr a)) (Q (cr b)) (bW O Q s cr m a b) ∧ -1 ≤ bW O Q s cr m a b ∧ bW O Q s cr m a b ≤ 59 := by
  have r1 := Cg_a hG hcr ha
  have r2 := Cg_r hG (hG.2.2 _ (hcr b hb))
  obtain ⟨v, v1, v2, v3⟩ := RW_ex hG.1 r1 r2
  have h : RWy O (if a = m then (s : Int) else Q (cr a)) (Q (cr b)) (bW O Q s cr m a b) := Classical.epsilon_spec (p := fun v => RWy O (if a = m then (s : Int) else Q (cr a)) (Q (cr b)) v) ⟨v, v1⟩
  have e := RD_u (Cg_r hG r1) r2 h v1
  exact ⟨h, by rw [e]; exact v2, by rw [e]; exact v3⟩
theorem bW_u (hG : Cg O Q s) (hcr : ∀ k, k < m → cr k < 8) {a b : Nat} (ha : a ≤ m) (hb : b < m) {v : Int} (h : RWy O (if a = m then (s : Int) else Q (cr a)) (Q (cr b)) v) : v = bW O Q s cr m a b :=
  RD_u (Cg_r hG (Cg_a hG hcr ha)) (Cg_r hG (hG.2.2 _ (hcr b hb))) h (bW_ok hG hcr ha hb).1
theorem bW_T (hG : Cg O Q s) (hcr : ∀ k, k < m → cr k < 8) : TRB m (bW O Q s cr m) := fun a b ha hb h1 h2 => by
  have r1 := (bW_ok hG hcr (Nat.le_refl m) ha).1
  have r2 := (bW_ok hG hcr (Nat.le_of_lt ha) hb).1
  have r3 := (bW_ok hG hcr (Nat.le_refl m) hb).1
  rw [if_pos rfl] at r1 r3
  rw [if_neg (by omega)] at r2
  have hs := hG.1 s hG.2.1
  exact RD_tr (Or.inr (by omega)) (Cg_r hG (hG.2.2 _ (hcr a ha))) (Cg_r hG (hG.2.2 _ (hcr b hb))) r1 r2 r3 h1 h2
theorem bW_J (hG : Cg O Q s) (hcr : ∀ k, k < m → cr k < 8) (h1 : 1 ≤ m) (h8 : m ≤ 8) {T W : Nat → Int} {S : Int} (hS : 1 ≤ S ∧ S ≤ 9) (hT : ∀ k, k < m → 0 ≤ T k ∧ T k ≤ 1099) (hW : ∀ c, c < 8 → 1 ≤ W c ∧ W c ≤ 30) : JOK m (bW O Q s cr m) T (fun k => W (cr k)) S :=
  ⟨h1, h8, hS, fun a b ha hb => (bW_ok hG hcr ha hb).2, hT, fun k hk => by
    have := hW _ (hcr k hk)
    show 1 ≤ W (cr k) ∧ W (cr k) ≤ 60
    omega⟩
end CG
def TrC (l1 : Nat) (ν : Mm) (O : Nat → Prop) (Q : Nat → Int) (s : Nat) (W : Nat → Int) (S : Int) : Prop := (∀ p, opC l1 ν p ↔ O p) ∧ (∀ c, c < 8 → ν (l1 + 2) c = Q c) ∧ ν l1 3 = (s : Int) ∧ (∀ c, c < 8 → ν (l1 + 3) c = W c) ∧ ν l1 7 = S
def TrM (ξ : Mm) (O : Nat → Prop) (Q : Nat → Int) (s : Nat) (W : Nat → Int) (S : Int) : Prop := Ir ξ ∧ (∀ p, opM ξ p ↔ O p) ∧ PlM ξ Q ∧ (s < 60 ∧ isP ξ s ∧ ξ 82 s = 2) ∧ (∀ c, c < 8 → ξ 86 c = W c) ∧ ξ 70 30 = S ∧ ξ 70 23 ≠ 0
section AS
variable {O : Nat → Prop} {Q : Nat → Int} {s : Nat} {W : Nat → Int} {S : Int} {L : List (Int × Int)} {T : Nat → Int}
theorem prepT {l1 : Nat} (h1 : kD l1 = (10, 9)) (hl8 : L.length ≤ 8) (hL : plOK L) {p : Nat} (hp : p ≤ 4) {ν : Mm} (hP : hasP ν (18 + 3 * p) 0 L) (hG : Cg O Q s) (hT : TrC l1 ν O Q s W S) : ∃ ν', X1_prepare 48 l1 (18 + 3 * p) ν = some (0, ν') ∧ fw (Wj 48) ν ν' ∧ ((∀ k, k < L.length → ν' 50 k = T k) → JobC 48 ν' L.length (bW O Q s (lets L) L.length) T (fun k => W (lets L k)) (lets L) S) := by
  obtain ⟨t1, t2, t3, t4, t5⟩ := hT
  have hcr : ∀ k, k < L.length → lets L k < 8 := fun k hk => (lets_e hL hk).2
  have hk : ∀ k, k < L.length → ν (18 + 3 * p + 1) k = ((lets L k : Nat) : Int) := fun k hk => by
    have := (hP.2 k hk).1
    rw [Nat.zero_add] at this
    rw [this, (lets_e hL hk).1]
  obtain ⟨ν', g1, g2, g3, g4, g5, g6, g7⟩ := prepC (l0 := 48) (by decide) h1 (kD_pl p (by omega)) (m := L.length) hl8 (cr := lets L) hcr (by rw [hP.1, Nat.zero_add]) hk (fun c hc => by
    rw [t2 c hc]
    rcases hG.2.2 c hc with z | ⟨q, z1, z2⟩
    · exact Or.inl z
    · exact Or.inr ⟨q, z1, (t1 q).mpr z2⟩) (Or.inr ⟨s, t3, (t1 s).mpr hG.2.1⟩)
  refine ⟨ν', g1, g2, fun hT => ⟨g3, by rw [g4, t5], fun k hk => ⟨(g5 k hk).1, hT k hk, ?_⟩, fun a b ha hb => ?_, fun b hb => ?_⟩⟩
  · show ν' 51 k = W (lets L k)
    have := (g5 k hk).2
    rw [t4 _ (hcr k hk)] at this
    exact this
  · have r := RD_c t1 (g6 a b ha hb)
    rw [t2 _ (hcr a ha), t2 _ (hcr b hb)] at r
    exact bW_u hG hcr (Nat.le_of_lt ha) hb (by rw [if_neg (by omega)]; exact r)
  · have r := RD_c t1 (g7 b hb)
    rw [t3, t2 _ (hcr b hb)] at r
    exact bW_u hG hcr (Nat.le_refl _) hb (by rw [if_pos rfl]; exact r)
def Wlt (k j : Nat) : Prop := Wj 48 k j ∨ Wsk k j
theorem litC (hl8 : L.length ≤ 8) (hL : plOK L) {p : Nat} (hp : p ≤ 4) {ν : Mm} (hP : hasP ν (18 + 3 * p) 0 L) (hG : Cg O Q s) (hT : TrC 13 ν O Q s W S) (hTi : ∀ k, k < L.length → ν 50 k = T k) (hJ : JOK L.length (bW O Q s (lets L) L.length) T (fun k => W (lets L k)) S) : ∃ ν', fw Wlt ν ν' ∧ X10_leastInTrial (p : Int) ν = some ((bsF L.length (bW O Q s (lets L) L.length) T (fun k => W (lets L k)) S 0 0).2, ν') := by
  obtain ⟨ν1, g1, g2, g3⟩ := prepT (T := T) (l1 := 13) (by decide) hl8 hL hp hP hG hT
  have hC := g3 (fun k hk => by rw [g2 50 k (by unfold Wj fW; omega)]; exact hTi k hk)
  obtain ⟨ν', f1, k1, _⟩ := leastC hJ (bW_T hG (fun k hk => (lets_e hL hk).2)) hC
  refine ⟨ν', fun k j hn => by rw [f1 k j (fun z => hn (Or.inr z)), g2 k j (fun z => hn (Or.inl z))], ?_⟩
  unfold X10_leastInTrial
  rw [a17_eq hp, g1, bd_some, k1, bd_some]
theorem lnM (hl8 : L.length ≤ 8) (hL : plOK L) {p : Nat} {ξ : Mm} (hp : (p : Int) < ξ 70 28) (hM : hasM ξ p 0 L) {H : Option (List (Cd × Cd))} (hH : HL ξ H) (hG : Cg O Q s) (hT : TrM ξ O Q s W S) (hTi : ∀ k, k < L.length → T k = tmF H (ξ 70 31) L k) (hJ : JOK L.length (bW O Q s (lets L) L.length) T (fun k => W (lets L k)) S) : ∃ ξ', X11_leastNow (p : Int) ξ = some ((bsF L.length (bW O Q s (lets L) L.length) T (fun k => W (lets L k)) S 0 0).2, ξ') ∧ Sm ξ ξ' := by
  obtain ⟨hI, t1, t2, ⟨t3, t4, t5⟩, t6, t7, t8⟩ := hT
  have hcr : ∀ k, k < L.length → lets L k < 8 := fun k hk => (lets_e hL hk).2
  have hb28 : 0 ≤ ξ 70 28 ∧ ξ 70 28 ≤ 5 := hI.1 70 28 (by decide)
  obtain ⟨ξ1, y1, y2, y3, y4, y5, y6⟩ := readyM hI.1 hI.2.2.2.2.2.2.1 t2 t8 hp hl8 hM hL hH t3 t4 t5
  have hMJ : JobM ξ1 L.length (bW O Q s (lets L) L.length) T (fun k => W (lets L k)) S := ⟨y3, by rw [y4, t7], fun k hk => ⟨by rw [(y5 k hk).1, hTi k hk], by rw [(y5 k hk).2, t6 _ (hcr k hk)]⟩, fun a b ha hb => bW_u hG hcr ha hb (RD_c t1 (y6 a b ha hb))⟩
  obtain ⟨ξ', x1, x2, _, _, _⟩ := bestM (w := 0) hJ hMJ
  have R : X11_leastNow (p : Int) ξ = some ((bsF L.length (bW O Q s (lets L) L.length) T (fun k => W (lets L k)) S 0 0).2, ξ') := by
    unfold X11_leastNow
    rw [y1, bd_some, x1, bd_some, x2, bd_some]
  have t := t_X11_leastNow (μs := ξ) (l1 := (p : Int)) hI (by omega) (Sm_rf hI.1)
  rw [R, wp_some] at t
  exact ⟨ξ', R, t.1⟩
end AS
/-! the least of several, the first of them -/
def hf (V : Nat → Int) : Nat → Int × Int
  | 0 => (-1, -1)
  | k + 1 => if V k = -1 then hf V k else if (hf V k).2 = -1 then ((k : Int), V k) else if (hf V k).2 ≤ V k then hf V k else ((k : Int), V k)
theorem hf_rel {V : Nat → Int} (hV : ∀ k, V k = -1 ∨ 0 ≤ V k) : ∀ k, ((hf V k).1 = -1 ∧ (hf V k).2 = -1) ∨ (0 ≤ (hf V k).1 ∧ 0 ≤ (hf V k).2) := by
  intro k
  induction k with
  | zero => exact Or.inl ⟨rfl, rfl⟩
  | succ k ih =>
    have e : hf V (k + 1) = if V k = -1 then hf V k else if (hf V k).2 = -1 then ((k : Int), V k) else if (hf V k).2 ≤ V k then hf V k else ((k : Int), V k) := rfl
    rw [e]
    have hk := hV k
    by_cases c1 : V k = -1
    · rw [if_pos c1]; exact ih
    · rw [if_neg c1]
      have hp : 0 ≤ ((k : Int), V k).1 ∧ 0 ≤ ((k : Int), V k).2 := ⟨by show (0 : Int) ≤ (k : Int); omega, by show 0 ≤ V k; omega⟩
      by_cases c2 : (hf V k).2 = -1
      · rw [if_pos c2]; exact Or.inr hp
      · rw [if_neg c2]
        by_cases c3 : (hf V k).2 ≤ V k
        · rw [if_pos c3]; exact ih
        · rw [if_neg c3]; exact Or.inr hp
theorem fulO_c2 {m : Nat} {B : Nat → Nat → Int} {T Wd : Nat → Int} {S w : Int} {al : Nat → Nat → Bool} : ∀ (n : Nat) (lf : Nat → Bool) (a : Nat) (t c d : Int) (s : Int × Int), 0 ≤ c → fulO m B T Wd S w al n lf a t c d s = s ∨ 0 ≤ (fulO m B T Wd S w al n lf a t c d s).2 := by
  intro n
  induction n with
  | zero =>
    intro lf a t c d s hc
    by_cases z : betr c s
    · rw [fulO_0.1 z]; exact Or.inr hc
    · rw [fulO_0.2 z]; exact Or.inl rfl
  | succ n ih =>
    intro lf a t c d s hc
    rw [fulO_s]
    refine flO_P (P := fun r => r = s ∨ 0 ≤ r.2) m (Or.inl rfl) (fun i r hi hr => ?_)
    by_cases z : lf i = true ∧ al n i = true ∧ B a i ≠ -1
    · rw [fst2_y z]
      have hg := lateW_ge (w := w) (c := c) (stO_T (B := B) (T := T) (Wd := Wd) (S := S) (t := t) (a := a) (i := i))
      rcases ih (ofB lf i) i (stO B T Wd S t a i) (lateW w c (stO B T Wd S t a i - T i)) (10 * d + (i : Int)) r (by omega) with e | e
      · have e : fst1 m B T Wd S w al n lf a t c d i r = r := e
        rw [e]; exact hr
      · exact Or.inr e
    · rw [fst2_n z]; exact hr
theorem bsV {m : Nat} {B : Nat → Nat → Int} {T Wd : Nat → Int} {S w : Int} {F : Nat} : (bsF m B T Wd S w F).2 = -1 ∨ 0 ≤ (bsF m B T Wd S w F).2 := by
  rcases fulO_c2 (m := m) (B := B) (T := T) (Wd := Wd) (S := S) (w := w) (al := alF m F) m (fun _ => true) m 0 0 0 (-1, -1) (Int.le_refl _) with e | e
  · have e : bsF m B T Wd S w F = (-1, -1) := e
    rw [e]; exact Or.inl rfl
  · exact Or.inr e
theorem cp13 (μ : Mm) : X0_copy 13 5 μ = some (0, cpC 13 5 μ) := by
  unfold X0_copy cpC cpA sF
  rw [if_pos (by decide)]
  try dsimp only
  rw [if_pos (by decide)]
  rw [if_pos (by decide)]
  simp only [sM_a (show (5 : Nat) ≠ 13 by decide), cA_o (show (5 : Nat) ≠ 16 by decide), cA_o (show (5 : Nat) ≠ 15 by decide), cA_o (show (5 : Nat) ≠ 14 by decide)]
/-- all but what is altered by hand for a while -/
def nearM (μ ξ : Mm) : Prop := ∀ k j, ¬ scr k j → ¬ scrM k j → k ≠ 82 → k ≠ 86 → ξ k j = μ k j
theorem nearM_p {μ ξ : Mm} (e : nearM μ ξ) {p : Nat} {L : List (Int × Int)} {H : Option (List (Cd × Cd))} (hM : hasM μ p 0 L) (hH : HL μ H) : hasM ξ p 0 L ∧ HL ξ H ∧ ξ 70 28 = μ 70 28 ∧ ξ 70 31 = μ 70 31 :=
  ⟨⟨by rw [e 85 _ (by unfold scr; omega) (by unfold scrM; omega) (by decide) (by decide)]; exact hM.1, fun i hi => by rw [e 83 _ (by unfold scr; omega) (by unfold scrM; omega) (by decide) (by decide), e 84 _ (by unfold scr; omega) (by unfold scrM; omega) (by decide) (by decide)]; exact hM.2 i hi⟩, HL_g (e 70 32 (by unfold scr; omega) (by unfold scrM; omega) (by decide) (by decide)) (fun k j h1 h2 => e k j (by unfold scr; omega) (by unfold scrM; omega) (by omega) (by omega)) (fun k j h1 h2 => e k j (by unfold scr; omega) (by unfold scrM; omega) (by omega) (by omega)) hH, e 70 28 (by unfold scr; omega) (by unfold scrM; omega) (by decide) (by decide), e 70 31 (by unfold scr; omega) (by unfold scrM; omega) (by decide) (by decide)⟩
/-- the PLAY p as it is kept, and its TIMES -/
def Pk (μ : Mm) (p : Nat) (L : List (Int × Int)) (T : Nat → Int) : Prop := p ≤ 4 ∧ (p : Int) < μ 70 28 ∧ 1 ≤ L.length ∧ L.length ≤ 8 ∧ plOK L ∧ hasP μ (18 + 3 * p) 0 L ∧ hasM μ p 0 L ∧ ∃ H, HL μ H ∧ ∀ k, T k = tmF H (μ 70 31) L k
theorem Pk_of {μ : Mm} (hI : Inv μ) {p : Nat} (hp : (p : Int) < μ 70 28) : ∃ L T, Pk μ p L T := by
  obtain ⟨p4, p15, L, l1, l2, l3, l4, l5⟩ := inv_play hI hp
  obtain ⟨H, hH⟩ := inv_HL hI
  exact ⟨L, tmF H (μ 70 31) L, p4, hp, l1, l2, l5, l3, l4, H, hH, fun _ => rfl⟩
/-- BEST of a PLAY as if the CELLAR were so -/
noncomputable def asV (L : List (Int × Int)) (T : Nat → Int) (O : Nat → Prop) (Q : Nat → Int) (s : Nat) (W : Nat → Int) (S : Int) : Int := (bsF L.length (bW O Q s (lets L) L.length) T (fun k => W (lets L k)) S 0 0).2
def okWS (W : Nat → Int) (S : Int) : Prop := (1 ≤ S ∧ S ≤ 9) ∧ ∀ c, c < 8 → 1 ≤ W c ∧ W c ≤ 30
section AV
variable {O : Nat → Prop} {Q : Nat → Int} {s : Nat} {W : Nat → Int} {S : Int} {L : List (Int × Int)} {T : Nat → Int} {μ : Mm} {p : Nat}
theorem Pk_T (h : Pk μ p L T) : ∀ k, k < L.length → 0 ≤ T k ∧ T k ≤ 1099 := by
  obtain ⟨_, _, _, _, hL, _, _, H, _, hT⟩ := h
  intro k hk
  rw [hT k]
  exact tm_c hL hk
theorem asJ (h : Pk μ p L T) (hG : Cg O Q s) (hW : okWS W S) : JOK L.length (bW O Q s (lets L) L.length) T (fun k => W (lets L k)) S := by
  have hT := Pk_T h
  obtain ⟨_, _, l1, l8, hL, _⟩ := h
  exact bW_J hG (fun k hk => (lets_e hL hk).2) l1 l8 hW.1 hT hW.2
theorem asC (h : Pk μ p L T) (hG : Cg O Q s) (hW : okWS W S) {ν : Mm} (e : sameK μ ν) (hT : TrC 13 ν O Q s W S) (hTi : ∀ k, k < L.length → ν 50 k = T k) : ∃ ν', fw Wlt ν ν' ∧ X10_leastInTrial (p : Int) ν = some (asV L T O Q s W S, ν') := by
  have hJ := asJ h hG hW
  obtain ⟨p4, _, l1, l8, hL, hP, _, _⟩ := h
  have n1 : ∀ k j, ¬ scr k j → ν k j = μ k j := e
  exact litC l8 hL p4 ⟨by rw [n1 _ _ (by unfold scr; omega)]; exact hP.1, fun i hi => by rw [n1 _ _ (by unfold scr; omega), n1 _ _ (by unfold scr; omega)]; exact hP.2 i hi⟩ hG hT hTi hJ
theorem asM (h : Pk μ p L T) (hG : Cg O Q s) (hW : okWS W S) {ξ : Mm} (e : nearM μ ξ) (hT : TrM ξ O Q s W S) : ∃ ξ', X11_leastNow (p : Int) ξ = some (asV L T O Q s W S, ξ') ∧ Sm ξ ξ' := by
  have hJ := asJ h hG hW
  obtain ⟨p4, hp, l1, l8, hL, _, hM, H, hH, hTT⟩ := h
  obtain ⟨g1, g2, g3, g4⟩ := nearM_p e hM hH
  exact lnM l8 hL (by rw [g3]; exact hp) g1 g2 hG hT (fun k _ => by rw [g4]; exact hTT k) hJ
theorem asV_n : asV L T O Q s W S = -1 ∨ 0 ≤ asV L T O Q s W S := bsV
end AV
