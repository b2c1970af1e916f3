/-! READY: a PLAY's job laid out, in both alike -/
def JobC (l0 : Nat) (ν : Mm) (m : Nat) (B : Nat → Nat → Int) (T Wd : Nat → Int) (cr : Nat → Nat) (S : Int) : Prop := ν l0 5 = (m : Int) ∧ ν l0 6 = S ∧ (∀ k, k < m → ν (l0 + 1) k = ((cr k : Nat) : Int) ∧ ν (l0 + 2) k = T k ∧ ν (l0 + 3) k = Wd k) ∧ (∀ a b, a < m → b < m → ν (l0 + 4) (8 * a + b) = B a b) ∧ ∀ b, b < m → ν (l0 + 4) (64 + b) = B m b
def JobM (ξ : Mm) (m : Nat) (B : Nat → Nat → Int) (T Wd : Nat → Int) (S : Int) : Prop := ξ 70 37 = (m : Int) ∧ ξ 70 38 = S ∧ (∀ k, k < m → ξ 88 k = T k ∧ ξ 90 k = Wd k) ∧ ∀ a b, a ≤ m → b < m → ξ 89 (8 * a + b) = B a b
def lets (L : List (Int × Int)) (k : Nat) : Nat := (L.getD k (0, 0)).1.toNat
theorem lets_e {L : List (Int × Int)} (h : plOK L) {k : Nat} (hk : k < L.length) : (L.getD k (0, 0)).1 = ((lets L k : Nat) : Int) ∧ lets L k < 8 := by
  have := plOK_at h hk
  unfold lets
  omega
theorem Kc_pl {μ : Mm} {l0 A W s g : Nat} (h : Kc μ l0 A W s g) {c : Nat} (hc : c < 8) : μ (l0 + 2) c = -1 ∨ ∃ p : Nat, p < 60 ∧ μ (l0 + 2) c = (p : Int) ∧ isP μ p ∧ μ A p = 3 + (c : Int) := by
  have h4 := h.2.2.2.1 c hc
  by_cases z : μ (l0 + 2) c = -1
  · exact Or.inl z
  · have e : μ (l0 + 2) c = (((μ (l0 + 2) c).toNat : Nat) : Int) := by omega
    have k := (h.2.2.1 c hc (μ (l0 + 2) c).toNat (by omega)).mpr e
    exact Or.inr ⟨(μ (l0 + 2) c).toNat, by omega, e, k.1, k.2⟩
theorem Kc_PlM {μ : Mm} {l0 W s g : Nat} (h : Kc μ l0 82 W s g) : PlM μ (μ (l0 + 2)) := fun c hc => by
  rcases Kc_pl h hc with z | ⟨p, h1, h2, h3, h4⟩
  · refine Or.inl ⟨z, fun p hp ip e => ?_⟩
    have := (h.2.2.1 c hc p hp).mp ⟨ip, e⟩
    omega
  · exact Or.inr ⟨p, h1, h2, h3, h4⟩
theorem Kc_pc {μ : Mm} (hB : Bm μ) {l0 W s g : Nat} (h : Kc μ l0 82 W s g) : ∀ c, c < 8 → μ (l0 + 2) c = -1 ∨ ∃ p : Nat, μ (l0 + 2) c = (p : Int) ∧ opC l0 μ p := fun c hc => by
  rcases Kc_pl h hc with z | ⟨p, h1, h2, h3, h4⟩
  · exact Or.inl z
  · exact Or.inr ⟨p, h2, (Cp_op hB h.1 p).mpr ⟨h1, h3, by omega⟩⟩
/-- the job of the class, ready in the CELLAR l1, all but the TIMES -/
theorem readyC {l1 : Nat} (h1 : kD l1 = (10, 9)) {μ : Mm} (hB : Bm μ) (hK : Kc μ l1 82 86 30 31) {s : Nat} (hs : s < 60) (is : isP μ s) (es : μ 82 s = 2) {p : Nat} (hp : p ≤ 4) {L : List (Int × Int)} (hl8 : L.length ≤ 8) (hP : hasP μ (18 + 3 * p) 0 L) (hL : plOK L) : ∃ ν, X1_prepare 48 l1 (18 + 3 * p) μ = some (0, ν) ∧ fw (Wj 48) μ ν ∧ ν 48 5 = (L.length : Int) ∧ ν 48 6 = μ 70 30 ∧ (∀ k, k < L.length → ν 49 k = ((lets L k : Nat) : Int) ∧ ν 51 k = μ (l1 + 3) (lets L k)) ∧ (∀ a b, a < L.length → b < L.length → RWy (opM μ) (μ (l1 + 2) (lets L a)) (μ (l1 + 2) (lets L b)) (ν 52 (8 * a + b))) ∧ ∀ b, b < L.length → RWy (opM μ) (s : Int) (μ (l1 + 2) (lets L b)) (ν 52 (64 + b)) := by
  have e3 : μ l1 3 = (s : Int) := (hK.2.1 s hs).mp ⟨is, es⟩
  have hk : ∀ k, k < L.length → μ (18 + 3 * p + 1) k = ((lets L k : Nat) : Int) := fun k hk => by
    have := (hP.2 k hk).1
    rw [Nat.zero_add] at this
    rw [this, (lets_e hL hk).1]
  obtain ⟨ν, g1, g2, g3, g4, g5, g6, g7⟩ := prepC (l0 := 48) (by decide) h1 (kD_pl p (by omega)) (m := L.length) hl8 (cr := lets L) (fun k hk => (lets_e hL hk).2) (by rw [hP.1, Nat.zero_add]) hk (Kc_pc hB hK) (by
    rw [e3]
    exact Or.inr ⟨s, rfl, (Cp_op hB hK.1 s).mpr ⟨hs, is, by omega⟩⟩)
  have h7 : μ l1 7 = μ 70 30 := hK.2.2.2.2.2.2.2.1
  refine ⟨ν, g1, g2, g3, by rw [g4, h7], g5, fun a b ha hb => RD_c (Cp_op hB hK.1) (g6 a b ha hb), fun b hb => ?_⟩
  have := g7 b hb
  rw [e3] at this
  exact RD_c (Cp_op hB hK.1) this
theorem lth_c {μ ν : Mm} (e1 : ν 0 17 = μ 0 17) (e2 : ν 0 16 = μ 0 16) : X10_lawThatHolds ν = (X10_lawThatHolds μ).map (fun q => (q.1, ν)) := by
  unfold X10_lawThatHolds aL
  rw [e1, e2]
  by_cases c1 : μ 0 17 < 0
  · rw [if_pos c1, if_pos c1]; rfl
  · rw [if_neg c1, if_neg c1]
    by_cases c2 : μ 0 16 ≤ μ 0 17
    · rw [if_pos c2, if_pos c2]; rfl
    · rw [if_neg c2, if_neg c2]
      by_cases c3 : ((aN 36 : Nat) : Int) ≤ μ 0 17
      · rw [if_pos c3, if_pos c3]; rfl
      · rw [if_neg c3, if_neg c3]
        by_cases c4 : 0 ≤ μ 0 17 ∧ μ 0 17 < ((aN 36 : Nat) : Int)
        · rw [if_pos c4, if_pos c4]; rfl
        · rw [if_neg c4, if_neg c4]; rfl
theorem layC {μ : Mm} (hI : Inv μ) (h23 : μ 70 23 ≠ 0) {p : Nat} (hp : (p : Int) < μ 70 28) {L : List (Int × Int)} (hl8 : L.length ≤ 8) (hP : hasP μ (18 + 3 * p) 0 L) (hL : plOK L) {H : Option (List (Cd × Cd))} (hH : HL μ H) {s : Nat} (hs : s < 60) (is : isP μ s) (es : μ 82 s = 2) : ∃ ν, X10_lay (p : Int) μ = some (1, ν) ∧ fw (fun k j => Wj 48 k j ∨ Wt k j) μ ν ∧ ν 48 5 = (L.length : Int) ∧ ν 48 6 = μ 70 30 ∧ (∀ k, k < L.length → ν 49 k = ((lets L k : Nat) : Int) ∧ ν 50 k = tmF H (μ 70 31) L k ∧ ν 51 k = μ 8 (lets L k)) ∧ (∀ a b, a < L.length → b < L.length → RWy (opM μ) (μ 7 (lets L a)) (μ 7 (lets L b)) (ν 52 (8 * a + b))) ∧ ∀ b, b < L.length → RWy (opM μ) (s : Int) (μ 7 (lets L b)) (ν 52 (64 + b)) := by
  have hp4 : p ≤ 4 := by
    have := (hI.2.1.1 70 28 (by decide)).2
    have : μ 70 28 ≤ 5 := this
    omega
  have hK := hI.2.2.2.2.2.1
  have h31 : 0 ≤ μ 70 31 ∧ μ 70 31 ≤ 99 := hI.2.1.1 70 31 (by decide)
  have h58 : μ 5 8 = μ 70 31 := hK.2.2.2.2.2.2.2.2.1
  have a17 : ∀ f : Nat → Rs, aL 17 (p : Int) f = f (18 + 3 * p) := fun f => by
    unfold aL
    rw [if_pos (by show (0 : Int) ≤ (p : Int) ∧ (p : Int) < 5; omega), Int.toNat_natCast]
    rfl
  obtain ⟨ν1, g1, g2, g3, g4, g5, g6, g7⟩ := readyC (l1 := 5) (by decide) hI.2.1.1 hK hs is es hp4 hl8 hP hL
  have n1 : ∀ k j, ¬ Wj 48 k j → ν1 k j = μ k j := g2
  have hH1 : HL ν1 H := by
    rcases hH with ⟨h1, h2⟩ | ⟨q, m, LW, q1, q2, q3, q4, q5, q6, q7, q8⟩
    · exact Or.inl ⟨by rw [n1 70 32 (by unfold Wj fW; omega)]; exact h1, h2⟩
    · have eb : ∀ j, ν1 (38 + 2 * q) j = μ (38 + 2 * q) j := fun j => n1 _ j (by unfold Wj fW; omega)
      exact Or.inr ⟨q, m, LW, q1, by rw [n1 70 32 (by unfold Wj fW; omega)]; exact q2, q3, q4, by rw [n1 _ _ (by unfold Wj fW; omega)]; exact q5, fun j hj => by rw [eb]; exact q6 j hj, by rw [lawS_congr eb]; exact q7, rows_agr (agr_of _ (fun k j h1 h2 => n1 k j (by unfold Wj fW; omega))) _ _ _ q8⟩
  have hP1 : hasP ν1 (18 + 3 * p) 0 L := ⟨by rw [n1 _ _ (by unfold Wj fW; omega)]; exact hP.1, fun i hi => by rw [n1 _ _ (by unfold Wj fW; omega), n1 _ _ (by unfold Wj fW; omega)]; exact hP.2 i hi⟩
  obtain ⟨ν2, f1, f2, f3⟩ := fillC hH1 (kD_pl p (by omega)) hP1 hl8 hL h31
  have hcc : hC ν1 = hC μ := by unfold hC; rw [n1 70 32 (by unfold Wj fW; omega)]
  have hld : X10_lawThatHolds ν1 = some (hC μ, ν1) := by
    rw [lth_c (n1 0 17 (by unfold Wj fW; omega)) (n1 0 16 (by unfold Wj fW; omega)), holds_eq hI]
    rfl
  have o2 : ∀ k j, ¬ Wt k j → ν2 k j = ν1 k j := f2
  refine ⟨ν2, ?_, fun k j hn => by rw [o2 k j (fun z => hn (Or.inr z)), n1 k j (fun z => hn (Or.inl z))], by rw [o2 48 5 (by unfold Wt; omega)]; exact g3, by rw [o2 48 6 (by unfold Wt; omega)]; exact g4, fun k hk => ⟨by rw [o2 49 k (by unfold Wt; omega)]; exact (g5 k hk).1, f3 k hk, by rw [o2 51 k (by unfold Wt; omega)]; exact (g5 k hk).2⟩, fun a b ha hb => by rw [o2 52 _ (by unfold Wt; omega)]; exact g6 a b ha hb, fun b hb => by rw [o2 52 _ (by unfold Wt; omega)]; exact g7 b hb⟩
  unfold X10_lay
  rw [stands_5 hI, if_neg h23, bd_some, if_neg (by decide), isPlC hI, b2_t ⟨by omega, hp⟩, bd_some, if_neg (by decide), a17, g1, bd_some, a17, hld, bd_some, n1 5 8 (by unfold Wj fW; omega), h58]
  rw [hcc] at f1
  rw [f1, bd_some]
theorem lay_no {μ : Mm} (hI : Inv μ) {a : Int} (h : μ 70 23 = 0 ∨ ¬ (0 ≤ a ∧ a < μ 70 28)) : X10_lay a μ = some (0, μ) := by
  unfold X10_lay
  rw [stands_5 hI]
  by_cases c : μ 70 23 = 0
  · rw [if_pos c, bd_some, if_pos rfl]
  · rw [if_neg c, bd_some, if_neg (by decide), isPlC hI, b2_f (h.resolve_left c), bd_some, if_pos rfl]
theorem rdy_no {μ : Mm} (hB : Bm μ) {a : Int} (h : μ 70 23 = 0 ∨ ¬ (0 ≤ a ∧ a < μ 70 28)) : X11_isReady a μ = some (0, μ) := by
  unfold X11_isReady
  by_cases c : μ 70 23 = 0
  · rw [if_pos c]
  · rw [if_neg c, isPlM hB, b2_f (h.resolve_left c), bd_some, if_pos rfl]
/-- the reference's, from any memory in which l1 is the CELLAR -/
theorem readyM {ν : Mm} (hB : Bm ν) (hU : UQ ν 82) {Q : Nat → Int} (hQ : PlM ν Q) (h23 : ν 70 23 ≠ 0) {p : Nat} (hp : (p : Int) < ν 70 28) {L : List (Int × Int)} (hl8 : L.length ≤ 8) (hM : hasM ν p 0 L) (hL : plOK L) {H : Option (List (Cd × Cd))} (hH : HL ν H) {s : Nat} (hs : s < 60) (is : isP ν s) (es : ν 82 s = 2) : ∃ ξ, X11_isReady (p : Int) ν = some (1, ξ) ∧ Sm ν ξ ∧ ξ 70 37 = (L.length : Int) ∧ ξ 70 38 = ν 70 30 ∧ (∀ k, k < L.length → ξ 88 k = tmF H (ν 70 31) L k ∧ ξ 90 k = ν 86 (lets L k)) ∧ ∀ a b, a ≤ L.length → b < L.length → RWy (opM ν) (if a = L.length then (s : Int) else Q (lets L a)) (Q (lets L b)) (ξ 89 (8 * a + b)) := by
  have hb28 : 0 ≤ ν 70 28 ∧ ν 70 28 ≤ 5 := hB 70 28 (by decide)
  have hp4 : p ≤ 4 := by omega
  have h31 : 0 ≤ ν 70 31 ∧ ν 70 31 ≤ 99 := hB 70 31 (by decide)
  have h30 : 1 ≤ ν 70 30 ∧ ν 70 30 ≤ 9 := hB 70 30 (by decide)
  obtain ⟨ν1, g1, g2, g3, g4⟩ := layT hB hH hp4 hM hl8 hL h31
  have n1 : ∀ k j, ¬ Wm k j → ν1 k j = ν k j := g3
  have o : ∀ q, opM ν1 q ↔ opM ν q := fun q => by
    unfold opM isP
    rw [n1 70 23 (by unfold Wm; omega), n1 70 24 (by unfold Wm; omega), n1 82 q (by unfold Wm; omega)]
  have hU1 : UQ ν1 82 := UQ_congr hU (n1 70 23 (by unfold Wm; omega)) (n1 70 24 (by unfold Wm; omega)) (fun j => n1 82 j (by unfold Wm; omega))
  have hQ1 := PlM_c (fun j => n1 82 j (by unfold Wm; omega)) (n1 70 23 (by unfold Wm; omega)) (n1 70 24 (by unfold Wm; omega)) hQ
  have e85 : ν1 85 p = (L.length : Int) := by rw [n1 85 p (by unfold Wm; omega), hM.1, Nat.zero_add]
  have e83 : ∀ k, k < L.length → ν1 83 (8 * p + k) = ((lets L k : Nat) : Int) := fun k hk => by
    have := (hM.2 k hk).1
    rw [Nat.zero_add] at this
    rw [n1 83 _ (by unfold Wm; omega), this, (lets_e hL hk).1]
  have is1 : isP ν1 s := (isP_congr (n1 70 23 (by unfold Wm; omega)) (n1 70 24 (by unfold Wm; omega)) s).mpr is
  have es1 : ν1 82 s = 2 := by rw [n1 82 s (by unfold Wm; omega)]; exact es
  obtain ⟨ξ, x1, x2, x3, x4, x5, x6, x7⟩ := layM hp4 hl8 (cr := lets L) (fun k hk => (lets_e hL hk).2) g2 hU1 hQ1 e85 e83 (s0 := (s : Int)) (by_ := ν 70 30) ⟨by omega, by omega⟩ (Or.inr ⟨s, rfl, hs, is1, by omega⟩)
  refine ⟨ξ, ?_, ⟨x2, fun k j hn => ?_⟩, x4, x5, fun k hk => ⟨by rw [x3 88 k (by unfold Wl; omega)]; exact g4 k hk, by rw [x6 k hk, n1 86 _ (by unfold Wm; omega)]⟩, fun a b ha hb => RD_c o (x7 a b ha hb)⟩
  · unfold X11_isReady
    rw [if_neg h23, isPlM hB, b2_t ⟨by omega, hp⟩, bd_some, if_neg (by decide), g1, bd_some, plc_at hU1 hs is1 es1 (by decide), bd_some, n1 70 30 (by unfold Wm; omega), x1, bd_some]
  · rw [x3 k j (fun z => hn (by unfold Wl at z; unfold scrM; omega)), n1 k j (fun z => hn (Wm_scrM k j z))]
/-- what a job is bound to -/
def JOK (m : Nat) (B : Nat → Nat → Int) (T Wd : Nat → Int) (S : Int) : Prop := 1 ≤ m ∧ m ≤ 8 ∧ (1 ≤ S ∧ S ≤ 9) ∧ (∀ a b, a ≤ m → b < m → -1 ≤ B a b ∧ B a b ≤ 59) ∧ (∀ k, k < m → 0 ≤ T k ∧ T k ≤ 1099) ∧ ∀ k, k < m → 1 ≤ Wd k ∧ Wd k ≤ 60
theorem tm_c {H : Option (List (Cd × Cd))} {n : Int} {L : List (Int × Int)} (hL : plOK L) {k : Nat} (hk : k < L.length) : 0 ≤ tmF H n L k ∧ tmF H n L k ≤ 1099 := by
  have h := tm_b (H := H) (n := n) hL hk
  omega
theorem RD_hi {μ : Mm} (hB : Bm μ) (hC : Cp 5 μ) {sa pb v : Int} (h1 : sa = -1 ∨ ∃ s : Nat, sa = (s : Int) ∧ opM μ s) (h2 : pb = -1 ∨ (0 ≤ pb ∧ pb < 60)) (h : RWy (opM μ) sa pb v) : -1 ≤ v ∧ v ≤ 59 := by
  refine ⟨RD_b (by
    rcases h1 with z | ⟨s, z1, z2⟩
    · exact Or.inl z
    · have := z2.1
      exact Or.inr (by omega)) h2 h, ?_⟩
  rcases h1 with z | ⟨s, z1, z2⟩
  · rw [h.1 z]; decide
  · rcases h2 with y | y
    · rw [h.2.1 y]; decide
    · obtain ⟨f, f1, f2⟩ := h.2.2 s pb.toNat z1 (by omega)
      rw [f2]
      have e := fun q => (Cp_op hB hC q).symm
      exact ds_hi (l0 := 5) (by decide) ((Cp_op hB hC s).mpr z2) (ds_c e f1) (by omega)
theorem lv_tr {O : Nat → Prop} {s a p : Nat} (h : lv O s a p) : ∀ b q, lv O p b q → lv O s (a + b) q := by
  intro b
  induction b with
  | zero => intro q hq; have hq : q = p := hq; rw [hq]; exact h
  | succ b ih =>
    rintro q ⟨h1, r, h2, h3⟩
    exact ⟨h1, r, ih r h2, h3⟩
theorem RD_tr {O : Nat → Prop} {sa pa pb x y z : Int} (hs : sa = -1 ∨ (0 ≤ sa ∧ sa < 60)) (ha : pa = -1 ∨ (0 ≤ pa ∧ pa < 60)) (hb : pb = -1 ∨ (0 ≤ pb ∧ pb < 60)) (h1 : RWy O sa pa x) (h2 : RWy O pa pb y) (h3 : RWy O sa pb z) (hx : x ≠ -1) (hy : y ≠ -1) : z ≠ -1 := by
  have hs' : 0 ≤ sa ∧ sa < 60 := hs.resolve_left (fun e => hx (h1.1 e))
  have ha' : 0 ≤ pa ∧ pa < 60 := ha.resolve_left (fun e => hx (h1.2.1 e))
  have hb' : 0 ≤ pb ∧ pb < 60 := hb.resolve_left (fun e => hy (h2.2.1 e))
  obtain ⟨f, f1, f2⟩ := h1.2.2 sa.toNat pa.toNat (by omega) (by omega)
  obtain ⟨g, g1, g2⟩ := h2.2.2 pa.toNat pb.toNat (by omega) (by omega)
  obtain ⟨e, e1, e2⟩ := h3.2.2 sa.toNat pb.toNat (by omega) (by omega)
  rcases f1 pa.toNat (by omega) with ⟨z1, _⟩ | ⟨n, _, z2, _⟩
  · exact absurd (by rw [f2, z1]) hx
  · rcases g1 pb.toNat (by omega) with ⟨z3, _⟩ | ⟨n', _, z4, _⟩
    · exact absurd (by rw [g2, z3]) hy
    · rcases e1 pb.toNat (by omega) with ⟨_, z6⟩ | ⟨n'', z5, _, _⟩
      · exact absurd (lv_tr z2 n' _ z4) (z6 _)
      · rw [e2, z5]; omega
/-- what can't be come to from START, can't be come to from where it can -/
def TRB (m : Nat) (B : Nat → Nat → Int) : Prop := ∀ a b, a < m → b < m → B m a ≠ -1 → B a b ≠ -1 → B m b ≠ -1
/-- the reference lays the job anew, by another STOOP -/
def RLY (μ : Mm) (p m : Nat) (B : Nat → Nat → Int) (T Wd : Nat → Int) : Prop := ∀ ν', Inv ν' → (∀ k j, ¬ scr k j → ¬ scrM k j → ν' k j = μ k j) → ∀ ξ1 S1, Sm ν' ξ1 → JobM ξ1 m B T Wd S1 → ∀ by_, 1 ≤ by_ ∧ by_ ≤ 9 → ∃ v ξ2, X11_placeOf 2 ξ1 = some (v, ξ1) ∧ X11_lay (p : Int) v by_ ξ1 = some (0, ξ2) ∧ Sm ν' ξ2 ∧ JobM ξ2 m B T Wd by_
/-- a PLAY is ready in both: the same job -/
theorem readyW {μ : Mm} (hI : Inv μ) (h23 : μ 70 23 ≠ 0) {p : Nat} (hp : (p : Int) < μ 70 28) : ∃ (L : List (Int × Int)) (B : Nat → Nat → Int) (T Wd : Nat → Int) (S : Int) (ν : Mm), JOK L.length B T Wd S ∧ (((∀ k, k + 1 < L.length → T k ≤ T (k + 1)) ∧ TRB L.length B ∧ RLY μ p L.length B T Wd) ∧ ∀ k, k < L.length → Wd k ≤ 30 ∧ T k ≤ 1098) ∧ (∃ H, HL μ H ∧ plOK L ∧ hasP μ (18 + 3 * p) 0 L ∧ hasM μ p 0 L) ∧ X10_lay (p : Int) μ = some (1, ν) ∧ St scr μ ν ∧ JobC 48 ν L.length B T Wd (lets L) S ∧ (∀ k, k < L.length → lets L k < 8 ∧ μ 83 (8 * p + k) = ((lets L k : Nat) : Int)) ∧ ∀ ν', Inv ν' → (∀ k j, ¬ scr k j → ¬ scrM k j → ν' k j = μ k j) → ∃ ξ, X11_isReady (p : Int) ν' = some (1, ξ) ∧ Sm ν' ξ ∧ JobM ξ L.length B T Wd S := by
  obtain ⟨p4, p15, L, l1, l2, l3, l4, l5⟩ := inv_play hI hp
  obtain ⟨H, hH⟩ := inv_HL hI
  obtain ⟨s, s1, s2, s3, s4⟩ := strt hI h23
  have hK := hI.2.2.2.2.2.1
  have hB := hI.2.1.1
  obtain ⟨ν, g1, g2, g3, g4, g5, g6, g7⟩ := layC hI h23 hp l2 l3 l5 hH s1 s2 s3
  have t1 := t_X10_lay (W := scr) (μs := μ) (hW := fun _ _ h => h) (hp_l1 := (show -2147483648 ≤ (p : Int) ∧ (p : Int) ≤ 2147483647 by omega)) (St_rf hI.1)
  rw [g1, wp_some] at t1
  have hw : ∀ c, c < 8 → μ 8 c = μ 86 c := fun c hc => hK.2.2.2.2.2.2.2.2.2 h23 c hc
  have hpl : ∀ c, c < 8 → μ 7 c = -1 ∨ (0 ≤ μ 7 c ∧ μ 7 c < 60) := fun c hc => by
    have h := hK.2.2.2.1 c hc
    have h : -1 ≤ μ 7 c ∧ μ 7 c ≤ 59 := h
    omega
  have hpo : ∀ c, c < 8 → μ 7 c = -1 ∨ ∃ q : Nat, μ 7 c = (q : Int) ∧ opM μ q := fun c hc => by
    rcases Kc_pl hK hc with z | ⟨q, z1, z2, z3, z4⟩
    · exact Or.inl z
    · exact Or.inr ⟨q, z2, z1, z3, by omega⟩
  have hC := Kc_Cp hK
  refine ⟨L, fun a b => if a = L.length then ν 52 (64 + b) else ν 52 (8 * a + b), tmF H (μ 70 31) L, fun k => μ 8 (lets L k), μ 70 30, ν, ⟨l1, l2, hB 70 30 (by decide), fun a b ha hb => ?_, fun k hk => tm_c l5 hk, fun k hk => ?_⟩, ⟨⟨fun k hk => pv_mono (k + 1), fun a b ha hb => ?_, ?_⟩, fun k hk => ⟨(hI.1.1 8 (lets L k) (by decide)).2, (tm_b l5 hk).2⟩⟩, ⟨H, hH, l5, l3, l4⟩, g1, t1.1, ⟨g3, g4, g5, fun a b ha hb => (show ν 52 (8 * a + b) = if a = L.length then ν 52 (64 + b) else ν 52 (8 * a + b) by rw [if_neg (by omega)]), fun b hb => (show ν 52 (64 + b) = if L.length = L.length then ν 52 (64 + b) else ν 52 (8 * L.length + b) by rw [if_pos rfl])⟩, fun k hk => ⟨(lets_e l5 hk).2, by
    have := (l4.2 k hk).1
    rw [Nat.zero_add] at this
    rw [this, (lets_e l5 hk).1]⟩, fun ν' hI' e => ?_⟩
  · have hb8 := (lets_e l5 hb).2
    by_cases c : a = L.length
    · show -1 ≤ (if a = L.length then ν 52 (64 + b) else ν 52 (8 * a + b)) ∧ (if a = L.length then ν 52 (64 + b) else ν 52 (8 * a + b)) ≤ 59
      rw [if_pos c]
      exact RD_hi hB hC (Or.inr ⟨s, rfl, s1, s2, by omega⟩) (hpl _ hb8) (g7 b hb)
    · show -1 ≤ (if a = L.length then ν 52 (64 + b) else ν 52 (8 * a + b)) ∧ (if a = L.length then ν 52 (64 + b) else ν 52 (8 * a + b)) ≤ 59
      rw [if_neg c]
      exact RD_hi hB hC (hpo _ (lets_e l5 (show a < L.length by omega)).2) (hpl _ hb8) (g6 a b (by omega) hb)
  · have h : 1 ≤ μ 8 (lets L k) ∧ μ 8 (lets L k) ≤ 30 := hI.1.1 8 (lets L k) (by decide)
    show 1 ≤ μ 8 (lets L k) ∧ μ 8 (lets L k) ≤ 60
    omega
  · show (if L.length = L.length then ν 52 (64 + a) else ν 52 (8 * L.length + a)) ≠ -1 → (if a = L.length then ν 52 (64 + b) else ν 52 (8 * a + b)) ≠ -1 → (if L.length = L.length then ν 52 (64 + b) else ν 52 (8 * L.length + b)) ≠ -1
    rw [if_pos rfl, if_neg (by omega), if_pos rfl]
    exact RD_tr (Or.inr (by omega)) (hpl _ (lets_e l5 ha).2) (hpl _ (lets_e l5 hb).2) (g7 a ha) (g6 a b ha hb) (g7 b hb)
  · intro ν' hI' e ξ1 S1 hS hMJ by_ hby
    have n0 : ∀ k j, 70 ≤ k → ¬ scrM k j → ξ1 k j = μ k j := fun k j hk hn => by rw [hS.2 k j hn, e k j (by unfold scr; omega) hn]
    have e23 := n0 70 23 (by decide) (by unfold scrM; omega)
    have e24 := n0 70 24 (by decide) (by unfold scrM; omega)
    have e82 : ∀ j, ξ1 82 j = μ 82 j := fun j => n0 82 j (by decide) (by unfold scrM; omega)
    have i : ∀ x, isP ξ1 x ↔ isP μ x := isP_congr e23 e24
    have hU1 : UQ ξ1 82 := UQ_congr hI.2.1.2.2.2.2.2.2.1 e23 e24 e82
    have hQ : PlM ξ1 (μ 7) := PlM_c e82 e23 e24 (Kc_PlM hK)
    have e85 : ξ1 85 p = (L.length : Int) := by rw [n0 85 p (by decide) (by unfold scrM; omega), l4.1, Nat.zero_add]
    have e83 : ∀ k, k < L.length → ξ1 83 (8 * p + k) = ((lets L k : Nat) : Int) := fun k hk => by
      have := (l4.2 k hk).1
      rw [Nat.zero_add] at this
      rw [n0 83 _ (by decide) (by unfold scrM; omega), this, (lets_e l5 hk).1]
    have is1 : isP ξ1 s := (i s).mpr s2
    have es1 : ξ1 82 s = 2 := by rw [e82]; exact s3
    have o : ∀ q, opM ξ1 q ↔ opM μ q := fun q => by
      unfold opM
      rw [i, e82]
    obtain ⟨ξ2, x1, x2, x3, x4, x5, x6, x7⟩ := layM p4 l2 (cr := lets L) (fun k hk => (lets_e l5 hk).2) hS.1 hU1 hQ e85 e83 (s0 := (s : Int)) (by_ := by_) ⟨by omega, by omega⟩ (Or.inr ⟨s, rfl, s1, is1, by omega⟩)
    refine ⟨(s : Int), ξ2, plc_at hU1 s1 is1 es1 (by decide), x1, ⟨x2, fun k j hn => by rw [x3 k j (fun z => hn (by unfold Wl at z; unfold scrM; omega)), hS.2 k j hn]⟩, x4, x5, fun k hk => ⟨by rw [x3 88 k (by unfold Wl; omega)]; exact (hMJ.2.2.1 k hk).1, ?_⟩, fun a b ha hb => ?_⟩
    · show ξ2 90 k = μ 8 (lets L k)
      rw [x6 k hk, n0 86 _ (by decide) (by unfold scrM; omega), hw _ (lets_e l5 hk).2]
    · have hb8 := (lets_e l5 hb).2
      have r := RD_c o (x7 a b ha hb)
      show ξ2 89 (8 * a + b) = if a = L.length then ν 52 (64 + b) else ν 52 (8 * a + b)
      by_cases c : a = L.length
      · rw [if_pos c] at r ⊢
        exact RD_u (Or.inr (by omega)) (hpl _ hb8) r (g7 b hb)
      · rw [if_neg c] at r ⊢
        exact RD_u (hpl _ (lets_e l5 (show a < L.length by omega)).2) (hpl _ hb8) r (g6 a b (by omega) hb)
  · have m0 : ∀ k j, 70 ≤ k → ¬ scrM k j → ν' k j = μ k j := fun k j hk hn => e k j (by unfold scr; omega) hn
    have i : ∀ x, isP ν' x ↔ isP μ x := isP_congr (m0 70 23 (by decide) (by unfold scrM; omega)) (m0 70 24 (by decide) (by unfold scrM; omega))
    have hQ : PlM ν' (μ 7) := PlM_c (fun j => m0 82 j (by decide) (by unfold scrM; omega)) (m0 70 23 (by decide) (by unfold scrM; omega)) (m0 70 24 (by decide) (by unfold scrM; omega)) (Kc_PlM hK)
    have hHν : HL ν' H := by
      rcases hH with ⟨h1, h2⟩ | ⟨q, m, LW, q1, q2, q3, q4, q5, q6, q7, q8⟩
      · exact Or.inl ⟨by rw [m0 70 32 (by decide) (by unfold scrM; omega)]; exact h1, h2⟩
      · have eb : ∀ j, ν' (38 + 2 * q) j = μ (38 + 2 * q) j := fun j => e _ j (by unfold scr; omega) (by unfold scrM; omega)
        exact Or.inr ⟨q, m, LW, q1, by rw [m0 70 32 (by decide) (by unfold scrM; omega)]; exact q2, q3, q4, by rw [e _ _ (by unfold scr; omega) (by unfold scrM; omega)]; exact q5, fun j hj => by rw [eb]; exact q6 j hj, by rw [lawS_congr eb]; exact q7, rows_agr (agr_of _ (fun k j h1 h2 => m0 k j (by omega) (by unfold scrM; omega))) _ _ _ q8⟩
    have hM : hasM ν' p 0 L := ⟨by rw [m0 85 p (by decide) (by unfold scrM; omega)]; exact l4.1, fun i hi => by rw [m0 83 _ (by decide) (by unfold scrM; omega), m0 84 _ (by decide) (by unfold scrM; omega)]; exact l4.2 i hi⟩
    obtain ⟨ξ, x1, x2, x3, x4, x5, x6⟩ := readyM hI'.2.1.1 hI'.2.1.2.2.2.2.2.2.1 hQ (by rw [m0 70 23 (by decide) (by unfold scrM; omega)]; exact h23) (by rw [m0 70 28 (by decide) (by unfold scrM; omega)]; exact hp) l2 hM l5 hHν s1 ((i s).mpr s2) (by rw [m0 82 s (by decide) (by unfold scrM; omega)]; exact s3)
    have o : ∀ q, opM ν' q ↔ opM μ q := fun q => by
      unfold opM
      rw [i, m0 82 q (by decide) (by unfold scrM; omega)]
    refine ⟨ξ, x1, x2, x3, by rw [x4, m0 70 30 (by decide) (by unfold scrM; omega)], fun k hk => ⟨?_, ?_⟩, fun a b ha hb => ?_⟩
    · have := (x5 k hk).1
      rw [m0 70 31 (by decide) (by unfold scrM; omega)] at this
      exact this
    · show ξ 90 k = μ 8 (lets L k)
      rw [(x5 k hk).2, m0 86 _ (by decide) (by unfold scrM; omega), hw _ (lets_e l5 hk).2]
    · have hb8 := (lets_e l5 hb).2
      have r := RD_c o (x6 a b ha hb)
      show ξ 89 (8 * a + b) = if a = L.length then ν 52 (64 + b) else ν 52 (8 * a + b)
      by_cases c : a = L.length
      · rw [if_pos c] at r ⊢
        exact RD_u (Or.inr (by omega)) (hpl _ hb8) r (g7 b hb)
      · rw [if_neg c] at r ⊢
        exact RD_u (hpl _ (lets_e l5 (show a < L.length by omega)).2) (hpl _ hb8) r (g6 a b (by omega) hb)
theorem ready {μ : Mm} (hI : Inv μ) (h23 : μ 70 23 ≠ 0) {p : Nat} (hp : (p : Int) < μ 70 28) : ∃ (L : List (Int × Int)) (B : Nat → Nat → Int) (T Wd : Nat → Int) (S : Int) (ν : Mm), JOK L.length B T Wd S ∧ (((∀ k, k + 1 < L.length → T k ≤ T (k + 1)) ∧ TRB L.length B ∧ RLY μ p L.length B T Wd) ∧ ∀ k, k < L.length → Wd k ≤ 30 ∧ T k ≤ 1098) ∧ (∃ H, HL μ H ∧ plOK L ∧ hasP μ (18 + 3 * p) 0 L ∧ hasM μ p 0 L) ∧ X10_lay (p : Int) μ = some (1, ν) ∧ St scr μ ν ∧ JobC 48 ν L.length B T Wd (lets L) S ∧ (∀ k, k < L.length → lets L k < 8 ∧ μ 83 (8 * p + k) = ((lets L k : Nat) : Int)) ∧ ∀ ν', Inv ν' → (∀ k j, ¬ scr k j → ν' k j = μ k j) → ∃ ξ, X11_isReady (p : Int) ν' = some (1, ξ) ∧ Sm ν' ξ ∧ JobM ξ L.length B T Wd S := by
  obtain ⟨L, B, T, Wd, S, ν, hJ, q1, q2, g1, g2, g3, g4, g5⟩ := readyW hI h23 hp
  exact ⟨L, B, T, Wd, S, ν, hJ, q1, q2, g1, g2, g3, g4, fun ν' hI' e => g5 ν' hI' (fun k j h _ => e k j h)⟩
