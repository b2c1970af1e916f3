/-! EXCHANGE -/
theorem TrC_k {ν ν' : Mm} {O : Nat → Prop} {Q : Nat → Int} {s : Nat} {W : Nat → Int} {S : Int} (h : TrC 13 ν O Q s W S) (e : ∀ k j, 13 ≤ k → k ≤ 16 → ν' k j = ν k j) : TrC 13 ν' O Q s W S := by
  obtain ⟨h1, h2, h3, h4, h5⟩ := h
  refine ⟨fun q => ?_, fun c hc => by rw [e _ _ (by omega) (by omega)]; exact h2 c hc, by rw [e _ _ (by omega) (by omega)]; exact h3, fun c hc => by rw [e _ _ (by omega) (by omega)]; exact h4 c hc, by rw [e _ _ (by omega) (by omega)]; exact h5⟩
  rw [← h1 q]
  unfold opC
  rw [e _ _ (by omega) (by omega)]
theorem TrM_Sm {ξ ξ' : Mm} {O : Nat → Prop} {Q : Nat → Int} {s : Nat} {W : Nat → Int} {S : Int} (h : TrM ξ O Q s W S) (hS : Sm ξ ξ') : TrM ξ' O Q s W S := by
  obtain ⟨h1, h2, h3, ⟨h4, h5, h6⟩, h7, h8, h9⟩ := h
  have n : ∀ k j, ¬ scrM k j → ξ' k j = ξ k j := hS.2
  have e82 : ∀ j, ξ' 82 j = ξ 82 j := fun j => n 82 j (by unfold scrM; omega)
  have e23 := n 70 23 (by unfold scrM; omega)
  have e24 := n 70 24 (by unfold scrM; omega)
  have i : ∀ x, isP ξ' x ↔ isP ξ x := isP_congr e23 e24
  refine ⟨Ir_of h1 hS, fun q => ?_, PlM_c e82 e23 e24 h3, ⟨h4, (i s).mpr h5, by rw [e82]; exact h6⟩, fun c hc => by rw [n 86 c (by unfold scrM; omega)]; exact h7 c hc, by rw [n 70 30 (by unfold scrM; omega)]; exact h8, by rw [e23]; exact h9⟩
  rw [← h2 q]
  unfold opM
  rw [i, e82]
theorem nearM_Sm {μ ξ ξ' : Mm} (h : nearM μ ξ) (hS : Sm ξ ξ') : nearM μ ξ' := fun k j h1 h2 h3 h4 => by rw [hS.2 k j h2, h k j h1 h2 h3 h4]
theorem Wj_scr : ∀ k j, Wj 48 k j → scr k j := fun k j h => by unfold Wj fW at h; unfold scr; omega
theorem Wsk_scr : ∀ k j, Wsk k j → scr k j := fun k j h => by unfold Wsk at h; unfold scr; omega
def tgV (v w : Int) : Int := if v = -1 then -1 else if w = -1 then -1 else iA v w
section TG
variable {μ : Mm} {O : Nat → Prop} {Q : Nat → Int} {s : Nat} {W : Nat → Int} {S : Int}
theorem fillK (hI : Inv μ) {p : Nat} {L : List (Int × Int)} {T T0 Wd : Nat → Int} (hPk : Pk μ p L T) {B : Nat → Nat → Int} {cr : Nat → Nat} {ν : Mm} (e : sameK μ ν) (hCJ : JobC 48 ν L.length B T0 Wd cr S) : ∃ ν', fw Wt ν ν' ∧ JobC 48 ν' L.length B T Wd cr S ∧ X10_lawThatHolds ν = some (hC μ, ν) ∧ X2_fillTimes (18 + 3 * p) (hC μ) (μ 70 31) 50 ν = some (0, ν') := by
  obtain ⟨p4, _, l1, l8, hL, hP, _, H, hH, hT⟩ := hPk
  have h31 : 0 ≤ μ 70 31 ∧ μ 70 31 ≤ 99 := hI.2.1.1 70 31 (by decide)
  have n1 : ∀ k j, ¬ scr k j → ν k j = μ k j := e
  have hH1 : HL ν H := HL_g (n1 70 32 (by unfold scr; omega)) (fun k j h1 h2 => n1 k j (by unfold scr; omega)) (fun k j h1 h2 => n1 k j (by unfold scr; omega)) hH
  have hP1 : hasP ν (18 + 3 * p) 0 L := ⟨by rw [n1 _ _ (by unfold scr; omega)]; exact hP.1, fun i hi => by rw [n1 _ _ (by unfold scr; omega), n1 _ _ (by unfold scr; omega)]; exact hP.2 i hi⟩
  obtain ⟨ν2, f1, f2, f3⟩ := fillC hH1 (kD_pl p (by omega)) hP1 l8 hL h31
  have hcc : hC ν = hC μ := by unfold hC; rw [n1 70 32 (by unfold scr; omega)]
  have hld : X10_lawThatHolds ν = some (hC μ, ν) := by
    rw [lth_c (n1 0 17 (by unfold scr; omega)) (n1 0 16 (by unfold scr; omega)), holds_eq hI]
    rfl
  rw [hcc] at f1
  have o2 : ∀ k j, ¬ Wt k j → ν2 k j = ν k j := f2
  exact ⟨ν2, f2, ⟨by rw [o2 48 5 (by unfold Wt; omega)]; exact hCJ.1, by rw [o2 48 6 (by unfold Wt; omega)]; exact hCJ.2.1, fun k hk => ⟨by rw [o2 49 k (by unfold Wt; omega)]; exact (hCJ.2.2.1 k hk).1, by rw [hT k]; exact f3 k hk, by rw [o2 51 k (by unfold Wt; omega)]; exact (hCJ.2.2.1 k hk).2.2⟩, fun a b ha hb => by rw [o2 52 _ (by unfold Wt; omega)]; exact hCJ.2.2.2.1 a b ha hb, fun b hb => by rw [o2 52 _ (by unfold Wt; omega)]; exact hCJ.2.2.2.2 b hb⟩, hld, f1⟩
theorem halfC (hI : Inv μ) {p : Nat} {L : List (Int × Int)} {T : Nat → Int} (hPk : Pk μ p L T) (hG : Cg O Q s) (hW : okWS W S) {ν : Mm} (e : sameK μ ν) (hT : TrC 13 ν O Q s W S) : ∃ ν', sameK μ ν' ∧ (∀ k j, 13 ≤ k → k ≤ 16 → ν' k j = ν k j) ∧ ∀ (K : Int → Mm → Rs), (aL 17 (p : Int) fun v1 => bd (X1_prepare 48 13 v1 ν) fun v3 μ4 => aL 17 (p : Int) fun v6 => bd (X10_lawThatHolds μ4) fun v8 μ9 => bd (X2_fillTimes v6 v8 (μ9 5 8) 50 μ9) fun v11 μ12 => bd (X10_leastLates μ12) fun v14 μ15 => K v14 μ15) = K (asV L T O Q s W S) ν' := by
  have hJ := asJ hPk hG hW
  obtain ⟨p4, _, l1, l8, hL, hP, _⟩ := id hPk
  have hK := hI.2.2.2.2.2.1
  have h58 : μ 5 8 = μ 70 31 := hK.2.2.2.2.2.2.2.2.1
  have n1 : ∀ k j, ¬ scr k j → ν k j = μ k j := e
  obtain ⟨ν1, g1, g2, g3⟩ := prepT (T := ν 50) (l1 := 13) (by decide) l8 hL p4 (ν := ν) ⟨by rw [n1 _ _ (by unfold scr; omega)]; exact hP.1, fun i hi => by rw [n1 _ _ (by unfold scr; omega), n1 _ _ (by unfold scr; omega)]; exact hP.2 i hi⟩ hG hT
  have c1 := g3 (fun k _ => g2 50 k (by unfold Wj fW; omega))
  have e1 : sameK μ ν1 := sameK_fw Wj_scr e g2
  obtain ⟨ν2, f2, c2, l2, x2⟩ := fillK hI hPk e1 c1
  have e2 : sameK μ ν2 := sameK_fw Wt_scr e1 f2
  obtain ⟨ν3, f3, k3, _⟩ := leastC hJ (bW_T hG (fun k hk => (lets_e hL hk).2)) c2
  refine ⟨ν3, sameK_fw Wsk_scr e2 f3, fun k j h1 h2 => by rw [f3 k j (by unfold Wsk; omega), f2 k j (by unfold Wt; omega), g2 k j (by unfold Wj fW; omega)], fun K => ?_⟩
  rw [a17_eq p4, g1, bd_some, a17_eq p4, l2, bd_some, e1 5 8 (by unfold scr; omega), h58, x2, bd_some, k3, bd_some]
  rfl
theorem togC (hI : Inv μ) {p1 p2 : Nat} {L1 L2 : List (Int × Int)} {T1 T2 : Nat → Int} (hP1 : Pk μ p1 L1 T1) (hP2 : Pk μ p2 L2 T2) (hG : Cg O Q s) (hW : okWS W S) {ν : Mm} (e : sameK μ ν) (hT : TrC 13 ν O Q s W S) : ∃ ν', sameK μ ν' ∧ X10_leastTogether (p1 : Int) (p2 : Int) ν = some (tgV (asV L1 T1 O Q s W S) (asV L2 T2 O Q s W S), ν') := by
  obtain ⟨ν1, e1, f1, k1⟩ := halfC hI hP1 hG hW e hT
  obtain ⟨ν2, e2, f2, k2⟩ := halfC hI hP2 hG hW e1 (TrC_k hT f1)
  refine ⟨ν2, e2, ?_⟩
  have h1 := k1 (fun v14 μ15 => aL 17 (p2 : Int) fun v17 => bd (X1_prepare 48 13 v17 μ15) fun v19 μ20 => aL 17 (p2 : Int) fun v22 => bd (X10_lawThatHolds μ20) fun v24 μ25 => bd (X2_fillTimes v22 v24 (μ25 5 8) 50 μ25) fun v27 μ28 => bd (X10_leastLates μ28) fun v30 μ31 => if v14 = (-1) then (some ((-1), μ31)) else (if v30 = (-1) then (some ((-1), μ31)) else (some (iA v14 v30, μ31))))
  have h2 := k2 (fun v30 μ31 => if asV L1 T1 O Q s W S = (-1) then (some ((-1), μ31)) else (if v30 = (-1) then (some ((-1), μ31)) else (some (iA (asV L1 T1 O Q s W S) v30, μ31))))
  have h0 : X10_leastTogether (p1 : Int) (p2 : Int) ν = if asV L1 T1 O Q s W S = (-1) then (some ((-1), ν2)) else (if asV L2 T2 O Q s W S = (-1) then (some ((-1), ν2)) else (some (iA (asV L1 T1 O Q s W S) (asV L2 T2 O Q s W S), ν2))) := h1.trans h2
  rw [h0]
  unfold tgV
  by_cases c1 : asV L1 T1 O Q s W S = -1
  · rw [if_pos c1, if_pos c1]
  · rw [if_neg c1, if_neg c1]
    by_cases c2 : asV L2 T2 O Q s W S = -1
    · rw [if_pos c2, if_pos c2]
    · rw [if_neg c2, if_neg c2]
theorem bothM {p1 p2 : Nat} {L1 L2 : List (Int × Int)} {T1 T2 : Nat → Int} (hP1 : Pk μ p1 L1 T1) (hP2 : Pk μ p2 L2 T2) (hG : Cg O Q s) (hW : okWS W S) {ξ : Mm} (e : nearM μ ξ) (hT : TrM ξ O Q s W S) : ∃ ξ', X11_bothNow (p1 : Int) (p2 : Int) ξ = some (tgV (asV L1 T1 O Q s W S) (asV L2 T2 O Q s W S), ξ') ∧ Sm ξ ξ' := by
  obtain ⟨ξ1, k1, f1⟩ := asM hP1 hG hW e hT
  obtain ⟨ξ2, k2, f2⟩ := asM hP2 hG hW (nearM_Sm e f1) (TrM_Sm hT f1)
  refine ⟨ξ2, ?_, ⟨f2.1, fun k j hn => by rw [f2.2 k j hn, f1.2 k j hn]⟩⟩
  unfold X11_bothNow tgV
  rw [k1, bd_some, k2, bd_some]
  by_cases c1 : asV L1 T1 O Q s W S = -1
  · rw [if_pos c1, if_pos c1]
  · rw [if_neg c1, if_neg c1]
    by_cases c2 : asV L2 T2 O Q s W S = -1
    · rw [if_pos c2, if_pos c2]
    · rw [if_neg c2, if_neg c2]
end TG
/-- where the CRANKS are, a and b exchanged -/
def exQ (μ : Mm) (a b d : Nat) : Int := if d = b then μ 7 a else if d = a then μ 7 b else μ 7 d
def exF (L0 : Int) (V : Nat → Int) : Nat → Int × Int
  | 0 => (0, L0)
  | k + 1 => if V k = -1 then exF L0 V k else if (exF L0 V k).2 = -1 then (10 * ((k / 8 : Nat) : Int) + ((k % 8 : Nat) : Int), V k) else if (exF L0 V k).2 ≤ V k then exF L0 V k else (10 * ((k / 8 : Nat) : Int) + ((k % 8 : Nat) : Int), V k)
theorem exF_skip {L0 : Int} {V : Nat → Int} {k : Nat} : ∀ d, (∀ j, j < d → V (k + j) = -1) → exF L0 V (k + d) = exF L0 V k := by
  intro d
  induction d with
  | zero => intro _; rfl
  | succ d ih =>
    intro h
    have e : exF L0 V (k + d + 1) = exF L0 V (k + d) := if_pos (h d (by omega))
    show exF L0 V (k + d + 1) = exF L0 V k
    rw [e]
    exact ih (fun j hj => h j (by omega))
def EC (μ : Mm) (k : Nat) : Prop := k / 8 < k % 8 ∧ μ 7 (k / 8) ≠ -1 ∧ μ 7 (k % 8) ≠ -1
theorem Kc_q {μ : Mm} (hK : Kc μ 5 82 86 30 31) {c : Nat} (hc : c < 8) (h : μ 7 c ≠ -1) : ∃ q : Nat, q < 60 ∧ μ 7 c = (q : Int) ∧ isP μ q ∧ μ 82 q = 3 + (c : Int) := by
  rcases Kc_pl hK hc with z | z
  · exact absurd z h
  · exact z
section EX
variable {μ : Mm} {L1 L2 : List (Int × Int)} {T1 T2 : Nat → Int} {s p1 p2 : Nat} {V : Nat → Int}
theorem exQ_G (hG : Cg (opM μ) (μ 7) s) {a b : Nat} (ha : a < 8) (hb : b < 8) : Cg (opM μ) (exQ μ a b) s := by
  refine ⟨hG.1, hG.2.1, fun c hc => ?_⟩
  unfold exQ
  by_cases z1 : c = b
  · rw [if_pos z1]; exact hG.2.2 a ha
  · rw [if_neg z1]
    by_cases z2 : c = a
    · rw [if_pos z2]; exact hG.2.2 b hb
    · rw [if_neg z2]; exact hG.2.2 c hc
theorem exC_s (hI : Inv μ) (hP1 : Pk μ p1 L1 T1) (hP2 : Pk μ p2 L2 T2) (hG : Cg (opM μ) (μ 7) s) (h53 : μ 5 3 = (s : Int)) (h57 : μ 5 7 = μ 70 30) (hW : okWS (μ 8) (μ 70 30)) (hP : ∀ p, opM μ p ↔ (p < 60 ∧ μ 6 p ≠ -1 ∧ μ 6 p ≠ 1)) (hV : ∀ k, (EC μ k → V k = tgV (asV L1 T1 (opM μ) (exQ μ (k / 8) (k % 8)) s (μ 8) (μ 70 30)) (asV L2 T2 (opM μ) (exQ μ (k / 8) (k % 8)) s (μ 8) (μ 70 30))) ∧ (¬ EC μ k → V k = -1)) {k : Nat} (hk : k < 64) {ν : Mm} (h : sameK μ ν) : ∃ ν2, sameK μ ν2 ∧ ∀ (K : Int → Mm → Rs), (bd (X0_copy 13 5 ν) fun v21 μ22 => if ((k % 8 : Nat) : Int) ≤ ((k / 8 : Nat) : Int) then K (-1) μ22 else (bd (X0_exchangeCranks 13 ((k / 8 : Nat) : Int) ((k % 8 : Nat) : Int) μ22) fun v29 μ30 => if v29 = 0 then K (-1) μ30 else (bd (X10_leastTogether (p1 : Int) (p2 : Int) μ30) fun v33 μ34 => K v33 μ34))) = K (V k) ν2 := by
  have hK := hI.2.2.2.2.2.1
  obtain ⟨k1, k2, k3, k4, k5, k6, k7, _⟩ := cpk h
  obtain ⟨a, ea⟩ : ∃ a, a = k / 8 := ⟨_, rfl⟩
  obtain ⟨b, eb⟩ : ∃ b, b = k % 8 := ⟨_, rfl⟩
  have hVk := hV k
  unfold EC at hVk
  rw [← ea, ← eb] at hVk ⊢
  have ha : a < 8 := by omega
  have hb : b < 8 := by omega
  by_cases c1 : a < b
  · have e1 : X0_placeOf 13 (a : Int) (cpC 13 5 ν) = some (μ 7 a, cpC 13 5 ν) := by rw [plC_eq (l1 := 13) (by decide) ha, ← k2 a ha]
    have e2 : X0_placeOf 13 (b : Int) (cpC 13 5 ν) = some (μ 7 b, cpC 13 5 ν) := by rw [plC_eq (l1 := 13) (by decide) hb, ← k2 b hb]
    by_cases c2 : μ 7 a = -1
    · refine ⟨cpC 13 5 ν, k7, fun K => ?_⟩
      unfold X0_exchangeCranks
      rw [cp13, bd_some, if_neg (by omega), e1, bd_some, e2, bd_some, if_pos c2, bd_some, if_pos rfl, hVk.2 (fun z => z.2.1 c2)]
    · by_cases c3 : μ 7 b = -1
      · refine ⟨cpC 13 5 ν, k7, fun K => ?_⟩
        unfold X0_exchangeCranks
        rw [cp13, bd_some, if_neg (by omega), e1, bd_some, e2, bd_some, if_neg c2, if_pos c3, bd_some, if_pos rfl, hVk.2 (fun z => z.2.2 c3)]
      · obtain ⟨p, hp, ep, ip, e82p⟩ := Kc_q hK ha c2
        obtain ⟨q, hq, eq, iq, e82q⟩ := Kc_q hK hb c3
        have hpq : p ≠ q := fun z => by rw [z, e82q] at e82p; omega
        obtain ⟨ν1, hν1⟩ : ∃ x, x = sM (sM (sM (sM (cpC 13 5 ν) 15 a (q : Int)) 15 b (p : Int)) 14 q (3 + (a : Int))) 14 p (3 + (b : Int)) := ⟨_, rfl⟩
        have eX : X0_exchangeCranks 13 (a : Int) (b : Int) (cpC 13 5 ν) = some (1, ν1) := by
          unfold X0_exchangeCranks
          rw [e1, bd_some, e2, bd_some, if_neg c2, if_neg c3, if_neg (by omega), ep, eq, iA_id (a := 3) (b := (a : Int)) (by omega) (by omega), iA_id (a := 3) (b := (b : Int)) (by omega) (by omega)]
          unfold stA
          rw [if_pos (by show (0 : Int) ≤ (a : Int) ∧ (a : Int) < 8; omega)]
          try dsimp only
          rw [if_pos (by show (0 : Int) ≤ (b : Int) ∧ (b : Int) < 8; omega), if_pos (by show (0 : Int) ≤ (q : Int) ∧ (q : Int) < 60; omega), if_pos (by show (0 : Int) ≤ (p : Int) ∧ (p : Int) < 60; omega)]
          simp only [Int.toNat_natCast]
          rw [hν1]
        have f14 : ∀ x, ν1 14 x = if x = p then 3 + (b : Int) else if x = q then 3 + (a : Int) else cpC 13 5 ν 14 x := fun x => by rw [hν1, sM_if, sM_if, sM_a (by decide), sM_a (by decide)]
        have f15 : ∀ x, ν1 15 x = if x = b then (p : Int) else if x = a then (q : Int) else cpC 13 5 ν 15 x := fun x => by rw [hν1, sM_a (by decide), sM_a (by decide), sM_if, sM_if]
        have fo : ∀ x j, x ≠ 14 → x ≠ 15 → ν1 x j = cpC 13 5 ν x j := fun x j g1 g2 => by rw [hν1, sM_a g1, sM_a g1, sM_a g2, sM_a g2]
        have op : ∀ x, μ 82 x ≠ 1 → isP μ x → x < 60 → opM μ x := fun x z1 z2 z3 => ⟨z3, z2, z1⟩
        have hT : TrC 13 ν1 (opM μ) (exQ μ a b) s (μ 8) (μ 70 30) := by
          refine ⟨fun x => ?_, fun d hd => ?_, ?_, fun d hd => ?_, ?_⟩
          · show (x < 60 ∧ ν1 14 x ≠ -1 ∧ ν1 14 x ≠ 1) ↔ opM μ x
            rw [f14]
            by_cases z1 : x = p
            · rw [if_pos z1, z1]
              exact ⟨fun _ => op p (by omega) ip hp, fun _ => ⟨hp, by omega, by omega⟩⟩
            · rw [if_neg z1]
              by_cases z2 : x = q
              · rw [if_pos z2, z2]
                exact ⟨fun _ => op q (by omega) iq hq, fun _ => ⟨hq, by omega, by omega⟩⟩
              · rw [if_neg z2, hP x]
                constructor
                · rintro ⟨y1, y2, y3⟩
                  rw [k1 x y1] at y2 y3
                  exact ⟨y1, y2, y3⟩
                · rintro ⟨y1, y2, y3⟩
                  rw [k1 x y1]
                  exact ⟨y1, y2, y3⟩
          · show ν1 15 d = exQ μ a b d
            unfold exQ
            rw [f15]
            by_cases z1 : d = b
            · rw [if_pos z1, if_pos z1, ep]
            · rw [if_neg z1, if_neg z1]
              by_cases z2 : d = a
              · rw [if_pos z2, if_pos z2, eq]
              · rw [if_neg z2, if_neg z2]; exact k2 d hd
          · rw [fo 13 3 (by decide) (by decide), k4]; exact h53
          · show ν1 16 d = μ 8 d
            rw [fo 16 d (by decide) (by decide)]; exact k3 d hd
          · rw [fo 13 7 (by decide) (by decide), k6]; exact h57
        have hs1 : sameK μ ν1 := fun x j hn => by rw [fo x j (by unfold scr at hn; omega) (by unfold scr at hn; omega)]; exact k7 x j hn
        obtain ⟨ν2, g1, g2⟩ := togC hI hP1 hP2 (exQ_G hG ha hb) hW hs1 hT
        refine ⟨ν2, g1, fun K => ?_⟩
        rw [cp13, bd_some, if_neg (by omega), eX, bd_some, if_neg (by decide), g2, bd_some, hVk.1 ⟨c1, c2, c3⟩]
  · refine ⟨cpC 13 5 ν, k7, fun K => ?_⟩
    rw [cp13, bd_some, if_pos (by omega), hVk.2 (fun z => c1 z.1)]
theorem ex118 {L0 : Int} {K : Int → Int → Int → Mm → Rs} {l1 l2 l3 : Int} {k : Nat} (hk : k < 64) {ν : Mm} : X10_exchange_J118 K l1 l2 l3 (exF L0 V k).1 (exF L0 V k).2 (k : Int) ((k / 8 : Nat) : Int) ((k % 8 : Nat) : Int) (V k) ν = K (exF L0 V (k + 1)).1 (exF L0 V (k + 1)).2 ((k + 1 : Nat) : Int) ν := by
  have e : exF L0 V (k + 1) = if V k = -1 then exF L0 V k else if (exF L0 V k).2 = -1 then (10 * ((k / 8 : Nat) : Int) + ((k % 8 : Nat) : Int), V k) else if (exF L0 V k).2 ≤ V k then exF L0 V k else (10 * ((k / 8 : Nat) : Int) + ((k % 8 : Nat) : Int), V k) := rfl
  have h139 : X10_exchange_J139 (fun w4 w5 w6 μq => K w4 w5 w6 μq) l1 l2 l3 (k : Int) ((k / 8 : Nat) : Int) ((k % 8 : Nat) : Int) (V k) ν = K (10 * ((k / 8 : Nat) : Int) + ((k % 8 : Nat) : Int)) (V k) ((k + 1 : Nat) : Int) ν := by
    unfold X10_exchange_J139 lt_
    try dsimp only
    rw [iM_id (by omega) (by omega), iA_id (a := 10 * ((k / 8 : Nat) : Int)) (by omega) (by omega), iA_nat (by omega)]
  unfold X10_exchange_J118
  rw [h139, iA_nat (by omega), e]
  by_cases c1 : V k = -1
  · rw [if_pos c1, if_pos c1]
  · rw [if_neg c1, if_neg c1]
    by_cases c2 : (exF L0 V k).2 = -1
    · rw [if_pos c2, if_pos c2]
    · rw [if_neg c2, if_neg c2]
      by_cases c3 : (exF L0 V k).2 ≤ V k
      · rw [if_pos c3, if_pos c3]
      · rw [if_neg c3, if_neg c3]
theorem exC_L {L0 : Int} {Q : Mm → Prop} {l3 : Int} {K : Int → Int → Mm → Rs} (hst : ∀ k ν, k < 64 → Q ν → ∃ ν2, Q ν2 ∧ ∀ (K : Int → Mm → Rs), (bd (X0_copy 13 5 ν) fun v21 μ22 => if ((k % 8 : Nat) : Int) ≤ ((k / 8 : Nat) : Int) then K (-1) μ22 else (bd (X0_exchangeCranks 13 ((k / 8 : Nat) : Int) ((k % 8 : Nat) : Int) μ22) fun v29 μ30 => if v29 = 0 then K (-1) μ30 else (bd (X10_leastTogether (p1 : Int) (p2 : Int) μ30) fun v33 μ34 => K v33 μ34))) = K (V k) ν2) : ∀ (r k fuel : Nat) (ν : Mm), k + r = 64 → r < fuel → Q ν → ∃ ν', Q ν' ∧ X10_exchange_L55 (p1 : Int) (p2 : Int) l3 K fuel (exF L0 V k).1 (exF L0 V k).2 (k : Int) ν = K (exF L0 V 64).1 (exF L0 V 64).2 ν' := by
  intro r
  induction r with
  | zero =>
    intro k fuel ν hr hfu hQ
    obtain ⟨g, rfl, _⟩ := lt_fuel hfu
    have e : k = 64 := by omega
    refine ⟨ν, hQ, ?_⟩
    show (if 64 ≤ (k : Int) then _ else _) = _
    rw [if_pos (by omega), e]
  | succ r ih =>
    intro k fuel ν hr hfu hQ
    obtain ⟨g, rfl, _⟩ := lt_fuel hfu
    obtain ⟨ν2, q2, e2⟩ := hst k ν (by omega) hQ
    obtain ⟨ν', q3, e3⟩ := ih (k + 1) g ν2 (by omega) (by omega) q2
    refine ⟨ν', q3, ?_⟩
    have hR : iR (k : Int) 8 = ((k % 8 : Nat) : Int) := by
      rw [iR_id (by omega) (by omega) (by decide)]; omega
    have hD : iD (k : Int) 8 = ((k / 8 : Nat) : Int) := by
      rw [iD_id (by omega) (by omega) (by decide)]; omega
    rw [← e3, ← ex118 (K := fun w4 w5 w6 μq => X10_exchange_L55 (p1 : Int) (p2 : Int) l3 K g w4 w5 w6 μq) (l1 := (p1 : Int)) (l2 := (p2 : Int)) (l3 := l3) (k := k) (by clear hR hD; omega)]
    show (if 64 ≤ (k : Int) then _ else _) = _
    rw [if_neg (by clear hR hD; omega), hR, hD]
    exact e2 (fun v μ' => X10_exchange_J118 (fun w4 w5 w6 μq => X10_exchange_L55 (p1 : Int) (p2 : Int) l3 K g w4 w5 w6 μq) (p1 : Int) (p2 : Int) l3 (exF L0 V k).1 (exF L0 V k).2 (k : Int) ((k / 8 : Nat) : Int) ((k % 8 : Nat) : Int) v μ')
/-- the reference's try of one pair -/
def exMs (μ ν0 : Mm) (p1 p2 : Nat) (V : Nat → Int) : Prop := ∀ a b ξ, a < b → b < 8 → Sm ν0 ξ → X11_isCrank ((a : Nat) : Int) ξ = some (if μ 7 a = -1 then 0 else 1, ξ) ∧ X11_isCrank ((b : Nat) : Int) ξ = some (if μ 7 b = -1 then 0 else 1, ξ) ∧ (μ 7 a = -1 → V (8 * a + b) = -1) ∧ (μ 7 b = -1 → V (8 * a + b) = -1) ∧ (μ 7 a ≠ -1 → μ 7 b ≠ -1 → ∃ ξ1 ξ2 ξ3, X11_change ((a : Nat) : Int) ((b : Nat) : Int) ξ = some (0, ξ1) ∧ X11_bothNow (p1 : Int) (p2 : Int) ξ1 = some (V (8 * a + b), ξ2) ∧ X11_change ((a : Nat) : Int) ((b : Nat) : Int) ξ2 = some (0, ξ3) ∧ Sm ν0 ξ3)
theorem exM_in {L0 : Int} {ν0 : Mm} (hst : exMs μ ν0 p1 p2 V) {l3 : Int} {a : Nat} (ha : a < 8) {K : Int → Int → Mm → Rs} : ∀ (r b fuel : Nat) (ξ : Mm), b + r = 8 → r < fuel → a < b → Sm ν0 ξ → ∃ ξ', Sm ν0 ξ' ∧ X11_exchange_L59 (p1 : Int) (p2 : Int) l3 (a : Int) K fuel (exF L0 V (8 * a + b)).1 (exF L0 V (8 * a + b)).2 (b : Int) ξ = K (exF L0 V (8 * a + 8)).1 (exF L0 V (8 * a + 8)).2 ξ' := by
  intro r
  induction r with
  | zero =>
    intro b fuel ξ hr hfu hab hS
    obtain ⟨g, rfl, _⟩ := lt_fuel hfu
    have e : b = 8 := by omega
    refine ⟨ξ, hS, ?_⟩
    show (if 8 ≤ (b : Int) then _ else _) = _
    rw [if_pos (by omega), e]
  | succ r ih =>
    intro b fuel ξ hr hfu hab hS
    obtain ⟨g, rfl, _⟩ := lt_fuel hfu
    obtain ⟨s1, s2, s3, s4, s5⟩ := hst a b ξ hab (by omega) hS
    have e : exF L0 V (8 * a + (b + 1)) = if V (8 * a + b) = -1 then exF L0 V (8 * a + b) else if (exF L0 V (8 * a + b)).2 = -1 then (10 * (((8 * a + b) / 8 : Nat) : Int) + (((8 * a + b) % 8 : Nat) : Int), V (8 * a + b)) else if (exF L0 V (8 * a + b)).2 ≤ V (8 * a + b) then exF L0 V (8 * a + b) else (10 * (((8 * a + b) / 8 : Nat) : Int) + (((8 * a + b) % 8 : Nat) : Int), V (8 * a + b)) := rfl
    have ed : (8 * a + b) / 8 = a := by omega
    have em : (8 * a + b) % 8 = b := by omega
    rw [ed, em] at e
    have skip : V (8 * a + b) = -1 → ∀ x ξ1, Sm ν0 ξ1 → x = X11_exchange_L59 (p1 : Int) (p2 : Int) l3 (a : Int) K g (exF L0 V (8 * a + b)).1 (exF L0 V (8 * a + b)).2 ((b + 1 : Nat) : Int) ξ1 → ∃ ξ', Sm ν0 ξ' ∧ x = K (exF L0 V (8 * a + 8)).1 (exF L0 V (8 * a + 8)).2 ξ' := by
      intro hv x ξ1 hS1 hx
      rw [if_pos hv] at e
      obtain ⟨ξ', q1, q2⟩ := ih (b + 1) g ξ1 (by omega) (by omega) (by omega) hS1
      rw [e] at q2
      exact ⟨ξ', q1, by rw [hx]; exact q2⟩
    by_cases c1 : μ 7 a = -1
    · refine skip (s3 c1) _ ξ hS ?_
      show (if 8 ≤ (b : Int) then _ else _) = _
      rw [if_neg (by omega), s1, if_pos c1, bd_some, if_pos rfl, iA_nat (by omega)]
    · by_cases c2 : μ 7 b = -1
      · refine skip (s4 c2) _ ξ hS ?_
        show (if 8 ≤ (b : Int) then _ else _) = _
        rw [if_neg (by omega), s1, if_neg c1, bd_some, if_neg (by decide), s2, if_pos c2, bd_some, if_pos rfl, iA_nat (by omega)]
      · obtain ⟨ξ1, ξ2, ξ3, x1, x2, x3, x4⟩ := s5 c1 c2
        have h127 : ∀ v, X11_exchange_J127 (fun w4 w5 w7 μq => X11_exchange_L59 (p1 : Int) (p2 : Int) l3 (a : Int) K g w4 w5 w7 μq) (p1 : Int) (p2 : Int) l3 (a : Int) (b : Int) v ξ3 = X11_exchange_L59 (p1 : Int) (p2 : Int) l3 (a : Int) K g (10 * (a : Int) + (b : Int)) v ((b + 1 : Nat) : Int) ξ3 := by
          intro v
          unfold X11_exchange_J127 lt_
          try dsimp only
          rw [iM_id (by omega) (by omega), iA_id (a := 10 * (a : Int)) (by omega) (by omega), iA_nat (by omega)]
        have e0 : X11_exchange_L59 (p1 : Int) (p2 : Int) l3 (a : Int) K (g + 1) (exF L0 V (8 * a + b)).1 (exF L0 V (8 * a + b)).2 (b : Int) ξ = if V (8 * a + b) = -1 then X11_exchange_L59 (p1 : Int) (p2 : Int) l3 (a : Int) K g (exF L0 V (8 * a + b)).1 (exF L0 V (8 * a + b)).2 ((b + 1 : Nat) : Int) ξ3 else if (exF L0 V (8 * a + b)).2 = -1 then X11_exchange_L59 (p1 : Int) (p2 : Int) l3 (a : Int) K g (10 * (a : Int) + (b : Int)) (V (8 * a + b)) ((b + 1 : Nat) : Int) ξ3 else if (exF L0 V (8 * a + b)).2 ≤ V (8 * a + b) then X11_exchange_L59 (p1 : Int) (p2 : Int) l3 (a : Int) K g (exF L0 V (8 * a + b)).1 (exF L0 V (8 * a + b)).2 ((b + 1 : Nat) : Int) ξ3 else X11_exchange_L59 (p1 : Int) (p2 : Int) l3 (a : Int) K g (10 * (a : Int) + (b : Int)) (V (8 * a + b)) ((b + 1 : Nat) : Int) ξ3 := by
          show (if 8 ≤ (b : Int) then _ else _) = _
          rw [if_neg (by omega), s1, if_neg c1, bd_some, if_neg (by decide), s2, if_neg c2, bd_some, if_neg (by decide), x1, bd_some, x2, bd_some, x3, bd_some, h127, iA_nat (by omega)]
        obtain ⟨ξ', q1, q2⟩ := ih (b + 1) g ξ3 (by omega) (by omega) (by omega) x4
        refine ⟨ξ', q1, ?_⟩
        rw [← q2, e0, e]
        by_cases d1 : V (8 * a + b) = -1
        · rw [if_pos d1, if_pos d1]
        · rw [if_neg d1, if_neg d1]
          by_cases d2 : (exF L0 V (8 * a + b)).2 = -1
          · rw [if_pos d2, if_pos d2]
          · rw [if_neg d2, if_neg d2]
            by_cases d3 : (exF L0 V (8 * a + b)).2 ≤ V (8 * a + b)
            · rw [if_pos d3, if_pos d3]
            · rw [if_neg d3, if_neg d3]
theorem exM_L {L0 : Int} {ν0 : Mm} (hst : exMs μ ν0 p1 p2 V) (hV : ∀ a b, a < 8 → b ≤ a → V (8 * a + b) = -1) {l3 : Int} {K : Int → Int → Mm → Rs} : ∀ (r a fuel : Nat) (ξ : Mm), a + r = 8 → r < fuel → Sm ν0 ξ → ∃ ξ', Sm ν0 ξ' ∧ X11_exchange_L46 (p1 : Int) (p2 : Int) l3 K fuel (exF L0 V (8 * a)).1 (exF L0 V (8 * a)).2 (a : Int) ξ = K (exF L0 V 64).1 (exF L0 V 64).2 ξ' := by
  intro r
  induction r with
  | zero =>
    intro a fuel ξ hr hfu hS
    obtain ⟨g, rfl, _⟩ := lt_fuel hfu
    have e : a = 8 := by omega
    refine ⟨ξ, hS, ?_⟩
    show (if 8 ≤ (a : Int) then _ else _) = _
    rw [if_pos (by omega), e]
  | succ r ih =>
    intro a fuel ξ hr hfu hS
    obtain ⟨g, rfl, _⟩ := lt_fuel hfu
    have ha : a < 8 := by omega
    have hsk := exF_skip (L0 := L0) (V := V) (k := 8 * a) (a + 1) (fun j hj => hV a j ha (by omega))
    obtain ⟨ξ1, q1, q2⟩ := exM_in (L0 := L0) hst (l3 := l3) ha (K := fun v40 v41 μ42 => X11_exchange_L46 (p1 : Int) (p2 : Int) l3 K g v40 v41 (iA (a : Int) 1) μ42) (8 - (a + 1)) (a + 1) FU ξ (by omega) (by show 8 - (a + 1) < 1000000; omega) (by omega) hS
    rw [hsk] at q2
    obtain ⟨ξ', q3, q4⟩ := ih (a + 1) g ξ1 (by omega) (by omega) q1
    have e8 : 8 * (a + 1) = 8 * a + 8 := by omega
    rw [e8] at q4
    refine ⟨ξ', q3, ?_⟩
    rw [← q4]
    have e1 : iA (a : Int) 1 = ((a + 1 : Nat) : Int) := iA_nat (by omega)
    rw [e1] at q2
    show (if 8 ≤ (a : Int) then _ else _) = _
    rw [if_neg (by clear e1; omega), e1]
    exact q2
end EX
theorem isCrk {μ ξ : Mm} (hQ : PlM ξ (μ 7)) {q : Nat} (hq : q < 8) : X11_isCrank (q : Int) ξ = some (if μ 7 q = -1 then 0 else 1, ξ) := by
  obtain ⟨r, er, hr⟩ := isCr (μ := ξ) (a := (q : Int)) (by omega)
  rw [er]
  rcases hr with ⟨r0, hno⟩ | ⟨r1, _, _, x, x1, x2, x3⟩
  · have : μ 7 q = -1 := by
      rcases hQ q hq with ⟨z, _⟩ | ⟨x, x1, x2, x3, x4⟩
      · exact z
      · exact absurd x4 (hno (by omega) (by omega) x x1 x3)
    rw [if_pos this, r0]
  · have : μ 7 q ≠ -1 := fun z => by
      rcases hQ q hq with ⟨_, y⟩ | ⟨y, y1, y2, _⟩
      · exact y x x1 x2 x3
      · omega
    rw [if_neg this, r1]
theorem m_exchange : ∀ a0, rI a0 → ∀ a1, rI a1 → ∀ a2, rI a2 → sI Inv Inv (X10_exchange a0 a1 a2) (X11_exchange a0 a1 a2) := by
  intro a ha b hb c hc μ hI
  have t1 := t_X10_exchange (W := scr) (μs := μ) (hW := fun _ _ h => h) (hp_l1 := ha) (hp_l2 := hb) (hp_l3 := hc) (St_rf hI.1)
  have no : ∀ ν, Inv ν → (ν 70 23 = 0 ∨ ¬ (0 ≤ a ∧ a < ν 70 28) ∨ ¬ (0 ≤ b ∧ b < ν 70 28) ∨ a = b ∨ ¬ (0 ≤ c ∧ c ≤ 1)) → ∃ μ2, X11_exchange a b c ν = some (-1, μ2) ∧ Inv μ2 := by
    intro ν hν h
    by_cases cr0 : ν 70 23 = 0 ∨ ¬ (0 ≤ a ∧ a < ν 70 28)
    · exact ⟨ν, by unfold X11_exchange; rw [rdy_no hν.2.1.1 cr0, bd_some, if_pos rfl], hν⟩
    · have h23 : ν 70 23 ≠ 0 := fun z => cr0 (Or.inl z)
      have hap : 0 ≤ a ∧ a < ν 70 28 := Classical.byContradiction (fun z => cr0 (Or.inr z))
      rcases rdyAny hν a with z | ⟨ξ, m, h1, h2, h3, h4⟩
      · exact ⟨ν, by unfold X11_exchange; rw [z, bd_some, if_pos rfl], hν⟩
      · have hIξ := Inv_Sm hν h2
        have f23 : ξ 70 23 = ν 70 23 := h2.2 70 23 (by unfold scrM; omega)
        have f28 : ξ 70 28 = ν 70 28 := h2.2 70 28 (by unfold scrM; omega)
        by_cases cr1 : ξ 70 23 = 0 ∨ ¬ (0 ≤ b ∧ b < ξ 70 28)
        · exact ⟨ξ, by unfold X11_exchange; rw [h1, bd_some, if_neg (by decide), rdy_no hIξ.2.1.1 cr1, bd_some, if_pos rfl], hIξ⟩
        · have hbp : 0 ≤ b ∧ b < ξ 70 28 := Classical.byContradiction (fun z => cr1 (Or.inr z))
          rcases rdyAny hIξ b with z | ⟨ξ2, m2, k1, k2, k3, k4⟩
          · exact ⟨ξ, by unfold X11_exchange; rw [h1, bd_some, if_neg (by decide), z, bd_some, if_pos rfl], hIξ⟩
          · have hI2 := Inv_Sm hIξ k2
            by_cases cab : a = b
            · exact ⟨ξ2, by unfold X11_exchange; rw [h1, bd_some, if_neg (by decide), k1, bd_some, if_neg (by decide), if_pos cab], hI2⟩
            · have cc : ¬ (0 ≤ c ∧ c ≤ 1) := by
                rcases h with h | h | h | h | h
                · exact absurd h h23
                · exact absurd hap h
                · rw [f28] at hbp; exact absurd hbp h
                · exact absurd h cab
                · exact h
              exact ⟨ξ2, by unfold X11_exchange; rw [h1, bd_some, if_neg (by decide), k1, bd_some, if_neg (by decide), if_neg cab, in_no _ cc, bd_some, if_pos rfl], hI2⟩
  by_cases cc : 0 ≤ c ∧ c ≤ 1
  · by_cases cab : a = b
    · obtain ⟨μ2, e2, h2⟩ := no μ hI (Or.inr (Or.inr (Or.inr (Or.inl cab))))
      refine ⟨-1, μ, μ2, ?_, e2, h2⟩
      unfold X10_exchange
      rw [half_y cc, bd_some, if_neg (by decide), if_pos cab]
    · have R1 : X10_exchange a b c μ = bd (X10_lay a μ) fun v6 μ7 => if v6 = 0 then (some ((-1), μ7)) else (bd (X10_lay b μ7) fun v10 μ11 => if v10 = 0 then (some ((-1), μ11)) else (bd (X0_copy 13 5 μ11) fun v14 μ15 => bd (X10_leastTogether a b μ15) fun v17 μ18 => X10_exchange_L55 a b c (fun v36 v37 μ38 => if c = 1 then (some (v37, μ38)) else (if v37 = (-1) then (some (v37, μ38)) else (some (v36, μ38)))) FU 0 v17 0 μ18)) := by
        unfold X10_exchange
        rw [half_y cc, bd_some, if_neg (by decide), if_neg cab]
      by_cases cr0 : μ 70 23 = 0 ∨ ¬ (0 ≤ a ∧ a < μ 70 28)
      · obtain ⟨μ2, e2, h2⟩ := no μ hI (cr0.elim Or.inl (fun z => Or.inr (Or.inl z)))
        refine ⟨-1, μ, μ2, ?_, e2, h2⟩
        rw [R1, lay_no hI cr0, bd_some, if_pos rfl]
      · have h23 : μ 70 23 ≠ 0 := fun z => cr0 (Or.inl z)
        have hap : 0 ≤ a ∧ a < μ 70 28 := Classical.byContradiction (fun z => cr0 (Or.inr z))
        obtain ⟨p1, rfl⟩ : ∃ p : Nat, a = (p : Int) := ⟨a.toNat, by omega⟩
        obtain ⟨L1, T1, νa, hP1, g1, _, g3, g4⟩ := layK hI h23 hap.2
        rw [g1, bd_some, if_neg (by decide)] at R1
        have hIa := Inv_St hI g3
        have na : ∀ k j, ¬ scr k j → νa k j = μ k j := g3.2
        by_cases cr1 : νa 70 23 = 0 ∨ ¬ (0 ≤ b ∧ b < νa 70 28)
        · rw [lay_no hIa cr1, bd_some, if_pos rfl] at R1
          obtain ⟨μ2, e2, h2⟩ := no νa hIa (cr1.elim Or.inl (fun z => Or.inr (Or.inr (Or.inl z))))
          exact ⟨-1, νa, μ2, R1, e2, h2⟩
        · have hbp0 : 0 ≤ b ∧ b < νa 70 28 := Classical.byContradiction (fun z => cr1 (Or.inr z))
          have hbp : 0 ≤ b ∧ b < μ 70 28 := by rw [na 70 28 (by unfold scr; omega)] at hbp0; exact hbp0
          obtain ⟨p2, rfl⟩ : ∃ p : Nat, b = (p : Int) := ⟨b.toNat, by omega⟩
          obtain ⟨L2, T2, hP2⟩ := Pk_of hI hbp.2
          obtain ⟨_, _, νb, _, gb, _, gb3, _⟩ := layK hIa (fun z => cr1 (Or.inl z)) hbp0.2
          rw [gb, bd_some, if_neg (by decide), cp13, bd_some] at R1
          have eb : sameK μ νb := fun k j hn => by rw [gb3.2 k j hn, na k j hn]
          obtain ⟨s, hG, hs, h53, hW, h86, h57, hP⟩ := base13 hI h23
          have hK := hI.2.2.2.2.2.1
          obtain ⟨k1, k2, k3, k4, k5, k6, k7, _⟩ := cpk eb
          have hT0 : TrC 13 (cpC 13 5 νb) (opM μ) (μ 7) s (μ 8) (μ 70 30) := by
            refine ⟨fun q => ?_, k2, by rw [k4]; exact h53, k3, by rw [k6]; exact h57⟩
            show (q < 60 ∧ cpC 13 5 νb 14 q ≠ -1 ∧ cpC 13 5 νb 14 q ≠ 1) ↔ opM μ q
            rw [hP q]
            constructor
            · rintro ⟨z1, z2, z3⟩
              rw [k1 q z1] at z2 z3
              exact ⟨z1, z2, z3⟩
            · rintro ⟨z1, z2, z3⟩
              rw [k1 q z1]
              exact ⟨z1, z2, z3⟩
          obtain ⟨νc, ec, kc⟩ := togC hI hP1 hP2 hG hW k7 hT0
          obtain ⟨L0, hL0⟩ : ∃ x, x = tgV (asV L1 T1 (opM μ) (μ 7) s (μ 8) (μ 70 30)) (asV L2 T2 (opM μ) (μ 7) s (μ 8) (μ 70 30)) := ⟨_, rfl⟩
          rw [← hL0] at kc
          rw [kc, bd_some] at R1
          obtain ⟨V, hV⟩ := ofP (EC μ) (fun k => tgV (asV L1 T1 (opM μ) (exQ μ (k / 8) (k % 8)) s (μ 8) (μ 70 30)) (asV L2 T2 (opM μ) (exQ μ (k / 8) (k % 8)) s (μ 8) (μ 70 30)))
          obtain ⟨ν1, q1, x1⟩ := exC_L (L0 := L0) (V := V) (p1 := p1) (p2 := p2) (l3 := c) (K := fun v36 v37 μ38 => if c = 1 then (some (v37, μ38)) else (if v37 = (-1) then (some (v37, μ38)) else (some (v36, μ38)))) (Q := sameK μ) (fun k ν hk hQ => exC_s hI hP1 hP2 hG h53 h57 hW hP hV hk hQ) 64 0 FU νc (by decide) (by decide) ec
          have x1 : X10_exchange_L55 (p1 : Int) (p2 : Int) c (fun v36 v37 μ38 => if c = 1 then (some (v37, μ38)) else (if v37 = (-1) then (some (v37, μ38)) else (some (v36, μ38)))) FU 0 L0 0 νc = if c = 1 then (some ((exF L0 V 64).2, ν1)) else (if (exF L0 V 64).2 = (-1) then (some ((exF L0 V 64).2, ν1)) else (some ((exF L0 V 64).1, ν1))) := x1
          have R2 : X10_exchange (p1 : Int) (p2 : Int) c μ = some (if c = 1 then (exF L0 V 64).2 else if (exF L0 V 64).2 = -1 then (exF L0 V 64).2 else (exF L0 V 64).1, ν1) := by
            rw [R1, x1]
            by_cases c1 : c = 1
            · rw [if_pos c1, if_pos c1]
            · rw [if_neg c1, if_neg c1]
              by_cases c2 : (exF L0 V 64).2 = -1
              · rw [if_pos c2, if_pos c2]
              · rw [if_neg c2, if_neg c2]
          rw [R2, wp_some] at t1
          have hI1 := Inv_St hI t1.1
          have e1 : sameK μ ν1 := t1.1.2
          obtain ⟨ξa, y1, y2⟩ := g4 ν1 hI1 e1
          have hIξ := Inv_Sm hI1 y2
          have n0 : ∀ ξ, Sm ν1 ξ → ∀ k j, ¬ scr k j → ¬ scrM k j → ξ k j = μ k j := fun ξ hS k j h1 h2 => by rw [hS.2 k j h2, e1 k j h1]
          obtain ⟨ξb, yb1, yb2⟩ : ∃ ξb, X11_isReady (p2 : Int) ξa = some (1, ξb) ∧ Sm ν1 ξb := by
            obtain ⟨_, _, _, _, _, _, _, gx⟩ := layK hIξ (by rw [n0 ξa y2 70 23 (by unfold scr; omega) (by unfold scrM; omega)]; exact h23) (p := p2) (by rw [n0 ξa y2 70 28 (by unfold scr; omega) (by unfold scrM; omega)]; exact hbp.2)
            obtain ⟨ξb, z1, z2⟩ := gx ξa hIξ (fun _ _ _ => rfl)
            exact ⟨ξb, z1, z2.1, fun k j hn => by rw [z2.2 k j hn, y2.2 k j hn]⟩
          have base : ∀ ξ, Sm ν1 ξ → nearM μ ξ ∧ PlM ξ (μ 7) ∧ Ir ξ ∧ (∀ j, ξ 82 j = μ 82 j) ∧ (∀ x, isP ξ x ↔ isP μ x) := fun ξ hS => by
            have h82 : ∀ j, ξ 82 j = μ 82 j := fun j => n0 ξ hS 82 j (by unfold scr; omega) (by unfold scrM; omega)
            have e23 := n0 ξ hS 70 23 (by unfold scr; omega) (by unfold scrM; omega)
            have e24 := n0 ξ hS 70 24 (by unfold scr; omega) (by unfold scrM; omega)
            exact ⟨fun k j h1 h2 _ _ => n0 ξ hS k j h1 h2, PlM_c h82 e23 e24 (Kc_PlM hK), Ir_of hI1.2.1 hS, h82, isP_congr e23 e24⟩
          have hM0 : ∀ ξ, Sm ν1 ξ → TrM ξ (opM μ) (μ 7) s (μ 8) (μ 70 30) := fun ξ hS => by
            obtain ⟨b1, b2, b3, b4, b5⟩ := base ξ hS
            refine ⟨b3, fun q => ?_, b2, ⟨hs.1, (b5 s).mpr hs.2.1, by rw [b4]; exact hs.2.2⟩, fun d hd => by rw [n0 ξ hS 86 d (by unfold scr; omega) (by unfold scrM; omega)]; exact (h86 d hd).symm, n0 ξ hS 70 30 (by unfold scr; omega) (by unfold scrM; omega), by rw [n0 ξ hS 70 23 (by unfold scr; omega) (by unfold scrM; omega)]; exact h23⟩
            unfold opM
            rw [b5, b4]
          obtain ⟨ξc, yc1, yc2⟩ := bothM hP1 hP2 hG hW (base ξb yb2).1 (hM0 ξb yb2)
          rw [← hL0] at yc1
          have yc3 : Sm ν1 ξc := ⟨yc2.1, fun k j hn => by rw [yc2.2 k j hn, yb2.2 k j hn]⟩
          have hst : exMs μ ν1 p1 p2 V := by
            intro a b ξ hab hb8 hS
            have ha8 : a < 8 := by omega
            obtain ⟨b1, b2, b3, b4, b5⟩ := base ξ hS
            have hVk := hV (8 * a + b)
            unfold EC at hVk
            have ed : (8 * a + b) / 8 = a := by omega
            have em : (8 * a + b) % 8 = b := by omega
            rw [ed, em] at hVk
            refine ⟨isCrk b2 ha8, isCrk b2 hb8, fun z => hVk.2 (fun y => y.2.1 z), fun z => hVk.2 (fun y => y.2.2 z), fun za zb => ?_⟩
            obtain ⟨p, hp, ep, ip, e82p⟩ := Kc_q hK ha8 za
            obtain ⟨q, hq, eq, iq, e82q⟩ := Kc_q hK hb8 zb
            have hpq : p ≠ q := fun z => by rw [z, e82q] at e82p; omega
            have x82p : ξ 82 p = 3 + (a : Int) := (b4 p).trans e82p
            have x82q : ξ 82 q = 3 + (b : Int) := (b4 q).trans e82q
            have hch := chg_eq b3.2.2.2.2.2.2.1 (a := (a : Int)) (b := (b : Int)) (by omega) (by omega) hp ((b5 p).mpr ip) x82p hq ((b5 q).mpr iq) x82q
            have hIr := Ir_chg b3 hp ((b5 p).mpr ip) hq ((b5 q).mpr iq) hpq (by rw [x82p]; omega) (by rw [x82q]; omega)
            rw [x82p, x82q] at hIr
            obtain ⟨ξ1, hξ1⟩ : ∃ x, x = sM (sM ξ 82 p (3 + (b : Int))) 82 q (3 + (a : Int)) := ⟨_, rfl⟩
            rw [← hξ1] at hch hIr
            have f82 : ∀ x, ξ1 82 x = if x = q then 3 + (a : Int) else if x = p then 3 + (b : Int) else μ 82 x := fun x => by rw [hξ1, sM_if, sM_if, b4]
            have fo : ∀ k j, k ≠ 82 → ξ1 k j = ξ k j := fun k j hk => by rw [hξ1, sM_a hk, sM_a hk]
            have i1 : ∀ x, isP ξ1 x ↔ isP μ x := fun x => (isP_congr (fo 70 23 (by decide)) (fo 70 24 (by decide)) x).trans (b5 x)
            have hM := hM0 ξ hS
            have u1 : nearM μ ξ1 := fun k j h1 h2 h3 h4 => by rw [fo k j h3]; exact n0 ξ hS k j h1 h2
            have hQ' : PlM ξ1 (exQ μ a b) := by
              intro d hd
              unfold exQ
              by_cases z1 : d = b
              · rw [if_pos z1]
                refine Or.inr ⟨p, hp, ep, (i1 p).mpr ip, ?_⟩
                rw [f82, if_neg hpq, if_pos rfl, z1]
              · rw [if_neg z1]
                by_cases z2 : d = a
                · rw [if_pos z2]
                  refine Or.inr ⟨q, hq, eq, (i1 q).mpr iq, ?_⟩
                  rw [f82, if_pos rfl, z2]
                · rw [if_neg z2]
                  rcases Kc_PlM hK d hd with ⟨h1, h2⟩ | ⟨x, h1, h2, h3, h4⟩
                  · refine Or.inl ⟨h1, fun x hx ix => ?_⟩
                    rw [f82]
                    by_cases y1 : x = q
                    · rw [if_pos y1]; omega
                    · rw [if_neg y1]
                      by_cases y2 : x = p
                      · rw [if_pos y2]; omega
                      · rw [if_neg y2]; exact h2 x hx ((i1 x).mp ix)
                  · refine Or.inr ⟨x, h1, h2, (i1 x).mpr h3, ?_⟩
                    rw [f82, if_neg (fun y => by rw [y, e82q] at h4; omega), if_neg (fun y => by rw [y, e82p] at h4; omega)]
                    exact h4
            have u2 : TrM ξ1 (opM μ) (exQ μ a b) s (μ 8) (μ 70 30) := by
              refine ⟨hIr, fun x => ?_, hQ', ⟨hs.1, (i1 s).mpr hs.2.1, ?_⟩, fun d hd => by rw [fo 86 d (by decide)]; exact hM.2.2.2.2.1 d hd, by rw [fo 70 30 (by decide)]; exact hM.2.2.2.2.2.1, by rw [fo 70 23 (by decide)]; exact hM.2.2.2.2.2.2⟩
              · unfold opM
                rw [i1, f82]
                by_cases y1 : x = q
                · rw [if_pos y1, y1]
                  exact ⟨fun z => ⟨z.1, z.2.1, by omega⟩, fun z => ⟨z.1, z.2.1, by omega⟩⟩
                · rw [if_neg y1]
                  by_cases y2 : x = p
                  · rw [if_pos y2, y2]
                    exact ⟨fun z => ⟨z.1, z.2.1, by omega⟩, fun z => ⟨z.1, z.2.1, by omega⟩⟩
                  · rw [if_neg y2]
              · rw [f82, if_neg (fun y => by rw [← y] at e82q; omega), if_neg (fun y => by rw [← y] at e82p; omega)]
                exact hs.2.2
            obtain ⟨ξ2, u3, u4⟩ := bothM hP1 hP2 (exQ_G hG ha8 hb8) hW u1 u2
            rw [← hVk.1 ⟨hab, za, zb⟩] at u3
            have n2 : ∀ k j, ¬ scrM k j → ξ2 k j = ξ1 k j := u4.2
            have hIr2 := Ir_of hIr u4
            have g82 : ∀ x, ξ2 82 x = ξ1 82 x := fun x => n2 82 x (by unfold scrM; omega)
            have i2 : ∀ x, isP ξ2 x ↔ isP μ x := fun x => (isP_congr (n2 70 23 (by unfold scrM; omega)) (n2 70 24 (by unfold scrM; omega)) x).trans (i1 x)
            have x82q2 : ξ2 82 q = 3 + (a : Int) := by rw [g82, f82, if_pos rfl]
            have x82p2 : ξ2 82 p = 3 + (b : Int) := by rw [g82, f82, if_neg hpq, if_pos rfl]
            have hch2 := chg_eq hIr2.2.2.2.2.2.2.1 (a := (a : Int)) (b := (b : Int)) (by omega) (by omega) hq ((i2 q).mpr iq) x82q2 hp ((i2 p).mpr ip) x82p2
            refine ⟨ξ1, ξ2, _, hch, u3, hch2, Bm_sM (Bm_sM u4.1 (show (0 : Int) ≤ 3 + (b : Int) ∧ 3 + (b : Int) ≤ 10 by omega)) (show (0 : Int) ≤ 3 + (a : Int) ∧ 3 + (a : Int) ≤ 10 by omega), fun k j hn => ?_⟩
            by_cases z : k = 82
            · subst z
              rw [sM_if, sM_if]
              by_cases y1 : j = p
              · rw [if_pos y1, y1, ← hS.2 82 p (by unfold scrM; omega), x82p]
              · rw [if_neg y1]
                by_cases y2 : j = q
                · rw [if_pos y2, y2, ← hS.2 82 q (by unfold scrM; omega), x82q]
                · rw [if_neg y2, g82, f82, if_neg y2, if_neg y1, ← b4 j, hS.2 82 j hn]
            · rw [sM_a z, sM_a z, n2 k j hn, fo k j z, hS.2 k j hn]
          obtain ⟨ξ', s1, s2⟩ := exM_L (L0 := L0) hst (fun a b ha8 hba => (hV (8 * a + b)).2 (fun z => by
            have := z.1
            omega)) (l3 := c) (K := fun v43 v44 μ45 => if v44 = (-1) then (some ((-1), μ45)) else (if c = 0 then (some (v43, μ45)) else (some (v44, μ45)))) 8 0 FU ξc (by decide) (by decide) yc3
          have s2 : X11_exchange_L46 (p1 : Int) (p2 : Int) c (fun v43 v44 μ45 => if v44 = (-1) then (some ((-1), μ45)) else (if c = 0 then (some (v43, μ45)) else (some (v44, μ45)))) FU 0 L0 0 ξc = if (exF L0 V 64).2 = (-1) then (some ((-1), ξ')) else (if c = 0 then (some ((exF L0 V 64).1, ξ')) else (some ((exF L0 V 64).2, ξ'))) := s2
          have R3 : X11_exchange (p1 : Int) (p2 : Int) c ν1 = some (if c = 1 then (exF L0 V 64).2 else if (exF L0 V 64).2 = -1 then (exF L0 V 64).2 else (exF L0 V 64).1, ξ') := by
            unfold X11_exchange
            rw [y1, bd_some, if_neg (by decide), yb1, bd_some, if_neg (by decide), if_neg cab, in_rg _ cc, bd_some, if_neg (by decide), yc1, bd_some, s2]
            by_cases c2 : (exF L0 V 64).2 = -1
            · rw [if_pos c2, if_pos c2, c2]
              by_cases c1 : c = 1
              · rw [if_pos c1]
              · rw [if_neg c1]
            · rw [if_neg c2, if_neg c2]
              by_cases c0 : c = 0
              · rw [if_pos c0, if_neg (by omega)]
              · rw [if_neg c0, if_pos (by omega)]
          exact ⟨_, ν1, ξ', R2, R3, Inv_Sm hI1 s1⟩
  · obtain ⟨μ2, e2, h2⟩ := no μ hI (Or.inr (Or.inr (Or.inr (Or.inr cc))))
    refine ⟨-1, μ, μ2, ?_, e2, h2⟩
    unfold X10_exchange
    rw [half_n cc, bd_some, if_pos rfl]
