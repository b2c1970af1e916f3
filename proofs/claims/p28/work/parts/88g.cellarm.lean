/-! THE READER OF CELLARS, the reference's -/
theorem signOf_eq {x : Int} (hx : -1 ≤ x ∧ x ≤ 255) (μ : Mm) : X11_signOf x μ = some (sg x, μ) := by
  unfold X11_signOf sg
  by_cases h3 : x = 46
  · rw [if_pos h3, if_pos h3]
  · rw [if_neg h3, if_neg h3]
    by_cases h1 : x = 35
    · rw [if_pos h1, if_pos h1]
    · rw [if_neg h1, if_neg h1]
      by_cases h2 : x = 42
      · rw [if_pos h2, if_pos h2]
      · rw [if_neg h2, if_neg h2, iS_id (a := x) (by omega) (by omega), in_eq, bd_some]
        by_cases h4 : 65 ≤ x ∧ x ≤ 72
        · rw [b2_t (by omega), if_neg (by decide), if_pos h4, iA_id (by omega) (by omega), iS_id (by omega) (by omega)]
          congr 2
          omega
        · rw [b2_f (by omega), if_pos rfl, if_neg h4]
theorem pk_b {t : Nat → Int} {n : Nat} (hT : ∀ j, j < n → 1 ≤ t j ∧ t j ≤ 255) (p : Nat) : -1 ≤ pk t n p ∧ pk t n p ≤ 255 := by
  unfold pk
  by_cases c : sk t n p < n
  · rw [if_pos c]; have := hT _ c; omega
  · rw [if_neg c]; omega
theorem bit_set_n : ∀ c, c < 8 → ∀ x, x < 256 → bA (bR ((x : Nat) : Int) ((c : Nat) : Int)) 1 ≠ 1 → 0 ≤ bO ((x : Nat) : Int) (bL 1 ((c : Nat) : Int)) ∧ bO ((x : Nat) : Int) (bL 1 ((c : Nat) : Int)) ≤ 255 ∧ pc (bO ((x : Nat) : Int) (bL 1 ((c : Nat) : Int))) = pc ((x : Nat) : Int) + 1 := by decide +kernel
theorem bit_oth : ∀ c, c < 8 → ∀ d, d < 8 → c ≠ d → bA (bR (bL 1 ((c : Nat) : Int)) ((d : Nat) : Int)) 1 ≠ 1 := by decide +kernel
theorem bit_or {d : Nat} (hd : d < 10) (s x : Int) : bA (bR (bO s x) ((d : Nat) : Int)) 1 = 1 ↔ bA (bR s ((d : Nat) : Int)) 1 = 1 ∨ bA (bR x ((d : Nat) : Int)) 1 = 1 := by
  rw [bit_iff hd, bit_iff hd, bit_iff hd, bO_bits, BitVec.getLsbD_or, Bool.or_eq_true]
theorem bO_0 : ∀ x, x < 256 → bO ((x : Nat) : Int) 0 = ((x : Nat) : Int) := by decide +kernel
theorem pc_00 : pc 0 = 0 ∧ ∀ c, c < 8 → bA (bR 0 ((c : Nat) : Int)) 1 ≠ 1 := by decide +kernel
def CelM (μ : Mm) (σ : CS) : Prop := (∀ q, q < 60 → σ.1 q ≠ -1 → μ 81 q = σ.1 q) ∧ μ 70 21 = (if σ.2.1 2 = -1 then 0 else 1) ∧ (0 ≤ μ 70 20 ∧ μ 70 20 ≤ 255) ∧ (∀ c, c < 8 → (bA (bR (μ 70 20) ((c : Nat) : Int)) 1 = 1 ↔ σ.2.1 (3 + c) ≠ -1)) ∧ pc (μ 70 20) = σ.2.2.1
def wR (k j : Nat) : Prop := (k = 70 ∧ (j = 3 ∨ j = 4 ∨ (18 ≤ j ∧ j ≤ 21))) ∨ k = 81
def fR (μ μ' : Mm) : Prop := Bm μ' ∧ fw wR μ μ'
theorem fR_s {μ μ' : Mm} (h : fR μ μ') {c j : Nat} {v : Int} (hw : wR c j) (hv : (bm c j).1 ≤ v ∧ v ≤ (bm c j).2) : fR μ (sM μ' c j v) := ⟨Bm_sM h.1 hv, fw_sM h.2 hw⟩
theorem fR_tr {μ μ' μ'' : Mm} (h : fR μ μ') (h2 : fR μ' μ'') : fR μ μ'' := ⟨h2.1, fw_tr h.2 h2.2⟩
theorem Tm_fR {t : Nat → Int} {n : Nat} {μ μ' : Mm} (h : Tm t n μ) (hf : fR μ μ') : Tm t n μ' :=
  ⟨h.1, by rw [hf.2 70 2 (by unfold wR; omega)]; exact h.2.1, fun j hj => by rw [hf.2 71 j (by unfold wR; omega)]; exact h.2.2 j hj⟩
/-- one thing more lies in the row -/
def plm (μ : Mm) (pl : Nat) (v : Int) (b : Int) : Mm := sM (sM (sM μ 70 21 (if v = 2 ∨ μ 70 21 ≠ 0 then 1 else 0)) 70 20 b) 81 pl v
theorem CelM_u {μ : Mm} {σ : CS} (hC : CelM μ σ) {pl : Nat} (hpl : pl < 60) {v b : Int} (hv : 0 ≤ v ∧ v ≤ 10) (hn : ¬ (2 ≤ v ∧ σ.2.1 v.toNat ≠ -1)) (hb : b = if v < 3 then bO (μ 70 20) 0 else bO (μ 70 20) (bL 1 (v - 3))) : CelM (plm μ pl v b) (ups σ pl v) ∧ 0 ≤ b ∧ b ≤ 255 := by
  obtain ⟨c1, c2, c3, c4, c5⟩ := hC
  have hx : μ 70 20 = (((μ 70 20).toNat : Nat) : Int) := by omega
  have bits : (0 ≤ b ∧ b ≤ 255) ∧ (∀ c, c < 8 → (bA (bR b ((c : Nat) : Int)) 1 = 1 ↔ (ups σ pl v).2.1 (3 + c) ≠ -1)) ∧ pc b = (ups σ pl v).2.2.1 := by
    by_cases g : v < 3
    · have e : b = μ 70 20 := by
        rw [hb, if_pos g, hx]; exact bO_0 _ (by omega)
      rw [e]
      refine ⟨c3, fun c hc => ?_, ?_⟩
      · rw [c4 c hc]
        show _ ↔ (if 2 ≤ v ∧ 3 + c = v.toNat then (pl : Int) else σ.2.1 (3 + c)) ≠ -1
        rw [if_neg (by omega)]
      · rw [c5]
        show _ = σ.2.2.1 + (if 3 ≤ v then 1 else 0)
        rw [if_neg (by omega)]; omega
    · have e3 : v - 3 = (((v - 3).toNat : Nat) : Int) := by omega
      have hfree : bA (bR (μ 70 20) (((v - 3).toNat : Nat) : Int)) 1 ≠ 1 := by
        intro z
        have := (c4 (v - 3).toNat (by omega)).mp z
        have e5 : 3 + (v - 3).toNat = v.toNat := by omega
        rw [e5] at this
        exact hn ⟨by omega, this⟩
      have hset := bit_set_n (v - 3).toNat (by omega) (μ 70 20).toNat (by omega) (by rw [← hx]; exact hfree)
      rw [← hx, ← e3] at hset
      rw [if_neg g] at hb
      rw [← hb] at hset
      refine ⟨⟨hset.1, hset.2.1⟩, fun c hc => ?_, ?_⟩
      · rw [hb, bit_or (by omega), c4 c hc]
        show _ ↔ (if 2 ≤ v ∧ 3 + c = v.toNat then (pl : Int) else σ.2.1 (3 + c)) ≠ -1
        by_cases e : c = (v - 3).toNat
        · rw [if_pos (by omega)]
          constructor
          · intro _; omega
          · intro _; rw [e3, e]; exact Or.inr (bit_self _ (by omega))
        · rw [if_neg (by omega)]
          constructor
          · rintro (h | h)
            · exact h
            · rw [e3] at h
              exact absurd h (bit_oth _ (by omega) c hc (fun z => e z.symm))
          · exact Or.inl
      · rw [hset.2.2, c5]
        show _ = σ.2.2.1 + (if 3 ≤ v then 1 else 0)
        rw [if_pos (by omega)]
  unfold plm
  refine ⟨⟨fun q hq hne => ?_, ?_, ?_, ?_, ?_⟩, bits.1.1, bits.1.2⟩
  · rw [sM_if]
    show _ = if q = pl then v else σ.1 q
    by_cases e : q = pl
    · rw [if_pos e, if_pos e]
    · have hne : (if q = pl then v else σ.1 q) ≠ -1 := hne
      rw [if_neg e] at hne
      rw [if_neg e, if_neg e, sM_a (by decide), sM_a (by decide)]
      exact c1 q hq hne
  · rw [sM_a (by decide), sM_j (by decide), sM_s, c2]
    show _ = if (if 2 ≤ v ∧ 2 = v.toNat then (pl : Int) else σ.2.1 2) = -1 then 0 else 1
    by_cases e : v = 2
    · rw [if_pos (Or.inl e), if_neg (by rw [if_pos (by omega)]; omega)]
    · rw [if_neg (c := 2 ≤ v ∧ 2 = v.toNat) (by omega)]
      by_cases e2 : σ.2.1 2 = -1
      · rw [if_pos e2, if_neg (by omega)]
      · rw [if_neg e2, if_pos (by omega)]
  · rw [sM_a (by decide), sM_s]; exact bits.1
  · intro c hc
    rw [sM_a (by decide), sM_s]; exact bits.2.1 c hc
  · rw [sM_a (by decide), sM_s]; exact bits.2.2
def K83 : Mm → Rs := fun μ47 => bd (X11_bad μ47) fun v48 μ49 => some (0, μ49)
theorem rowM {t : Nat → Int} {n : Nat} (hT : ∀ j, j < n → 1 ≤ t j ∧ t j ≤ 255) {r m w : Nat} (hr : 10 * r + m ≤ 60) (hm9 : m ≤ 9) (hm : m = if r = 0 then 9 else w) (K : Int → Mm → Rs) : ∀ (k fuel j p : Nat) (μ : Mm) (σ : CS), j + k = m → k + 1 < fuel → Bm μ → Tm t n μ → μ 70 4 = -1 → CelM μ σ → μ 70 18 = (r : Int) → (r = 0 ∨ μ 70 19 = (w : Int)) → p ≤ n →
    match rowS t n k p (10 * r + j) σ with
      | none => ∃ μ' a, X11_rowText_L10 K K83 fuel (j : Int) (sg (pk t n p)) (ma μ (sk t n p)) = some (0, ma μ' a) ∧ a ≤ n ∧ fR μ μ' ∧ μ' 70 4 ≠ -1
      | some q => if sg (pk t n q.1) = -1 then ∃ μ' j', X11_rowText_L10 K K83 fuel (j : Int) (sg (pk t n p)) (ma μ (sk t n p)) = K ((j' : Nat) : Int) (ma μ' (sk t n q.1)) ∧ q.2.1 = 10 * r + j' ∧ j' ≤ m ∧ q.1 ≤ n ∧ fR μ μ' ∧ μ' 70 4 = -1 ∧ CelM μ' q.2.2 ∧ μ' 70 18 = (r : Int) ∧ (r = 0 ∨ μ' 70 19 = (w : Int))
        else ∃ μ' a, X11_rowText_L10 K K83 fuel (j : Int) (sg (pk t n p)) (ma μ (sk t n p)) = some (0, ma μ' a) ∧ a ≤ n ∧ fR μ μ' ∧ μ' 70 4 ≠ -1 := by
  intro k
  induction k with
  | zero =>
    intro fuel j p μ σ hj hf hB h hw hC h18 h19 hp
    obtain ⟨f', rfl, -⟩ := lt_fuel hf
    have hq := sk_le (t := t) (n := n) p hp
    unfold rowS
    dsimp only
    have hs := sg_b (pk t n p)
    rw [X11_rowText_L10, ma_j (by decide), if_pos hw]
    by_cases c : sg (pk t n p) = -1
    · rw [if_pos c, if_pos c]
      exact ⟨μ, j, rfl, rfl, by omega, hp, ⟨hB, fw_rf⟩, hw, hC, h18, h19⟩
    · rw [if_neg c, if_neg c]
      have h160 := h.1
      have hbad : K83 (ma μ (sk t n p)) = some (0, ma (sM μ 70 4 ((sk t n p : Nat) : Int)) (sk t n p)) := by
        unfold K83; rw [bad_eq hw, bd_some]
      have fin : ∃ μ' a, K83 (ma μ (sk t n p)) = some (0, ma μ' a) ∧ a ≤ n ∧ fR μ μ' ∧ μ' 70 4 ≠ -1 := ⟨_, _, hbad, hq, fR_s ⟨hB, fw_rf⟩ (by unfold wR; omega) (show (-1 : Int) ≤ ((sk t n p : Nat) : Int) ∧ ((sk t n p : Nat) : Int) ≤ 1000 by omega), by rw [sM_s]; omega⟩
      have h53 : ∀ k10 : Int → Int → Mm → Rs, X11_rowText_J53 k10 (fun μq => K83 μq) (j : Int) (sg (pk t n p)) (ma μ (sk t n p)) = K83 (ma μ (sk t n p)) := by
        intro k10; unfold X11_rowText_J53 X11_rowText_J58; rw [if_neg (by decide)]
      have h57 : ∀ k10 : Int → Int → Mm → Rs, X11_rowText_J57 k10 (fun μq => K83 μq) (j : Int) (sg (pk t n p)) (ma μ (sk t n p)) = K83 (ma μ (sk t n p)) := by
        intro k10
        unfold X11_rowText_J57 X11_rowText_J58
        rw [if_pos rfl, ma_j (by decide), h18]
        by_cases c0 : r = 0
        · unfold X11_rowText_J80
          rw [if_pos (by omega), if_pos (by rw [if_pos c0] at hm; omega)]
        · unfold X11_rowText_J80
          rw [if_neg (by omega), ma_j (by decide), h19.resolve_left c0, if_pos (by rw [if_neg c0] at hm; omega)]
      have h35 : ∀ k10 : Int → Int → Mm → Rs, X11_rowText_J35 k10 (fun μq => K83 μq) (j : Int) (sg (pk t n p)) (ma μ (sk t n p)) = K83 (ma μ (sk t n p)) := by
        intro k10
        unfold X11_rowText_J35
        by_cases c3 : sg (pk t n p) < 3
        · rw [if_pos c3]; exact h57 _
        · rw [if_neg c3]
          unfold X11_has
          by_cases c4 : bA (bR (ma μ (sk t n p) 70 20) (iS (sg (pk t n p)) 3)) 1 = 1
          · rw [if_pos c4, bd_some, if_neg (by decide)]; exact h53 _
          · rw [if_neg c4, bd_some, if_pos rfl]; exact h57 _
      by_cases c2 : sg (pk t n p) = 2
      · rw [if_pos c2]
        by_cases c3 : ma μ (sk t n p) 70 21 = 0
        · rw [if_pos c3, h35]; exact fin
        · rw [if_neg c3, h53]; exact fin
      · rw [if_neg c2, h35]; exact fin
  | succ k ih =>
    intro fuel j p μ σ hj hf hB h hw hC h18 h19 hp
    obtain ⟨f', rfl, hf'⟩ := lt_fuel (d := k + 2) hf
    have hq := sk_le (t := t) (n := n) p hp
    have hs := sg_b (pk t n p)
    have h160 := h.1
    unfold rowS
    rw [X11_rowText_L10, ma_j (by decide), if_pos hw]
    by_cases c : sg (pk t n p) = -1
    · rw [if_pos c, if_pos c]
      dsimp only
      rw [if_pos c]
      exact ⟨μ, j, rfl, rfl, by omega, hp, ⟨hB, fw_rf⟩, hw, hC, h18, h19⟩
    · rw [if_neg c, if_neg c]
      have hqn : sk t n p < n := by
        refine (pk_ne (t := t) (n := n) (p := p) (fun e => c ?_)).1
        rw [e]; rfl
      have hbad : K83 (ma μ (sk t n p)) = some (0, ma (sM μ 70 4 ((sk t n p : Nat) : Int)) (sk t n p)) := by
        unfold K83; rw [bad_eq hw, bd_some]
      have fin : ∃ μ' a, K83 (ma μ (sk t n p)) = some (0, ma μ' a) ∧ a ≤ n ∧ fR μ μ' ∧ μ' 70 4 ≠ -1 := ⟨_, _, hbad, hq, fR_s ⟨hB, fw_rf⟩ (by unfold wR; omega) (show (-1 : Int) ≤ ((sk t n p : Nat) : Int) ∧ ((sk t n p : Nat) : Int) ≤ 1000 by omega), by rw [sM_s]; omega⟩
      have h53 : X11_rowText_J53 (fun w1 w2 μq => X11_rowText_L10 K K83 f' w1 w2 μq) (fun μq => K83 μq) (j : Int) (sg (pk t n p)) (ma μ (sk t n p)) = K83 (ma μ (sk t n p)) := by
        unfold X11_rowText_J53 X11_rowText_J58; rw [if_neg (by decide)]
      obtain ⟨c1, c2, c3, c4, c5⟩ := id hC
      have b60 : (0 : Int) ≤ ((10 * r + j : Nat) : Int) ∧ ((10 * r + j : Nat) : Int) < ((aN 81 : Nat) : Int) := by show _ ∧ _ < (60 : Int); omega
      have bsk : sk t n p < 100000 := by omega
      have bsk1 : sk t n p + 1 < 100000 := by omega
      have bj : j < 100000 := by omega
      -- the memory with one thing more
      have stepE : ∀ b : Int, b = (if sg (pk t n p) < 3 then bO (μ 70 20) 0 else bO (μ 70 20) (bL 1 (sg (pk t n p) - 3))) → X11_rowText_J57 (fun w1 w2 μq => X11_rowText_L10 K K83 f' w1 w2 μq) (fun μq => K83 μq) (j : Int) (sg (pk t n p)) (ma μ (sk t n p)) = X11_rowText_L10 K K83 f' ((j + 1 : Nat) : Int) (sg (pk t n (sk t n p + 1))) (ma (plm μ (10 * r + j) (sg (pk t n p)) b) (sk t n (sk t n p + 1))) := by
        intro b hb
        have J106 : ∀ s : Int, s = (if sg (pk t n p) = 2 ∨ μ 70 21 ≠ 0 then 1 else 0) → X11_rowText_J106 (fun w1 w2 μq => X11_rowText_L10 K K83 f' w1 w2 μq) (j : Int) (sg (pk t n p)) s (ma μ (sk t n p)) = X11_rowText_L10 K K83 f' ((j + 1 : Nat) : Int) (sg (pk t n (sk t n p + 1))) (ma (plm μ (10 * r + j) (sg (pk t n p)) b) (sk t n (sk t n p + 1))) := by
          intro s hs1
          have hs01 : s = 0 ∨ s = 1 := by rw [hs1]; split <;> omega
          unfold X11_rowText_J106 sZ
          rw [if_pos hs01, ma_s (by decide)]
          dsimp only
          have J128 : ∀ x : Int, b = bO (μ 70 20) x → X11_rowText_J128 (fun w1 w2 μq => X11_rowText_L10 K K83 f' w1 w2 μq) (j : Int) (sg (pk t n p)) (ma (sM μ 70 21 s) (sk t n p) 70 20) x (ma (sM μ 70 21 s) (sk t n p)) = X11_rowText_L10 K K83 f' ((j + 1 : Nat) : Int) (sg (pk t n (sk t n p + 1))) (ma (plm μ (10 * r + j) (sg (pk t n p)) b) (sk t n (sk t n p + 1))) := by
            intro x hx
            have q20 : ma (sM μ 70 21 s) (sk t n p) 70 20 = μ 70 20 := by rw [ma_j (by decide), sM_j (by decide)]
            have q18 : ma (sM (sM μ 70 21 s) 70 20 b) (sk t n p) 70 18 = (r : Int) := by rw [ma_j (by decide), sM_j (by decide), sM_j (by decide)]; exact h18
            unfold X11_rowText_J128 sF stA
            dsimp only
            rw [q20, ← hx, ma_s (c := 70) (j := 20) (by decide), q18]
            have epl : iA (iM 10 (r : Int)) (j : Int) = ((10 * r + j : Nat) : Int) := by
              rw [iM_id (by omega) (by omega), iA_id (by omega) (by omega)]; omega
            rw [epl, if_pos b60, Int.toNat_natCast, ma_s (c := 81) (fun e => absurd e.1 (by decide)), ma_3, iA_nat (p := sk t n p) bsk, ma_ma]
            have hpl : sM (sM (sM μ 70 21 s) 70 20 b) 81 (10 * r + j) (sg (pk t n p)) = plm μ (10 * r + j) (sg (pk t n p)) b := by
              unfold plm; rw [hs1]
            rw [hpl]
            have hTm : Tm t n (plm μ (10 * r + j) (sg (pk t n p)) b) := by
              unfold plm
              exact Tm_s (Tm_s (Tm_s h (by decide) (by decide)) (by decide) (by decide)) (fun e => absurd e.1 (by decide)) (by decide)
            rw [look_eq hTm bsk1, bd_some, signOf_eq (pk_b hT _), bd_some, iA_nat (p := j) bj]
          by_cases g3 : sg (pk t n p) < 3
          · rw [if_pos g3] at hb
            rw [if_pos g3]
            exact J128 0 hb
          · rw [if_neg g3] at hb
            rw [if_neg g3, iS_id (by omega) (by omega)]
            exact J128 _ hb
        have J80 : ∀ s1 : Int, (j : Int) ≠ s1 → X11_rowText_J80 (fun w1 w2 μq => X11_rowText_L10 K K83 f' w1 w2 μq) (fun μq => K83 μq) (j : Int) (sg (pk t n p)) (j : Int) s1 (ma μ (sk t n p)) = X11_rowText_L10 K K83 f' ((j + 1 : Nat) : Int) (sg (pk t n (sk t n p + 1))) (ma (plm μ (10 * r + j) (sg (pk t n p)) b) (sk t n (sk t n p + 1))) := by
          intro s1 hne
          unfold X11_rowText_J80 X11_rowText_J101
          rw [if_neg hne, ma_j (by decide)]
          by_cases g1 : μ 70 21 = 0
          · rw [if_pos g1]
            by_cases g2 : sg (pk t n p) = 2
            · rw [if_pos g2]; exact J106 1 (by rw [if_pos (Or.inl g2)])
            · rw [if_neg g2]; exact J106 0 (by rw [if_neg (by omega)])
          · rw [if_neg g1]; exact J106 1 (by rw [if_pos (Or.inr g1)])
        unfold X11_rowText_J57 X11_rowText_J58
        rw [if_pos rfl, ma_j (by decide), h18]
        by_cases c0 : r = 0
        · rw [if_pos (by omega)]
          exact J80 9 (by rw [if_pos c0] at hm; omega)
        · rw [if_neg (by omega), ma_j (by decide), h19.resolve_left c0]
          exact J80 _ (by rw [if_neg c0] at hm; omega)
      by_cases g : 2 ≤ sg (pk t n p) ∧ σ.2.1 (sg (pk t n p)).toNat ≠ -1
      · rw [if_pos g]
        dsimp only
        by_cases g2 : sg (pk t n p) = 2
        · have e2 : (sg (pk t n p)).toNat = 2 := by omega
          have : ma μ (sk t n p) 70 21 ≠ 0 := by
            rw [ma_j (by decide), c2, if_neg (by rw [e2] at g; exact g.2)]; decide
          rw [if_pos g2, if_neg this, h53]
          exact fin
        · rw [if_neg g2]
          unfold X11_rowText_J35 X11_has
          have e3 : sg (pk t n p) - 3 = (((sg (pk t n p) - 3).toNat : Nat) : Int) := by omega
          have e5 : 3 + (sg (pk t n p) - 3).toNat = (sg (pk t n p)).toNat := by omega
          rw [if_neg (by omega), ma_j (by decide), iS_id (by omega) (by omega), e3, if_pos ((c4 _ (by omega)).mpr (by rw [e5]; exact g.2)), bd_some, if_neg (by decide)]
          rw [h53]
          exact fin
      · rw [if_neg g]
        obtain ⟨hC1, hb1, hb2⟩ := CelM_u hC (pl := 10 * r + j) (by omega) (v := sg (pk t n p)) (b := if sg (pk t n p) < 3 then bO (μ 70 20) 0 else bO (μ 70 20) (bL 1 (sg (pk t n p) - 3))) (by omega) g rfl
        have hE := stepE _ rfl
        revert hE hC1 hb1 hb2
        generalize (if sg (pk t n p) < 3 then bO (μ 70 20) 0 else bO (μ 70 20) (bL 1 (sg (pk t n p) - 3))) = b
        intro hC1 hb1 hb2 hE
        have hL : (if sg (pk t n p) = 2 then (if ma μ (sk t n p) 70 21 = 0 then X11_rowText_J35 (fun w1 w2 μq => X11_rowText_L10 K K83 f' w1 w2 μq) (fun μq => K83 μq) (j : Int) (sg (pk t n p)) (ma μ (sk t n p)) else X11_rowText_J53 (fun w1 w2 μq => X11_rowText_L10 K K83 f' w1 w2 μq) (fun μq => K83 μq) (j : Int) (sg (pk t n p)) (ma μ (sk t n p))) else X11_rowText_J35 (fun w1 w2 μq => X11_rowText_L10 K K83 f' w1 w2 μq) (fun μq => K83 μq) (j : Int) (sg (pk t n p)) (ma μ (sk t n p))) = X11_rowText_L10 K K83 f' ((j + 1 : Nat) : Int) (sg (pk t n (sk t n p + 1))) (ma (plm μ (10 * r + j) (sg (pk t n p)) b) (sk t n (sk t n p + 1))) := by
          by_cases g2 : sg (pk t n p) = 2
          · have e2 : (sg (pk t n p)).toNat = 2 := by omega
            have h0 : σ.2.1 2 = -1 := by
              by_cases z : σ.2.1 2 = -1
              · exact z
              · exact absurd ⟨by omega, by rw [e2]; exact z⟩ g
            have : ma μ (sk t n p) 70 21 = 0 := by
              rw [ma_j (by decide), c2, if_pos h0]
            rw [if_pos g2, if_pos this]
            unfold X11_rowText_J35
            rw [if_pos (by omega)]
            exact hE
          · rw [if_neg g2]
            unfold X11_rowText_J35 X11_has
            by_cases g3 : sg (pk t n p) < 3
            · rw [if_pos g3]; exact hE
            · have e3 : sg (pk t n p) - 3 = (((sg (pk t n p) - 3).toNat : Nat) : Int) := by omega
              have e5 : 3 + (sg (pk t n p) - 3).toNat = (sg (pk t n p)).toNat := by omega
              rw [if_neg g3, ma_j (by decide), iS_id (by omega) (by omega), e3, if_neg (fun z => g ⟨by omega, by have := (c4 _ (by omega)).mp z; rw [e5] at this; exact this⟩), bd_some, if_pos rfl]
              exact hE
        rw [hL]
        have f1 : fR μ (plm μ (10 * r + j) (sg (pk t n p)) b) := by
          unfold plm
          refine fR_s (fR_s (fR_s ⟨hB, fw_rf⟩ (by unfold wR; omega) ?_) (by unfold wR; omega) ?_) (by unfold wR; omega) ?_
          · show (0 : Int) ≤ (if _ then 1 else 0) ∧ (if _ then 1 else 0) ≤ (1 : Int)
            split <;> omega
          · show (-2147483648 : Int) ≤ b ∧ b ≤ 2147483647
            omega
          · show (-1 : Int) ≤ _ ∧ _ ≤ (10 : Int)
            omega
        have p70 : ∀ q, q ≠ 20 → q ≠ 21 → plm μ (10 * r + j) (sg (pk t n p)) b 70 q = μ 70 q := fun q h20 h21 => by
          unfold plm; rw [sM_a (by decide), sM_j h20, sM_j h21]
        have := ih f' (j + 1) (sk t n p + 1) (plm μ (10 * r + j) (sg (pk t n p)) b) (ups σ (10 * r + j) (sg (pk t n p))) (by omega) (by omega) f1.1 (Tm_fR h f1) (by rw [p70 4 (by decide) (by decide)]; exact hw) hC1 (by rw [p70 18 (by decide) (by decide)]; exact h18) (by rw [p70 19 (by decide) (by decide)]; exact h19) (by omega)
        have ea : 10 * r + j + 1 = 10 * r + (j + 1) := rfl
        rw [ea]
        revert this
        cases rowS t n k (sk t n p + 1) (10 * r + (j + 1)) (ups σ (10 * r + j) (sg (pk t n p))) with
        | none =>
          rintro ⟨μ', a, g1, g2, g3, g4⟩
          exact ⟨μ', a, g1, g2, fR_tr f1 g3, g4⟩
        | some q =>
          dsimp only
          by_cases z : sg (pk t n q.1) = -1
          · rw [if_pos z, if_pos z]
            rintro ⟨μ', j', g1, g2, g3, g4, g5, g6⟩
            exact ⟨μ', j', g1, g2, g3, g4, fR_tr f1 g5, g6⟩
          · rw [if_neg z, if_neg z]
            rintro ⟨μ', a, g1, g2, g3, g4⟩
            exact ⟨μ', a, g1, g2, fR_tr f1 g3, g4⟩
