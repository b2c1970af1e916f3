/-! FEED on the model's side (written by wip/gen/feedgen.py) -/
theorem byteOf_0 (a b c d e : Int) (μ : Mm) : X11_byteOf a b c d e 0 μ = some (byt a 0, μ) := by
  unfold X11_byteOf
  rw [if_neg (by decide)]
  unfold X11_byteOf_J45
  rw [show iS 24 (iM 8 (iR 0 4)) = ((24 - 8 * 0 : Nat) : Int) by decide, byt_R a 0 (by decide)]
theorem byteOf_1 (a b c d e : Int) (μ : Mm) : X11_byteOf a b c d e 1 μ = some (byt a 1, μ) := by
  unfold X11_byteOf
  rw [if_neg (by decide)]
  unfold X11_byteOf_J45
  rw [show iS 24 (iM 8 (iR 1 4)) = ((24 - 8 * 1 : Nat) : Int) by decide, byt_R a 1 (by decide)]
theorem byteOf_2 (a b c d e : Int) (μ : Mm) : X11_byteOf a b c d e 2 μ = some (byt a 2, μ) := by
  unfold X11_byteOf
  rw [if_neg (by decide)]
  unfold X11_byteOf_J45
  rw [show iS 24 (iM 8 (iR 2 4)) = ((24 - 8 * 2 : Nat) : Int) by decide, byt_R a 2 (by decide)]
theorem byteOf_3 (a b c d e : Int) (μ : Mm) : X11_byteOf a b c d e 3 μ = some (byt a 3, μ) := by
  unfold X11_byteOf
  rw [if_neg (by decide)]
  unfold X11_byteOf_J45
  rw [show iS 24 (iM 8 (iR 3 4)) = ((24 - 8 * 3 : Nat) : Int) by decide, byt_R a 3 (by decide)]
theorem byteOf_4 (a b c d e : Int) (μ : Mm) : X11_byteOf a b c d e 4 μ = some (byt b 0, μ) := by
  unfold X11_byteOf
  rw [if_pos (by decide), if_neg (by decide)]
  unfold X11_byteOf_J45
  rw [show iS 24 (iM 8 (iR 4 4)) = ((24 - 8 * 0 : Nat) : Int) by decide, byt_R b 0 (by decide)]
theorem byteOf_5 (a b c d e : Int) (μ : Mm) : X11_byteOf a b c d e 5 μ = some (byt b 1, μ) := by
  unfold X11_byteOf
  rw [if_pos (by decide), if_neg (by decide)]
  unfold X11_byteOf_J45
  rw [show iS 24 (iM 8 (iR 5 4)) = ((24 - 8 * 1 : Nat) : Int) by decide, byt_R b 1 (by decide)]
theorem byteOf_6 (a b c d e : Int) (μ : Mm) : X11_byteOf a b c d e 6 μ = some (byt b 2, μ) := by
  unfold X11_byteOf
  rw [if_pos (by decide), if_neg (by decide)]
  unfold X11_byteOf_J45
  rw [show iS 24 (iM 8 (iR 6 4)) = ((24 - 8 * 2 : Nat) : Int) by decide, byt_R b 2 (by decide)]
theorem byteOf_7 (a b c d e : Int) (μ : Mm) : X11_byteOf a b c d e 7 μ = some (byt b 3, μ) := by
  unfold X11_byteOf
  rw [if_pos (by decide), if_neg (by decide)]
  unfold X11_byteOf_J45
  rw [show iS 24 (iM 8 (iR 7 4)) = ((24 - 8 * 3 : Nat) : Int) by decide, byt_R b 3 (by decide)]
theorem byteOf_8 (a b c d e : Int) (μ : Mm) : X11_byteOf a b c d e 8 μ = some (byt c 0, μ) := by
  unfold X11_byteOf
  rw [if_pos (by decide), if_pos (by decide), if_neg (by decide)]
  unfold X11_byteOf_J45
  rw [show iS 24 (iM 8 (iR 8 4)) = ((24 - 8 * 0 : Nat) : Int) by decide, byt_R c 0 (by decide)]
theorem byteOf_9 (a b c d e : Int) (μ : Mm) : X11_byteOf a b c d e 9 μ = some (byt c 1, μ) := by
  unfold X11_byteOf
  rw [if_pos (by decide), if_pos (by decide), if_neg (by decide)]
  unfold X11_byteOf_J45
  rw [show iS 24 (iM 8 (iR 9 4)) = ((24 - 8 * 1 : Nat) : Int) by decide, byt_R c 1 (by decide)]
theorem byteOf_10 (a b c d e : Int) (μ : Mm) : X11_byteOf a b c d e 10 μ = some (byt c 2, μ) := by
  unfold X11_byteOf
  rw [if_pos (by decide), if_pos (by decide), if_neg (by decide)]
  unfold X11_byteOf_J45
  rw [show iS 24 (iM 8 (iR 10 4)) = ((24 - 8 * 2 : Nat) : Int) by decide, byt_R c 2 (by decide)]
theorem byteOf_11 (a b c d e : Int) (μ : Mm) : X11_byteOf a b c d e 11 μ = some (byt c 3, μ) := by
  unfold X11_byteOf
  rw [if_pos (by decide), if_pos (by decide), if_neg (by decide)]
  unfold X11_byteOf_J45
  rw [show iS 24 (iM 8 (iR 11 4)) = ((24 - 8 * 3 : Nat) : Int) by decide, byt_R c 3 (by decide)]
theorem byteOf_12 (a b c d e : Int) (μ : Mm) : X11_byteOf a b c d e 12 μ = some (byt d 0, μ) := by
  unfold X11_byteOf
  rw [if_pos (by decide), if_pos (by decide), if_pos (by decide), if_neg (by decide)]
  unfold X11_byteOf_J45
  rw [show iS 24 (iM 8 (iR 12 4)) = ((24 - 8 * 0 : Nat) : Int) by decide, byt_R d 0 (by decide)]
theorem byteOf_13 (a b c d e : Int) (μ : Mm) : X11_byteOf a b c d e 13 μ = some (byt d 1, μ) := by
  unfold X11_byteOf
  rw [if_pos (by decide), if_pos (by decide), if_pos (by decide), if_neg (by decide)]
  unfold X11_byteOf_J45
  rw [show iS 24 (iM 8 (iR 13 4)) = ((24 - 8 * 1 : Nat) : Int) by decide, byt_R d 1 (by decide)]
theorem byteOf_14 (a b c d e : Int) (μ : Mm) : X11_byteOf a b c d e 14 μ = some (byt d 2, μ) := by
  unfold X11_byteOf
  rw [if_pos (by decide), if_pos (by decide), if_pos (by decide), if_neg (by decide)]
  unfold X11_byteOf_J45
  rw [show iS 24 (iM 8 (iR 14 4)) = ((24 - 8 * 2 : Nat) : Int) by decide, byt_R d 2 (by decide)]
theorem byteOf_15 (a b c d e : Int) (μ : Mm) : X11_byteOf a b c d e 15 μ = some (byt d 3, μ) := by
  unfold X11_byteOf
  rw [if_pos (by decide), if_pos (by decide), if_pos (by decide), if_neg (by decide)]
  unfold X11_byteOf_J45
  rw [show iS 24 (iM 8 (iR 15 4)) = ((24 - 8 * 3 : Nat) : Int) by decide, byt_R d 3 (by decide)]
theorem byteOf_16 (a b c d e : Int) (μ : Mm) : X11_byteOf a b c d e 16 μ = some (byt e 0, μ) := by
  unfold X11_byteOf
  rw [if_pos (by decide), if_pos (by decide), if_pos (by decide), if_pos (by decide)]
  unfold X11_byteOf_J45
  rw [show iS 24 (iM 8 (iR 16 4)) = ((24 - 8 * 0 : Nat) : Int) by decide, byt_R e 0 (by decide)]
theorem byteOf_17 (a b c d e : Int) (μ : Mm) : X11_byteOf a b c d e 17 μ = some (byt e 1, μ) := by
  unfold X11_byteOf
  rw [if_pos (by decide), if_pos (by decide), if_pos (by decide), if_pos (by decide)]
  unfold X11_byteOf_J45
  rw [show iS 24 (iM 8 (iR 17 4)) = ((24 - 8 * 1 : Nat) : Int) by decide, byt_R e 1 (by decide)]
theorem byteOf_18 (a b c d e : Int) (μ : Mm) : X11_byteOf a b c d e 18 μ = some (byt e 2, μ) := by
  unfold X11_byteOf
  rw [if_pos (by decide), if_pos (by decide), if_pos (by decide), if_pos (by decide)]
  unfold X11_byteOf_J45
  rw [show iS 24 (iM 8 (iR 18 4)) = ((24 - 8 * 2 : Nat) : Int) by decide, byt_R e 2 (by decide)]
theorem byteOf_19 (a b c d e : Int) (μ : Mm) : X11_byteOf a b c d e 19 μ = some (byt e 3, μ) := by
  unfold X11_byteOf
  rw [if_pos (by decide), if_pos (by decide), if_pos (by decide), if_pos (by decide)]
  unfold X11_byteOf_J45
  rw [show iS 24 (iM 8 (iR 19 4)) = ((24 - 8 * 3 : Nat) : Int) by decide, byt_R e 3 (by decide)]
theorem cnt_step (a b c d e : Int) (K : Int → Mm → Rs) (n : Nat) (z k k' v : Int) (μ : Mm) (hk : ¬ 20 ≤ k) (hb : X11_byteOf a b c d e k μ = some (v, μ)) (hk' : iA k 1 = k') (hz : 0 ≤ z ∧ z ≤ 1000) : X11_feed_L6 a b c d e K (n + 1) z k μ = X11_feed_L6 a b c d e K n (z + (if v = 0 then 0 else 1)) k' μ := by
  show (if 20 ≤ k then _ else _) = _
  rw [if_neg hk, hb, bd_some, hk']
  by_cases h : v = 0
  · rw [if_pos h, if_pos h, iA_id (by omega) (by omega)]
  · rw [if_neg h, if_neg h, iA_id (by omega) (by omega)]
theorem put_step (a b c d e : Int) (n : Nat) (k k' v : Int) (μ : Mm) (hk : ¬ 20 ≤ k) (hb : ∀ ν, X11_byteOf a b c d e k ν = some (v, ν)) (hk' : iA k 1 = k') (h0 : 0 ≤ μ 70 2) (h1 : μ 70 2 + (if v = 0 then 0 else 1) ≤ 160) : X11_feed_L62 a b c d e (n + 1) k μ = X11_feed_L62 a b c d e n k' (putB 70 2 71 μ v) := by
  show (if 20 ≤ k then _ else _) = _
  rw [if_neg hk, hb, bd_some, hk']
  unfold putB
  by_cases h : v = 0
  · rw [if_pos h, if_pos h]
  · rw [if_neg h] at h1
    rw [if_neg h, if_neg h]
    unfold stA
    rw [if_pos (by show 0 ≤ μ 70 2 ∧ μ 70 2 < 160; omega)]
    unfold sF
    dsimp only
    rw [sM_a (show (70 : Nat) ≠ 71 by decide), iA_id (by omega) (by omega)]
theorem putB_len (o s a : Nat) (μ : Mm) (b : Int) : putB o s a μ b o s = μ o s + (if b = 0 then 0 else 1) := by
  unfold putB
  by_cases h : b = 0
  · rw [if_pos h, if_pos h]; omega
  · rw [if_neg h, if_neg h, sM_s]
def LB (a b c d e : Int) : List Int := four a ++ (four b ++ (four c ++ (four d ++ four e)))
theorem bit_b (v : Int) : (0 : Int) ≤ (if v = 0 then 0 else 1) ∧ (if v = 0 then 0 else 1) ≤ (1 : Int) := by split <;> omega
theorem cnt_all (a b c d e : Int) (K : Int → Mm → Rs) (μ : Mm) (n : Nat) : X11_feed_L6 a b c d e K (n + 21) 0 0 μ = K (nzc (LB a b c d e)) μ := by
  have g0 := bit_b (byt a 0)
  have g1 := bit_b (byt a 1)
  have g2 := bit_b (byt a 2)
  have g3 := bit_b (byt a 3)
  have g4 := bit_b (byt b 0)
  have g5 := bit_b (byt b 1)
  have g6 := bit_b (byt b 2)
  have g7 := bit_b (byt b 3)
  have g8 := bit_b (byt c 0)
  have g9 := bit_b (byt c 1)
  have g10 := bit_b (byt c 2)
  have g11 := bit_b (byt c 3)
  have g12 := bit_b (byt d 0)
  have g13 := bit_b (byt d 1)
  have g14 := bit_b (byt d 2)
  have g15 := bit_b (byt d 3)
  have g16 := bit_b (byt e 0)
  have g17 := bit_b (byt e 1)
  have g18 := bit_b (byt e 2)
  have g19 := bit_b (byt e 3)
  have hs : nzc (LB a b c d e) = 0 + (if byt a 0 = 0 then 0 else 1) + (if byt a 1 = 0 then 0 else 1) + (if byt a 2 = 0 then 0 else 1) + (if byt a 3 = 0 then 0 else 1) + (if byt b 0 = 0 then 0 else 1) + (if byt b 1 = 0 then 0 else 1) + (if byt b 2 = 0 then 0 else 1) + (if byt b 3 = 0 then 0 else 1) + (if byt c 0 = 0 then 0 else 1) + (if byt c 1 = 0 then 0 else 1) + (if byt c 2 = 0 then 0 else 1) + (if byt c 3 = 0 then 0 else 1) + (if byt d 0 = 0 then 0 else 1) + (if byt d 1 = 0 then 0 else 1) + (if byt d 2 = 0 then 0 else 1) + (if byt d 3 = 0 then 0 else 1) + (if byt e 0 = 0 then 0 else 1) + (if byt e 1 = 0 then 0 else 1) + (if byt e 2 = 0 then 0 else 1) + (if byt e 3 = 0 then 0 else 1) := by
    simp only [LB, four, nzc, List.cons_append, List.nil_append]
    omega
  rw [cnt_step a b c d e K _ _ 0 1 (byt a 0) μ (by decide) (byteOf_0 a b c d e μ) (by decide) (by omega)]
  rw [cnt_step a b c d e K _ _ 1 2 (byt a 1) μ (by decide) (byteOf_1 a b c d e μ) (by decide) (by omega)]
  rw [cnt_step a b c d e K _ _ 2 3 (byt a 2) μ (by decide) (byteOf_2 a b c d e μ) (by decide) (by omega)]
  rw [cnt_step a b c d e K _ _ 3 4 (byt a 3) μ (by decide) (byteOf_3 a b c d e μ) (by decide) (by omega)]
  rw [cnt_step a b c d e K _ _ 4 5 (byt b 0) μ (by decide) (byteOf_4 a b c d e μ) (by decide) (by omega)]
  rw [cnt_step a b c d e K _ _ 5 6 (byt b 1) μ (by decide) (byteOf_5 a b c d e μ) (by decide) (by omega)]
  rw [cnt_step a b c d e K _ _ 6 7 (byt b 2) μ (by decide) (byteOf_6 a b c d e μ) (by decide) (by omega)]
  rw [cnt_step a b c d e K _ _ 7 8 (byt b 3) μ (by decide) (byteOf_7 a b c d e μ) (by decide) (by omega)]
  rw [cnt_step a b c d e K _ _ 8 9 (byt c 0) μ (by decide) (byteOf_8 a b c d e μ) (by decide) (by omega)]
  rw [cnt_step a b c d e K _ _ 9 10 (byt c 1) μ (by decide) (byteOf_9 a b c d e μ) (by decide) (by omega)]
  rw [cnt_step a b c d e K _ _ 10 11 (byt c 2) μ (by decide) (byteOf_10 a b c d e μ) (by decide) (by omega)]
  rw [cnt_step a b c d e K _ _ 11 12 (byt c 3) μ (by decide) (byteOf_11 a b c d e μ) (by decide) (by omega)]
  rw [cnt_step a b c d e K _ _ 12 13 (byt d 0) μ (by decide) (byteOf_12 a b c d e μ) (by decide) (by omega)]
  rw [cnt_step a b c d e K _ _ 13 14 (byt d 1) μ (by decide) (byteOf_13 a b c d e μ) (by decide) (by omega)]
  rw [cnt_step a b c d e K _ _ 14 15 (byt d 2) μ (by decide) (byteOf_14 a b c d e μ) (by decide) (by omega)]
  rw [cnt_step a b c d e K _ _ 15 16 (byt d 3) μ (by decide) (byteOf_15 a b c d e μ) (by decide) (by omega)]
  rw [cnt_step a b c d e K _ _ 16 17 (byt e 0) μ (by decide) (byteOf_16 a b c d e μ) (by decide) (by omega)]
  rw [cnt_step a b c d e K _ _ 17 18 (byt e 1) μ (by decide) (byteOf_17 a b c d e μ) (by decide) (by omega)]
  rw [cnt_step a b c d e K _ _ 18 19 (byt e 2) μ (by decide) (byteOf_18 a b c d e μ) (by decide) (by omega)]
  rw [cnt_step a b c d e K _ _ 19 20 (byt e 3) μ (by decide) (byteOf_19 a b c d e μ) (by decide) (by omega)]
  show (if (20 : Int) ≤ 20 then _ else _) = _
  rw [if_pos (by decide), hs]
theorem put_all (a b c d e : Int) (μ : Mm) (n : Nat) (h0 : 0 ≤ μ 70 2) (h1 : μ 70 2 + nzc (LB a b c d e) ≤ 160) : X11_feed_L62 a b c d e (n + 21) 0 μ = some (μ 70 2 + nzc (LB a b c d e), (LB a b c d e).foldl (putB 70 2 71) μ) := by
  have g0 := bit_b (byt a 0)
  have g1 := bit_b (byt a 1)
  have g2 := bit_b (byt a 2)
  have g3 := bit_b (byt a 3)
  have g4 := bit_b (byt b 0)
  have g5 := bit_b (byt b 1)
  have g6 := bit_b (byt b 2)
  have g7 := bit_b (byt b 3)
  have g8 := bit_b (byt c 0)
  have g9 := bit_b (byt c 1)
  have g10 := bit_b (byt c 2)
  have g11 := bit_b (byt c 3)
  have g12 := bit_b (byt d 0)
  have g13 := bit_b (byt d 1)
  have g14 := bit_b (byt d 2)
  have g15 := bit_b (byt d 3)
  have g16 := bit_b (byt e 0)
  have g17 := bit_b (byt e 1)
  have g18 := bit_b (byt e 2)
  have g19 := bit_b (byt e 3)
  have hs : nzc (LB a b c d e) = 0 + (if byt a 0 = 0 then 0 else 1) + (if byt a 1 = 0 then 0 else 1) + (if byt a 2 = 0 then 0 else 1) + (if byt a 3 = 0 then 0 else 1) + (if byt b 0 = 0 then 0 else 1) + (if byt b 1 = 0 then 0 else 1) + (if byt b 2 = 0 then 0 else 1) + (if byt b 3 = 0 then 0 else 1) + (if byt c 0 = 0 then 0 else 1) + (if byt c 1 = 0 then 0 else 1) + (if byt c 2 = 0 then 0 else 1) + (if byt c 3 = 0 then 0 else 1) + (if byt d 0 = 0 then 0 else 1) + (if byt d 1 = 0 then 0 else 1) + (if byt d 2 = 0 then 0 else 1) + (if byt d 3 = 0 then 0 else 1) + (if byt e 0 = 0 then 0 else 1) + (if byt e 1 = 0 then 0 else 1) + (if byt e 2 = 0 then 0 else 1) + (if byt e 3 = 0 then 0 else 1) := by
    simp only [LB, four, nzc, List.cons_append, List.nil_append]
    omega
  have hfl := foldB_len 70 2 71 (by decide) (LB a b c d e) μ
  rw [put_step a b c d e _ 0 1 (byt a 0) _ (by decide) (byteOf_0 a b c d e) (by decide) h0 (by omega)]
  rw [put_step a b c d e _ 1 2 (byt a 1) _ (by decide) (byteOf_1 a b c d e) (by decide) (by simp only [putB_len]; omega) (by simp only [putB_len]; omega)]
  rw [put_step a b c d e _ 2 3 (byt a 2) _ (by decide) (byteOf_2 a b c d e) (by decide) (by simp only [putB_len]; omega) (by simp only [putB_len]; omega)]
  rw [put_step a b c d e _ 3 4 (byt a 3) _ (by decide) (byteOf_3 a b c d e) (by decide) (by simp only [putB_len]; omega) (by simp only [putB_len]; omega)]
  rw [put_step a b c d e _ 4 5 (byt b 0) _ (by decide) (byteOf_4 a b c d e) (by decide) (by simp only [putB_len]; omega) (by simp only [putB_len]; omega)]
  rw [put_step a b c d e _ 5 6 (byt b 1) _ (by decide) (byteOf_5 a b c d e) (by decide) (by simp only [putB_len]; omega) (by simp only [putB_len]; omega)]
  rw [put_step a b c d e _ 6 7 (byt b 2) _ (by decide) (byteOf_6 a b c d e) (by decide) (by simp only [putB_len]; omega) (by simp only [putB_len]; omega)]
  rw [put_step a b c d e _ 7 8 (byt b 3) _ (by decide) (byteOf_7 a b c d e) (by decide) (by simp only [putB_len]; omega) (by simp only [putB_len]; omega)]
  rw [put_step a b c d e _ 8 9 (byt c 0) _ (by decide) (byteOf_8 a b c d e) (by decide) (by simp only [putB_len]; omega) (by simp only [putB_len]; omega)]
  rw [put_step a b c d e _ 9 10 (byt c 1) _ (by decide) (byteOf_9 a b c d e) (by decide) (by simp only [putB_len]; omega) (by simp only [putB_len]; omega)]
  rw [put_step a b c d e _ 10 11 (byt c 2) _ (by decide) (byteOf_10 a b c d e) (by decide) (by simp only [putB_len]; omega) (by simp only [putB_len]; omega)]
  rw [put_step a b c d e _ 11 12 (byt c 3) _ (by decide) (byteOf_11 a b c d e) (by decide) (by simp only [putB_len]; omega) (by simp only [putB_len]; omega)]
  rw [put_step a b c d e _ 12 13 (byt d 0) _ (by decide) (byteOf_12 a b c d e) (by decide) (by simp only [putB_len]; omega) (by simp only [putB_len]; omega)]
  rw [put_step a b c d e _ 13 14 (byt d 1) _ (by decide) (byteOf_13 a b c d e) (by decide) (by simp only [putB_len]; omega) (by simp only [putB_len]; omega)]
  rw [put_step a b c d e _ 14 15 (byt d 2) _ (by decide) (byteOf_14 a b c d e) (by decide) (by simp only [putB_len]; omega) (by simp only [putB_len]; omega)]
  rw [put_step a b c d e _ 15 16 (byt d 3) _ (by decide) (byteOf_15 a b c d e) (by decide) (by simp only [putB_len]; omega) (by simp only [putB_len]; omega)]
  rw [put_step a b c d e _ 16 17 (byt e 0) _ (by decide) (byteOf_16 a b c d e) (by decide) (by simp only [putB_len]; omega) (by simp only [putB_len]; omega)]
  rw [put_step a b c d e _ 17 18 (byt e 1) _ (by decide) (byteOf_17 a b c d e) (by decide) (by simp only [putB_len]; omega) (by simp only [putB_len]; omega)]
  rw [put_step a b c d e _ 18 19 (byt e 2) _ (by decide) (byteOf_18 a b c d e) (by decide) (by simp only [putB_len]; omega) (by simp only [putB_len]; omega)]
  rw [put_step a b c d e _ 19 20 (byt e 3) _ (by decide) (byteOf_19 a b c d e) (by decide) (by simp only [putB_len]; omega) (by simp only [putB_len]; omega)]
  show (if (20 : Int) ≤ 20 then _ else _) = _
  rw [if_pos (by decide), ← hfl]
  rfl
theorem mfeed_eq (a b c d e : Int) (μ : Mm) (h0 : 0 ≤ μ 70 2) (h1 : μ 70 2 ≤ 160) : X11_feed a b c d e μ = (if μ 70 2 + nzc (LB a b c d e) ≤ 160 then some (μ 70 2 + nzc (LB a b c d e), (LB a b c d e).foldl (putB 70 2 71) μ) else some (-1, μ)) := by
  have hb := nzc_b (LB a b c d e)
  have hl : (LB a b c d e).length = 20 := rfl
  rw [hl] at hb
  refine (cnt_all a b c d e _ μ 999979).trans ?_
  rw [iA_id (by omega) (by omega)]
  by_cases h : μ 70 2 + nzc (LB a b c d e) ≤ 160
  · rw [if_pos h, if_pos h]
    exact put_all a b c d e μ 999979 h0 h
  · rw [if_neg h, if_neg h]
