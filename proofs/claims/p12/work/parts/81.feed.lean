/-! FEED, END: the tape on both sides -/
def byt (x : Int) (q : Nat) : Int := bA (bU x (24 - 8 * q)) 255
theorem bA_255 (x : Int32) : 0 ≤ (x &&& 255).toInt ∧ (x &&& 255).toInt ≤ 255 := by
  have h1 : (x &&& 255).toBitVec = x.toBitVec &&& 255#32 := rfl
  have h2 : (x &&& 255).toBitVec.toNat ≤ 255 := by
    rw [h1, BitVec.toNat_and]
    exact Nat.and_le_right
  have h3 : (x &&& 255).toInt = ((x &&& 255).toBitVec.toNat : Int) := by
    show (x &&& 255).toBitVec.toInt = _
    rw [BitVec.toInt_eq_toNat_cond, if_pos (by omega)]
  rw [h3]
  omega
theorem byt_b (x : Int) (q : Nat) : 0 ≤ byt x q ∧ byt x q ≤ 255 := bA_255 _
theorem sh_eq (x : Int32) (n : Nat) (hn : n = 0 ∨ n = 8 ∨ n = 16 ∨ n = 24) : (x >>> (Int32.ofInt (n : Int) &&& 31)) &&& 255 = ((x.toUInt32 >>> ((Int32.ofInt (n : Int)).toUInt32 &&& Int32.toUInt32 31)).toInt32) &&& 255 := by
  apply Int32.toBitVec.inj
  rcases hn with rfl | rfl | rfl | rfl
  all_goals
    apply BitVec.eq_of_getLsbD_eq
    intro i hi
    simp only [Int32.toBitVec_and, BitVec.getLsbD_and]
    by_cases h8 : i < 8
    · congr 1
      have e : ∀ (y : BitVec 32) (k : Nat), k + 8 ≤ 32 → (y.sshiftRight k).getLsbD i = (y >>> k).getLsbD i := by
        intro y k hk
        rw [BitVec.getLsbD_sshiftRight, BitVec.getLsbD_ushiftRight]
        simp [show ¬ 32 ≤ i by omega, show k + i < 32 by omega]
      first
        | exact e x.toBitVec 0 (by omega)
        | exact e x.toBitVec 8 (by omega)
        | exact e x.toBitVec 16 (by omega)
        | exact e x.toBitVec 24 (by omega)
    · have h9 : (Int32.toBitVec 255).getLsbD i = false := by
        show (255#32).getLsbD i = false
        rw [BitVec.getLsbD_ofNat]
        have : (255 : Nat).testBit i = false := Nat.testBit_lt_two_pow (Nat.lt_of_lt_of_le (by decide : 255 < 2 ^ 8) (Nat.pow_le_pow_right (by decide) (by omega)))
        rw [this, Bool.and_false]
      rw [h9, Bool.and_false, Bool.and_false]
theorem byt_R (x : Int) (q : Nat) (h : q < 4) : bA (bR x ((24 - 8 * q : Nat) : Int)) 255 = byt x q := by
  have e : ((24 - 8 * q : Nat) : Int) = 24 - 8 * (q : Int) := by omega
  unfold byt bA bR bU
  rw [o32_self, o32_self, ← e]
  exact congrArg Int32.toInt (sh_eq (Int32.ofInt x) (24 - 8 * q) (by omega))
/-- a byte comes to the tape whose length is the slot s of o, whose bytes are a -/
def putB (o s a : Nat) (μ : Mm) (b : Int) : Mm := if b = 0 then μ else sM (sM μ a (μ o s).toNat b) o s (μ o s + 1)
def nzc : List Int → Int
  | [] => 0
  | b :: l => (if b = 0 then 0 else 1) + nzc l
theorem nzc_b (l : List Int) : 0 ≤ nzc l ∧ nzc l ≤ l.length := by
  induction l with
  | nil => exact ⟨Int.le_refl _, Int.le_refl _⟩
  | cons b l ih =>
    unfold nzc
    simp only [List.length_cons]
    split <;> omega
theorem nzc_app (l m : List Int) : nzc (l ++ m) = nzc l + nzc m := by
  induction l with
  | nil => simp [nzc]
  | cons b l ih => simp only [List.cons_append, nzc, ih]; omega
def four (x : Int) : List Int := [byt x 0, byt x 1, byt x 2, byt x 3]
theorem sh_v : iA 24 (-8) = 16 ∧ iA 16 (-8) = 8 ∧ iA 8 (-8) = 0 ∧ iA 0 (-8) = -8 := by decide
theorem byt_v (x : Int) : bA (bU x 24) 255 = byt x 0 ∧ bA (bU x 16) 255 = byt x 1 ∧ bA (bU x 8) 255 = byt x 2 ∧ bA (bU x 0) 255 = byt x 3 := ⟨rfl, rfl, rfl, rfl⟩
theorem bytesIn_n (x : Int) (μ : Mm) (n : Nat) : X7_bytesIn_L5 x (n + 5) 0 24 μ = some (nzc (four x), μ) := by
  obtain ⟨e1, e2, e3, e4⟩ := sh_v
  obtain ⟨b1, b2, b3, b4⟩ := byt_v x
  simp only [X7_bytesIn_L5, e1, e2, e3, e4, b1, b2, b3, b4, four, nzc]
  by_cases h0 : byt x 0 = 0 <;> by_cases h1 : byt x 1 = 0 <;> by_cases h2 : byt x 2 = 0 <;> by_cases h3 : byt x 3 = 0 <;> simp only [h0, h1, h2, h3, if_true, if_false] <;> rfl
theorem bytesIn_eq (x : Int) (μ : Mm) : X7_bytesIn x μ = some (nzc (four x), μ) := bytesIn_n x μ 999995
theorem add_n (x : Int) (μ : Mm) (n : Nat) (h0 : 0 ≤ μ 1 1) (h : μ 1 1 + nzc (four x) ≤ 160) : X7_add_L3 1 x (n + 5) 24 μ = some (0, (four x).foldl (putB 1 1 2) μ) := by
  obtain ⟨e1, e2, e3, e4⟩ := sh_v
  obtain ⟨b1, b2, b3, b4⟩ := byt_v x
  have st : ∀ (m : Nat) (i i' : Int) (b : Int) (ν : Mm) (rest : Rs), b ≠ 0 → 0 ≤ ν 1 1 → ν 1 1 < 160 → X7_add_L3 1 x m i' (putB 1 1 2 ν b) = rest → (if ((aN (1 + 1) : Nat) : Int) ≤ (ν 1 1) then (X7_add_L3 1 x m i' ν) else (stA ν (1 + 1) (ν 1 1) b fun μ5 => sF μ5 1 1 (iA (μ5 1 1) 1) fun μ7 => X7_add_L3 1 x m i' μ7)) = rest := by
    intro m i i' b ν rest hb h0 h1 hr
    rw [if_neg (by show ¬ (160 : Int) ≤ ν 1 1; omega)]
    unfold stA
    rw [if_pos (by show 0 ≤ ν 1 1 ∧ ν 1 1 < 160; omega)]
    unfold sF
    dsimp only
    rw [sM_a (show (1 : Nat) ≠ 1 + 1 by decide), iA_id (by omega) (by omega)]
    unfold putB at hr
    rw [if_neg hb] at hr
    exact hr
  have p0 : ∀ (ν : Mm) (b : Int), b = 0 → putB 1 1 2 ν b = ν := fun ν b h => if_pos h
  have p1 : ∀ (ν : Mm) (b : Int), b ≠ 0 → putB 1 1 2 ν b 1 1 = ν 1 1 + 1 := fun ν b h => by unfold putB; rw [if_neg h, sM_s]
  have q : ∀ (m : Nat) (i i' : Int) (b : Int) (ν : Mm) (rest : Rs), ¬ i < 0 → bA (bU x i) 255 = b → iA i (-8) = i' → 0 ≤ ν 1 1 → ν 1 1 + (if b = 0 then 0 else 1) ≤ 160 → X7_add_L3 1 x m i' (putB 1 1 2 ν b) = rest → X7_add_L3 1 x (m + 1) i ν = rest := by
    intro m i i' b ν rest hi hb hi' h0 h1 hr
    show (if i < 0 then _ else _) = rest
    rw [if_neg hi, hb, hi']
    unfold lt_
    dsimp only
    by_cases hz : b = 0
    · rw [if_pos hz]; rw [p0 ν b hz] at hr; exact hr
    · rw [if_neg hz]; rw [if_neg hz] at h1; exact st m i i' b ν rest hz h0 (by omega) hr
  have pb : ∀ (ν : Mm) (b : Int), putB 1 1 2 ν b 1 1 = ν 1 1 + (if b = 0 then 0 else 1) := by
    intro ν b
    by_cases hz : b = 0
    · rw [p0 ν b hz, if_pos hz]; omega
    · rw [p1 ν b hz, if_neg hz]
  have hc : nzc (four x) = (if byt x 0 = 0 then 0 else 1) + ((if byt x 1 = 0 then 0 else 1) + ((if byt x 2 = 0 then 0 else 1) + ((if byt x 3 = 0 then 0 else 1) + 0))) := rfl
  rw [hc] at h
  have g : ∀ b : Int, (0 : Int) ≤ (if b = 0 then 0 else 1) := fun b => by split <;> omega
  have g0 := g (byt x 0)
  have g1 := g (byt x 1)
  have g2 := g (byt x 2)
  have g3 := g (byt x 3)
  refine q _ 24 16 _ _ _ (by decide) b1 e1 h0 (by omega) ?_
  refine q _ 16 8 _ _ _ (by decide) b2 e2 (by rw [pb]; omega) (by rw [pb]; omega) ?_
  refine q _ 8 0 _ _ _ (by decide) b3 e3 (by rw [pb, pb]; omega) (by rw [pb, pb]; omega) ?_
  refine q _ 0 (-8) _ _ _ (by decide) b4 e4 (by rw [pb, pb, pb]; omega) (by rw [pb, pb, pb]; omega) ?_
  show (if (-8 : Int) < 0 then _ else _) = _
  rw [if_pos (by decide)]
  rfl
theorem add_eq (x : Int) (μ : Mm) (h0 : 0 ≤ μ 1 1) (h : μ 1 1 + nzc (four x) ≤ 160) : X7_add 1 x μ = some (0, (four x).foldl (putB 1 1 2) μ) := add_n x μ 999995 h0 h
theorem foldB_len (o s a : Nat) (hoa : o ≠ a) (l : List Int) (μ : Mm) : (l.foldl (putB o s a) μ) o s = μ o s + nzc l := by
  induction l generalizing μ with
  | nil => simp [nzc]
  | cons b l ih =>
    rw [List.foldl_cons, ih]
    show putB o s a μ b o s + nzc l = μ o s + ((if b = 0 then 0 else 1) + nzc l)
    unfold putB
    by_cases h : b = 0
    · rw [if_pos h, if_pos h]; omega
    · rw [if_neg h, if_neg h, sM_s]; omega
theorem feed_eq (a b c d e : Int) (μ : Mm) (h0 : 0 ≤ μ 1 1) (h1 : μ 1 1 ≤ 160) : X10_feed a b c d e μ = (if μ 1 1 + nzc (four a ++ (four b ++ (four c ++ (four d ++ four e)))) ≤ 160 then some (μ 1 1 + nzc (four a ++ (four b ++ (four c ++ (four d ++ four e)))), (four a ++ (four b ++ (four c ++ (four d ++ four e)))).foldl (putB 1 1 2) μ) else some (-1, μ)) := by
  have ha : 0 ≤ nzc (four a) ∧ nzc (four a) ≤ 4 := nzc_b (four a)
  have hb : 0 ≤ nzc (four b) ∧ nzc (four b) ≤ 4 := nzc_b (four b)
  have hc : 0 ≤ nzc (four c) ∧ nzc (four c) ≤ 4 := nzc_b (four c)
  have hd : 0 ≤ nzc (four d) ∧ nzc (four d) ≤ 4 := nzc_b (four d)
  have he : 0 ≤ nzc (four e) ∧ nzc (four e) ≤ 4 := nzc_b (four e)
  have f := fun l μ => foldB_len 1 1 2 (by decide) l μ
  unfold X10_feed
  simp only [bytesIn_eq, bd_some, lt_, nzc_app, List.foldl_append]
  generalize hA : four a = A at *
  generalize hB : four b = B at *
  generalize hC : four c = C at *
  generalize hD : four d = D at *
  generalize hE : four e = E at *
  rw [iA_id (a := nzc A) (by omega) (by omega), iA_id (a := nzc A + nzc B) (by omega) (by omega), iA_id (a := nzc A + nzc B + nzc C) (by omega) (by omega), iA_id (a := nzc A + nzc B + nzc C + nzc D) (by omega) (by omega), iA_id (by omega) (by omega)]
  by_cases h : μ 1 1 + (nzc A + (nzc B + (nzc C + (nzc D + nzc E)))) ≤ 160
  · rw [if_pos (by omega), if_pos h]
    rw [add_eq a μ h0 (by rw [hA]; omega), bd_some, add_eq b _ (by rw [hA, f]; omega) (by rw [hA, hB, f]; omega), bd_some, add_eq c _ (by rw [hA, hB, f, f]; omega) (by rw [hA, hB, hC, f, f]; omega), bd_some, add_eq d _ (by rw [hA, hB, hC, f, f, f]; omega) (by rw [hA, hB, hC, hD, f, f, f]; omega), bd_some, add_eq e _ (by rw [hA, hB, hC, hD, f, f, f, f]; omega) (by rw [hA, hB, hC, hD, hE, f, f, f, f]; omega), bd_some, hA, hB, hC, hD, hE]
    simp only [f]
    congr 2
    omega
  · rw [if_neg (by omega), if_neg h]
