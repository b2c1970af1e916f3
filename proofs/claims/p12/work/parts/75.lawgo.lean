/-! whole_start, from an invariant that the calls keep -/
set_option maxRecDepth 100000 in
theorem mIL_15 : mI R_law 15 mX10_init 0 := ⟨Or.inl (tG_of (tb1 (List.mem_of_getElem? (i := 22) rfl)) (by decide +kernel)), mo_X10_init⟩
set_option maxRecDepth 100000 in
theorem mIL_18 : mI R_law 18 mX11_init 0 := ⟨Or.inl (tG_of (tb5 (List.mem_of_getElem? (i := 104) rfl)) (by decide +kernel)), mo_X11_init⟩
theorem lk_tG {w : Cond} (h : (decide (w ∈ lw_tbl) && goodWord w) = true) : w ∈ tG := by
  simp only [Bool.and_eq_true, decide_eq_true_eq] at h
  exact tG_of h.1 h.2
theorem nwL_8 : Cond.classLink R_law 8 RX10 ∈ tG ∧ Cond.instantiable RX10 18 ∈ tG ∧ Cond.initialized RX10 ∈ tG := ⟨lk_tG (by decide +kernel), lk_tG (by decide +kernel), lk_tG (by decide +kernel)⟩
theorem nwL_16 : Cond.classLink R_law 16 RX11 ∈ tG ∧ Cond.instantiable RX11 54 ∈ tG ∧ Cond.initialized RX11 ∈ tG := ⟨lk_tG (by decide +kernel), lk_tG (by decide +kernel), lk_tG (by decide +kernel)⟩
theorem tt_v : tt 0 = 0 ∧ tt 1 = 18 ∧ tt 70 ≤ 10000 ∧ tt 71 = tt 70 + 54 ∧ tt 98 ≤ 15000 ∧ tt 1 ≤ tt 70 ∧ tt 71 ≤ tt 98 := by decide +kernel
theorem hN_zero {dC : Nat → ClassId} {dI : Nat → Nat → Nat} {D : ClassId × ClassId × ClassId} {H : Heap} : hN dC dI D H.size (fun _ _ => 0) 0 H :=
  ⟨fun k q hk => absurd (wN_get hk).1 (Nat.not_lt_zero k), fun _ _ => rI_0, rfl, fun _ _ _ => rfl⟩
set_option maxHeartbeats 2000000 in
theorem law_go {Inv : Nat → Mm → Prop} {L : Nat} (hst : ∀ i, i + 6 ≤ L → sAll (Inv i) (Inv (i + 6))) (hI0 : Inv 0 μ0) {p : Program} {e : Env} {s : State} {m : MethodId} {below : List Frame} {meth : Method} {c : Code} (l : Launch) (hflags : l.flags = flags0) {b : Nat} {xs : Nat → Int32} (hL : L ≤ 3072) (C0 : lw_At p s m meth c b L xs) :
    W p l e room_1 s m #[Value.ref b] below meth c s.heap [] 0 0 (lw_Z below #[Value.ref b] s) (entryFrame m ([Value.ref b] : List Value).toArray 7) := by
  obtain ⟨hx, hb, hr, hml, hown, hts, hX, hbl, hlk, hgv⟩ := id C0
  have hts' : ∀ w ∈ tG, w.before #[Value.ref b] s = true := fun w hw => hts w (List.mem_filter.mp hw).1
  obtain ⟨dC, dI, hKc⟩ := known_all hts
  obtain ⟨cI, i1, i2⟩ := arr_prim (ty := .int) (hts (.arrayClass .int) (by decide +kernel))
  obtain ⟨cL, l1, l2⟩ := arr_prim (ty := .long) (hts (.arrayClass .long) (by decide +kernel))
  have hO3 : (Cond.arrayOver (.object RX3)).before #[Value.ref b] s = true := hts _ (by decide +kernel)
  have hO7 : (Cond.arrayOver (.object RX7)).before #[Value.ref b] s = true := hts _ (by decide +kernel)
  obtain ⟨cP, p1, p2⟩ := arr_obj hO3
  obtain ⟨cT, t1, t2⟩ := arr_obj hO7
  obtain ⟨D, hD⟩ : ∃ D : ClassId × ClassId × ClassId, D = (cI, cP, cT) := ⟨_, rfl⟩
  have hK4 : va_K (dC, dI) vwCl (tyS D ++ [(cL, .long)]) s := by
    refine ⟨hKc, fun k q h => ?_⟩
    subst hD
    match k, h with
    | 0, h => cases h; exact ⟨i1, i2⟩
    | 1, h => cases h; exact ⟨p1, p2⟩
    | 2, h => cases h; exact ⟨t1, t2⟩
    | 3, h => cases h; exact ⟨l1, l2⟩
    | k + 4, h => simp [tyS] at h
  have hK : va_K (dC, dI) vwCl (tyS D) s := hK4.sub [0, 1, 2] rfl
  have hN9 : nS s := nS_tbl hts
  have hOO : aO s := ⟨va_AO.of (A := #[Value.ref b]) hO3, va_AO.of (A := #[Value.ref b]) hO7⟩
  obtain ⟨tt0, tt1, tt70, tt71, tt98, ttA, ttB⟩ := tt_v
  rw [lg_entry_eq]
  have hl0 := lv_entry ([.ref b]) (n := 7) (by show 1 ≤ 7; decide)
  revert hl0
  generalize (lg_sl [Value.ref b] ++ List.replicate (7 - (lg_sl [Value.ref b]).length) Slot.unset).toArray = ls
  intro hl0
  have hl0 : lv_has ls 7 [(0, .ref b)] := hl0
  refine w_new (base := s.heap.size) (n := 0) (μ := fun _ _ => 0) (D := D) hx hb hown hts' hK cl10 (by decide +kernel) rfl nwL_8 hN_zero (by decide) (by decide) dL_law_0 (fun H1 hH1 z1 o1 => ?_)
  have hS1 : va_S (fun q : Nat => s.heap.size ≤ q) s.heap H1 [] := vS_push va_S.rf z1 o1
  refine lv_dup hx hb dL_law_3 rfl ?_
  refine w_init (base := s.heap.size) (n := 1) (n2 := 70) (b := 0) (nL := 7) (A0 := fun q : Nat => s.heap.size ≤ q) ⟨hx, hb, hml, hown, hts'⟩ (kN_0 _) mIL_15 hK hN9 hOO hH1 hl0.1 (by show 1 + 0 ≤ 8; omega) ⟨by decide, by decide⟩ ⟨by show 0 + 1 + (70 - 1) ≤ 601024; omega, by show 0 + 18 + (tt 70 - tt 1) ≤ 7293034; omega⟩ hS1 (fun _ h => h) dL_law_4 (fun H2 locs2 hH2 hS2 => ?_)
  refine lv_astore_n (lv' := [(1, .ref (s.heap.size + 0)), (0, .ref b)]) hx hb dL_law_7 rfl hl0 (by decide) rfl (fun ls1 hl1 => ?_)
  refine w_new (base := s.heap.size) (n := 70) (D := D) hx hb hown hts' hK cl11 (by decide +kernel) rfl nwL_16 hH2 (by show 0 + 1 + (70 - 1) + 1 ≤ 601024; omega) (by show 0 + 18 + (tt 70 - tt 1) + 54 ≤ 7293034; omega) dL_law_8 (fun H3 hH3 z3 o3 => ?_)
  have hS3 := vS_push hS2 z3 o3
  refine lv_dup hx hb dL_law_11 rfl ?_
  refine w_init (base := s.heap.size) (n := 71) (n2 := 98) (b := 70) (nL := 7) (A0 := fun q : Nat => s.heap.size ≤ q) ⟨hx, hb, hml, hown, hts'⟩ (kN_70 _) mIL_18 hK hN9 hOO hH3 hl1.1 (by show 1 + 0 ≤ 8; omega) ⟨by decide, by decide⟩ ⟨by show 0 + 1 + (70 - 1) + 1 + (98 - 71) ≤ 601024; omega, by show 0 + 18 + (tt 70 - tt 1) + 54 + (tt 98 - tt 71) ≤ 7293034; omega⟩ hS3 (fun _ h => h) dL_law_12 (fun H4 locs4 hH4 hS4 => ?_)
  refine lv_astore_n (lv' := [(2, .ref (s.heap.size + 70)), (1, .ref (s.heap.size + 0)), (0, .ref b)]) hx hb dL_law_15 rfl hl1 (by decide) rfl (fun ls2 hl2 => ?_)
  refine lv_iconst hx hb dL_law_16 rfl ?_
  refine va_newaK (atype := .long) hx hb (hts (.arrayClass .long) (by decide +kernel)) rfl dL_law_17 rfl (N := 1) (by decide) (by decide) (by decide) (by show 0 + 1 + (70 - 1) + 1 + (98 - 71) + 1 ≤ 601024; omega) (by show 0 + 18 + (tt 70 - tt 1) + 54 + (tt 98 - tt 71) + 1 ≤ 7293034; omega) hH4.2.2.1 (fun H5 cA e5 z5 o5 hAr hNm => ?_)
  have hcA : cA = cL := Option.some.inj (hNm.symm.trans l2)
  subst hcA
  have hH4' : hN dC dI D s.heap.size mB 98 H4 := hH4
  have hO4 : hO dC dI D (adL s.heap.size b) μ0 H4 := hO_adL (hN_hO hH4')
  have z5' : H5.size = H4.size + 1 := by rw [z5, hH4.2.2.1]
  have o5' : ∀ q, q < H4.size → H5[q]? = H4[q]? := fun q hq => o5 q (by rw [← hH4.2.2.1]; exact hq)
  have hO5 : hO dC dI D (adL s.heap.size b) μ0 H5 := hO_kept hO4 o5'
  have hS5 : va_S (fun q : Nat => s.heap.size ≤ q) s.heap H5 locs4 := vS_push hS4 z5' o5'
  refine lv_astore_n (lv' := [(3, .ref (s.heap.size + 98)), (2, .ref (s.heap.size + 70)), (1, .ref (s.heap.size + 0)), (0, .ref b)]) hx hb dL_law_19 rfl hl2 (by decide) rfl (fun ls3 hl3 => ?_)
  refine lv_iconst hx hb dL_law_20 rfl ?_
  refine lv_istore (lv' := [(4, .int (Int32.ofInt 0)), (3, .ref (s.heap.size + 98)), (2, .ref (s.heap.size + 70)), (1, .ref (s.heap.size + 0)), (0, .ref b)]) hx hb dL_law_21 hl3 (by decide) rfl (fun ls4 hl4 => ?_)
  refine W.widen (k := 200) (n := 20000) (by show 0 + 1 + (70 - 1) + 1 + (98 - 71) + 1 ≤ 200; omega) (by show 0 + 18 + (tt 70 - tt 1) + 54 + (tt 98 - tt 71) + 1 ≤ 20000; omega) ?_
  have hgo := law_loop hCr hst (L := L) (sc := fun j => (xs j).toInt) hL (fun j => rI_of (xs j)) (L + 6) 0 μ0 0 200 20000 (by omega) (by omega) hI0 (by omega) (by omega)
  have hap : aP (adL s.heap.size b) := by
    intro i j hi hj h
    have hi' : i < 98 := hi
    have hj' : j < 98 := hj
    rw [adL_k (by omega), adL_k (by omega)] at h
    omega
  have hg := hgo p l e s m below meth c b xs H5 locs4 dC dI D cA (adL s.heap.size b) ls4 ⟨C0, hflags, hK4, hap, fun k hk => by have hk' : k < 98 := hk; rw [adL_k (by omega)]; omega, rfl⟩ (fun _ => rfl) hO5
    ⟨by rw [adL_k (by decide)]; exact e5, fun k hk => by have hk' : k < 98 := hk; rw [adL_k (by omega), adL_k (by decide)]; omega, by rw [adL_k (by decide)]; omega⟩ hS5 rfl ⟨hl4.1, hl4.2.1, fun i v hi => ?_⟩ (fun _ h => nomatch h)
  · exact hg
  · match i, hi with
    | 0, hi => cases hi; exact ⟨lv_at hl4 4 rfl, trivial⟩
    | 1, hi => cases hi; exact ⟨lv_at hl4 3 rfl, trivial⟩
    | 2, hi => cases hi; exact ⟨lv_at hl4 2 rfl, trivial⟩
    | 3, hi => cases hi; exact ⟨lv_at hl4 1 rfl, trivial⟩
    | 4, hi => cases hi; exact ⟨lv_at hl4 0 rfl, rI_0⟩
    | 5, hi => cases hi
    | 6, hi => cases hi
    | k + 7, hi => simp at hi
