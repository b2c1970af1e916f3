/-! THE START: the memory that the constructors leave, with ones where no cell is; and what is kept holds there -/
def ms0 : Mm := fun k j => if j < aN k then μ0 k j else 1
theorem bx_1 {k : Nat} (hk : k < 70) (j : Nat) : (bx k j).1 ≤ 1 ∧ 1 ≤ (bx k j).2 := by
  have h1 : ∀ k, k < 70 → (bxR.getD k (-2147483648, 2147483647)).1 ≤ 1 ∧ 1 ≤ (bxR.getD k (-2147483648, 2147483647)).2 := by decide +kernel
  have h2 : ∀ i, i < 12 → ∀ j, j < 60 → ((bxO.getD i []).getD j (-2147483648, 2147483647)).1 ≤ 1 ∧ 1 ≤ ((bxO.getD i []).getD j (-2147483648, 2147483647)).2 := by decide +kernel
  have h3 : ∀ i, i < 12 → (bxO.getD i []).length ≤ 60 := by decide +kernel
  have h4 : ∀ k, k < 70 → (kD k).1 - 10 < 12 := by decide +kernel
  unfold bx
  by_cases c : (kD k).1 < 10
  · rw [if_pos c]; exact h1 k hk
  · rw [if_neg c]
    by_cases d : j < 60
    · exact h2 _ (h4 k hk) j d
    · have h5 := h3 _ (h4 k hk)
      rw [List.getD_eq_getElem?_getD, List.getElem?_eq_none (by omega)]
      exact ⟨by decide, by decide⟩
theorem bm_1 {k : Nat} (hk : 70 ≤ k) (j : Nat) : (bm k j).1 ≤ 1 ∧ 1 ≤ (bm k j).2 := by
  have h1 : ∀ k, k < 30 → (bmR.getD k (-2147483648, 2147483647)).1 ≤ 1 ∧ 1 ≤ (bmR.getD k (-2147483648, 2147483647)).2 := by decide +kernel
  have h2 : ∀ j, j < 54 → (bmO.getD j (-2147483648, 2147483647)).1 ≤ 1 ∧ 1 ≤ (bmO.getD j (-2147483648, 2147483647)).2 := by decide +kernel
  have h3 : bmR.length ≤ 30 ∧ bmO.length ≤ 54 := by decide +kernel
  unfold bm
  by_cases c : k = 70
  · rw [if_pos c]
    by_cases d : j < 54
    · exact h2 j d
    · rw [List.getD_eq_getElem?_getD, List.getElem?_eq_none (by omega)]
      exact ⟨by decide, by decide⟩
  · rw [if_neg c]
    by_cases d : k - 71 < 30
    · exact h1 _ d
    · rw [List.getD_eq_getElem?_getD, List.getElem?_eq_none (by omega)]
      exact ⟨by decide, by decide⟩
def inB (b : Int × Int) (v : Int) : Bool := decide (b.1 ≤ v) && decide (v ≤ b.2)
theorem inB_t {b : Int × Int} {v : Int} (h : inB b v = true) : b.1 ≤ v ∧ v ≤ b.2 := by
  unfold inB at h
  simp only [Bool.and_eq_true, decide_eq_true_eq] at h
  exact h
def rows0 (lo hi : Nat) : Bool := (List.range (hi - lo)).all (fun i => (List.range (aN (lo + i))).all (fun j => inB (if lo + i < 70 then bx (lo + i) j else bm (lo + i) j) (μ0 (lo + i) j)))
theorem rows0_at {lo hi : Nat} (h : rows0 lo hi = true) {k j : Nat} (h1 : lo ≤ k) (h2 : k < hi) (hj : j < aN k) : inB (if k < 70 then bx k j else bm k j) (μ0 k j) = true := by
  have h3 := List.all_eq_true.mp h (k - lo) (List.mem_range.mpr (by omega))
  have e : lo + (k - lo) = k := by omega
  simp only [e] at h3
  exact List.all_eq_true.mp h3 j (List.mem_range.mpr hj)
theorem clN_o {c k : Nat} (h : k < c ∨ c + 3 < k) (μ : Mm) : clN c μ k = μ k := by
  unfold clN
  rw [sM_ne (by omega), sM_ne (by omega), sM_ne (by omega), sM_ne (by omega), sM_ne (by omega), clB_ne (by omega) (by omega), clA_ne (by omega)]
/-- an array that the constructors leave as it is made -/
def unt (k : Nat) : Prop := (k = 2 ∨ k = 38 ∨ k = 40 ∨ k = 42 ∨ k = 44 ∨ (63 ≤ k ∧ k ≤ 66) ∨ 71 ≤ k)
theorem mN0_o {k : Nat} (h : unt k) (μ : Mm) : mN_0 μ k = μ k := by
  unfold unt at h
  simp only [mN_0, mN_1, mN_3, mN_4, mN_5, mN_9, mN_13, mN_18, mN_21, mN_24, mN_27, mN_30, mN_33, mN_37, mN_39, mN_41, mN_43, mN_45, mN_48, mN_53, mN_58, mN_62, mN_67, clN_o (show k < 5 ∨ 5 + 3 < k by omega), clN_o (show k < 9 ∨ 9 + 3 < k by omega), clN_o (show k < 13 ∨ 13 + 3 < k by omega), sM_ne (show k ≠ 0 by omega), sM_ne (show k ≠ 1 by omega), sM_ne (show k ≠ 3 by omega), sM_ne (show k ≠ 4 by omega), sM_ne (show k ≠ 17 by omega), sM_ne (show k ≠ 18 by omega), sM_ne (show k ≠ 21 by omega), sM_ne (show k ≠ 24 by omega), sM_ne (show k ≠ 27 by omega), sM_ne (show k ≠ 30 by omega), sM_ne (show k ≠ 33 by omega), sM_ne (show k ≠ 36 by omega), sM_ne (show k ≠ 37 by omega), sM_ne (show k ≠ 39 by omega), sM_ne (show k ≠ 41 by omega), sM_ne (show k ≠ 43 by omega), sM_ne (show k ≠ 45 by omega), sM_ne (show k ≠ 48 by omega), sM_ne (show k ≠ 53 by omega), sM_ne (show k ≠ 58 by omega), sM_ne (show k ≠ 62 by omega), sM_ne (show k ≠ 67 by omega), sM_ne (show k ≠ 5 by omega), sM_ne (show k ≠ 9 by omega), sM_ne (show k ≠ 13 by omega)]
theorem mN70_o {k : Nat} (h : k ≠ 70) (μ : Mm) : mN_70 μ k = μ k := by
  simp only [mN_70, sM_ne h]
theorem kD_unt : ∀ k, k < 98 → (k = 2 ∨ k = 38 ∨ k = 40 ∨ k = 42 ∨ k = 44 ∨ (63 ≤ k ∧ k ≤ 66) ∨ 71 ≤ k) → (kD k).1 = 0 := by decide +kernel
theorem mu_unt {k : Nat} (hk : k < 98) (h : unt k) (j : Nat) : μ0 k j = 0 := by
  have h1 := kD_unt k hk h
  have e : kD k = (0, aN k) := by rw [← h1]; rfl
  rw [μ0_i e]
  unfold mB
  rw [mN70_o (by unfold unt at h; omega), mN0_o h]
theorem bx_unt : ∀ k, k < 70 → (k = 2 ∨ k = 38 ∨ k = 40 ∨ k = 42 ∨ k = 44 ∨ (63 ≤ k ∧ k ≤ 66)) → (bxR.getD k (-2147483648, 2147483647)).1 ≤ 0 ∧ 0 ≤ (bxR.getD k (-2147483648, 2147483647)).2 := by decide +kernel
theorem bm_unt : ∀ k, k < 98 → 71 ≤ k → (bmR.getD (k - 71) (-2147483648, 2147483647)).1 ≤ 0 ∧ 0 ≤ (bmR.getD (k - 71) (-2147483648, 2147483647)).2 := by decide +kernel
theorem inB_i {b : Int × Int} {v : Int} (h : b.1 ≤ v ∧ v ≤ b.2) : inB b v = true := by
  unfold inB
  rw [decide_eq_true h.1, decide_eq_true h.2]
  rfl
theorem r0_a : rows0 0 2 = true := by decide +kernel
theorem r0_b : rows0 3 38 = true := by decide +kernel
theorem r0_c : rows0 39 40 = true := by decide +kernel
theorem r0_d : rows0 41 42 = true := by decide +kernel
theorem r0_e : rows0 43 44 = true := by decide +kernel
theorem r0_f : rows0 45 63 = true := by decide +kernel
theorem r0_g : rows0 67 71 = true := by decide +kernel
theorem r0_at {k j : Nat} (hk : k < 98) (hj : j < aN k) : inB (if k < 70 then bx k j else bm k j) (μ0 k j) = true := by
  by_cases u : unt k
  · rw [mu_unt hk u]
    by_cases c : k < 70
    · rw [if_pos c]
      have u' := u
      unfold unt at u'
      have h1 := kD_unt k hk u'
      have e : bx k j = bxR.getD k (-2147483648, 2147483647) := by unfold bx; rw [if_pos (by omega)]
      rw [e]
      exact inB_i (bx_unt k c (by omega))
    · rw [if_neg c]
      unfold unt at u
      have e : bm k j = bmR.getD (k - 71) (-2147483648, 2147483647) := by unfold bm; rw [if_neg (by omega)]
      rw [e]
      exact inB_i (bm_unt k hk (by omega))
  · unfold unt at u
    by_cases c0 : 0 ≤ k ∧ k < 2
    · exact rows0_at r0_a c0.1 c0.2 hj
    by_cases c1 : 3 ≤ k ∧ k < 38
    · exact rows0_at r0_b c1.1 c1.2 hj
    by_cases c2 : 39 ≤ k ∧ k < 40
    · exact rows0_at r0_c c2.1 c2.2 hj
    by_cases c3 : 41 ≤ k ∧ k < 42
    · exact rows0_at r0_d c3.1 c3.2 hj
    by_cases c4 : 43 ≤ k ∧ k < 44
    · exact rows0_at r0_e c4.1 c4.2 hj
    by_cases c5 : 45 ≤ k ∧ k < 63
    · exact rows0_at r0_f c5.1 c5.2 hj
    exact rows0_at r0_g (by omega) (by omega) hj
theorem aN_98 {k : Nat} (h : 98 ≤ k) : aN k = 0 := by
  unfold aN kD
  rw [List.getD_eq_getElem?_getD, List.getElem?_eq_none (by have : kL.length = 98 := rfl; omega)]
  rfl
theorem ms_Bm : Bm ms0 := fun k j hk => by
  unfold ms0
  by_cases c : j < aN k
  · rw [if_pos c]
    have h98 : k < 98 := Classical.byContradiction (fun z => by rw [aN_98 (by omega)] at c; omega)
    have h := inB_t (r0_at h98 c)
    rw [if_neg (by omega)] at h
    exact h
  · rw [if_neg c]; exact bm_1 hk j
theorem ms_Bx : Bx ms0 := by
  refine ⟨fun k j hk => ?_, by decide +kernel, by decide +kernel, by decide +kernel⟩
  unfold ms0
  by_cases c : j < aN k
  · rw [if_pos c]
    have h := inB_t (r0_at (by omega) c)
    rw [if_pos hk] at h
    exact h
  · rw [if_neg c]; exact bx_1 hk j
theorem ms_v : ms0 1 1 = 0 ∧ ms0 70 2 = 0 ∧ ms0 0 15 = 0 ∧ ms0 70 28 = 0 ∧ ms0 0 16 = 0 ∧ ms0 70 13 = 0 ∧ ms0 0 17 = -1 ∧ ms0 70 32 = -1 ∧ ms0 70 23 = 0 ∧ ms0 70 53 = 0 ∧ ms0 9 4 = 0 ∧ ms0 67 2 = 0 ∧ ms0 70 45 = 0 := by decide +kernel
theorem ms_k : ms0 5 3 = -1 ∧ ms0 5 4 = 0 ∧ ms0 5 5 = 0 ∧ ms0 5 6 = 0 ∧ ms0 5 7 = ms0 70 30 ∧ ms0 5 8 = ms0 70 31 := by decide +kernel
theorem ms_6 : ∀ p, p < 60 → ms0 6 p = -1 := by decide +kernel
theorem ms_7 : ∀ c, c < 8 → ms0 7 c = -1 := by decide +kernel
theorem ms_c : cnt isX (ms0 7) 8 = 0 ∧ cnt is1 (ms0 6) 60 = 0 := by decide +kernel
theorem ms_P (p : Nat) : ¬ isP ms0 p := by
  unfold isP
  rw [ms_v.2.2.2.2.2.2.2.2.1]
  omega
theorem ms_Inv : Inv ms0 := by
  obtain ⟨v1, v2, v3, v4, v5, v6, v7, v8, v9, v10, v11, v12, v13⟩ := ms_v
  obtain ⟨k1, k2, k3, k4, k5, k6⟩ := ms_k
  refine ⟨ms_Bx, ⟨ms_Bm, fun p k hp _ => ?_, fun z => absurd v9 z, fun z => absurd v10 z, ?_, fun q q1 q2 => ?_, fun p q hp hq ip => absurd ip (ms_P p), fun z => absurd v10 z⟩, ⟨0, by decide, v1, v2, fun j hj => absurd hj (by omega)⟩, ⟨0, by decide, v3, v4, fun j hj => absurd hj (by omega)⟩, ⟨0, by decide, v5, v6, fun j hj => absurd hj (by omega)⟩, ⟨fun p hp => ⟨fun ip => absurd ip (ms_P p), fun _ => ms_6 p hp⟩, fun p hp => ⟨fun z => absurd z.1 (ms_P p), fun z => ?_⟩, fun c hc p hp => ⟨fun z => absurd z.1 (ms_P p), fun z => ?_⟩, fun c hc => ?_, ?_, ?_, ?_, k5, k6, fun z => absurd v9 z⟩, ?_, ⟨?_, fun z => absurd v10 z⟩, ⟨0, by decide, v12, v13, fun j hj => absurd hj (by omega)⟩⟩
  · rw [v4] at hp; omega
  · rw [v8, v6]; decide
  · rw [v6] at q2; omega
  · rw [k1] at z; omega
  · have z : ms0 7 c = (p : Int) := z
    rw [ms_7 c hc] at z; omega
  · show -1 ≤ ms0 7 c ∧ ms0 7 c ≤ 59
    rw [ms_7 c hc]; decide
  · rw [k2, v9]; decide
  · exact k3.trans ms_c.1.symm
  · exact k4.trans ms_c.2.symm
  · rw [v7, v8]
  · rw [v11, v10]; decide
theorem oM_ms (h : oM μ0) : oM ms0 := fun k j => by
  unfold ms0
  by_cases c : j < aN k
  · rw [if_pos c]; exact h k j
  · rw [if_neg c]; exact ⟨by decide, by decide⟩
theorem hO_ms {dC : Nat → ClassId} {dI : Nat → Nat → Nat} {D : ClassId × ClassId × ClassId} {ad : Nat → Nat} {H : Heap} (h : hO dC dI D ad μ0 H) : hO dC dI D ad ms0 H := by
  refine ⟨fun k q hk => ?_, oM_ms h.2⟩
  obtain ⟨hl, rfl⟩ := wO_get hk
  have h98 : k < 98 := hl
  have h1 := h.1 k _ (wO_at D ad μ0 hl)
  have hv : ∀ j, j < aN k → ms0 k j = μ0 k j := fun j hj => by unfold ms0; rw [if_pos hj]
  rcases hkd : kD k with ⟨c, n⟩
  have hn : aN k = n := by unfold aN; rw [hkd]
  have hge := kD_ge h98
  rw [hkd] at hge
  simp only at hge
  rcases hge with rfl | rfl | rfl | hge
  · rw [eN_i hkd] at h1 ⊢
    refine Eq.trans h1 (congrArg some (show arrV D.1 n (fun j => .int (Int32.ofInt (μ0 k j))) = arrV D.1 n (fun j => .int (Int32.ofInt (ms0 k j))) from arrV_eq (fun j hj => ?_)))
    rw [hv j (by omega)]
  · rw [eN_p hkd] at h1 ⊢
    exact h1
  · rw [eN_t hkd] at h1 ⊢
    exact h1
  · obtain ⟨ci, rfl⟩ : ∃ ci, c = ci + 10 := ⟨c - 10, by omega⟩
    rw [eN_o hkd] at h1 ⊢
    have e1 : (List.range n).map (fun j => cV ad (fV ms0 k j)) = (List.range n).map (fun j => cV ad (fV μ0 k j)) := by
      refine List.map_congr_left (fun j hj => ?_)
      have hj' := List.mem_range.mp hj
      have e2 : fV ms0 k j = fV μ0 k j := by unfold fV; rw [hv j (by omega)]
      rw [e2]
    rw [e1]
    exact h1
set_option maxHeartbeats 2000000 in
theorem law_go2 {Inv : Nat → Mm → Prop} {L : Nat} (hst : ∀ i, i + 6 ≤ L → sAll (Inv i) (Inv (i + 6))) (hI0 : Inv 0 ms0) {p : Program} {e : Env} {s : State} {m : MethodId} {below : List Frame} {meth : Method} {c : Code} (l : Launch) (hflags : l.flags = flags0) {b : Nat} {xs : Nat → Int32} (hL : L ≤ 3072) (C0 : lw_At p s m meth c b L xs) :
    W p l e room_1 s m #[Value.ref b] below meth c s.heap [] 0 0 (lw_Z below #[Value.ref b] s) (entryFrame m ([Value.ref b] : List Value).toArray 7) := by
  obtain ⟨hx, hb, hr, hml, hown, hts, hX, hbl, hlk, hgv⟩ := id C0
  have hts' : ∀ w ∈ tG, w.before #[Value.ref b] s = true := fun w hw => hts w (List.mem_filter.mp hw).1
  obtain ⟨dC, dI, hKc⟩ := known_all hts
  obtain ⟨cI, i1, i2⟩ := arr_prim (ty := .int) (hts (.arrayClass .int) (by decide +kernel))
  obtain ⟨cL, l1, l2⟩ := arr_prim (ty := .long) (hts (.arrayClass .long) (by decide +kernel))
  have hO3 : (Cond.arrayOver (.object RX3)).before #[Value.ref b] s = true := hts _ (by decide +kernel)
  have hO7 : (Cond.arrayOver (.object RX7)).before #[Value.ref b] s = true := hts _ (by decide +kernel)
  obtain ⟨cP, p1, p2⟩ := arr_obj hO3
  obtain ⟨cT, t1, t2⟩ := arr_obj hO7
  obtain ⟨D, hD⟩ : ∃ D : ClassId × ClassId × ClassId, D = (cI, cP, cT) := ⟨_, rfl⟩
  have hK4 : va_K (dC, dI) vwCl (tyS D ++ [(cL, .long)]) s := by
    refine ⟨hKc, fun k q h => ?_⟩
    subst hD
    match k, h with
    | 0, h => cases h; exact ⟨i1, i2⟩
    | 1, h => cases h; exact ⟨p1, p2⟩
    | 2, h => cases h; exact ⟨t1, t2⟩
    | 3, h => cases h; exact ⟨l1, l2⟩
    | k + 4, h => simp [tyS] at h
  have hK : va_K (dC, dI) vwCl (tyS D) s := hK4.sub [0, 1, 2] rfl
  have hN9 : nS s := nS_tbl hts
  have hOO : aO s := ⟨va_AO.of (A := #[Value.ref b]) hO3, va_AO.of (A := #[Value.ref b]) hO7⟩
  obtain ⟨tt0, tt1, tt70, tt71, tt98, ttA, ttB⟩ := tt_v
  rw [lg_entry_eq]
  have hl0 := lv_entry ([.ref b]) (n := 7) (by show 1 ≤ 7; decide)
  revert hl0
  generalize (lg_sl [Value.ref b] ++ List.replicate (7 - (lg_sl [Value.ref b]).length) Slot.unset).toArray = ls
  intro hl0
  have hl0 : lv_has ls 7 [(0, .ref b)] := hl0
  refine w_new (base := s.heap.size) (n := 0) (μ := fun _ _ => 0) (D := D) hx hb hown hts' hK cl10 (by decide +kernel) rfl nwL_8 hN_zero (by decide) (by decide) dL_law_0 (fun H1 hH1 z1 o1 => ?_)
  have hS1 : va_S (fun q : Nat => s.heap.size ≤ q) s.heap H1 [] := vS_push va_S.rf z1 o1
  refine lv_dup hx hb dL_law_3 rfl ?_
  refine w_init (base := s.heap.size) (n := 1) (n2 := 70) (b := 0) (nL := 7) (A0 := fun q : Nat => s.heap.size ≤ q) ⟨hx, hb, hml, hown, hts'⟩ (kN_0 _) mIL_15 hK hN9 hOO hH1 hl0.1 (by show 1 + 0 ≤ 8; omega) ⟨by decide, by decide⟩ ⟨by show 0 + 1 + (70 - 1) ≤ 601024; omega, by show 0 + 18 + (tt 70 - tt 1) ≤ 7293034; omega⟩ hS1 (fun _ h => h) dL_law_4 (fun H2 locs2 hH2 hS2 => ?_)
  refine lv_astore_n (lv' := [(1, .ref (s.heap.size + 0)), (0, .ref b)]) hx hb dL_law_7 rfl hl0 (by decide) rfl (fun ls1 hl1 => ?_)
  refine w_new (base := s.heap.size) (n := 70) (D := D) hx hb hown hts' hK cl11 (by decide +kernel) rfl nwL_16 hH2 (by show 0 + 1 + (70 - 1) + 1 ≤ 601024; omega) (by show 0 + 18 + (tt 70 - tt 1) + 54 ≤ 7293034; omega) dL_law_8 (fun H3 hH3 z3 o3 => ?_)
  have hS3 := vS_push hS2 z3 o3
  refine lv_dup hx hb dL_law_11 rfl ?_
  refine w_init (base := s.heap.size) (n := 71) (n2 := 98) (b := 70) (nL := 7) (A0 := fun q : Nat => s.heap.size ≤ q) ⟨hx, hb, hml, hown, hts'⟩ (kN_70 _) mIL_18 hK hN9 hOO hH3 hl1.1 (by show 1 + 0 ≤ 8; omega) ⟨by decide, by decide⟩ ⟨by show 0 + 1 + (70 - 1) + 1 + (98 - 71) ≤ 601024; omega, by show 0 + 18 + (tt 70 - tt 1) + 54 + (tt 98 - tt 71) ≤ 7293034; omega⟩ hS3 (fun _ h => h) dL_law_12 (fun H4 locs4 hH4 hS4 => ?_)
  refine lv_astore_n (lv' := [(2, .ref (s.heap.size + 70)), (1, .ref (s.heap.size + 0)), (0, .ref b)]) hx hb dL_law_15 rfl hl1 (by decide) rfl (fun ls2 hl2 => ?_)
  refine lv_iconst hx hb dL_law_16 rfl ?_
  refine va_newaK (atype := .long) hx hb (hts (.arrayClass .long) (by decide +kernel)) rfl dL_law_17 rfl (N := 1) (by decide) (by decide) (by decide) (by show 0 + 1 + (70 - 1) + 1 + (98 - 71) + 1 ≤ 601024; omega) (by show 0 + 18 + (tt 70 - tt 1) + 54 + (tt 98 - tt 71) + 1 ≤ 7293034; omega) hH4.2.2.1 (fun H5 cA e5 z5 o5 hAr hNm => ?_)
  have hcA : cA = cL := Option.some.inj (hNm.symm.trans l2)
  subst hcA
  have hH4' : hN dC dI D s.heap.size mB 98 H4 := hH4
  have hO4 : hO dC dI D (adL s.heap.size b) ms0 H4 := hO_ms (hO_adL (hN_hO hH4'))
  have z5' : H5.size = H4.size + 1 := by rw [z5, hH4.2.2.1]
  have o5' : ∀ q, q < H4.size → H5[q]? = H4[q]? := fun q hq => o5 q (by rw [← hH4.2.2.1]; exact hq)
  have hO5 : hO dC dI D (adL s.heap.size b) ms0 H5 := hO_kept hO4 o5'
  have hS5 : va_S (fun q : Nat => s.heap.size ≤ q) s.heap H5 locs4 := vS_push hS4 z5' o5'
  refine lv_astore_n (lv' := [(3, .ref (s.heap.size + 98)), (2, .ref (s.heap.size + 70)), (1, .ref (s.heap.size + 0)), (0, .ref b)]) hx hb dL_law_19 rfl hl2 (by decide) rfl (fun ls3 hl3 => ?_)
  refine lv_iconst hx hb dL_law_20 rfl ?_
  refine lv_istore (lv' := [(4, .int (Int32.ofInt 0)), (3, .ref (s.heap.size + 98)), (2, .ref (s.heap.size + 70)), (1, .ref (s.heap.size + 0)), (0, .ref b)]) hx hb dL_law_21 hl3 (by decide) rfl (fun ls4 hl4 => ?_)
  refine W.widen (k := 200) (n := 20000) (by show 0 + 1 + (70 - 1) + 1 + (98 - 71) + 1 ≤ 200; omega) (by show 0 + 18 + (tt 70 - tt 1) + 54 + (tt 98 - tt 71) + 1 ≤ 20000; omega) ?_
  have hgo := law_loop hCr hst (L := L) (sc := fun j => (xs j).toInt) hL (fun j => rI_of (xs j)) (L + 6) 0 ms0 0 200 20000 (by omega) (by omega) hI0 (by omega) (by omega)
  have hap : aP (adL s.heap.size b) := by
    intro i j hi hj h
    have hi' : i < 98 := hi
    have hj' : j < 98 := hj
    rw [adL_k (by omega), adL_k (by omega)] at h
    omega
  have hg := hgo p l e s m below meth c b xs H5 locs4 dC dI D cA (adL s.heap.size b) ls4 ⟨C0, hflags, hK4, hap, fun k hk => by have hk' : k < 98 := hk; rw [adL_k (by omega)]; omega, rfl⟩ (fun _ => rfl) hO5
    ⟨by rw [adL_k (by decide)]; exact e5, fun k hk => by have hk' : k < 98 := hk; rw [adL_k (by omega), adL_k (by decide)]; omega, by rw [adL_k (by decide)]; omega⟩ hS5 rfl ⟨hl4.1, hl4.2.1, fun i v hi => ?_⟩ (fun _ h => nomatch h)
  · exact hg
  · match i, hi with
    | 0, hi => cases hi; exact ⟨lv_at hl4 4 rfl, trivial⟩
    | 1, hi => cases hi; exact ⟨lv_at hl4 3 rfl, trivial⟩
    | 2, hi => cases hi; exact ⟨lv_at hl4 2 rfl, trivial⟩
    | 3, hi => cases hi; exact ⟨lv_at hl4 1 rfl, trivial⟩
    | 4, hi => cases hi; exact ⟨lv_at hl4 0 rfl, rI_0⟩
    | 5, hi => cases hi
    | 6, hi => cases hi
    | k + 7, hi => simp at hi
