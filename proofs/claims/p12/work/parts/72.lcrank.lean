/-! THE LAW'S OWN CRANK: a call that catches -/
def A2 (ad : Nat → Nat) (sz : Nat) : Nat → Prop := fun q => aA ad sz q ∨ q = ad 98
def oLc (cL : ClassId) (ad : Nat → Nat) (v : Int64) (H : Heap) : Prop := H[ad 98]? = some (vp_cell cL (1, .inr (.inl (fun _ => v)))) ∧ ∀ k, k < nC → ad k ≠ ad 98
abbrev eL (cL : ClassId) (v : Int64) : va_E := .inl (cL, 1, .inr (.inl (fun _ => v)))
theorem oLc_P {dC : Nat → ClassId} {dI : Nat → Nat → Nat} {D : ClassId × ClassId × ClassId} {ad : Nat → Nat} {μ : Mm} {cL : ClassId} {v : Int64} {H : Heap} (h : hO dC dI D ad μ H) (hC : oLc cL ad v H) : va_P (dC, dI) vwCl (wO D ad μ ++ [(ad 98, eL cL v)]) H := by
  intro k q hk
  by_cases c : k < (wO D ad μ).length
  · rw [List.getElem?_append_left c] at hk
    exact h.1 k q hk
  · rw [List.getElem?_append_right (by omega)] at hk
    have hm := List.mem_of_getElem? hk
    rw [List.mem_singleton] at hm
    subst hm
    exact hC.1
theorem oLc_D {D : ClassId × ClassId × ClassId} {ad : Nat → Nat} {μ : Mm} {cL : ClassId} {v : Int64} {sz : Nat} (hp : aP ad) (hC : ∀ k, k < nC → ad k ≠ ad 98) : va_D (A2 ad sz) (wO D ad μ ++ [(ad 98, eL cL v)]) := by
  have hg : ∀ k q, (wO D ad μ ++ [(ad 98, eL cL v)])[k]? = some q → (k < nC ∧ q.1 = ad k) ∨ (k = nC ∧ q.1 = ad 98) := by
    intro k q hk
    by_cases c : k < (wO D ad μ).length
    · rw [List.getElem?_append_left c] at hk
      obtain ⟨h1, rfl⟩ := wO_get hk
      exact Or.inl ⟨h1, rfl⟩
    · have hl := (List.getElem?_eq_some_iff.mp hk).1
      rw [List.getElem?_append_right (by omega)] at hk
      have hm := List.mem_of_getElem? hk
      rw [List.mem_singleton] at hm
      subst hm
      rw [List.length_append, wO_len] at hl
      rw [wO_len] at c
      simp only [List.length_cons, List.length_nil] at hl
      exact Or.inr ⟨by omega, rfl⟩
  refine ⟨fun i j x y hi hj hxy => ?_, fun k q hk => ?_⟩
  · rcases hg i x hi with ⟨h1, h2⟩ | ⟨h1, h2⟩ <;> rcases hg j y hj with ⟨h3, h4⟩ | ⟨h3, h4⟩
    · exact hp i j h1 h3 (by rw [← h2, ← h4, hxy])
    · exact absurd (by rw [← h2, ← h4, hxy]) (hC i h1)
    · exact absurd (by rw [← h2, ← h4, hxy]) (hC j h3)
    · omega
  · rcases hg k q hk with ⟨h1, h2⟩ | ⟨h1, h2⟩
    · rw [h2]; exact Or.inl (aA_k h1)
    · rw [h2]; exact Or.inr rfl
def pY (dC : Nat → ClassId) (dI : Nat → Nat → Nat) (D : ClassId × ClassId × ClassId) (cL : ClassId) (ad : Nat → Nat) (sz sa : Nat) (a : Int) (v : Int64) (μ : Mm) : Array Value → State → Prop :=
  va_Pc [.ref (ad 0), .int (Int32.ofInt a), .ref (ad 98)] (fun U => U.heap.size = sz ∧ hO dC dI D ad μ U.heap ∧ oLc cL ad v U.heap ∧ va_K (dC, dI) vwCl (tyS D ++ [(cL, .long)]) U ∧ nS U ∧ rI a ∧ vk_R RX10 173 "no such crank" sa U ∧ tnZ (A2 ad sz) U U.heap ∧ nsB U)
theorem pY_blind {dC : Nat → ClassId} {dI : Nat → Nat → Nat} {D : ClassId × ClassId × ClassId} {cL : ClassId} {ad : Nat → Nat} {sz sa : Nat} {a : Int} {v : Int64} {μ : Mm} : FrameBlind (pY dC dI D cL ad sz sa a v μ) := by
  intro a U g mk q
  obtain ⟨q0, q1, q2, q2b, q3, q4, q5, q6, q7, q8⟩ := q
  exact ⟨q0, q1, q2, q2b, va_K.moved (u := U) (U := U.calling g mk a) (Vm.Alike.refl U.vm) q3, nS_same (s := U) (U := U.calling g mk a) rfl q4, q5, vk_R.same (u := U) (U := U.calling g mk a) rfl q6, tnZ.moved (u := U) (U := U.calling g mk a) (Vm.Alike.refl U.vm) q7, nsB.moved (u := U) (U := U.calling g mk a) (Vm.Alike.refl U.vm) q8⟩
abbrev wsLc : List Cond := Cond.codeWith yL_crank cL_crank 4 (some .int) [(0, 9, 12, 13)] :: tG
def rmLc : Room := { frames := 10, cells := 1, slots := 6, locals := 1000 }
set_option maxRecDepth 100000 in
theorem mvL_7 : mV R_law 7 mX10_crank 1 := ⟨(tG_of (tb5 (List.mem_of_getElem? (i := 32) rfl)) (by decide +kernel)), (tG_of (tb5 (List.mem_of_getElem? (i := 33) rfl)) (by decide +kernel)), (tG_of (tb5 (List.mem_of_getElem? (i := 34) rfl)) (by decide +kernel)), (tG_of (tb1 (List.mem_of_getElem? (i := 1) rfl)) (by decide +kernel)), (tG_of (tb5 (List.mem_of_getElem? (i := 35) rfl)) (by decide +kernel)), ⟨by decide, by decide, by decide +kernel⟩, by decide⟩
theorem lkL_13 : Cond.classLink R_law 13 nseN ∈ tG := by
  have h : (decide (Cond.classLink R_law 13 nseN ∈ lw_tbl) && goodWord (Cond.classLink R_law 13 nseN)) = true := by decide +kernel
  simp only [Bool.and_eq_true, decide_eq_true_eq] at h
  exact tG_of h.1 h.2
set_option maxHeartbeats 1000000 in
theorem cr_L {l : Launch} (hl : l.stackTraces = false) {dC : Nat → ClassId} {dI : Nat → Nat → Nat} {D : ClassId × ClassId × ClassId} {cL : ClassId} {ad : Nat → Nat} {sz sa : Nat} {a w : Int} {v : Int64} {μ μ1 : Mm} (hp : aP ad) (hpl : X0_placeOf 5 a μ = some (w, μ1)) :
    Met l yL_crank wsLc rmLc (pY dC dI D cL ad sz sa a v μ) (va_Qi (fun r (_ : Unit) => r = if w = -1 then 1 else 0) (fun _ t => hO dC dI D ad μ1 t.heap ∧ oLc cL ad (if w = -1 then v else Int64.ofInt w) t.heap) (A2 ad sz)) 1 6 (A2 ad sz) := by
  refine va_MetW (hh := [(0, 9, 12, 13)]) (cc := cL_crank) (maxL := 4) (ret := some .int) (by decide +kernel) rfl ?_
  intro p e s m args below meth c s₁ B hml hv
  obtain ⟨rfl, hsz, hH, hC, hK, hN, ha, hstr, hZ, hB⟩ := hv
  subst hsz
  have hts : ∀ w ∈ tG, w.before _ s = true := fun w hw => atoms_spec (ws := wsLc) B.pre w (List.mem_cons_of_mem _ hw)
  have htab : c.exceptionTable.toList = tableOf [(0, 9, 12, 13)] := vx_table (x := yL_crank) B (atoms_spec (ws := wsLc) B.pre _ List.mem_cons_self)
  have hown : s.vm.findClass R_law = some m.cls := findClass_of_methodNamed B.named
  have hK' : va_K (dC, dI) vwCl (tyS D) s := hK.sub [0, 1, 2] rfl
  rw [lg_entry_eq]
  have hl0 := lv_entry ([.ref (ad 0), .int (Int32.ofInt a), .ref (ad 98)]) (n := 4) (by show 3 ≤ 4; decide)
  revert hl0
  generalize (lg_sl [Value.ref (ad 0), Value.int (Int32.ofInt a), Value.ref (ad 98)] ++ List.replicate (4 - (lg_sl [Value.ref (ad 0), Value.int (Int32.ofInt a), Value.ref (ad 98)]).length) Slot.unset).toArray = ls
  intro hl0
  have hl0 : lv_has ls 4 [(0, .ref (ad 0)), (1, .int (Int32.ofInt a)), (2, .ref (ad 98))] := hl0
  refine lv_aload_n B.exec B.bytes dL_crank_0 rfl (lv_at hl0 2 rfl) ?_
  refine lv_iconst B.exec B.bytes dL_crank_1 rfl ?_
  refine lv_aload_n B.exec B.bytes dL_crank_2 rfl (lv_at hl0 0 rfl) ?_
  refine lv_iload_n B.exec B.bytes dL_crank_3 rfl (lv_at hl0 1 rfl) ?_
  obtain ⟨m1, m2, m3, m4, m5, m6, m7⟩ := mvL_7
  have hlt : ad 98 < s.heap.size := (Array.getElem?_eq_some_iff.mp hC.1).1
  have hne : ¬ aA ad s.heap.size (ad 98) := by
    rintro (⟨j, h1, h2⟩ | h)
    · exact hC.2 j h1 h2
    · omega
  refine vx_calli (A0 := A2 ad s.heap.size) (A1 := aA ad s.heap.size) (AX := aA ad s.heap.size) (rest := [.int (Int32.ofInt 0), .ref (ad 98)])
    (vx_runV (As := [.int (Int32.ofInt a)]) (b := ad 0) (C := RX10) (nL := 4) (n := 1) ⟨B.exec, B.bytes, hml, hown, hts⟩ (cr_X10 (sz := s.heap.size) (sa := sa) hl hp hpl) ⟨callB_of (ws' := tG) 1 hts (gI_of m5) rfl rfl rfl (hts _ m4) (hts _ m1) m6 ⟨by decide, by decide⟩, hts _ m2, hts _ m3⟩
      ⟨pX_blind, rcv (a := 0) (ci := 10) (n := 18) (q := (RX10, TX10, 18)) hK' hH rfl rfl, fun U hU hW => ⟨rfl, by rw [hU], by rw [hU]; exact hH, va_K.moved hW.alike hK', nS_warm hW hN, ha, vk_R.warm hW hstr, by rw [hU]; exact (tnZ.moved hW.alike hZ).narrow (fun q h => Or.inl h), hB.moved hW.alike⟩⟩ rfl rfl hl0.1 rfl (by show 2 * 0 + (1 + (1 + 0)) ≤ 8; omega) dL_crank_4 ⟨by decide, by decide⟩)
    va_S.rf (fun q _ h => Or.inl h) (fun q h => Or.inl h) (fun q _ h => Or.inl h) (fun E ce q9 u t H1 locs1 ht hvm hpx hb hsz hk hS hce hv hcl => ?_) (fun r u t H1 locs1 ht hvm hpost hb hsz hk hS => ?_)
  · obtain ⟨rfl, hO1⟩ := hb
    refine vx_catch hown [] _ [] (by rw [htab]; rfl) (fun _ h => nomatch h) (by decide) (by decide) (name := nseN) (hts _ lkL_13) (hB.use _ (by decide)) hce hv hcl ?_
    refine lv_astore_n (lv' := [(3, .ref q9), (0, .ref (ad 0)), (1, .int (Int32.ofInt a)), (2, .ref (ad 98))]) B.exec B.bytes dL_crank_12 rfl hl0 (by decide) rfl (fun ls1 hl1 => ?_)
    refine lv_iconst B.exec B.bytes dL_crank_13 rfl ?_
    exact W.iret B.exec B.bytes B.returns (fun t2 ht2 hW => ⟨⟨_, (), rfl, by rw [if_pos hpx]; rfl, by show hO dC dI D ad μ1 t2.heap; rw [ht2, ← ht]; exact hO1, by show oLc cL ad _ t2.heap; rw [if_pos hpx, ht2]; exact ⟨(hk _ hlt hne).trans hC.1, hC.2⟩⟩, hS.F ht2⟩) hS.2.2 dL_crank_14 B.notSynchronized
  · obtain ⟨hw, hrw, rfl⟩ := hpost
    have hO1 : hO dC dI D ad μ1 H1 := by rw [← ht]; exact hb
    have hC1 : oLc cL ad v H1 := ⟨(hk _ hlt hne).trans hC.1, hC.2⟩
    refine lv_i2l B.exec B.bytes dL_crank_7 (o32_i2l hrw) ?_
    refine va_last (A := A2 ad s.heap.size) B.exec B.bytes hK (oLc_P hO1 hC1) (oLc_D hp hC.2) hS nC 3 (n := 1) (cA := cL) (f := fun _ => v) (by rw [List.getElem?_append_right (by rw [wO_len]; exact Nat.le_refl _), wO_len, Nat.sub_self]; rfl) rfl (o32_in (i := 0) rI_0 (by decide)) dL_crank_8 (fun H2 locs2 hP2 hD2 hS2 => ?_)
    have hl98 : (wO D ad μ1 ++ [(ad 98, eL cL v)]).length = nC + 1 := by rw [List.length_append, wO_len]; rfl
    have hO2 : hO dC dI D ad μ1 H2 := ⟨fun k q hk => hP2 k q (by have h1 := (wO_get hk).1; rw [List.getElem?_set_ne (by omega), List.getElem?_append_left (by rw [wO_len]; exact h1)]; exact hk), hO1.2⟩
    have hC2 : oLc cL ad (Int64.ofInt w) H2 := by
      refine ⟨?_, hC.2⟩
      have h9 := hP2 nC (ad 98, .inl (cL, 1, .inr (.inl (vp_updL (fun _ => v) (Int32.ofInt 0).toNatClampNeg (Int64.ofInt w))))) (List.getElem?_set_self (by rw [hl98]; exact Nat.lt_succ_self _))
      refine Eq.trans (b := some (vp_cell cL (1, .inr (.inl (vp_updL (fun _ => v) (Int32.ofInt 0).toNatClampNeg (Int64.ofInt w)))))) h9 ?_
      refine congrArg some (show arrV cL 1 (fun j => .long (vp_updL (fun _ => v) (Int32.ofInt 0).toNatClampNeg (Int64.ofInt w) j)) = arrV cL 1 (fun _ => .long (Int64.ofInt w)) from arrV_eq (fun j hj => ?_))
      have h0 : j = 0 := by omega
      subst h0
      rfl
    refine lv_goto (tgt := 15) B.exec B.bytes dL_crank_9 (by decide) ?_
    refine lv_iconst B.exec B.bytes dL_crank_15 rfl ?_
    exact W.iret B.exec B.bytes B.returns (fun t2 ht2 hW => ⟨⟨_, (), rfl, by rw [if_neg hw]; rfl, by show hO dC dI D ad μ1 t2.heap; rw [ht2]; exact hO2, by show oLc cL ad _ t2.heap; rw [if_neg hw, ht2]; exact hC2⟩, hS2.F ht2⟩) hS2.2.2 dL_crank_16 B.notSynchronized
