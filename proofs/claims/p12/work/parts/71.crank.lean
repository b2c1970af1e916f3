/-! CRANK: the one call that may throw -/
theorem dX10_crank_0 : decode cX10_crank 0 = .ok (.aload_n 0, 1) := by decide +kernel
theorem dX10_crank_1 : decode cX10_crank 1 = .ok (.getfield 37, 3) := by decide +kernel
theorem dX10_crank_4 : decode cX10_crank 4 = .ok (.iload_n 1, 1) := by decide +kernel
theorem dX10_crank_5 : decode cX10_crank 5 = .ok (.invokevirtual 168, 3) := by decide +kernel
theorem dX10_crank_8 : decode cX10_crank 8 = .ok (.istore_n 2, 1) := by decide +kernel
theorem dX10_crank_9 : decode cX10_crank 9 = .ok (.iload_n 2, 1) := by decide +kernel
theorem dX10_crank_10 : decode cX10_crank 10 = .ok (.iconst (-1), 1) := by decide +kernel
theorem dX10_crank_11 : decode cX10_crank 11 = .ok (.if_icmp .ne 13, 3) := by decide +kernel
theorem dX10_crank_14 : decode cX10_crank 14 = .ok (.new 171, 3) := by decide +kernel
theorem dX10_crank_17 : decode cX10_crank 17 = .ok (.dup, 1) := by decide +kernel
theorem dX10_crank_18 : decode cX10_crank 18 = .ok (.ldc 173, 2) := by decide +kernel
theorem dX10_crank_20 : decode cX10_crank 20 = .ok (.invokespecial 175, 3) := by decide +kernel
theorem dX10_crank_23 : decode cX10_crank 23 = .ok (.athrow, 1) := by decide +kernel
theorem dX10_crank_24 : decode cX10_crank 24 = .ok (.iload_n 2, 1) := by decide +kernel
theorem dX10_crank_25 : decode cX10_crank 25 = .ok (.ireturn, 1) := by decide +kernel
theorem dL_crank_0 : decode cL_crank 0 = .ok (.aload_n 2, 1) := by decide +kernel
theorem dL_crank_1 : decode cL_crank 1 = .ok (.iconst 0, 1) := by decide +kernel
theorem dL_crank_2 : decode cL_crank 2 = .ok (.aload_n 0, 1) := by decide +kernel
theorem dL_crank_3 : decode cL_crank 3 = .ok (.iload_n 1, 1) := by decide +kernel
theorem dL_crank_4 : decode cL_crank 4 = .ok (.invokevirtual 7, 3) := by decide +kernel
theorem dL_crank_7 : decode cL_crank 7 = .ok (.i2l, 1) := by decide +kernel
theorem dL_crank_8 : decode cL_crank 8 = .ok (.lastore, 1) := by decide +kernel
theorem dL_crank_9 : decode cL_crank 9 = .ok (.goto 6, 3) := by decide +kernel
theorem dL_crank_12 : decode cL_crank 12 = .ok (.astore_n 3, 1) := by decide +kernel
theorem dL_crank_13 : decode cL_crank 13 = .ok (.iconst 1, 1) := by decide +kernel
theorem dL_crank_14 : decode cL_crank 14 = .ok (.ireturn, 1) := by decide +kernel
theorem dL_crank_15 : decode cL_crank 15 = .ok (.iconst 0, 1) := by decide +kernel
theorem dL_crank_16 : decode cL_crank 16 = .ok (.ireturn, 1) := by decide +kernel
abbrev mX10_crank : Mth := (yX10_crank, cX10_crank, 3, some .int)
/-- the words of the throw that the tables alone decide -/
def nsW4 : List Cond := [.declares (Bundle.initS rteN), .declares (Bundle.initS excN), .declares (Bundle.initS Bundle.tN), .castable nseN nseN]
def nsB (U : State) : Prop := ∀ w ∈ nsW4, w.before #[] U = true
theorem nsW4_ot : ∀ w ∈ nsW4, w.onTables = true := by decide
theorem nsB.of {A : Array Value} {U : State} (h : ∀ w ∈ nsW4, w.before A U = true) : nsB U := fun w hw => va_tabs (nsW4_ot w hw) rfl (h w hw)
theorem nsB.use {A : Array Value} {U : State} (h : nsB U) : ∀ w ∈ nsW4, w.before A U = true := fun w hw => va_tabs (nsW4_ot w hw) rfl (h w hw)
theorem nsB.moved {u U : State} (hvm : u.vm.Alike U.vm) (h : nsB u) : nsB U := by
  have tr : ∀ {w : Cond}, w.onTables = true → w.before #[] (u.setVm U.vm) = true → w.before #[] U = true := fun {w} hc h => va_tabs (u := u.setVm U.vm) (U := U) hc rfl h
  intro w hw
  have h1 := h w hw
  simp only [nsW4, List.mem_cons, List.not_mem_nil, or_false] at hw
  rcases hw with rfl | rfl | rfl | rfl
  · exact tr rfl (by rw [Cond.declares_setVm hvm]; exact h1)
  · exact tr rfl (by rw [Cond.declares_setVm hvm]; exact h1)
  · exact tr rfl (by rw [Cond.declares_setVm hvm]; exact h1)
  · exact tr rfl (by rw [Cond.castable_setVm hvm]; exact h1)
abbrev nsAll : List Cond := Cond.classLink RX10 171 nseN :: Cond.initialized nseN :: nsL.filter vx_no
theorem nsW4_tbl : ∀ w ∈ nsW4, w ∈ lw_tbl := by decide +kernel
theorem nsL_in : ∀ w ∈ nsAll, (decide (w ∈ lw_tbl) && goodWord w) = true ∨ w ∈ nsW4 := by decide +kernel
theorem nsL_ot : ∀ w ∈ nsAll, vx_ot w = true := by decide +kernel
theorem nsL_hat {args : Array Value} {s : State} (hts : ∀ w ∈ tG, w.before args s = true) (hB : nsB s) : ∀ w ∈ nsAll, w.before args s = true := by
  intro w hw
  rcases nsL_in w hw with h | h
  · simp only [Bool.and_eq_true, decide_eq_true_eq] at h
    exact hts w (tG_of h.1 h.2)
  · exact hB.use w h
def tnZ (A : Nat → Prop) (U : State) (H : Heap) : Prop := vx_Zq Bundle.tN "UNASSIGNED_STACK" Bundle.steD A U H ∧ vx_Zq Bundle.tN "SUPPRESSED_SENTINEL" Bundle.listD A U H
theorem tnZ.moved {A : Nat → Prop} {u U : State} {H : Heap} (hvm : u.vm.Alike U.vm) (h : tnZ A u H) : tnZ A U H := ⟨vx_Zq.moved hvm h.1, vx_Zq.moved hvm h.2⟩
theorem tnZ.kept {A : Nat → Prop} {U : State} {H H1 : Heap} (h : tnZ A U H) (hq : ∀ a : Nat, a < H.size → ¬ A a → H1[a]? = H[a]?) : tnZ A U H1 := ⟨h.1.kept hq, h.2.kept hq⟩
theorem tnZ.narrow {A B : Nat → Prop} {U : State} {H : Heap} (h : tnZ A U H) (hAB : ∀ q, B q → A q) : tnZ B U H := ⟨h.1.narrow hAB, h.2.narrow hAB⟩
theorem hO_kept {dC : Nat → ClassId} {dI : Nat → Nat → Nat} {D : ClassId × ClassId × ClassId} {ad : Nat → Nat} {μ : Mm} {H H1 : Heap} (h : hO dC dI D ad μ H) (hk : ∀ q : Nat, q < H.size → H1[q]? = H[q]?) : hO dC dI D ad μ H1 :=
  ⟨va_P.kept h.1 (fun k q hq => hk q.1 (vx_lt h.1 hq)), h.2⟩
theorem hO_at {dC : Nat → ClassId} {dI : Nat → Nat → Nat} {D : ClassId × ClassId × ClassId} {ad : Nat → Nat} {μ : Mm} {H H1 : Heap} (h : hO dC dI D ad μ H) (hk : ∀ k, k < nC → H1[ad k]? = H[ad k]?) : hO dC dI D ad μ H1 :=
  ⟨va_P.kept h.1 (fun k q hq => by obtain ⟨h1, rfl⟩ := wO_get hq; exact hk k h1), h.2⟩
def rmCr : Room := { frames := 8, cells := 1, slots := 6, locals := 800 }
def pX (dC : Nat → ClassId) (dI : Nat → Nat → Nat) (D : ClassId × ClassId × ClassId) (ad : Nat → Nat) (sz sa : Nat) (a : Int) (μ : Mm) : Array Value → State → Prop :=
  va_Pc [.ref (ad 0), .int (Int32.ofInt a)] (fun U => U.heap.size = sz ∧ hO dC dI D ad μ U.heap ∧ va_K (dC, dI) vwCl (tyS D) U ∧ nS U ∧ rI a ∧ vk_R RX10 173 "no such crank" sa U ∧ tnZ (aA ad sz) U U.heap ∧ nsB U)
theorem pX_blind {dC : Nat → ClassId} {dI : Nat → Nat → Nat} {D : ClassId × ClassId × ClassId} {ad : Nat → Nat} {sz sa : Nat} {a : Int} {μ : Mm} : FrameBlind (pX dC dI D ad sz sa a μ) := by
  intro a U g mk q
  obtain ⟨q0, q1, q2, q3, q4, q5, q6, q7, q8⟩ := q
  exact ⟨q0, q1, q2, va_K.moved (u := U) (U := U.calling g mk a) (Vm.Alike.refl U.vm) q3, nS_same (s := U) (U := U.calling g mk a) rfl q4, q5, vk_R.same (u := U) (U := U.calling g mk a) rfl q6, tnZ.moved (u := U) (U := U.calling g mk a) (Vm.Alike.refl U.vm) q7, nsB.moved (u := U) (U := U.calling g mk a) (Vm.Alike.refl U.vm) q8⟩
/-- a field that holds an object of the layout, at the kit's level -/
theorem w_getO {p : Program} {l : Launch} {e : Env} {R : Room} {s : State} {m : MethodId} {args : Array Value} {below : List Frame} {meth : Method} {c : Code} {H : Heap} {locs : List Loc} {cells slots : Nat} {Q : State → Prop} {pc : Nat} {ls : Array Slot} {rest : List Value} {cc : ByteArray} {own : String}
    {dC : Nat → ClassId} {dI : Nat → Nat → Nat} {D : ClassId × ClassId × ClassId} {ad : Nat → Nat} {μ : Mm} {idx ci j n a o t : Nat} {ty : FieldType} {fin : Bool} (hx : p.tables.exec = Jvm.exec) (hb : c.code = cc) (hts : ∀ w ∈ tG, w.before args s = true) (hown : s.vm.findClass own = some m.cls) (hN : nS s)
    (hK : va_K (dC, dI) vwCl (tyS D) s) (hH : hO dC dI D ad μ H) (hL : fL own idx ci j ty fin) (hk : kD a = (ci + 10, n)) (hj : j < n) (hf : rF ci j = (1, o)) (ht : a + o = t) (hd : decode cc pc = .ok (.getfield idx, 3))
    (kk : W p l e R s m args below meth c H locs cells slots Q (F0 m (pc + 3) ls (.ref (ad t) :: rest))) : W p l e R s m args below meth c H locs cells slots Q (F0 m pc ls (.ref (ad a) :: rest)) := by
  subst ht
  obtain ⟨CC, T, N, tys, ⟨h1, h2, h3, h4⟩, h5, -, -, h6⟩ := hL
  have hc : ci < 80 := clF_lt ⟨h1, h2, h3, h4⟩
  have he : (wO D ad μ)[a]? = some (ad a, .inr (ci, (List.range n).map (fun j => cV ad (fV μ a j)))) := by rw [wO_at D ad μ (kD_o hk hc), eN_o hk]
  have hv2 : ((List.range n).map (fun j => cV ad (fV μ a j)))[j]? = some (cV ad (vR (a + o))) := by simp [hj, fV_O hk hf]
  rcases h6 with h6 | ⟨host, h6⟩
  · exact va_get (D := (dC, dI)) (ci := ci) (v := cV ad (vR (a + o))) (C := CC) (T := T) (N := N) hx hb hts h2 hown hK hH.1 a he h1 j h5 (hts _ h6) (fun _ h9 => h9) hv2 hd kk
  · exact va_getN (D := (dC, dI)) (ci := ci) (v := cV ad (vR (a + o))) (C := CC) (T := T) (N := N) hx hb hts h2 hown hK hH.1 a he h1 j h5 (va_Nw.use rfl (hN _ h6 rfl)) (fun _ h9 => h9) hv2 hd kk
set_option maxHeartbeats 1000000 in
theorem cr_X10 {l : Launch} (hl : l.stackTraces = false) {dC : Nat → ClassId} {dI : Nat → Nat → Nat} {D : ClassId × ClassId × ClassId} {ad : Nat → Nat} {sz sa : Nat} {a w : Int} {μ μ1 : Mm} (hp : aP ad) (hpl : X0_placeOf 5 a μ = some (w, μ1)) :
    vx_Met l yX10_crank (wM mX10_crank) rmCr (pX dC dI D ad sz sa a μ) (va_Qi (fun r (_ : Unit) => w ≠ -1 ∧ rI w ∧ r = Int32.ofInt w) (fun _ t => hO dC dI D ad μ1 t.heap) (aA ad sz)) (vx_X (fun (_ : Unit) => w = -1) (fun E _ t => E = nseN ∧ hO dC dI D ad μ1 t.heap) (aA ad sz)) 1 6 (aA ad sz) := by
  refine vx_ofW (cc := cX10_crank) (maxL := 3) (ret := some .int) (by decide +kernel) rfl ?_
  intro p e s m args below meth c s₁ B hml htab hv
  obtain ⟨rfl, hsz, hH, hK, hN, ha, hstr, hZ, hB⟩ := hv
  subst hsz
  have hts : ∀ w ∈ tG, w.before _ s = true := fun w hw => atoms_spec (ws := wM mX10_crank) B.pre w (List.mem_cons_of_mem _ hw)
  have hown : s.vm.findClass RX10 = some m.cls := findClass_of_methodNamed B.named
  have hw := nsL_hat hts hB
  rw [lg_entry_eq]
  have hl0 := lv_entry ([.ref (ad 0), .int (Int32.ofInt a)]) (n := 3) (by show 2 ≤ 3; decide)
  revert hl0
  generalize (lg_sl [Value.ref (ad 0), Value.int (Int32.ofInt a)] ++ List.replicate (3 - (lg_sl [Value.ref (ad 0), Value.int (Int32.ofInt a)]).length) Slot.unset).toArray = ls
  intro hl0
  have hl0 : lv_has ls 3 [(0, .ref (ad 0)), (1, .int (Int32.ofInt a))] := hl0
  refine lv_aload_n B.exec B.bytes dX10_crank_0 rfl (lv_at hl0 0 rfl) ?_
  refine w_getO (a := 0) (t := 5) B.exec B.bytes hts hown hN hK hH fl_X10_37 rfl (by decide) rfl rfl dX10_crank_1 ?_
  refine lv_iload_n B.exec B.bytes dX10_crank_4 rfl (lv_at hl0 1 rfl) ?_
  refine w_callV (d := 1) (As := [vI a]) (b := 5) (nL := 3) ⟨B.exec, B.bytes, hml, hown, hts⟩ (kX0_placeOf 1 (by decide) rfl hpl) mv_X10_168 (rfl : kD 5 = (0 + 10, 9)) rfl rfl hH hK hp hN (ok_c trivial (ok_c ha (fun _ h => nomatch h))) hl0.1 (by decide) ⟨by decide, by decide⟩ ⟨Nat.zero_le _, Nat.zero_le _⟩ va_S.rf (fun q h => h) dX10_crank_5 ?_
  intro H1 locs1 hrk hH1 hsz1 hfr hS1
  have hrk : rI w := hrk
  refine lv_istore_n (lv' := [(2, .int (Int32.ofInt w)), (0, .ref (ad 0)), (1, .int (Int32.ofInt a))]) B.exec B.bytes dX10_crank_8 rfl hl0 (by decide) rfl (fun ls1 hl1 => ?_)
  refine lv_iload_n B.exec B.bytes dX10_crank_9 rfl (lv_at hl1 0 rfl) ?_
  refine lv_iconst B.exec B.bytes dX10_crank_10 rfl ?_
  refine lv_icmp_ne (tgt := 24) B.exec B.bytes dX10_crank_11 (by decide) (fun hne => ?_) (fun heq => ?_)
  · refine lv_iload_n B.exec B.bytes dX10_crank_24 rfl (lv_at hl1 0 rfl) ?_
    refine vx_ret (W.widen (k := 1) (n := 6) (Nat.zero_le _) (Nat.zero_le _) ?_)
    exact W.iret B.exec B.bytes B.returns (fun t ht hW => ⟨⟨_, (), rfl, ⟨fun h => hne (by rw [h]), hrk, rfl⟩, by subst ht; exact hH1⟩, hS1.F ht⟩) hS1.2.2 dX10_crank_25 B.notSynchronized
  · have hw1 : w = -1 := (o32_eq hrk (by unfold rI; omega)).mp heq
    refine ns_throwS B.exec B.bytes hl hown (hw _ List.mem_cons_self) (hw _ (List.mem_cons_of_mem _ List.mem_cons_self)) hstr (fun w h => hw w (List.mem_cons_of_mem _ (List.mem_cons_of_mem _ h))) nsL_ot hZ.1 hZ.2 hS1 (hl1.1.trans hml.symm)
      dX10_crank_14 dX10_crank_17 dX10_crank_18 dX10_crank_20 dX10_crank_23 (fun x hx => (htab x hx).elim) (by decide) (by decide) (by decide) (by decide) B.notSynchronized (fun t hvm hsz hk => ?_) hS1.2.2 (by decide) (by decide)
    exact ⟨(), hw1, ⟨rfl, hO_kept hH1 hk⟩, Nat.le_trans hS1.1 hsz, fun q h1 h2 => (hk q (Nat.lt_of_lt_of_le h1 hS1.1)).trans (hS1.2.1 q h1 h2)⟩
