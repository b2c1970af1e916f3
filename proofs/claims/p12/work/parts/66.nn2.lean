/-! CONSTRUCTORS 2: arrays' stores, reads, calls, the entry -/
def mI (own : String) (idx : Nat) (M : Mth) (n : Nat) : Prop := (Cond.methodLink own idx M.1 ∈ tG ∨ ∃ host, Cond.methodLinkNest own idx M.1 host ∈ lw_tbl) ∧ Cond.instanceMethod M.1 ∈ tG ∧ Cond.initialized M.1.cls ∈ tG ∧ Cond.code M.1 M.2.1 M.2.2.1 none ∈ tG ∧ M.1.name = "<init>" ∧ M.2.2.2 = none ∧
  (M.1.cls ≠ "java/lang/invoke/MethodHandle" ∧ M.1.cls ≠ "java/lang/invoke/VarHandle" ∧ (parseMethodDescriptor M.1.desc).map (fun d => d.parameters.length) = some n) ∧ M.2.2.1 ≤ 60
theorem pN_blind {dC : Nat → ClassId} {dI : Nat → Nat → Nat} {D : ClassId × ClassId × ClassId} {base n : Nat} {av : List AV} {μ : Mm} : FrameBlind (pN dC dI D base n av μ) := by
  intro a U g mk q
  obtain ⟨q0, q1, q2, q3, q4, q5⟩ := q
  exact ⟨q0, q1, va_K.moved (u := U) (U := U.calling g mk a) (Vm.Alike.refl U.vm) q2, nS_same (s := U) (U := U.calling g mk a) rfl q3, ⟨va_AO.moved (u := U) (U := U.calling g mk a) (Vm.Alike.refl U.vm) q4.1, va_AO.moved (u := U) (U := U.calling g mk a) (Vm.Alike.refl U.vm) q4.2⟩, q5⟩
section NR3
variable {d : Nat} {M : Mth} {n0 pc q : Nat} {ls : List (Option AV)} {st st0 : List AV} {n : Nat} {μ : Mm} {n1 : Nat} {μ1 : Mm}
theorem N_icmpge_t {a b : Int} {off : Int} (hd : decode M.2.1 pc = .ok (.if_icmp .ge off, 3)) (ht : (pc : Int) + off = (q : Int)) (h : b ≤ a) (kt : NN d M n0 q ls st n μ n1 μ1) : NN d M n0 pc ls (vI b :: vI a :: st) n μ n1 μ1 :=
  N_icmpge (q2 := pc + 3) hd ht rfl (fun _ => kt) (fun h2 => absurd h h2)
theorem N_icmpge_f {a b : Int} {off : Int} {qt : Nat} (hd : decode M.2.1 pc = .ok (.if_icmp .ge off, 3)) (ht : (pc : Int) + off = (qt : Int)) (hq : pc + 3 = q) (h : ¬ b ≤ a) (kf : NN d M n0 q ls st n μ n1 μ1) : NN d M n0 pc ls (vI b :: vI a :: st) n μ n1 μ1 :=
  N_icmpge hd ht hq (fun h2 => absurd h2 h) (fun _ => kf)
theorem N_getR {idx ci j nf a t x y : Nat} {C1 : String} {T : u_T} {tys : Nat → FieldType} (hcl : clF ci C1 T nf tys) (hj : Nat.blt j nf = true) (hw : Cond.fieldLink M.1.cls idx (T j).1 (T j).2.1 (T j).2.2.1 ∈ tG) (hk : kD a = (ci + 10, nf)) (ha : Nat.blt a n = true) (hf : rF ci j = (x + 1, y)) (hv : μ a j = ((t + 1 : Nat) : Int)) (hd : decode M.2.1 pc = .ok (.getfield idx, 3)) (hq : pc + 3 = q) (kk : NN d M n0 q ls (vR t :: st) n μ n1 μ1) : NN d M n0 pc ls (vR a :: st) n μ n1 μ1 := by
  subst hq
  intro p l e s m args below meth c H locs dC dI D base ls' C hb hH hS hn hl hs
  obtain ⟨hx, hbd, hml, hr2, hown, hts, hlk, hK, hN, hO, hnm⟩ := id C
  obtain ⟨g1, g2, g3, g4⟩ := hcl
  have hj9 : j < nf := Nat.le_of_ble_eq_true hj
  have ha9 : a < n := Nat.le_of_ble_eq_true ha
  have he : (wN D (bs base) μ n)[a]? = some (bs base a, .inr (ci, (List.range nf).map (fun j => cV (bs base) (gV μ a j)))) := by rw [wN_at D _ μ ha9, eD_o hk]
  have hv2 : ((List.range nf).map (fun j => cV (bs base) (gV μ a j)))[j]? = some (cV (bs base) (vR t)) := by
    rw [List.getElem?_map, List.getElem?_range hj9]
    show some (cV (bs base) (gV μ a j)) = _
    rw [gV_R hk hf, hv]
    unfold vC
    rw [if_neg (by omega)]
    congr 3
    omega
  exact va_get (D := (dC, dI)) (ci := ci) (v := cV (bs base) (vR t)) (C := C1) (T := T) (N := nf) hx hbd hts g2 hown hK hH.1 a he g1 j hj9 (hts _ hw) (fun _ h9 => h9) hv2 hd (kk p l e s m args below meth c H locs dC dI D base ls' C hb hH hS hn hl (ok_c trivial (ok_t hs)))
theorem N_aastore {a t ci nf N c2 : Nat} {i : Int} {r : vw_C} (hk : kD a = (c2, N)) (hc : c2 = 1 ∧ r.1 = RX3 ∨ c2 = 2 ∧ r.1 = RX7) (hkt : kD t = (ci + 10, nf)) (hr : vwCl[ci]? = some r) (ha : Nat.blt a n = true) (ht : Nat.blt t n = true) (ht2 : Nat.blt t 100000 = true) (hi : 0 ≤ i ∧ i < (N : Int)) (hd : decode M.2.1 pc = .ok (.aastore, 1)) (hq : pc + 1 = q) (kk : NN d M n0 q ls st n (sM μ a i.toNat ((t + 1 : Nat) : Int)) n1 μ1) : NN d M n0 pc ls (vR t :: vI i :: vR a :: st) n μ n1 μ1 := by
  subst hq
  intro p l e s m args below meth c H locs dC dI D base ls' C hb hH hS hn hl hs
  obtain ⟨hx, hbd, hml, hr2, hown, hts, hlk, hK, hN, hO, hnm⟩ := id C
  have ha9 : a < n := Nat.le_of_ble_eq_true ha
  have ht9 : t < n := Nat.le_of_ble_eq_true ht
  have ht8 : t < 100000 := Nat.le_of_ble_eq_true ht2
  have hri : rI i := ok_h (ok_t hs)
  have hin : vp_in (Int32.ofInt i) N := o32_in hri hi
  have het : (wN D (bs base) μ n)[t]? = some (bs base t, .inr (ci, (List.range nf).map (fun j => cV (bs base) (gV μ t j)))) := by rw [wN_at D _ μ ht9, eD_o hkt]
  have hfun : va_up (fun j => if μ a j = 0 then none else some (bs base (μ a j - 1).toNat)) i.toNat (some (bs base t)) = fun j => if sM μ a i.toNat ((t + 1 : Nat) : Int) a j = 0 then none else some (bs base (sM μ a i.toNat ((t + 1 : Nat) : Int) a j - 1).toNat) := by
    funext j
    by_cases h : j = i.toNat
    · subst h
      simp only [va_up, sM, and_self, if_true]
      rw [if_neg (by omega)]
      congr 2
      omega
    · simp [va_up, sM, h]
  rcases hc with ⟨rfl, hrc⟩ | ⟨rfl, hrc⟩
  · have hea : (wN D (bs base) μ n)[a]? = some (bs base a, .inl (D.2.1, N, .inr (.inr (.inr (.inr (fun j => if μ a j = 0 then none else some (bs base (μ a j - 1).toNat))))))) := by rw [wN_at D _ μ ha9, eD_p hk]
    refine n_aast (D := (dC, dI)) (ci := ci) (r := r) hx hbd hK hH.1 (wN_D (D := D) (base := base)) hS a 1 t hea (by rw [hrc]; rfl) het hr hin hd (fun H1 locs1 z1 hP1 hS1 => ?_)
    rw [o32_nat hri hi.1, hfun] at hP1
    rw [wN_set (μ' := sM μ a i.toNat ((t + 1 : Nat) : Int)) ha9 (eD_p hk) (fun j hj => eD_congr (sM_ne hj))] at hP1
    exact kk p l e s m args below meth c H1 locs1 dC dI D base ls' C hb (hN_s hH hP1 (by unfold rI; omega) ha9 z1) hS1 hn hl (ok_t (ok_t (ok_t hs)))
  · have hea : (wN D (bs base) μ n)[a]? = some (bs base a, .inl (D.2.2, N, .inr (.inr (.inr (.inr (fun j => if μ a j = 0 then none else some (bs base (μ a j - 1).toNat))))))) := by rw [wN_at D _ μ ha9, eD_t hk]
    refine n_aast (D := (dC, dI)) (ci := ci) (r := r) hx hbd hK hH.1 (wN_D (D := D) (base := base)) hS a 2 t hea (by rw [hrc]; rfl) het hr hin hd (fun H1 locs1 z1 hP1 hS1 => ?_)
    rw [o32_nat hri hi.1, hfun] at hP1
    rw [wN_set (μ' := sM μ a i.toNat ((t + 1 : Nat) : Int)) ha9 (eD_t hk) (fun j hj => eD_congr (sM_ne hj))] at hP1
    exact kk p l e s m args below meth c H1 locs1 dC dI D base ls' C hb (hN_s hH hP1 (by unfold rI; omega) ha9 z1) hS1 hn hl (ok_t (ok_t (ok_t hs)))
theorem N_iastore {a N : Nat} {i z : Int} (hk : kD a = (0, N)) (hi : 0 ≤ i ∧ i < (N : Int)) (ha : Nat.blt a n = true) (hd : decode M.2.1 pc = .ok (.iastore, 1)) (hq : pc + 1 = q) (kk : NN d M n0 q ls st n (sM μ a i.toNat z) n1 μ1) : NN d M n0 pc ls (vI z :: vI i :: vR a :: st) n μ n1 μ1 := by
  subst hq
  intro p l e s m args below meth c H locs dC dI D base ls' C hb hH hS hn hl hs
  obtain ⟨hx, hbd, hml, hr2, hown, hts, hlk, hK, hN, hO, hnm⟩ := id C
  have ha9 : a < n := Nat.le_of_ble_eq_true ha
  have hri : rI i := ok_h (ok_t hs)
  have he : (wN D (bs base) μ n)[a]? = some (bs base a, .inl (D.1, N, .inl (fun j => Int32.ofInt (μ a j)))) := by rw [wN_at D _ μ ha9, eD_i hk]
  refine n_iast (D := (dC, dI)) hx hbd hK hH.1 (wN_D (D := D) (base := base)) hS a 0 he rfl (o32_in hri hi) hd (fun H1 locs1 z1 hP1 hS1 => ?_)
  have hfun : upd (fun j => Int32.ofInt (μ a j)) i.toNat (Int32.ofInt z) = fun j => Int32.ofInt (sM μ a i.toNat z a j) := by
    funext j
    by_cases h : j = i.toNat
    · simp [upd, sM, h]
    · simp [upd, sM, h]
  rw [o32_nat hri hi.1, hfun] at hP1
  rw [wN_set (μ' := sM μ a i.toNat z) ha9 (eD_i hk) (fun j hj => eD_congr (sM_ne hj))] at hP1
  exact kk p l e s m args below meth c H1 locs1 dC dI D base ls' C hb (hN_s hH hP1 (ok_h hs) ha9 z1) hS1 hn hl (ok_t (ok_t (ok_t hs)))
/-- a call of a constructor -/
theorem N_init {d1 idx na b n2 : Nat} {M1 : Mth} {As : List AV} {μ2 : Mm} (hM : CN d1 M1 (vR b :: As) n μ n2 μ2) (hd1 : d1 + 1 ≤ d) (hm : mI M.1.cls idx M1 na) (hl9 : As.length = na) (hst : st0 = As.reverse ++ vR b :: st) (hwd : Nat.ble (st.map wd).sum 8 = true) (h0 : n0 ≤ n) (h2 : n ≤ n2) (h3 : n2 ≤ n1) (hd : decode M.2.1 pc = .ok (.invokespecial idx, 3)) (hq : pc + 3 = q) (kk : NN d M n0 q ls st n2 μ2 n1 μ1) : NN d M n0 pc ls st0 n μ n1 μ1 := by
  subst hq; subst hst
  intro p l e s m args below meth c H locs dC dI D base ls' C hb hH hS hn hl hs
  obtain ⟨hx, hbd, hml, hr2, hown, hts, hlk, hK, hN, hO, hnm⟩ := id C
  obtain ⟨hs1, hs2⟩ := ok_rev hs
  obtain ⟨w1, w2, w3, w4, w5, w6, w7, w8⟩ := hm
  have t0 := tt_mono h0
  have t2 := tt_mono h2
  have t3 := tt_mono h3
  have e1 : (As.reverse ++ vR b :: st).map (cV (bs base)) = (As.map (cV (bs base))).reverse ++ .ref (bs base b) :: st.map (cV (bs base)) := by
    rw [List.map_append, List.map_reverse]; rfl
  rw [e1]
  have hsum : ((st.map (cV (bs base))).map fun v => v.category).sum ≤ 8 := by rw [wd_sum]; exact Nat.le_of_ble_eq_true hwd
  have S : CallFix p m c M.2.1 M.2.2.1 s args tG M.1.cls := ⟨hx, hbd, hml, hown, hts⟩
  have hpre : PreS s H (pN dC dI D base n (vR b :: As) μ) (.ref (bs base b) :: As.map (cV (bs base))) :=
    ⟨pN_blind, fun U hU hW => ⟨rfl, by rw [hU]; exact hH, va_K.moved hW.alike hK, nS_warm hW hN, ⟨va_AO.moved hW.alike hO.1, va_AO.moved hW.alike hO.2⟩, ok_c trivial hs1⟩⟩
  have hrun : va_Run p l e (rmN d (n1 - n0) (tt n1 - tt n0)) s m args below meth c H locs (n - n0) (tt n - tt n0) (n2 - n) (tt n2 - tt n) (F0 m pc ls' ((As.map (cV (bs base))).reverse ++ .ref (bs base b) :: st.map (cV (bs base)))) (st.map (cV (bs base))) (qN dC dI D base n2 μ2 (Value.ref (bs base b) :: As.map (cV (bs base))).toArray) (fun q => base ≤ q) := by
    rcases w1 with w1 | ⟨host, w1⟩
    · exact va_runI (As := As.map (cV (bs base))) (b := bs base b) S (hM l dC dI D base) ⟨callB_of (ws' := tG) (rm := rmN d1 (n2 - n) (tt n2 - tt n)) na hts (gI_of (by rw [w6]; exact w4)) (by unfold wM; rw [w6]) rfl rfl (hts _ w3) (hts _ w1) w7 ⟨hd1, by show 8 + (M1.2.2.1 + 11) + 100 * d1 ≤ 100 * d; omega⟩, w5, hts _ w2⟩
        hpre rfl (by rw [List.length_map]; exact hl9) (hl.1.trans hn) rfl (by show 2 * 0 + _ ≤ 8; omega) hd ⟨by show n - n0 + (n2 - n) ≤ n1 - n0; omega, by show tt n - tt n0 + (tt n2 - tt n) ≤ tt n1 - tt n0; omega⟩
    · exact va_runIN (host := host) (As := As.map (cV (bs base))) (b := bs base b) S (hM l dC dI D base) ⟨va_cnB (ws' := tG) (rm := rmN d1 (n2 - n) (tt n2 - tt n)) na hts (gI_of (by rw [w6]; exact w4)) (by unfold wM; rw [w6]) rfl rfl (hN _ w1 rfl) (hts _ w3) w7 ⟨hd1, by show 8 + (M1.2.2.1 + 11) + 100 * d1 ≤ 100 * d; omega⟩, w5, hts _ w2⟩
        hpre rfl (by rw [List.length_map]; exact hl9) (hl.1.trans hn) rfl (by show 2 * 0 + _ ≤ 8; omega) hd ⟨by show n - n0 + (n2 - n) ≤ n1 - n0; omega, by show tt n - tt n0 + (tt n2 - tt n) ≤ tt n1 - tt n0; omega⟩
  intro T hT X
  obtain ⟨v, st₀, t, T', L, g0, X', hL, z1, z2, ⟨⟨hv, hp⟩, hz, hk⟩, stp⟩ := hrun T hT X
  cases hv
  rw [g0] at hz hk
  have k1 := kk p l e s m args below meth c T'.heap (locs ++ L) dC dI D base ls' C hb (by rw [z1]; exact hp) ⟨Nat.le_trans hS.1 (by rw [z1]; exact hz), fun q h1 h2 => by rw [z1, hk q (Nat.lt_of_lt_of_le h1 hS.1) h2]; exact hS.2.1 q h1 h2, fun q hq => by
      rcases List.mem_append.mp hq with h | h
      · exact hS.2.2 q h
      · exact hL q h⟩ hn hl (ok_t hs2)
  rw [show n2 - n0 = n - n0 + (n2 - n) by omega, show tt n2 - tt n0 = tt n - tt n0 + (tt n2 - tt n) by omega] at k1
  obtain ⟨t3, a1, b1⟩ := k1 T' rfl X'
  exact ⟨t3, stp t3 a1, b1⟩
theorem N_enter {av : List AV} (hrt : M.2.2.2 = none) (hy : plainName M.1.cls = true) (hle : (lA_ av).length ≤ M.2.2.1) (k : NN d M n 0 (lA_ av ++ List.replicate (M.2.2.1 - (lA_ av).length) none) [] n μ n1 μ1) : CN d M av n μ n1 μ1 := by
  intro l dC dI D base
  refine Met.ofW (cc := M.2.1) (maxL := M.2.2.1) (ret := M.2.2.2) hy rfl ?_
  intro p e s m args below meth c s₁ B hml hv
  obtain ⟨rfl, hH, hK, hN, hO, hok⟩ := hv
  have hts : ∀ w ∈ tG, w.before _ s = true := fun w hw => atoms_spec (ws := wM M) B.pre w (List.mem_cons_of_mem _ hw)
  have hown : s.vm.findClass M.1.cls = some m.cls := findClass_of_methodNamed B.named
  rw [lg_entry_eq]
  have hl := lv_entry (av.map (cV (bs base))) (n := M.2.2.1) (by rw [lA_len]; exact hle)
  have hk := k p l e s m _ below meth c s.heap [] dC dI D base _ ⟨B.exec, B.bytes, hml, B.returns, hown, hts, B.notSynchronized, hK, hN, hO, (name_of_methodNamed B.named B.method).1⟩ hH.2.2.1 hH va_S.rf (by simp; omega) ⟨by rw [hl.1]; simp; omega, hl.2.1, fun i v hi => ?_⟩ (fun v hv => by cases hv)
  · rw [Nat.sub_self, Nat.sub_self] at hk
    exact hk
  by_cases h : i < (lA_ av).length
  · rw [List.getElem?_append_left h] at hi
    obtain ⟨h1, h2⟩ := lA_arg (bs base) av 0 i v hi
    exact ⟨hl.2.2 (i, cV (bs base) v) (by simpa using h1), hok v h2⟩
  · rw [List.getElem?_append_right (by omega)] at hi
    have := List.mem_of_getElem? hi
    rw [List.mem_replicate] at this
    cases this.2
end NR3
