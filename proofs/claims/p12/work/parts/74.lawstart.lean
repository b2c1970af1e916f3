/-! THE LAW'S START: classes, arrays, the two objects, the row of one long; then its loop -/
theorem inst_all : ∀ k, k < 12 → ∃ q, vwCl[k]? = some q ∧ Cond.instantiable q.1 q.2.2 ∈ lw_tbl ∧ ∀ w ∈ u_ws q.1 q.2.1 q.2.2, w ∈ lw_tbl := by
  have f : ∀ {w : Cond}, w ∈ tG → w ∈ lw_tbl := fun h => (List.mem_filter.mp h).1
  intro k hk
  match k, hk with
  | 0, _ => exact ⟨_, cl0.1, by decide +kernel, fun w hw => f (cl0.2.1 w hw)⟩
  | 1, _ => exact ⟨_, cl1.1, by decide +kernel, fun w hw => f (cl1.2.1 w hw)⟩
  | 2, _ => exact ⟨_, cl2.1, by decide +kernel, fun w hw => f (cl2.2.1 w hw)⟩
  | 3, _ => exact ⟨_, cl3.1, by decide +kernel, fun w hw => f (cl3.2.1 w hw)⟩
  | 4, _ => exact ⟨_, cl4.1, by decide +kernel, fun w hw => f (cl4.2.1 w hw)⟩
  | 5, _ => exact ⟨_, cl5.1, by decide +kernel, fun w hw => f (cl5.2.1 w hw)⟩
  | 6, _ => exact ⟨_, cl6.1, by decide +kernel, fun w hw => f (cl6.2.1 w hw)⟩
  | 7, _ => exact ⟨_, cl7.1, by decide +kernel, fun w hw => f (cl7.2.1 w hw)⟩
  | 8, _ => exact ⟨_, cl8.1, by decide +kernel, fun w hw => f (cl8.2.1 w hw)⟩
  | 9, _ => exact ⟨_, cl9.1, by decide +kernel, fun w hw => f (cl9.2.1 w hw)⟩
  | 10, _ => exact ⟨_, cl10.1, by decide +kernel, fun w hw => f (cl10.2.1 w hw)⟩
  | 11, _ => exact ⟨_, cl11.1, by decide +kernel, fun w hw => f (cl11.2.1 w hw)⟩
theorem known_all {s : State} {args : Array Value} (hts : ∀ w ∈ lw_tbl, w.before args s = true) : ∃ (dC : Nat → ClassId) (dI : Nat → Nat → Nat), ∀ (k : Nat) (q : vw_C), vwCl[k]? = some q → u_Kn s q.1 q.2.1 q.2.2 (dC k) (dI k) := by
  have h : ∀ k : Nat, ∃ x : ClassId × (Nat → Nat), ∀ q, vwCl[k]? = some q → u_Kn s q.1 q.2.1 q.2.2 x.1 x.2 := by
    intro k
    by_cases hk : k < 12
    · obtain ⟨q, h1, h2, h3⟩ := inst_all k hk
      obtain ⟨c, i, hkn⟩ := u_known hts h3 (hts _ h2)
      exact ⟨(c, i), fun q' hq' => by cases h1.symm.trans hq'; exact hkn⟩
    · refine ⟨((0 : Nat), fun _ => 0), fun q hq => ?_⟩
      have h1 := (List.getElem?_eq_some_iff.mp hq).1
      have h2 : vwCl.length = 12 := rfl
      omega
  exact ⟨fun k => (h k).choose.1, fun k => (h k).choose.2, fun k q hq => (h k).choose_spec q hq⟩
theorem arr_prim {s : State} {args : Array Value} {ty : FieldType} (h : (Cond.arrayClass ty).before args s = true) : ∃ cA, ArrOfT s cA ty ∧ s.vm.findClass ("[" ++ ty.toString) = some cA := by
  obtain ⟨c, k, comp, h1, h2, h3⟩ := Cond.arrayClass_spec h
  exact ⟨c, fun n z => ⟨fun k h => (by cases h), k, h2, comp, h3⟩, h1⟩
theorem arr_obj {s : State} {args : Array Value} {C : String} (h : (Cond.arrayOver (.object C)).before args s = true) : ∃ cA, ArrOfT s cA (.object C) ∧ va_RA s cA (.object C) := by
  obtain ⟨comp, c, k, f4, -, f2, f3, f1⟩ := Cond.arrayOver_spec h
  exact ⟨c, fun N z => ⟨(fun k h => by cases h), k, f2, comp, f3⟩, k, comp, f2, f3, f4, f1⟩
section LWS
variable {p : Program} {l : Launch} {e : Env} {R : Room} {s : State} {m : MethodId} {args : Array Value} {below : List Frame} {meth : Method} {c : Code} {H : Heap} {locs : List Loc} {cells slots : Nat} {Q : State → Prop} {pc nL : Nat} {ls : Array Slot} {rest : List Value} {cc : ByteArray} {own : String}
variable {dC : Nat → ClassId} {dI : Nat → Nat → Nat} {D : ClassId × ClassId × ClassId}
theorem w_new (hx : p.tables.exec = Jvm.exec) (hbd : c.code = cc) (hown : s.vm.findClass own = some m.cls) (hts : ∀ w ∈ tG, w.before args s = true) (hK : va_K (dC, dI) vwCl (tyS D) s) {idx ci nf base n : Nat} {μ : Mm} {C1 : String} {T : u_T} {ty : Nat → FieldType} (hcl : clF ci C1 T nf ty)
    (hdf : (List.range nf).all (fun j => decide (defaultValue (ty j) = if (rF ci j).1 = 0 then Value.int 0 else Value.null)) = true) (hk : kD n = (ci + 10, nf)) (hw : Cond.classLink own idx C1 ∈ tG ∧ Cond.instantiable C1 nf ∈ tG ∧ Cond.initialized C1 ∈ tG) (hH : hN dC dI D base μ n H) (hc : cells + 1 ≤ R.cells) (hs : slots + nf ≤ R.slots) (hd : decode cc pc = .ok (.new idx, 3))
    (kk : ∀ H1 : Heap, hN dC dI D base μ (n + 1) H1 → H1.size = H.size + 1 → (∀ q, q < H.size → H1[q]? = H[q]?) → W p l e R s m args below meth c H1 locs (cells + 1) (slots + nf) Q (F0 m (pc + 3) ls (.ref (base + n) :: rest))) :
    W p l e R s m args below meth c H locs cells slots Q (F0 m pc ls rest) := by
  obtain ⟨g1, g2, g3, g4⟩ := hcl
  have hKn := hK.1 ci _ g1
  refine W.newcK hx hbd hown (hts _ hw.1) (hts _ hw.2.1) (hts _ hw.2.2) rfl hd hc hs hKn.2.1 hH.2.2.1 (fun H1 kC hkC c1 z1 o1 => ?_)
  have z2 : H1.size = H.size + 1 := by rw [z1, hH.2.2.1]
  have o2 : ∀ q, q < H.size → H1[q]? = H[q]? := fun q hq => o1 q (by rw [← hH.2.2.1]; exact hq)
  have hat : va_at (dC, dI) vwCl (base + n, eD D (bs base) μ n) H1 := by
    rw [eD_o hk]
    refine ⟨_, g1, (u_born ty hts g2 hKn hkC c1 g3).to (fun j hj => ?_)⟩
    have h9 := List.all_eq_true.mp hdf j (List.mem_range.mpr hj)
    rw [decide_eq_true_eq] at h9
    have hzero : μ n j = 0 := hH.2.2.2 n (Nat.le_refl n) j
    show defaultValue (ty j) = _
    rw [h9]
    simp only [vp_V, List.getD_eq_getElem?_getD, List.getElem?_map, List.getElem?_range hj, Option.map_some, Option.getD_some]
    rcases hr : rF ci j with ⟨_ | x, y⟩
    · rw [gV_I hk hr, hzero]; rfl
    · rw [gV_R hk hr, hzero]
      rfl
  exact kk H1 (hN_push hH z2 o2 hat) z2 o2
theorem w_init {d1 idx base n n2 b : Nat} {M1 : Mth} {μ μ2 : Mm} {A0 : Nat → Prop} {H0 : Heap} (S : CallFix p m c cc nL s args tG own) (hM : CN d1 M1 [vR b] n μ n2 μ2) (hm : mI own idx M1 0) (hK : va_K (dC, dI) vwCl (tyS D) s) (hN9 : nS s) (hO : aO s) (hH : hN dC dI D base μ n H) (hsz : ls.size = nL) (hwd : (rest.map fun v => v.category).sum ≤ 8) (hR : d1 + 1 ≤ R.frames ∧ 100 * (d1 + 1) ≤ R.locals)
    (hcs : cells + (n2 - n) ≤ R.cells ∧ slots + (tt n2 - tt n) ≤ R.slots) (hS : va_S A0 H0 H locs) (hA : ∀ q : Nat, base ≤ q → A0 q) (hd : decode cc pc = .ok (.invokespecial idx, 3))
    (kk : ∀ (H1 : Heap) (locs1 : List Loc), hN dC dI D base μ2 n2 H1 → va_S A0 H0 H1 locs1 → W p l e R s m args below meth c H1 locs1 (cells + (n2 - n)) (slots + (tt n2 - tt n)) Q (F0 m (pc + 3) ls rest)) :
    W p l e R s m args below meth c H locs cells slots Q (F0 m pc ls (.ref (bs base b) :: rest)) := by
  obtain ⟨w1, w2, w3, w4, w5, w6, w7, w8⟩ := hm
  have hts := S.2.2.2.2
  have hpre : PreS s H (pN dC dI D base n [vR b] μ) [.ref (bs base b)] :=
    ⟨pN_blind, fun U hU hW => ⟨rfl, by rw [hU]; exact hH, va_K.moved hW.alike hK, nS_warm hW hN9, ⟨va_AO.moved hW.alike hO.1, va_AO.moved hW.alike hO.2⟩, ok_c trivial (fun _ h => nomatch h)⟩⟩
  rcases w1 with w1 | ⟨host, w1⟩
  · intro T hT X
    obtain ⟨v, st₀, t, T', L, g0, X', hL, z1, z2, ⟨⟨hv, hp⟩, hz, hk⟩, stp⟩ := va_runI (As := []) (b := bs base b) (rest := rest) S (hM l dC dI D base) ⟨callB_of (ws' := tG) (rm := rmN d1 (n2 - n) (tt n2 - tt n)) 0 hts (gI_of (by rw [w6]; exact w4)) (by unfold wM; rw [w6]) rfl rfl (hts _ w3) (hts _ w1) w7 ⟨hR.1, by show 8 + (M1.2.2.1 + 11) + 100 * d1 ≤ R.locals; omega⟩, w5, hts _ w2⟩
        hpre (g := F0 m pc ls (.ref (bs base b) :: rest)) (cells := cells) (slots := slots) (locs := locs) rfl rfl hsz rfl (by show 2 * 0 + _ ≤ 8; omega) hd hcs T hT X
    cases hv
    rw [g0] at hz hk
    obtain ⟨t3, a1, b1⟩ := kk T'.heap (locs ++ L) (by rw [z1]; exact hp) ⟨Nat.le_trans hS.1 (by rw [z1]; exact hz), fun q h1 h2 => by rw [z1, hk q (Nat.lt_of_lt_of_le h1 hS.1) (fun h => h2 (hA q h))]; exact hS.2.1 q h1 h2, fun q hq => by
      rcases List.mem_append.mp hq with h | h
      · exact hS.2.2 q h
      · exact hA _ (hL q h)⟩ T' rfl X'
    exact ⟨t3, stp t3 a1, b1⟩
  · intro T hT X
    obtain ⟨v, st₀, t, T', L, g0, X', hL, z1, z2, ⟨⟨hv, hp⟩, hz, hk⟩, stp⟩ := va_runIN (host := host) (As := []) (b := bs base b) (rest := rest) S (hM l dC dI D base) ⟨va_cnB (ws' := tG) (rm := rmN d1 (n2 - n) (tt n2 - tt n)) 0 hts (gI_of (by rw [w6]; exact w4)) (by unfold wM; rw [w6]) rfl rfl (hN9 _ w1 rfl) (hts _ w3) w7 ⟨hR.1, by show 8 + (M1.2.2.1 + 11) + 100 * d1 ≤ R.locals; omega⟩, w5, hts _ w2⟩
        hpre (g := F0 m pc ls (.ref (bs base b) :: rest)) (cells := cells) (slots := slots) (locs := locs) rfl rfl hsz rfl (by show 2 * 0 + _ ≤ 8; omega) hd hcs T hT X
    cases hv
    rw [g0] at hz hk
    obtain ⟨t3, a1, b1⟩ := kk T'.heap (locs ++ L) (by rw [z1]; exact hp) ⟨Nat.le_trans hS.1 (by rw [z1]; exact hz), fun q h1 h2 => by rw [z1, hk q (Nat.lt_of_lt_of_le h1 hS.1) (fun h => h2 (hA q h))]; exact hS.2.1 q h1 h2, fun q hq => by
      rcases List.mem_append.mp hq with h | h
      · exact hS.2.2 q h
      · exact hA _ (hL q h)⟩ T' rfl X'
    exact ⟨t3, stp t3 a1, b1⟩
end LWS
/-- the addresses: the systems' cells, the row of one long, the script -/
def adL (base b : Nat) : Nat → Nat := fun k => if k = 99 then b else base + k
theorem adL_k {base b k : Nat} (h : k ≠ 99) : adL base b k = base + k := if_neg h
theorem adL_cV {base b : Nat} {v : AV} (h : v ≠ vR 99) : cV (adL base b) v = cV (bs base) v := by
  match v, h with
  | .inl a, _ => rfl
  | .inr (.inl a), _ => rfl
  | .inr (.inr none), _ => rfl
  | .inr (.inr (some t)), h => exact congrArg Value.ref (adL_k (fun e => h (by rw [e])))
def chk9 (k : Nat) : Bool := match kD k with
  | (0, _) => true
  | (1, n) => (List.range n).all (fun j => decide (aE k j ≠ 99))
  | (2, n) => (List.range n).all (fun j => decide (aE k j ≠ 99))
  | (_, n) => (List.range n).all (fun j => decide (fV μ0 k j ≠ vR 99))
theorem chk9_all : (List.range 98).all chk9 = true := by decide +kernel
theorem eN_adL {D : ClassId × ClassId × ClassId} {base b k : Nat} {H : Heap} {dC : Nat → ClassId} {dI : Nat → Nat → Nat} (h98 : k < 98) (h : va_at (dC, dI) vwCl (base + k, eN D (bs base) μ0 k) H) : va_at (dC, dI) vwCl (base + k, eN D (adL base b) μ0 k) H := by
  have h1 := List.all_eq_true.mp chk9_all k (List.mem_range.mpr h98)
  unfold chk9 at h1
  rcases hkd : kD k with ⟨c, n⟩
  have hge := kD_ge h98
  rw [hkd] at hge h1
  simp only at hge
  rcases hge with rfl | rfl | rfl | hge
  · rw [eN_i hkd] at h ⊢
    exact h
  · rw [eN_p hkd] at h ⊢
    simp only [List.all_eq_true, decide_eq_true_eq] at h1
    refine Eq.trans h (congrArg some (show arrV D.2.1 n (fun j => va_rf (some (bs base (aE k j)))) = arrV D.2.1 n (fun j => va_rf (some (adL base b (aE k j)))) from arrV_eq (fun j hj => ?_)))
    rw [adL_k (h1 j (List.mem_range.mpr hj))]
  · rw [eN_t hkd] at h ⊢
    simp only [List.all_eq_true, decide_eq_true_eq] at h1
    refine Eq.trans h (congrArg some (show arrV D.2.2 n (fun j => va_rf (some (bs base (aE k j)))) = arrV D.2.2 n (fun j => va_rf (some (adL base b (aE k j)))) from arrV_eq (fun j hj => ?_)))
    rw [adL_k (h1 j (List.mem_range.mpr hj))]
  · obtain ⟨ci, rfl⟩ : ∃ ci, c = ci + 10 := ⟨c - 10, by omega⟩
    have h2 : ∀ j, j < n → fV μ0 k j ≠ vR 99 := by
      have h3 : (List.range n).all (fun j => decide (fV μ0 k j ≠ vR 99)) = true := h1
      intro j hj
      have := List.all_eq_true.mp h3 j (List.mem_range.mpr hj)
      rwa [decide_eq_true_eq] at this
    rw [eN_o hkd] at h ⊢
    have e1 : (List.range n).map (fun j => cV (adL base b) (fV μ0 k j)) = (List.range n).map (fun j => cV (bs base) (fV μ0 k j)) :=
      List.map_congr_left (fun j hj => adL_cV (h2 j (List.mem_range.mp hj)))
    rw [e1]
    exact h
theorem hO_adL {dC : Nat → ClassId} {dI : Nat → Nat → Nat} {D : ClassId × ClassId × ClassId} {base b : Nat} {H : Heap} (h : hO dC dI D (bs base) μ0 H) : hO dC dI D (adL base b) μ0 H := by
  refine ⟨fun k q hk => ?_, h.2⟩
  obtain ⟨hl, rfl⟩ := wO_get hk
  have h98 : k < 98 := hl
  have h1 := h.1 k _ (wO_at D (bs base) μ0 hl)
  rw [adL_k (by omega)]
  exact eN_adL h98 h1
