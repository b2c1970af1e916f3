/-! fields and arrays -/
def clF (ci : Nat) (C : String) (T : u_T) (N : Nat) (ty : Nat → FieldType) : Prop := vwCl[ci]? = some (C, T, N) ∧ (∀ w ∈ u_ws C T N, w ∈ tG) ∧ (∀ k, k < N → parseFieldDescriptor (T k).2.2.1 = some (ty k)) ∧ ∀ a, a < N → ∀ b, b < N → a ≠ b → (T a).2.1 ≠ (T b).2.1
theorem clF_in {C : String} {T : u_T} {N : Nat} (h : (u_ws C T N).all (fun w => decide (w ∈ lw_tbl) && goodWord w) = true) : ∀ w ∈ u_ws C T N, w ∈ tG := by
  intro w hw
  have h1 := List.all_eq_true.mp h w hw
  rw [Bool.and_eq_true, decide_eq_true_eq] at h1
  exact tG_of h1.1 h1.2
/-- the instruction's pool entry idx of the class own is the field j of the class ci -/
def fL (own : String) (idx ci j : Nat) (ty : FieldType) (fin : Bool) : Prop := ∃ (C : String) (T : u_T) (N : Nat) (tys : Nat → FieldType), clF ci C T N tys ∧ j < N ∧ tys j = ty ∧ (T j).2.2.2 = fin ∧
  (Cond.fieldLink own idx (T j).1 (T j).2.1 (T j).2.2.1 ∈ tG ∨ ∃ host, Cond.fieldLinkNest own idx (T j).1 (T j).2.1 (T j).2.2.1 host ∈ lw_tbl)
theorem fV_I {μ : Mm} {k ci n j x : Nat} (hk : kD k = (ci + 10, n)) (hf : rF ci j = (0, x)) : fV μ k j = vI (μ k j) := by
  unfold fV; rw [hk]; simp only [Nat.add_sub_cancel]; rw [hf]; rfl
theorem fV_O {μ : Mm} {k ci n j o : Nat} (hk : kD k = (ci + 10, n)) (hf : rF ci j = (1, o)) : fV μ k j = vR (k + o) := by
  unfold fV; rw [hk]; simp only [Nat.add_sub_cancel]; rw [hf]; rfl
theorem fV_C {μ : Mm} {k ci n j o : Nat} (hk : kD k = (ci + 10, n)) (hf : rF ci j = (2, o)) : fV μ k j = vR o := by
  unfold fV; rw [hk]; simp only [Nat.add_sub_cancel]; rw [hf]; rfl
theorem fV_M {μ : Mm} {k ci n j o : Nat} (hk : kD k = (ci + 10, n)) (hf : rF ci j = (3, o)) : fV μ k j = vR (μ k j).toNat := by
  unfold fV; rw [hk]; simp only [Nat.add_sub_cancel]; rw [hf]; rfl
theorem eN_o {D : ClassId × ClassId × ClassId} {ad : Nat → Nat} {μ : Mm} {k ci n : Nat} (hk : kD k = (ci + 10, n)) : eN D ad μ k = .inr (ci, (List.range n).map (fun j => cV ad (fV μ k j))) := by
  unfold eN; rw [hk]; rfl
theorem eN_i {D : ClassId × ClassId × ClassId} {ad : Nat → Nat} {μ : Mm} {k n : Nat} (hk : kD k = (0, n)) : eN D ad μ k = .inl (D.1, n, .inl (fun j => Int32.ofInt (μ k j))) := by
  unfold eN; rw [hk]; rfl
theorem eN_p {D : ClassId × ClassId × ClassId} {ad : Nat → Nat} {μ : Mm} {k n : Nat} (hk : kD k = (1, n)) : eN D ad μ k = .inl (D.2.1, n, .inr (.inr (.inr (.inr (fun j => some (ad (aE k j))))))) := by
  unfold eN; rw [hk]; rfl
theorem eN_t {D : ClassId × ClassId × ClassId} {ad : Nat → Nat} {μ : Mm} {k n : Nat} (hk : kD k = (2, n)) : eN D ad μ k = .inl (D.2.2, n, .inr (.inr (.inr (.inr (fun j => some (ad (aE k j))))))) := by
  unfold eN; rw [hk]; rfl
theorem kD_o {k ci n : Nat} (hk : kD k = (ci + 10, n)) (h : ci < 80) : k < nC := kD_e hk (by omega)
theorem clF_lt {ci : Nat} {C : String} {T : u_T} {N : Nat} {ty : Nat → FieldType} (h : clF ci C T N ty) : ci < 80 := by
  have h1 := (List.getElem?_eq_some_iff.mp h.1).1
  have h2 : vwCl.length = 12 := rfl
  omega
theorem aN_lt (k : Nat) : aN k < 100000 := by
  by_cases h : k < nC
  · exact (by decide +kernel : ∀ j, j < nC → aN j < 100000) k h
  · unfold aN kD
    rw [List.getD_eq_getElem?_getD, List.getElem?_eq_none (by show kL.length ≤ k; exact Nat.not_lt.mp h)]
    exact Nat.le_of_ble_eq_true rfl
section VF
variable {d : Nat} {M : Mth} {pc q : Nat} {ls : List (Option AV)} {st : List AV} {μ : Mm} {r : Int} {μ' : Mm}
theorem VV_get {idx ci j n a : Nat} {ty : FieldType} {fin : Bool} {v : AV} (hL : fL M.1.cls idx ci j ty fin) (hk : kD a = (ci + 10, n)) (hj : j < n) (hv : fV μ a j = v) (hok : oM μ → oV v) (hd : decode M.2.1 pc = .ok (.getfield idx, 3)) (hq : pc + 3 = q) (k : VV d M q ls (v :: st) μ r μ') : VV d M pc ls (vR a :: st) μ r μ' := by
  subst hq
  intro p l e s m args below meth c H locs dC dI D ad ls' C hH hS hn hl hs
  obtain ⟨hx, hb, hml, hrt, hown, hts, hlk, hK, hP, hN⟩ := id C
  obtain ⟨CC, T, N, tys, ⟨h1, h2, h3, h4⟩, h5, -, -, h6⟩ := hL
  have hc : ci < 80 := clF_lt ⟨h1, h2, h3, h4⟩
  have he : (wO D ad μ)[a]? = some (ad a, .inr (ci, (List.range n).map (fun j => cV ad (fV μ a j)))) := by rw [wO_at D ad μ (kD_o hk hc), eN_o hk]
  have hv2 : ((List.range n).map (fun j => cV ad (fV μ a j)))[j]? = some (cV ad v) := by simp [hj, hv]
  have kk := k p l e s m args below meth c H locs dC dI D ad ls' C hH hS hn hl (ok_c (hok hH.2) (ok_t hs))
  rcases h6 with h6 | ⟨host, h6⟩
  · exact va_get (D := (dC, dI)) (ci := ci) (v := cV ad v) (C := CC) (T := T) (N := N) hx hb hts h2 hown hK hH.1 a he h1 j h5 (hts _ h6) (fun _ h9 => h9) hv2 hd kk
  · exact va_getN (D := (dC, dI)) (ci := ci) (v := cV ad v) (C := CC) (T := T) (N := N) hx hb hts h2 hown hK hH.1 a he h1 j h5 (va_Nw.use rfl (hN _ h6 rfl)) (fun _ h9 => h9) hv2 hd kk
theorem V_getI {idx ci j n a x : Nat} {ty : FieldType} {fin : Bool} (hL : fL M.1.cls idx ci j ty fin) (hk : kD a = (ci + 10, n)) (hj : Nat.blt j n = true) (hf : rF ci j = (0, x)) (hd : decode M.2.1 pc = .ok (.getfield idx, 3)) (hq : pc + 3 = q) (k : VV d M q ls (vI (μ a j) :: st) μ r μ') : VV d M pc ls (vR a :: st) μ r μ' :=
  VV_get hL hk (Nat.le_of_ble_eq_true hj) (fV_I hk hf) (fun h => h a j) hd hq k
theorem V_getO {idx ci j n a o t : Nat} {ty : FieldType} {fin : Bool} (hL : fL M.1.cls idx ci j ty fin) (hk : kD a = (ci + 10, n)) (hj : Nat.blt j n = true) (hf : rF ci j = (1, o)) (ht : a + o = t) (hd : decode M.2.1 pc = .ok (.getfield idx, 3)) (hq : pc + 3 = q) (k : VV d M q ls (vR t :: st) μ r μ') : VV d M pc ls (vR a :: st) μ r μ' := by
  subst ht
  exact VV_get hL hk (Nat.le_of_ble_eq_true hj) (fV_O hk hf) (fun _ => trivial) hd hq k
theorem V_getC {idx ci j n a t : Nat} {ty : FieldType} {fin : Bool} (hL : fL M.1.cls idx ci j ty fin) (hk : kD a = (ci + 10, n)) (hj : Nat.blt j n = true) (hf : rF ci j = (2, t)) (hd : decode M.2.1 pc = .ok (.getfield idx, 3)) (hq : pc + 3 = q) (k : VV d M q ls (vR t :: st) μ r μ') : VV d M pc ls (vR a :: st) μ r μ' :=
  VV_get hL hk (Nat.le_of_ble_eq_true hj) (fV_C hk hf) (fun _ => trivial) hd hq k
theorem V_getM {idx ci j n a o : Nat} {ty : FieldType} {fin : Bool} (hL : fL M.1.cls idx ci j ty fin) (hk : kD a = (ci + 10, n)) (hj : Nat.blt j n = true) (hf : rF ci j = (3, o)) (hd : decode M.2.1 pc = .ok (.getfield idx, 3)) (hq : pc + 3 = q) (k : VV d M q ls (vR (μ a j).toNat :: st) μ r μ') : VV d M pc ls (vR a :: st) μ r μ' :=
  VV_get hL hk (Nat.le_of_ble_eq_true hj) (fV_M hk hf) (fun _ => trivial) hd hq k
theorem fs_set {n j : Nat} {f g : Nat → Value} {v : Value} (hj : j < n) (h1 : g j = v) (h2 : ∀ i, i ≠ j → g i = f i) : ((List.range n).map f).set j v = (List.range n).map g := by
  apply List.ext_getElem?
  intro i
  by_cases hi : i < n
  · by_cases hij : i = j
    · subst hij
      rw [List.getElem?_set_self (by simp [hi])]
      simp [hi, h1]
    · rw [List.getElem?_set_ne (Ne.symm hij)]
      simp [hi, h2 i hij]
  · rw [List.getElem?_eq_none (by simp; omega), List.getElem?_eq_none (by simp; omega)]
theorem wO_putF {D : ClassId × ClassId × ClassId} {ad : Nat → Nat} {ci n j a : Nat} {z : Int} {v : AV} (hk : kD a = (ci + 10, n)) (hc : ci < 80) (hj : j < n) (hv : fV (sM μ a j z) a j = v) :
    (wO D ad μ).set a (ad a, .inr (ci, ((List.range n).map (fun j => cV ad (fV μ a j))).set j (cV ad v))) = wO D ad (sM μ a j z) := by
  refine wO_set (kD_o hk hc) ?_ (fun i hi => eN_congr (sM_ne hi))
  rw [eN_o hk]
  congr 2
  symm
  refine fs_set hj (by rw [hv]) (fun i hi => ?_)
  show cV ad (fV (sM μ a j z) a i) = cV ad (fV μ a i)
  have : (sM μ a j z) a i = μ a i := by simp [sM, hi]
  unfold fV
  rw [this]
theorem VV_put {idx ci j n a : Nat} {ty : FieldType} {v : AV} {z : Int} (hL : fL M.1.cls idx ci j ty false) (hk : kD a = (ci + 10, n)) (hj : j < n) (hv : fV (sM μ a j z) a j = v) (hz : oV v → rI z) (hnar : ∀ ad : Nat → Nat, narrow ty (cV ad v) = cV ad v) (hfit : ∀ ad : Nat → Nat, fits ty (cV ad v) = true) (hd : decode M.2.1 pc = .ok (.putfield idx, 3)) (hq : pc + 3 = q) (k : VV d M q ls st (sM μ a j z) r μ') : VV d M pc ls (v :: vR a :: st) μ r μ' := by
  subst hq
  intro p l e s m args below meth c H locs dC dI D ad ls' C hH hS hn hl hs
  obtain ⟨hx, hb, hml, hrt, hown, hts, hlk, hK, hP, hN⟩ := id C
  obtain ⟨CC, T, N, tys, hcl, h5, hty, hfin, h6⟩ := hL
  obtain ⟨h1, h2, h3, h4⟩ := id hcl
  have hc : ci < 80 := clF_lt hcl
  have he : (wO D ad μ)[a]? = some (ad a, .inr (ci, (List.range n).map (fun j => cV ad (fV μ a j)))) := by rw [wO_at D ad μ (kD_o hk hc), eN_o hk]
  have hDd : va_D (aA ad s.heap.size) (wO D ad μ) := vD_of hP (fun k hk => aA_k hk)
  have hpd : parseFieldDescriptor (T j).2.2.1 = some ty := by rw [h3 j h5, hty]
  have hl2 : j < ((List.range n).map (fun j => cV ad (fV μ a j))).length := by simp [hj]
  have kk : ∀ (H1 : Heap) (locs1 : List Loc), va_P (dC, dI) vwCl ((wO D ad μ).set a (ad a, .inr (ci, ((List.range n).map (fun j => cV ad (fV μ a j))).set j (cV ad v)))) H1 → va_D (aA ad s.heap.size) ((wO D ad μ).set a (ad a, .inr (ci, ((List.range n).map (fun j => cV ad (fV μ a j))).set j (cV ad v)))) → va_S (aA ad s.heap.size) s.heap H1 locs1 → W p l e (rmD d) s m args below meth c H1 locs1 0 0 (MQ below (qC dC dI D ad (aA ad s.heap.size) M.2.2.2 r μ') args s 0 0 (aA ad s.heap.size)) (F0 m (pc + 3) ls' (st.map (cV ad))) := by
    intro H1 locs1 hP1 _ hS1
    rw [wO_putF hk hc hj hv] at hP1
    exact k p l e s m args below meth c H1 locs1 dC dI D ad ls' C ⟨hP1, oM_s hH.2 (hz (ok_h hs))⟩ hS1 hn hl (ok_t (ok_t hs))
  rcases h6 with h6 | ⟨host, h6⟩
  · exact va_put (D := (dC, dI)) (ci := ci) (v := cV ad v) (C := CC) (T := T) (N := N) hx hb hts h2 tys h3 h4 hown hK hH.1 hDd hS a he h1 j h5 (hts _ h6) (fun _ h9 => h9) hfin hpd (hnar ad) (hfit ad) hl2 hd kk
  · exact va_putN (D := (dC, dI)) (ci := ci) (v := cV ad v) (C := CC) (T := T) (N := N) hx hb hts h2 tys h3 h4 hown hK hH.1 hDd hS a he h1 j h5 (va_Nw.use rfl (hN _ h6 rfl)) (fun _ h9 => h9) hfin hpd (hnar ad) (hfit ad) hl2 hd kk
theorem V_putI {idx ci j n a x : Nat} {z : Int} (hL : fL M.1.cls idx ci j .int false) (hk : kD a = (ci + 10, n)) (hj : Nat.blt j n = true) (hf : rF ci j = (0, x)) (hd : decode M.2.1 pc = .ok (.putfield idx, 3)) (hq : pc + 3 = q) (k : VV d M q ls st (sM μ a j z) r μ') : VV d M pc ls (vI z :: vR a :: st) μ r μ' :=
  VV_put hL hk (Nat.le_of_ble_eq_true hj) (by rw [fV_I hk hf]; simp [sM]) (fun h => h) (fun _ => rfl) (fun _ => rfl) hd hq k
theorem V_putZ {idx ci j n a x : Nat} {z : Int} (hL : fL M.1.cls idx ci j .boolean false) (hk : kD a = (ci + 10, n)) (hj : Nat.blt j n = true) (hf : rF ci j = (0, x)) (hz : z = 0 ∨ z = 1) (hd : decode M.2.1 pc = .ok (.putfield idx, 3)) (hq : pc + 3 = q) (k : VV d M q ls st (sM μ a j z) r μ') : VV d M pc ls (vI z :: vR a :: st) μ r μ' :=
  VV_put hL hk (Nat.le_of_ble_eq_true hj) (by rw [fV_I hk hf]; simp [sM]) (fun h => h) (fun _ => by rcases hz with rfl | rfl <;> rfl) (fun _ => by rcases hz with rfl | rfl <;> rfl) hd hq k
theorem V_putM {idx ci j n a t x : Nat} {C : String} (hL : fL M.1.cls idx ci j (.object C) false) (hk : kD a = (ci + 10, n)) (hj : Nat.blt j n = true) (hf : rF ci j = (3, x)) (ht : t < nC) (hd : decode M.2.1 pc = .ok (.putfield idx, 3)) (hq : pc + 3 = q) (k : VV d M q ls st (sM μ a j (t : Int)) r μ') : VV d M pc ls (vR t :: vR a :: st) μ r μ' :=
  VV_put hL hk (Nat.le_of_ble_eq_true hj) (by rw [fV_M hk hf]; simp [sM]) (fun _ => by have : nC = 98 := rfl; unfold rI; omega) (fun _ => rfl) (fun _ => rfl) hd hq k
theorem V_iaload {a n : Nat} {i : Int} (hk : kD a = (0, n)) (hi : 0 ≤ i ∧ i < aN a) (hd : decode M.2.1 pc = .ok (.iaload, 1)) (hq : pc + 1 = q) (k : VV d M q ls (vI (μ a i.toNat) :: st) μ r μ') : VV d M pc ls (vI i :: vR a :: st) μ r μ' := by
  subst hq
  intro p l e s m args below meth c H locs dC dI D ad ls' C hH hS hn hl hs
  obtain ⟨hx, hb, hml, hrt, hown, hts, hlk, hK, hP, hN⟩ := id C
  have hri : rI i := ok_h hs
  have hn2 : aN a = n := by unfold aN; rw [hk]
  have he : (wO D ad μ)[a]? = some (ad a, .inl (D.1, n, .inl (fun j => Int32.ofInt (μ a j)))) := by rw [wO_at D ad μ (kD_e hk (by decide)), eN_i hk]
  have kk := k p l e s m args below meth c H locs dC dI D ad ls' C hH hS hn hl (ok_c (v := vI (μ a i.toNat)) (hH.2 a i.toNat) (ok_t (ok_t hs)))
  refine va_iald hx hb hK hH.1 a 0 he rfl (o32_in hri (by rw [← hn2]; exact hi)) hd ?_
  rw [o32_nat hri hi.1]
  exact kk
theorem V_iastore {a n : Nat} {i z : Int} (hk : kD a = (0, n)) (hi : 0 ≤ i ∧ i < aN a) (hd : decode M.2.1 pc = .ok (.iastore, 1)) (hq : pc + 1 = q) (k : VV d M q ls st (sM μ a i.toNat z) r μ') : VV d M pc ls (vI z :: vI i :: vR a :: st) μ r μ' := by
  subst hq
  intro p l e s m args below meth c H locs dC dI D ad ls' C hH hS hn hl hs
  obtain ⟨hx, hb, hml, hrt, hown, hts, hlk, hK, hP, hN⟩ := id C
  have hri : rI i := ok_h (ok_t hs)
  have hn2 : aN a = n := by unfold aN; rw [hk]
  have ha : a < nC := kD_e hk (by decide)
  have he : (wO D ad μ)[a]? = some (ad a, .inl (D.1, n, .inl (fun j => Int32.ofInt (μ a j)))) := by rw [wO_at D ad μ ha, eN_i hk]
  have hDd : va_D (aA ad s.heap.size) (wO D ad μ) := vD_of hP (fun k hk => aA_k hk)
  refine va_iast hx hb hK hH.1 hDd hS a 0 he rfl (o32_in hri (by rw [← hn2]; exact hi)) hd (fun H1 locs1 hP1 _ hS1 => ?_)
  rw [o32_nat hri hi.1] at hP1
  have e1 : (wO D ad μ).set a (ad a, .inl (D.1, n, .inl (upd (fun j => Int32.ofInt (μ a j)) i.toNat (Int32.ofInt z)))) = wO D ad (sM μ a i.toNat z) := by
    refine wO_set ha ?_ (fun j hj => eN_congr (sM_ne hj))
    rw [eN_i hk]
    congr 3
    congr 1
    funext j
    by_cases h : j = i.toNat
    · simp [upd, sM, h]
    · simp [upd, sM, h]
  rw [e1] at hP1
  exact k p l e s m args below meth c H1 locs1 dC dI D ad ls' C ⟨hP1, oM_s hH.2 (ok_h hs)⟩ hS1 hn hl (ok_t (ok_t (ok_t hs)))
theorem V_alen {a n : Nat} (hk : kD a = (0, n)) (hd : decode M.2.1 pc = .ok (.arraylength, 1)) (hq : pc + 1 = q) (k : VV d M q ls (vI (aN a : Nat) :: st) μ r μ') : VV d M pc ls (vR a :: st) μ r μ' := by
  subst hq
  intro p l e s m args below meth c H locs dC dI D ad ls' C hH hS hn hl hs
  obtain ⟨hx, hb, hml, hrt, hown, hts, hlk, hK, hP, hN⟩ := id C
  have hn2 : aN a = n := by unfold aN; rw [hk]
  have hs2 : n < 100000 := by rw [← hn2]; exact aN_lt a
  have he : (wO D ad μ)[a]? = some (ad a, .inl (D.1, n, .inl (fun j => Int32.ofInt (μ a j)))) := by rw [wO_at D ad μ (kD_e hk (by decide)), eN_i hk]
  have kk := k p l e s m args below meth c H locs dC dI D ad ls' C hH hS hn hl (ok_c (v := vI ((aN a : Nat) : Int)) (by show rI _; rw [hn2]; unfold rI; omega) (ok_t hs))
  exact va_alen hx hb hK hH.1 a 0 he (ty := .int) rfl (v := Int32.ofInt ((aN a : Nat) : Int)) (by rw [hn2]; exact (Int32.ofInt_eq_ofNat).symm) hd kk
theorem V_alenP {a n c2 : Nat} (hk : kD a = (c2, n)) (hc : c2 = 1 ∨ c2 = 2) (hd : decode M.2.1 pc = .ok (.arraylength, 1)) (hq : pc + 1 = q) (k : VV d M q ls (vI (aN a : Nat) :: st) μ r μ') : VV d M pc ls (vR a :: st) μ r μ' := by
  subst hq
  intro p l e s m args below meth c H locs dC dI D ad ls' C hH hS hn hl hs
  obtain ⟨hx, hb, hml, hrt, hown, hts, hlk, hK, hP, hN⟩ := id C
  have hn2 : aN a = n := by unfold aN; rw [hk]
  have hs2 : n < 100000 := by rw [← hn2]; exact aN_lt a
  have kk := k p l e s m args below meth c H locs dC dI D ad ls' C hH hS hn hl (ok_c (v := vI ((aN a : Nat) : Int)) (by show rI _; rw [hn2]; unfold rI; omega) (ok_t hs))
  rcases hc with rfl | rfl
  · have he : (wO D ad μ)[a]? = some (ad a, .inl (D.2.1, n, .inr (.inr (.inr (.inr (fun j => some (ad (aE a j)))))))) := by rw [wO_at D ad μ (kD_e hk (by decide)), eN_p hk]
    exact va_alen hx hb hK hH.1 a 1 he (ty := .object RX3) rfl (v := Int32.ofInt ((aN a : Nat) : Int)) (by rw [hn2]; exact (Int32.ofInt_eq_ofNat).symm) hd kk
  · have he : (wO D ad μ)[a]? = some (ad a, .inl (D.2.2, n, .inr (.inr (.inr (.inr (fun j => some (ad (aE a j)))))))) := by rw [wO_at D ad μ (kD_e hk (by decide)), eN_t hk]
    exact va_alen hx hb hK hH.1 a 2 he (ty := .object RX7) rfl (v := Int32.ofInt ((aN a : Nat) : Int)) (by rw [hn2]; exact (Int32.ofInt_eq_ofNat).symm) hd kk
theorem V_aaload {a n c2 : Nat} {i : Int} (hk : kD a = (c2, n)) (hc : c2 = 1 ∨ c2 = 2) (hi : 0 ≤ i ∧ i < aN a) (hd : decode M.2.1 pc = .ok (.aaload, 1)) (hq : pc + 1 = q) (k : VV d M q ls (vR (aE a i.toNat) :: st) μ r μ') : VV d M pc ls (vI i :: vR a :: st) μ r μ' := by
  subst hq
  intro p l e s m args below meth c H locs dC dI D ad ls' C hH hS hn hl hs
  obtain ⟨hx, hb, hml, hrt, hown, hts, hlk, hK, hP, hN⟩ := id C
  have hri : rI i := ok_h hs
  have hn2 : aN a = n := by unfold aN; rw [hk]
  have kk := k p l e s m args below meth c H locs dC dI D ad ls' C hH hS hn hl (ok_c (v := vR (aE a i.toNat)) trivial (ok_t (ok_t hs)))
  have hin : vp_in (Int32.ofInt i) n := o32_in hri (by rw [← hn2]; exact hi)
  rcases hc with rfl | rfl
  · have he : (wO D ad μ)[a]? = some (ad a, .inl (D.2.1, n, .inr (.inr (.inr (.inr (fun j => some (ad (aE a j)))))))) := by rw [wO_at D ad μ (kD_e hk (by decide)), eN_p hk]
    refine va_aldq hx hb hK hH.1 a 1 he rfl hin hd ?_
    rw [o32_nat hri hi.1]
    exact kk
  · have he : (wO D ad μ)[a]? = some (ad a, .inl (D.2.2, n, .inr (.inr (.inr (.inr (fun j => some (ad (aE a j)))))))) := by rw [wO_at D ad μ (kD_e hk (by decide)), eN_t hk]
    refine va_aldq hx hb hK hH.1 a 2 he rfl hin hd ?_
    rw [o32_nat hri hi.1]
    exact kk
end VF
/-! calls -/
section WC
variable {p : Program} {l : Launch} {e : Env} {R : Room} {s : State} {m : MethodId} {args : Array Value} {below : List Frame} {meth : Method} {c : Code} {H : Heap} {locs : List Loc} {cells slots : Nat} {Q : State → Prop}
variable {pc : Nat} {ls : Array Slot} {rest st0 : List Value} {a : Array Value} {A0 : Nat → Prop} {H0 : Heap}
variable {dC : Nat → ClassId} {dI : Nat → Nat → Nat} {D : ClassId × ClassId × ClassId} {ad : Nat → Nat}
theorem w_call {rt : Option FieldType} {r : Int} {μ' : Mm} {A1 : Nat → Prop} (hr : va_Run p l e R s m args below meth c H locs cells slots 0 0 (F0 m pc ls st0) rest (qC dC dI D ad A1 rt r μ' a) A1) (hS : va_S A0 H0 H locs) (hA : ∀ q, A1 q → A0 q)
    (kk : ∀ (H1 : Heap) (locs1 : List Loc), rK rt r → hO dC dI D ad μ' H1 → H.size ≤ H1.size → (∀ q : Nat, q < H.size → ¬ A1 q → H1[q]? = H[q]?) → va_S A0 H0 H1 locs1 → W p l e R s m args below meth c H1 locs1 cells slots Q (F0 m (pc + 3) ls ((rV ad rt r).toList ++ rest))) : W p l e R s m args below meth c H locs cells slots Q (F0 m pc ls st0) := by
  intro T hT X
  obtain ⟨v, st₀, t, T', L, h0, X', hL, e1, e2, ⟨⟨hv, hp, hb⟩, hz, hk⟩, st⟩ := hr T hT X
  cases hv
  rw [h0] at hz hk
  obtain ⟨t2, a1, b1⟩ := kk T'.heap (locs ++ L) hp (by rw [e1]; exact hb) (by rw [e1]; exact hz) (fun q h1 h2 => by rw [e1]; exact hk q h1 h2)
    ⟨Nat.le_trans hS.1 (by rw [e1]; exact hz), fun q h1 h2 => by rw [e1, hk q (Nat.lt_of_lt_of_le h1 hS.1) (fun z => h2 (hA q z))]; exact hS.2.1 q h1 h2, fun q hq => by
      rcases List.mem_append.mp hq with h | h
      · exact hS.2.2 q h
      · exact hA _ (hL q h)⟩ T' rfl X'
  exact ⟨t2, st t2 a1, b1⟩
end WC
/-- the call's words -/
def mV (own : String) (idx : Nat) (M : Mth) (n : Nat) : Prop := Cond.methodLink own idx M.1 ∈ tG ∧ Cond.instanceMethod M.1 ∈ tG ∧ Cond.selects M.1.cls M.1 M.1 ∈ tG ∧ Cond.initialized M.1.cls ∈ tG ∧ Cond.code M.1 M.2.1 M.2.2.1 M.2.2.2 ∈ tG ∧
  (M.1.cls ≠ "java/lang/invoke/MethodHandle" ∧ M.1.cls ≠ "java/lang/invoke/VarHandle" ∧ (parseMethodDescriptor M.1.desc).map (fun d => d.parameters.length) = some n) ∧ M.2.2.1 ≤ 60
def mS (own : String) (idx : Nat) (M : Mth) (n : Nat) : Prop := Cond.methodLink own idx M.1 ∈ tG ∧ Cond.static M.1 ∈ tG ∧ Cond.initialized own ∈ tG ∧ Cond.initialized M.1.cls ∈ tG ∧ Cond.code M.1 M.2.1 M.2.2.1 M.2.2.2 ∈ tG ∧
  (M.1.cls ≠ "java/lang/invoke/MethodHandle" ∧ M.1.cls ≠ "java/lang/invoke/VarHandle" ∧ (parseMethodDescriptor M.1.desc).map (fun d => d.parameters.length) = some n) ∧ M.2.2.1 ≤ 60
theorem tG_good {w : Cond} (h : w ∈ tG) : (w.onTables && w.keeps) = true ∨ ∃ ty, w = .arrayClass ty := good_of_word (List.mem_filter.mp h).2
theorem gI_of {M : Mth} (h : Cond.code M.1 M.2.1 M.2.2.1 M.2.2.2 ∈ tG) : GoodIn tG (wM M) := by
  intro w hw
  rcases List.mem_cons.mp hw with rfl | hw
  · exact ⟨h, tG_good h⟩
  · exact ⟨hw, tG_good hw⟩
theorem pC_blind {dC : Nat → ClassId} {dI : Nat → Nat → Nat} {D : ClassId × ClassId × ClassId} {ad : Nat → Nat} {sz : Nat} {av : List AV} {μ : Mm} : FrameBlind (pC dC dI D ad sz av μ) := by
  intro a U g mk q
  obtain ⟨q0, q1, q2, q3, q4, q5⟩ := q
  exact ⟨q0, q1, q2, va_K.moved (u := U) (U := U.calling g mk a) (Vm.Alike.refl U.vm) q3, nS_same (s := U) (U := U.calling g mk a) rfl q4, q5⟩
theorem cB_of {R : Room} {s : State} {args : Array Value} {own : String} {idx n d : Nat} {M : Mth} (hts : ∀ w ∈ tG, w.before args s = true) (h1 : Cond.methodLink own idx M.1 ∈ tG) (h4 : Cond.initialized M.1.cls ∈ tG) (h5 : Cond.code M.1 M.2.1 M.2.2.1 M.2.2.2 ∈ tG) (h6 : M.1.cls ≠ "java/lang/invoke/MethodHandle" ∧ M.1.cls ≠ "java/lang/invoke/VarHandle" ∧ (parseMethodDescriptor M.1.desc).map (fun d => d.parameters.length) = some n) (h7 : M.2.2.1 ≤ 60) (hR : d + 1 ≤ R.frames ∧ 100 * (d + 1) ≤ R.locals) :
    CallB R s args own idx M.1 M.2.1 M.2.2.1 M.2.2.2 (wM M) (rmD d) 0 0 n :=
  callB_of (ws' := tG) n hts (gI_of h5) rfl rfl rfl (hts _ h4) (hts _ h1) h6 ⟨hR.1, by show 8 + (M.2.2.1 + 11) + 100 * d ≤ R.locals; omega⟩
/-- words of a value -/
def wd : AV → Nat
  | .inr (.inl _) => 2
  | _ => 1
theorem wd_cat (ad : Nat → Nat) (v : AV) : (cV ad v).category = wd v := by
  match v with
  | .inl _ => rfl
  | .inr (.inl _) => rfl
  | .inr (.inr (some _)) => rfl
  | .inr (.inr none) => rfl
theorem wd_sum (ad : Nat → Nat) (st : List AV) : ((st.map (cV ad)).map fun v => v.category).sum = (st.map wd).sum := by
  induction st with
  | nil => rfl
  | cons v l ih => simp only [List.map_cons, List.sum_cons, ih, wd_cat]
section WC2
variable {p : Program} {l : Launch} {e : Env} {R : Room} {s : State} {m : MethodId} {args : Array Value} {below : List Frame} {meth : Method} {c : Code} {H : Heap} {locs : List Loc} {cells slots : Nat} {Q : State → Prop}
variable {pc nL : Nat} {ls : Array Slot} {rest : List Value} {A0 : Nat → Prop} {H0 : Heap} {cc : ByteArray} {own : String}
variable {dC : Nat → ClassId} {dI : Nat → Nat → Nat} {D : ClassId × ClassId × ClassId} {ad : Nat → Nat}
theorem rcv {a : Nat} {ci n : Nat} {q : vw_C} {μ : Mm} (hK : va_K (dC, dI) vwCl (tyS D) s) (hH : hO dC dI D ad μ H) (hk : kD a = (ci + 10, n)) (hc : vwCl[ci]? = some q) : ∃ cell : Cell, H[ad a]? = some cell ∧ cell.vm.isStatics = false ∧ s.vm.findClass q.1 = some cell.cls := by
  have hc2 : ci < 80 := by
    have h1 := (List.getElem?_eq_some_iff.mp hc).1
    have h2 : vwCl.length = 12 := rfl
    omega
  refine va_recv hK hH.1 hc (q0 := a) (a := ad a) (fs := (List.range n).map (fun j => cV ad (fV μ a j))) ?_
  rw [wO_at D ad μ (kD_o hk hc2), eN_o hk]
theorem w_callV {d idx n : Nat} {M : Mth} {b ci nf : Nat} {As : List AV} {μ μ' : Mm} {r : Int} (S : CallFix p m c cc nL s args tG own) (hM : CC d M (vR b :: As) μ r μ') (hm : mV own idx M n) (hkb : kD b = (ci + 10, nf)) (hci : (vwCl[ci]?).map (fun q => q.1) = some M.1.cls) (hl : As.length = n)
    (hH : hO dC dI D ad μ H) (hK : va_K (dC, dI) vwCl (tyS D) s) (hP : aP ad) (hN : nS s) (hok : ∀ v ∈ vR b :: As, oV v) (hsz : ls.size = nL) (hw : (rest.map fun v => v.category).sum ≤ 8) (hR : d + 1 ≤ R.frames ∧ 100 * (d + 1) ≤ R.locals) (hcs : cells ≤ R.cells ∧ slots ≤ R.slots)
    (hS : va_S A0 H0 H locs) (hA : ∀ q, aA ad H.size q → A0 q) (hd : decode cc pc = .ok (.invokevirtual idx, 3))
    (kk : ∀ (H1 : Heap) (locs1 : List Loc), rK M.2.2.2 r → hO dC dI D ad μ' H1 → H.size ≤ H1.size → (∀ q : Nat, q < H.size → ¬ aA ad H.size q → H1[q]? = H[q]?) → va_S A0 H0 H1 locs1 → W p l e R s m args below meth c H1 locs1 cells slots Q (F0 m (pc + 3) ls ((rV ad M.2.2.2 r).toList ++ rest))) :
    W p l e R s m args below meth c H locs cells slots Q (F0 m pc ls ((As.map (cV ad)).reverse ++ .ref (ad b) :: rest)) := by
  obtain ⟨h1, h2, h3, h4, h5, h6, h7⟩ := hm
  have hts := S.2.2.2.2
  obtain ⟨q, hq⟩ : ∃ q, vwCl[ci]? = some q := by
    cases h : vwCl[ci]? with
    | none => rw [h] at hci; cases hci
    | some q => exact ⟨q, rfl⟩
  rw [hq] at hci
  have hqc : q.1 = M.1.cls := Option.some.inj hci
  refine w_call (va_runV (As := As.map (cV ad)) (rest := rest) (C := M.1.cls) (b := ad b) S (hM l dC dI D ad H.size hP) ⟨cB_of hts h1 h4 h5 h6 h7 hR, hts _ h2, hts _ h3⟩
    ⟨pC_blind, by rw [← hqc]; exact rcv hK hH hkb hq, fun U hU hW => ⟨rfl, by rw [hU], by rw [hU]; exact hH, va_K.moved hW.alike hK, nS_warm hW hN, hok⟩⟩ rfl (by rw [List.length_map]; exact hl) hsz rfl (by show 2 * 0 + _ ≤ 8; omega) hd hcs) hS hA kk
theorem w_callS {d idx n : Nat} {M : Mth} {As : List AV} {μ μ' : Mm} {r : Int} (S : CallFix p m c cc nL s args tG own) (hM : CC d M As μ r μ') (hm : mS own idx M n) (hl : As.length = n)
    (hH : hO dC dI D ad μ H) (hK : va_K (dC, dI) vwCl (tyS D) s) (hP : aP ad) (hN : nS s) (hok : ∀ v ∈ As, oV v) (hsz : ls.size = nL) (hw : (rest.map fun v => v.category).sum ≤ 8) (hR : d + 1 ≤ R.frames ∧ 100 * (d + 1) ≤ R.locals) (hcs : cells ≤ R.cells ∧ slots ≤ R.slots)
    (hS : va_S A0 H0 H locs) (hA : ∀ q, aA ad H.size q → A0 q) (hd : decode cc pc = .ok (.invokestatic idx, 3))
    (kk : ∀ (H1 : Heap) (locs1 : List Loc), rK M.2.2.2 r → hO dC dI D ad μ' H1 → H.size ≤ H1.size → (∀ q : Nat, q < H.size → ¬ aA ad H.size q → H1[q]? = H[q]?) → va_S A0 H0 H1 locs1 → W p l e R s m args below meth c H1 locs1 cells slots Q (F0 m (pc + 3) ls ((rV ad M.2.2.2 r).toList ++ rest))) :
    W p l e R s m args below meth c H locs cells slots Q (F0 m pc ls ((As.map (cV ad)).reverse ++ rest)) := by
  obtain ⟨h1, h2, h3, h4, h5, h6, h7⟩ := hm
  have hts := S.2.2.2.2
  refine w_call (va_runS (As := As.map (cV ad)) (rest := rest) S (hM l dC dI D ad H.size hP) ⟨cB_of hts h1 h4 h5 h6 h7 hR, hts _ h2⟩
    ⟨pC_blind, fun U hU hW => ⟨rfl, by rw [hU], by rw [hU]; exact hH, va_K.moved hW.alike hK, nS_warm hW hN, hok⟩⟩ rfl (by rw [List.length_map]; exact hl) hsz rfl (by show 2 * 0 + _ ≤ 8; omega) hd hcs) hS hA kk
end WC2
/-- what a call's answer is on the stack -/
def rT (rt : Option FieldType) (r : Int) : List AV := match rt with
  | none => []
  | some .long => [vL r]
  | some (.object _) => [vC r]
  | some _ => [vI r]
theorem rT_V (ad : Nat → Nat) (rt : Option FieldType) (r : Int) : (rV ad rt r).toList = (rT rt r).map (cV ad) := by
  cases rt with
  | none => rfl
  | some t => cases t <;> rfl
theorem oV_vC (r : Int) : oV (vC r) := by
  unfold vC
  by_cases h : r = -1
  · rw [if_pos h]; trivial
  · rw [if_neg h]; trivial
theorem rT_ok {rt : Option FieldType} {r : Int} (h : rK rt r) : ∀ v ∈ rT rt r, oV v := by
  cases rt with
  | none => intro v hv; cases hv
  | some t => cases t <;> (intro v hv; rw [List.mem_singleton.mp hv]; first | exact h | exact oV_vC r)
section VC_
variable {d : Nat} {M : Mth} {pc q : Nat} {ls : List (Option AV)} {st st0 : List AV} {μ : Mm} {r : Int} {μ' : Mm}
theorem ok_rev {As st : List AV} (h : ∀ v ∈ As.reverse ++ st, oV v) : (∀ v ∈ As, oV v) ∧ ∀ v ∈ st, oV v := ⟨fun v hv => h v (List.mem_append_left _ (List.mem_reverse.mpr hv)), fun v hv => h v (List.mem_append_right _ hv)⟩
theorem V_callV {d1 idx n b ci nf : Nat} {M1 : Mth} {As : List AV} {r1 : Int} {μ1 : Mm} (hM : CC d1 M1 (vR b :: As) μ r1 μ1) (hd1 : d1 + 1 ≤ d) (hm : mV M.1.cls idx M1 n) (hkb : kD b = (ci + 10, nf)) (hci : (vwCl[ci]?).map (fun q => q.1) = some M1.1.cls) (hl : As.length = n) (hst : st0 = As.reverse ++ vR b :: st) (hw : Nat.ble (st.map wd).sum 8 = true)
    (hd : decode M.2.1 pc = .ok (.invokevirtual idx, 3)) (hq : pc + 3 = q) (k : VV d M q ls (rT M1.2.2.2 r1 ++ st) μ1 r μ') : VV d M pc ls st0 μ r μ' := by
  subst hq; subst hst
  intro p l e s m args below meth c H locs dC dI D ad ls' C hH hS hn hl' hs
  obtain ⟨hx, hb, hml, hrt, hown, hts, hlk, hK, hP, hN⟩ := id C
  obtain ⟨hs1, hs2⟩ := ok_rev hs
  have e1 : (As.reverse ++ vR b :: st).map (cV ad) = (As.map (cV ad)).reverse ++ .ref (ad b) :: st.map (cV ad) := by
    rw [List.map_append, List.map_reverse]; rfl
  rw [e1]
  refine w_callV ⟨hx, hb, hml, hown, hts⟩ hM hm hkb hci hl hH hK hP hN (ok_c trivial hs1) (hl'.1.trans hn) (by rw [wd_sum]; exact Nat.le_of_ble_eq_true hw) ⟨hd1, by show 100 * (d1 + 1) ≤ 100 * d; omega⟩ ⟨Nat.le_refl 0, Nat.le_refl 0⟩ hS (fun q hq => ?_) hd (fun H1 locs1 hr1 hH1 _ _ hS1 => ?_)
  · rcases hq with h | h
    · exact Or.inl h
    · exact Or.inr (Nat.le_trans hS.1 h)
  · rw [rT_V, ← List.map_append]
    exact k p l e s m args below meth c H1 locs1 dC dI D ad ls' C hH1 hS1 hn hl' (fun v hv => (List.mem_append.mp hv).elim (rT_ok hr1 v) (ok_t hs2 v))
theorem V_callS {d1 idx n : Nat} {M1 : Mth} {As : List AV} {r1 : Int} {μ1 : Mm} (hM : CC d1 M1 As μ r1 μ1) (hd1 : d1 + 1 ≤ d) (hm : mS M.1.cls idx M1 n) (hl : As.length = n) (hst : st0 = As.reverse ++ st) (hw : Nat.ble (st.map wd).sum 8 = true)
    (hd : decode M.2.1 pc = .ok (.invokestatic idx, 3)) (hq : pc + 3 = q) (k : VV d M q ls (rT M1.2.2.2 r1 ++ st) μ1 r μ') : VV d M pc ls st0 μ r μ' := by
  subst hq; subst hst
  intro p l e s m args below meth c H locs dC dI D ad ls' C hH hS hn hl' hs
  obtain ⟨hx, hb, hml, hrt, hown, hts, hlk, hK, hP, hN⟩ := id C
  obtain ⟨hs1, hs2⟩ := ok_rev hs
  have e1 : (As.reverse ++ st).map (cV ad) = (As.map (cV ad)).reverse ++ st.map (cV ad) := by
    rw [List.map_append, List.map_reverse]
  rw [e1]
  refine w_callS ⟨hx, hb, hml, hown, hts⟩ hM hm hl hH hK hP hN hs1 (hl'.1.trans hn) (by rw [wd_sum]; exact Nat.le_of_ble_eq_true hw) ⟨hd1, by show 100 * (d1 + 1) ≤ 100 * d; omega⟩ ⟨Nat.le_refl 0, Nat.le_refl 0⟩ hS (fun q hq => ?_) hd (fun H1 locs1 hr1 hH1 _ _ hS1 => ?_)
  · rcases hq with h | h
    · exact Or.inl h
    · exact Or.inr (Nat.le_trans hS.1 h)
  · rw [rT_V, ← List.map_append]
    exact k p l e s m args below meth c H1 locs1 dC dI D ad ls' C hH1 hS1 hn hl' (fun v hv => (List.mem_append.mp hv).elim (rT_ok hr1 v) (hs2 v))
/-! returns -/
theorem V_ret {v : AV} {r0 : Int} (hrt : rT M.2.2.2 r0 = [v]) (h : some (r0, μ) = some (r, μ')) (hrk : oV v → rK M.2.2.2 r0)
    (k0 : ∀ (p : Program) (l : Launch) (e : Env) (R : Room) (s : State) (m : MethodId) (args : Array Value) (below : List Frame) (meth : Method) (c : Code) (H : Heap) (locs : List Loc) (Qc : Array Value → State → Outcome → State → Prop) (free : Addr → Prop) (ad : Nat → Nat) (ls' : Array Slot), p.tables.exec = Jvm.exec → c.code = M.2.1 → meth.sig.returnType = M.2.2.2 → meth.locks = false →
      (∀ t : State, t.heap = H → s.WarmedH t.vm → Qc args s (.returned (some (cV ad v))) t) → (∀ q ∈ locs, free q.base) → W p l e R s m args below meth c H locs 0 0 (MQ below Qc args s 0 0 free) (F0 m pc ls' [cV ad v])) : VV d M pc ls [v] μ r μ' := by
  cases h
  intro p l e s m args below meth c H locs dC dI D ad ls' C hH hS hn hl hs
  obtain ⟨hx, hb, hml, hr2, hown, hts, hlk, hK, hP, hN⟩ := id C
  refine k0 p l e _ s m args below meth c H locs _ _ ad ls' hx hb hr2 hlk (fun t ht hW => ⟨⟨?_, hrk (ok_h hs), by rw [ht]; exact hH⟩, hS.F ht⟩) hS.2.2
  have e1 : (rV ad M.2.2.2 r).toList = [cV ad v] := by rw [rT_V, hrt]; rfl
  cases h2 : rV ad M.2.2.2 r with
  | none => rw [h2] at e1; cases e1
  | some w => rw [h2] at e1; cases e1; rfl
theorem V_iret {v : Int} (hrt : M.2.2.2 = some .int) (h : some (v, μ) = some (r, μ')) (hd : decode M.2.1 pc = .ok (.ireturn, 1)) : VV d M pc ls [vI v] μ r μ' :=
  V_ret (r0 := v) (by rw [hrt]; rfl) h (fun h => by rw [hrt]; exact h) (fun p l e R s m args below meth c H locs Qc free ad ls' hx hb hr hlk hq hf => W.iret hx hb (hr.trans hrt) hq hf hd hlk)
theorem V_zret {v : Int} (hrt : M.2.2.2 = some .boolean) (hv : v = 0 ∨ v = 1) (h : some (v, μ) = some (r, μ')) (hd : decode M.2.1 pc = .ok (.ireturn, 1)) : VV d M pc ls [vI v] μ r μ' :=
  V_ret (r0 := v) (by rw [hrt]; rfl) h (fun h => by rw [hrt]; exact h) (fun p l e R s m args below meth c H locs Qc free ad ls' hx hb hr hlk hq hf => W.zret hx hb (hr.trans hrt) (by rcases hv with rfl | rfl <;> rfl) hq hf hd hlk)
theorem V_lret {v : Int} (hrt : M.2.2.2 = some .long) (h : some (v, μ) = some (r, μ')) (hd : decode M.2.1 pc = .ok (.lreturn, 1)) : VV d M pc ls [vL v] μ r μ' :=
  V_ret (r0 := v) (by rw [hrt]; rfl) h (fun h => by rw [hrt]; exact h) (fun p l e R s m args below meth c H locs Qc free ad ls' hx hb hr hlk hq hf => W.lret hx hb (hr.trans hrt) hq hf hd hlk)
theorem vC_nat (t : Nat) : vC (t : Int) = vR t := by
  rw [vC_r (by omega)]; rfl
theorem V_aret {t : Nat} {C : String} (hrt : M.2.2.2 = some (.object C)) (h : some ((t : Int), μ) = some (r, μ')) (hd : decode M.2.1 pc = .ok (.areturn, 1)) : VV d M pc ls [vR t] μ r μ' :=
  V_ret (r0 := (t : Int)) (by rw [hrt]; show [vC (t : Int)] = [vR t]; rw [vC_nat]) h (fun h => by rw [hrt]; exact h) (fun p l e R s m args below meth c H locs Qc free ad ls' hx hb hr hlk hq hf => W.aret (rt := .object C) (v := .ref (ad t)) hx hb (hr.trans hrt) (Or.inl ⟨_, rfl⟩) (Or.inr ⟨_, rfl⟩) hq hf hd hlk)
theorem V_aretN {C : String} (hrt : M.2.2.2 = some (.object C)) (h : some ((-1 : Int), μ) = some (r, μ')) (hd : decode M.2.1 pc = .ok (.areturn, 1)) : VV d M pc ls [vN] μ r μ' :=
  V_ret (r0 := -1) (by rw [hrt]; show [vC (-1)] = [vN]; rw [vC_n rfl]) h (fun h => by rw [hrt]; exact h) (fun p l e R s m args below meth c H locs Qc free ad ls' hx hb hr hlk hq hf => W.aret (rt := .object C) (v := .null) hx hb (hr.trans hrt) (Or.inl ⟨_, rfl⟩) (Or.inl rfl) hq hf hd hlk)
theorem V_vret {r0 : Int} (hrt : M.2.2.2 = none) (h : some (r0, μ) = some (r, μ')) (hd : decode M.2.1 pc = .ok (.return_, 1)) : VV d M pc ls [] μ r μ' := by
  cases h
  intro p l e s m args below meth c H locs dC dI D ad ls' C hH hS hn hl hs
  obtain ⟨hx, hb, hml, hr2, hown, hts, hlk, hK, hP, hN⟩ := id C
  exact W.vret hx hb (hr2.trans hrt) (fun t ht hW => ⟨⟨by rw [hrt]; rfl, by rw [hrt]; trivial, by rw [ht]; exact hH⟩, hS.F ht⟩) hS.2.2 hd hlk
/-! switches -/
theorem V_tsIn {dflt lo hi off : Int} {offs : Array Int} {len : Nat} {x k : Int} (hx0 : x = k) (hd : decode M.2.1 pc = .ok (.tableswitch dflt lo hi offs, len)) (h1 : decide (lo ≤ k) = true) (h2 : decide (k ≤ hi) = true) (ho : offs[(k - lo).toNat]? = some off) (ht : (pc : Int) + off = (q : Int)) (kk : VV d M q ls st μ r μ') : VV d M pc ls (vI x :: st) μ r μ' := by
  subst hx0
  refine VV_pure (st2 := st) (fun h => ok_t h) (fun p l e R s m args below meth c H locs Q ad ls' hx hb h k2 => ?_) kk
  have h1' := of_decide_eq_true h1
  have h2' := of_decide_eq_true h2
  exact lv_tableIn hx hb hd (by rw [rI_32 (ok_h h)]; omega) (by rw [rI_32 (ok_h h)]; omega) (by rw [rI_32 (ok_h h)]; exact ho) ht k2
theorem V_tsOut {dflt lo hi : Int} {offs : Array Int} {len : Nat} {x : Int} (hd : decode M.2.1 pc = .ok (.tableswitch dflt lo hi offs, len)) (h : x < lo ∨ hi < x) (ht : (pc : Int) + dflt = (q : Int)) (kk : VV d M q ls st μ r μ') : VV d M pc ls (vI x :: st) μ r μ' := by
  refine VV_pure (st2 := st) (fun h => ok_t h) (fun p l e R s m args below meth c H locs Q ad ls' hx hb h3 k2 => ?_) kk
  exact lv_tableOut hx hb hd (by rw [rI_32 (ok_h h3)]; exact h) ht k2
theorem V_ls {dflt off : Int} {ps : Array (Int × Int)} {len : Nat} {x : Int} (hd : decode M.2.1 pc = .ok (.lookupswitch dflt ps, len)) (hp : (ps.toList.zip (ps.toList.drop 1)).all (fun (a, next) => a.1 < next.1) = true) (ho : Op.lookupswitch.offset ps.toList dflt x = off) (ht : (pc : Int) + off = (q : Int)) (kk : VV d M q ls st μ r μ') : VV d M pc ls (vI x :: st) μ r μ' := by
  refine VV_pure (st2 := st) (fun h => ok_t h) (fun p l e R s m args below meth c H locs Q ad ls' hx hb h3 k2 => ?_) kk
  exact lv_lookup hx hb hd hp (by rw [rI_32 (ok_h h3)]; exact ho) ht k2
def mW (y : MethodName) (cc : ByteArray) (nl : Nat) (ty : FieldType) (own : String) (idx : Nat) : Prop := Cond.methodLink own idx y ∈ tG ∧ Cond.static y ∈ tG ∧ Cond.initialized "java/lang/Math" ∈ tG ∧ Cond.code y cc nl (some ty) ∈ tG
theorem V_mmax {a b : Int} {idx : Nat} (hm : mW Lib.Math.max.name Lib.Math.max.code 2 .int M.1.cls idx) (hd1 : 1 ≤ d) (hw : Nat.ble (st.map wd).sum 8 = true) (hd : decode M.2.1 pc = .ok (.invokestatic idx, 3)) (hq : pc + 3 = q) (k : VV d M q ls (vI (mX a b) :: st) μ r μ') : VV d M pc ls (vI b :: vI a :: st) μ r μ' := by
  subst hq
  intro p l e s m args below meth c H locs dC dI D ad ls' C hH hS hn' hl hs
  obtain ⟨hx, hb, hml, hrt, hown, hts, hlk, hK, hP, hN⟩ := id C
  obtain ⟨h1, h2, h3, h4⟩ := hm
  have ha := ok_h (ok_t hs)
  have hb1 := ok_h hs
  have h9 : (st.map wd).sum ≤ 8 := Nat.le_of_ble_eq_true hw
  refine va_mmax hx hb (by rw [hml, hl.1, hn']) hown (hts _ h1) (hts _ h2) (hts _ h3) (hts _ h4) (by show 1 ≤ d; exact hd1) (by rw [wd_sum]; show _ ≤ 100 * d; omega) (Nat.le_refl 0) (Nat.le_refl 0) hd ?_
  have ee : (if Int32.ofInt a < Int32.ofInt b then Int32.ofInt b else Int32.ofInt a) = Int32.ofInt (mX a b) := by
    unfold mX
    by_cases h : a < b
    · rw [if_pos ((o32_lt ha hb1).mpr h), if_neg (show ¬ b < a by omega)]
    · rw [if_neg (fun z => h ((o32_lt ha hb1).mp z))]
      by_cases h2 : b < a
      · rw [if_pos h2]
      · rw [if_neg h2, show a = b by omega]
  rw [ee]
  exact k p l e s m args below meth c H locs dC dI D ad ls' C hH hS hn' hl (ok_c (v := vI (mX a b)) (by unfold mX; split; exact ha; exact hb1) (ok_t (ok_t hs)))
theorem V_mmin {a b : Int} {idx : Nat} (hm : mW Lib.Math.min.name Lib.Math.min.code 2 .int M.1.cls idx) (hd1 : 1 ≤ d) (hw : Nat.ble (st.map wd).sum 8 = true) (hd : decode M.2.1 pc = .ok (.invokestatic idx, 3)) (hq : pc + 3 = q) (k : VV d M q ls (vI (mN a b) :: st) μ r μ') : VV d M pc ls (vI b :: vI a :: st) μ r μ' := by
  subst hq
  intro p l e s m args below meth c H locs dC dI D ad ls' C hH hS hn' hl hs
  obtain ⟨hx, hb, hml, hrt, hown, hts, hlk, hK, hP, hN⟩ := id C
  obtain ⟨h1, h2, h3, h4⟩ := hm
  have ha := ok_h (ok_t hs)
  have hb1 := ok_h hs
  have h9 : (st.map wd).sum ≤ 8 := Nat.le_of_ble_eq_true hw
  refine va_mmin hx hb (by rw [hml, hl.1, hn']) hown (hts _ h1) (hts _ h2) (hts _ h3) (hts _ h4) (by show 1 ≤ d; exact hd1) (by rw [wd_sum]; show _ ≤ 100 * d; omega) (Nat.le_refl 0) (Nat.le_refl 0) hd ?_
  have ee : (if Int32.ofInt b < Int32.ofInt a then Int32.ofInt b else Int32.ofInt a) = Int32.ofInt (mN a b) := by
    unfold mN
    by_cases h : b < a
    · rw [if_pos h, if_pos ((o32_lt hb1 ha).mpr h)]
    · rw [if_neg h, if_neg (fun z => h ((o32_lt hb1 ha).mp z))]
  rw [ee]
  exact k p l e s m args below meth c H locs dC dI D ad ls' C hH hS hn' hl (ok_c (v := vI (mN a b)) (by unfold mN; split; exact hb1; exact ha) (ok_t (ok_t hs)))
theorem V_lmax {a b : Int} {idx : Nat} (hm : mW Lib.MathLoose.max_long.x Lib.MathLoose.max_long.code 4 .long M.1.cls idx) (hd1 : 1 ≤ d) (hw : Nat.ble (st.map wd).sum 8 = true) (hd : decode M.2.1 pc = .ok (.invokestatic idx, 3)) (hq : pc + 3 = q) (k : VV d M q ls (vL (mX a b) :: st) μ r μ') : VV d M pc ls (vL b :: vL a :: st) μ r μ' := by
  subst hq
  intro p l e s m args below meth c H locs dC dI D ad ls' C hH hS hn' hl hs
  obtain ⟨hx, hb, hml, hrt, hown, hts, hlk, hK, hP, hN⟩ := id C
  obtain ⟨h1, h2, h3, h4⟩ := hm
  have ha : rL a := ok_h (ok_t hs)
  have hb1 : rL b := ok_h hs
  have h9 : (st.map wd).sum ≤ 8 := Nat.le_of_ble_eq_true hw
  refine va_mmax_long hx hb (by rw [hml, hl.1, hn']) hown (hts _ h1) (hts _ h2) (hts _ h3) (hts _ h4) (by show 1 ≤ d; exact hd1) (by rw [wd_sum]; show _ ≤ 100 * d; omega) (Nat.le_refl 0) (Nat.le_refl 0) hd ?_
  have ee : (if Int64.ofInt b < Int64.ofInt a then Int64.ofInt a else Int64.ofInt b) = Int64.ofInt (mX a b) := by
    unfold mX
    by_cases h : b < a
    · rw [if_pos h, if_pos ((o64_lt hb1 ha).mpr h)]
    · rw [if_neg h, if_neg (fun z => h ((o64_lt hb1 ha).mp z))]
  rw [ee]
  exact k p l e s m args below meth c H locs dC dI D ad ls' C hH hS hn' hl (ok_c (v := vL (mX a b)) (by unfold mX; split; exact ha; exact hb1) (ok_t (ok_t hs)))
theorem V_lmin {a b : Int} {idx : Nat} (hm : mW Lib.MathLoose.min_long.x Lib.MathLoose.min_long.code 4 .long M.1.cls idx) (hd1 : 1 ≤ d) (hw : Nat.ble (st.map wd).sum 8 = true) (hd : decode M.2.1 pc = .ok (.invokestatic idx, 3)) (hq : pc + 3 = q) (k : VV d M q ls (vL (mN a b) :: st) μ r μ') : VV d M pc ls (vL b :: vL a :: st) μ r μ' := by
  subst hq
  intro p l e s m args below meth c H locs dC dI D ad ls' C hH hS hn' hl hs
  obtain ⟨hx, hb, hml, hrt, hown, hts, hlk, hK, hP, hN⟩ := id C
  obtain ⟨h1, h2, h3, h4⟩ := hm
  have ha : rL a := ok_h (ok_t hs)
  have hb1 : rL b := ok_h hs
  have h9 : (st.map wd).sum ≤ 8 := Nat.le_of_ble_eq_true hw
  refine va_mmin_long hx hb (by rw [hml, hl.1, hn']) hown (hts _ h1) (hts _ h2) (hts _ h3) (hts _ h4) (by show 1 ≤ d; exact hd1) (by rw [wd_sum]; show _ ≤ 100 * d; omega) (Nat.le_refl 0) (Nat.le_refl 0) hd ?_
  have ee : (if Int64.ofInt b < Int64.ofInt a then Int64.ofInt b else Int64.ofInt a) = Int64.ofInt (mN a b) := by
    unfold mN
    by_cases h : b < a
    · rw [if_pos h, if_pos ((o64_lt hb1 ha).mpr h)]
    · rw [if_neg h, if_neg (fun z => h ((o64_lt hb1 ha).mp z))]
  rw [ee]
  exact k p l e s m args below meth c H locs dC dI D ad ls' C hH hS hn' hl (ok_c (v := vL (mN a b)) (by unfold mN; split; exact hb1; exact ha) (ok_t (ok_t hs)))
theorem VV_top {v w : AV} (h : v = w) (k : VV d M pc ls (w :: st) μ r μ') : VV d M pc ls (v :: st) μ r μ' := by rw [h]; exact k
theorem V_ts1 {dflt lo hi off : Int} {offs : Array Int} {len : Nat} {x : Int} (k : Int) (hd : decode M.2.1 pc = .ok (.tableswitch dflt lo hi offs, len)) (h1 : decide (lo ≤ k) = true) (h2 : decide (k ≤ hi) = true) (ho : offs[(k - lo).toNat]? = some off) (ht : (pc : Int) + off = (q : Int)) (kt : x = k → VV d M q ls st μ r μ') (kf : ¬ x = k → VV d M pc ls (vI x :: st) μ r μ') : VV d M pc ls (vI x :: st) μ r μ' := by
  by_cases h : x = k
  · exact V_tsIn h hd h1 h2 ho ht (kt h)
  · exact kf h
theorem V_ls1 {dflt off : Int} {ps : Array (Int × Int)} {len : Nat} {x : Int} (k : Int) (hd : decode M.2.1 pc = .ok (.lookupswitch dflt ps, len)) (hp : (ps.toList.zip (ps.toList.drop 1)).all (fun (a, next) => a.1 < next.1) = true) (ho : Op.lookupswitch.offset ps.toList dflt k = off) (ht : (pc : Int) + off = (q : Int)) (kt : x = k → VV d M q ls st μ r μ') (kf : ¬ x = k → VV d M pc ls (vI x :: st) μ r μ') : VV d M pc ls (vI x :: st) μ r μ' := by
  by_cases h : x = k
  · exact V_ls hd hp (by rw [h]; exact ho) ht (kt h)
  · exact kf h
theorem V_cV1 {d1 idx n b ci nf : Nat} {M1 : Mth} {As : List AV} {r1 : Int} {μ1 : Mm} (v : AV) (hM : CC d1 M1 (vR b :: As) μ r1 μ1) (hd1 : d1 + 1 ≤ d) (hm : mV M.1.cls idx M1 n) (hkb : kD b = (ci + 10, nf)) (hci : (vwCl[ci]?).map (fun q => q.1) = some M1.1.cls) (hl : As.length = n) (hr : rT M1.2.2.2 r1 = [v]) (hst : st0 = As.reverse ++ vR b :: st) (hw : Nat.ble (st.map wd).sum 8 = true)
    (hd : decode M.2.1 pc = .ok (.invokevirtual idx, 3)) (hq : pc + 3 = q) (k : VV d M q ls (v :: st) μ1 r μ') : VV d M pc ls st0 μ r μ' :=
  V_callV hM hd1 hm hkb hci hl hst hw hd hq (by rw [hr]; exact k)
theorem V_cV0 {d1 idx n b ci nf : Nat} {M1 : Mth} {As : List AV} {r1 : Int} {μ1 : Mm} (hM : CC d1 M1 (vR b :: As) μ r1 μ1) (hd1 : d1 + 1 ≤ d) (hm : mV M.1.cls idx M1 n) (hkb : kD b = (ci + 10, nf)) (hci : (vwCl[ci]?).map (fun q => q.1) = some M1.1.cls) (hl : As.length = n) (hr : rT M1.2.2.2 r1 = []) (hst : st0 = As.reverse ++ vR b :: st) (hw : Nat.ble (st.map wd).sum 8 = true)
    (hd : decode M.2.1 pc = .ok (.invokevirtual idx, 3)) (hq : pc + 3 = q) (k : VV d M q ls st μ1 r μ') : VV d M pc ls st0 μ r μ' :=
  V_callV hM hd1 hm hkb hci hl hst hw hd hq (by rw [hr]; exact k)
theorem V_cS1 {d1 idx n : Nat} {M1 : Mth} {As : List AV} {r1 : Int} {μ1 : Mm} (v : AV) (hM : CC d1 M1 As μ r1 μ1) (hd1 : d1 + 1 ≤ d) (hm : mS M.1.cls idx M1 n) (hl : As.length = n) (hr : rT M1.2.2.2 r1 = [v]) (hst : st0 = As.reverse ++ st) (hw : Nat.ble (st.map wd).sum 8 = true)
    (hd : decode M.2.1 pc = .ok (.invokestatic idx, 3)) (hq : pc + 3 = q) (k : VV d M q ls (v :: st) μ1 r μ') : VV d M pc ls st0 μ r μ' :=
  V_callS hM hd1 hm hl hst hw hd hq (by rw [hr]; exact k)
theorem V_cS0 {d1 idx n : Nat} {M1 : Mth} {As : List AV} {r1 : Int} {μ1 : Mm} (hM : CC d1 M1 As μ r1 μ1) (hd1 : d1 + 1 ≤ d) (hm : mS M.1.cls idx M1 n) (hl : As.length = n) (hr : rT M1.2.2.2 r1 = []) (hst : st0 = As.reverse ++ st) (hw : Nat.ble (st.map wd).sum 8 = true)
    (hd : decode M.2.1 pc = .ok (.invokestatic idx, 3)) (hq : pc + 3 = q) (k : VV d M q ls st μ1 r μ') : VV d M pc ls st0 μ r μ' :=
  V_callS hM hd1 hm hl hst hw hd hq (by rw [hr]; exact k)
theorem sb_n {a b : List (Option AV)} {w : Option AV} (h : sb_ a b) : sb_ (none :: a) (w :: b) := h
theorem sb_s {a b : List (Option AV)} {v : AV} {w : Option AV} (h1 : w = some v) (h : sb_ a b) : sb_ (some v :: a) (w :: b) := ⟨h1, h⟩
theorem sb_0 : sb_ [] [] := trivial
/-! arraycopy from 0 to 0 -/
def mC (own : String) (idx : Nat) : Prop := Cond.methodLink own idx arraycopyName ∈ tG ∧ Cond.native arraycopyName ∈ tG ∧ Cond.static arraycopyName ∈ tG ∧ Cond.initialized "java/lang/System" ∈ tG
theorem V_copy {idx a b na nb : Nat} {n : Int} (hm : mC M.1.cls idx) (hd1 : 1 ≤ d) (hka : kD a = (0, na)) (hkb : kD b = (0, nb)) (hn : 0 ≤ n ∧ n ≤ aN a ∧ n ≤ aN b) (hw : Nat.ble (st.map wd).sum 8 = true) (hd : decode M.2.1 pc = .ok (.invokestatic idx, 3)) (hq : pc + 3 = q) (k : VV d M q ls st (cA_ μ a b n) r μ') : VV d M pc ls (vI n :: vI 0 :: vR b :: vI 0 :: vR a :: st) μ r μ' := by
  subst hq
  intro p l e s m args below meth c H locs dC dI D ad ls' C hH hS hn' hl hs
  obtain ⟨hx, hb, hml, hrt, hown, hts, hlk, hK, hP, hN⟩ := id C
  obtain ⟨h1, h2, h3, h4⟩ := hm
  have hrn : rI n := ok_h hs
  have ha1 : aN a = na := by unfold aN; rw [hka]
  have hb1 : aN b = nb := by unfold aN; rw [hkb]
  have ha : a < nC := kD_e hka (by decide)
  have hb2 : b < nC := kD_e hkb (by decide)
  have hDd : va_D (aA ad s.heap.size) (wO D ad μ) := vD_of hP (fun k hk => aA_k hk)
  have ea : (wO D ad μ)[a]? = some (ad a, .inl (D.1, na, .inl (fun j => Int32.ofInt (μ a j)))) := by rw [wO_at D ad μ ha, eN_i hka]
  have eb : (wO D ad μ)[b]? = some (ad b, .inl (D.1, nb, .inl (fun j => Int32.ofInt (μ b j)))) := by rw [wO_at D ad μ hb2, eN_i hkb]
  have z0 : (Int32.ofInt 0).toNatClampNeg = 0 := rfl
  have zn : (Int32.ofInt n).toNatClampNeg = n.toNat := o32_nat hrn hn.1
  refine va_copyi hx hb (by rw [hml, hl.1, hn']) hown (hts _ h1) (hts _ h2) (hts _ h3) (hts _ h4) hK hH.1 hDd hS a b 0 0 ea eb rfl rfl rfl (sp := Int32.ofInt 0) (dp := Int32.ofInt 0) (n := Int32.ofInt n) (fun h => by cases h) (fun h => by cases h) (fun h => ?_) (by rw [z0, zn]; omega) (by rw [z0, zn]; omega) (fun _ _ => rfl) (by show 1 ≤ d; exact hd1) ?_ hd (fun H1 locs1 hP1 _ hS1 => ?_)
  · have := (o32_lt hrn rI_0).mp h
    omega
  · rw [wd_sum]
    have h9 : (st.map wd).sum ≤ 8 := Nat.le_of_ble_eq_true hw
    have h8 : nativeFrameWords "java/lang/System" "arraycopy" 5 ≤ 60 := by decide +kernel
    show _ ≤ 100 * d
    omega
  · rw [z0, zn] at hP1
    have e1 : (wO D ad μ).set b (ad b, .inl (D.1, nb, .inl (va_cpy (fun j => Int32.ofInt (μ a j)) (fun j => Int32.ofInt (μ b j)) 0 0 n.toNat))) = wO D ad (cA_ μ a b n) := by
      refine wO_set hb2 ?_ (fun j hj => eN_congr ?_)
      · rw [eN_i hkb]
        congr 3
        congr 1
        funext j
        have e2 : ((j : Int) < n) ↔ j < n.toNat := by omega
        simp only [va_cpy, cA_]
        by_cases h : j < n.toNat
        · simp [h, e2]
        · simp [h, e2]
      · funext i
        simp [cA_, hj]
    rw [e1] at hP1
    refine k p l e s m args below meth c H1 locs1 dC dI D ad ls' C ⟨hP1, fun i j => ?_⟩ hS1 hn' hl (ok_t (ok_t (ok_t (ok_t (ok_t hs)))))
    unfold cA_
    split
    · exact hH.2 a j
    · exact hH.2 i j
/-! a method's entry -/
def lA_ : List AV → List (Option AV)
  | [] => []
  | .inr (.inl a) :: t => some (vL a) :: none :: lA_ t
  | v :: t => some v :: lA_ t
theorem lA_len (ad : Nat → Nat) : ∀ av : List AV, (lg_sl (av.map (cV ad))).length = (lA_ av).length
  | [] => rfl
  | .inr (.inl a) :: t => by
    have := lA_len ad t
    unfold lg_sl at this
    show (List.flatMap _ (cV ad (.inr (.inl a)) :: t.map (cV ad))).length = (lA_ t).length + 2
    rw [List.flatMap_cons, List.length_append, this]
    show 2 + _ = _
    omega
  | .inl a :: t => by
    have := lA_len ad t
    unfold lg_sl at this
    show (List.flatMap _ (cV ad (.inl a) :: t.map (cV ad))).length = (lA_ t).length + 1
    rw [List.flatMap_cons, List.length_append, this]
    show 1 + _ = _
    omega
  | .inr (.inr (some a)) :: t => by
    have := lA_len ad t
    unfold lg_sl at this
    show (List.flatMap _ (cV ad (.inr (.inr (some a))) :: t.map (cV ad))).length = (lA_ t).length + 1
    rw [List.flatMap_cons, List.length_append, this]
    show 1 + _ = _
    omega
  | .inr (.inr none) :: t => by
    have := lA_len ad t
    unfold lg_sl at this
    show (List.flatMap _ (cV ad (.inr (.inr none)) :: t.map (cV ad))).length = (lA_ t).length + 1
    rw [List.flatMap_cons, List.length_append, this]
    show 1 + _ = _
    omega
theorem lA_arg (ad : Nat → Nat) : ∀ (av : List AV) (b i : Nat) (v : AV), (lA_ av)[i]? = some (some v) → (b + i, cV ad v) ∈ lv_args b (av.map (cV ad)) ∧ v ∈ av
  | [], b, i, v, h => by simp [lA_] at h
  | .inr (.inl a) :: t, b, i, v, h => by
    rcases i with _ | _ | i
    · simp [lA_] at h; subst h; simp [lv_args]
    · simp [lA_] at h
    · have h' : (lA_ t)[i]? = some (some v) := by simpa [lA_] using h
      obtain ⟨h1, h2⟩ := lA_arg ad t (b + 2) i v h'
      refine ⟨?_, List.mem_cons_of_mem _ h2⟩
      rw [List.map_cons, lv_args]
      refine List.mem_cons_of_mem _ ?_
      have e : b + (i + 1 + 1) = b + 2 + i := by omega
      rw [e]
      exact h1
  | .inl a :: t, b, i, v, h => by
    rcases i with _ | i
    · simp [lA_] at h; subst h; simp [lv_args]
    · have h' : (lA_ t)[i]? = some (some v) := by simpa [lA_] using h
      obtain ⟨h1, h2⟩ := lA_arg ad t (b + 1) i v h'
      refine ⟨?_, List.mem_cons_of_mem _ h2⟩
      rw [List.map_cons, lv_args]
      refine List.mem_cons_of_mem _ ?_
      have e : b + (i + 1) = b + 1 + i := by omega
      rw [e]
      exact h1
  | .inr (.inr (some a)) :: t, b, i, v, h => by
    rcases i with _ | i
    · simp [lA_] at h; subst h; simp [lv_args]
    · have h' : (lA_ t)[i]? = some (some v) := by simpa [lA_] using h
      obtain ⟨h1, h2⟩ := lA_arg ad t (b + 1) i v h'
      refine ⟨?_, List.mem_cons_of_mem _ h2⟩
      rw [List.map_cons, lv_args]
      refine List.mem_cons_of_mem _ ?_
      have e : b + (i + 1) = b + 1 + i := by omega
      rw [e]
      exact h1
  | .inr (.inr none) :: t, b, i, v, h => by
    rcases i with _ | i
    · simp [lA_] at h; subst h; simp [lv_args]
    · have h' : (lA_ t)[i]? = some (some v) := by simpa [lA_] using h
      obtain ⟨h1, h2⟩ := lA_arg ad t (b + 1) i v h'
      refine ⟨?_, List.mem_cons_of_mem _ h2⟩
      rw [List.map_cons, lv_args]
      refine List.mem_cons_of_mem _ ?_
      have e : b + (i + 1) = b + 1 + i := by omega
      rw [e]
      exact h1
theorem V_enter {av : List AV} (hy : plainName M.1.cls = true) (hle : (lA_ av).length ≤ M.2.2.1) (k : VV d M 0 (lA_ av ++ List.replicate (M.2.2.1 - (lA_ av).length) none) [] μ r μ') : CC d M av μ r μ' := by
  intro l dC dI D ad sz hP
  refine Met.ofW (cc := M.2.1) (maxL := M.2.2.1) (ret := M.2.2.2) hy rfl ?_
  intro p e s m args below meth c s₁ B hml hv
  obtain ⟨rfl, hsz, hH, hK, hN, hok⟩ := hv
  subst hsz
  have hts : ∀ w ∈ tG, w.before _ s = true := fun w hw => atoms_spec (ws := wM M) B.pre w (List.mem_cons_of_mem _ hw)
  have hown : s.vm.findClass M.1.cls = some m.cls := findClass_of_methodNamed B.named
  rw [lg_entry_eq]
  have hl := lv_entry (av.map (cV ad)) (n := M.2.2.1) (by rw [lA_len]; exact hle)
  refine k p l e s m _ below meth c s.heap [] dC dI D ad _ ⟨B.exec, B.bytes, hml, B.returns, hown, hts, B.notSynchronized, hK, hP, hN⟩ hH va_S.rf (by simp; omega) ⟨by rw [hl.1]; simp; omega, hl.2.1, fun i v hi => ?_⟩ (fun v hv => by cases hv)
  by_cases h : i < (lA_ av).length
  · rw [List.getElem?_append_left h] at hi
    obtain ⟨h1, h2⟩ := lA_arg ad av 0 i v hi
    exact ⟨hl.2.2 (i, cV ad v) (by simpa using h1), hok v h2⟩
  · rw [List.getElem?_append_right (by omega)] at hi
    have := List.mem_of_getElem? hi
    rw [List.mem_replicate] at this
    cases this.2
end VC_
