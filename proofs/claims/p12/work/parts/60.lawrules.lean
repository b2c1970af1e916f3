/-! THE LAW'S OWN FRAME: its cells are the two systems', the script (99) and the long array out (98) -/
def R_law : String := "UnderFloorLaw"
def lw_P (b : Addr) (xs : List Int32) (args : Array Value) (s : State) : Prop := args = #[.ref b] ∧ s.IntsAt b xs ∧ xs.length ≤ 3072 ∧ (Jvm.Cond.and given_1 narrow_1).before args s = true
def lw_Q (_ : Array Value) (s : State) (o : Outcome) (t : State) : Prop := o = .returned (some (.int 1)) ∧ Framed s o t [] 601024 7293034
def lw_Z (below : List Frame) (a : Array Value) (s : State) : State → Prop := fun t => ∃ o, t.status = .running ∧ Ended t below o ∧ lw_Q a s o t
theorem lw_ret {p : Program} {l : Launch} {e : Env} {s : State} {m : MethodId} {below : List Frame} {meth : Method} {c : Code} {b : Nat} (hx : p.tables.exec = Jvm.exec) (hb : c.code = code) (hr : meth.sig.returnType = ret) (hlocks : meth.locks = false) {pc : Nat} {H : Heap} {ls : Array Slot} (hdg : decode code pc = .ok (.ireturn, 1)) : W p l e room_1 s m #[Value.ref b] below meth c H [] 601024 7293034 (lw_Z below #[Value.ref b] s) (F0 m pc ls [.int 1]) := by
  intro T hT X
  obtain ⟨fs, hret, hrun, hended, hW, hframe⟩ := X.leave (v := some (.int 1)) (hlocks := hlocks) (fun h => by rw [hr] at h; cases h)
  have hmeth' : T.vm.method? m = some meth := X.method'
  refine ⟨T.setFrames fs, ?_, .returned (some (.int 1)), hrun, hended, rfl, ⟨_, rfl⟩, hW, hframe⟩
  jvm_step X.here [X.here.top, hx, hb, hdg, hmeth', hr, ret, narrow_b1]
  (try refine ⟨rfl, ?_⟩); (try refine ⟨rfl, ?_⟩)
  first | (intro acts; rw [hret _ acts rfl rfl rfl]) | rw [hret _ _ rfl rfl rfl]
  exact Steps.refl _
def lw_At (p : Program) (s : State) (m : MethodId) (meth : Method) (c : Code) (b L : Nat) (xs : Nat → Int32) : Prop :=
  p.tables.exec = Jvm.exec ∧ c.code = code ∧ meth.sig.returnType = ret ∧ c.maxLocals = 7 ∧ s.vm.findClass R_law = some m.cls ∧ (∀ w ∈ lw_tbl, w.before #[Value.ref b] s = true) ∧ va_X b L xs s s.heap ∧ b < s.heap.size ∧ meth.locks = false ∧ (Jvm.Cond.and given_1 narrow_1).before #[Value.ref b] s = true
/-- the row out: one long -/
def oL (cL : ClassId) (ad : Nat → Nat) (lo : Nat) (v : Int64) (H : Heap) : Prop := H[ad 98]? = some (vp_cell cL (1, .inr (.inl (fun _ => v)))) ∧ (∀ k, k < nC → ad k ≠ ad 98) ∧ lo ≤ ad 98
def Lx (p : Program) (l : Launch) (s : State) (m : MethodId) (meth : Method) (c : Code) (b L : Nat) (xs : Nat → Int32) (dC : Nat → ClassId) (dI : Nat → Nat → Nat) (D : ClassId × ClassId × ClassId) (cL : ClassId) (ad : Nat → Nat) : Prop :=
  lw_At p s m meth c b L xs ∧ l.flags = flags0 ∧ va_K (dC, dI) vwCl (tyS D ++ [(cL, .long)]) s ∧ aP ad ∧ (∀ k, k < nC → s.heap.size ≤ ad k) ∧ ad 99 = b
def LL (L : Nat) (sc : Nat → Int) (pc : Nat) (ls : List (Option AV)) (st : List AV) (μ : Mm) (v : Int64) (k n : Nat) : Prop :=
  ∀ (p : Program) (l : Launch) (e : Env) (s : State) (m : MethodId) (below : List Frame) (meth : Method) (c : Code) (b : Nat) (xs : Nat → Int32) (H : Heap) (locs : List Loc) (dC : Nat → ClassId) (dI : Nat → Nat → Nat) (D : ClassId × ClassId × ClassId) (cL : ClassId) (ad : Nat → Nat) (ls' : Array Slot),
    Lx p l s m meth c b L xs dC dI D cL ad → (∀ j, (xs j).toInt = sc j) → hO dC dI D ad μ H → oL cL ad s.heap.size v H → va_S (fun q : Nat => s.heap.size ≤ q) s.heap H locs → ls.length = 7 → lR ad ls ls' → (∀ v ∈ st, oV v) →
      W p l e room_1 s m #[Value.ref b] below meth c H locs k n (lw_Z below #[Value.ref b] s) (F0 m pc ls' (st.map (cV ad)))
section LR
variable {L : Nat} {sc : Nat → Int} {pc q : Nat} {ls : List (Option AV)} {st : List AV} {μ : Mm} {v : Int64} {k n : Nat}
theorem LL_pure {st2 : List AV} (hok : (∀ v ∈ st, oV v) → ∀ v ∈ st2, oV v)
    (k0 : ∀ (p : Program) (l : Launch) (e : Env) (R : Room) (s : State) (m : MethodId) (args : Array Value) (below : List Frame) (meth : Method) (c : Code) (H : Heap) (locs : List Loc) (k n : Nat) (Q : State → Prop) (ad : Nat → Nat) (ls' : Array Slot), p.tables.exec = Jvm.exec → c.code = code → (∀ v ∈ st, oV v) →
      W p l e R s m args below meth c H locs k n Q (F0 m q ls' (st2.map (cV ad))) → W p l e R s m args below meth c H locs k n Q (F0 m pc ls' (st.map (cV ad))))
    (kk : LL L sc q ls st2 μ v k n) : LL L sc pc ls st μ v k n := by
  intro p l e s m below meth c b xs H locs dC dI D cL ad ls' X hxs hH hL hS hn hl hs
  exact k0 _ _ _ _ _ _ _ _ _ _ _ _ _ _ _ _ _ X.1.1 X.1.2.1 hs (kk p l e s m below meth c b xs H locs dC dI D cL ad ls' X hxs hH hL hS hn hl (hok hs))
theorem L_iconst {z : Int} (hd : decode code pc = .ok (.iconst z, 1)) (hr : (decide (-2147483648 ≤ z) && decide (z ≤ 2147483647)) = true) (hq : pc + 1 = q) (kk : LL L sc q ls (vI z :: st) μ v k n) : LL L sc pc ls st μ v k n := by
  subst hq
  refine LL_pure (st2 := vI z :: st) (fun h => ok_c (by simpa [oV, rI] using hr) h) (fun p l e R s m args below meth c H locs k n Q ad ls' hx hb h kk => ?_) kk
  exact lv_iconst hx hb hd rfl kk
theorem L_bipush {z : Int} (hd : decode code pc = .ok (.bipush z, 2)) (hr : (decide (-2147483648 ≤ z) && decide (z ≤ 2147483647)) = true) (hv : (Int8.ofInt z).toInt32 = Int32.ofInt z) (hq : pc + 2 = q) (kk : LL L sc q ls (vI z :: st) μ v k n) : LL L sc pc ls st μ v k n := by
  subst hq
  refine LL_pure (st2 := vI z :: st) (fun h => ok_c (by simpa [oV, rI] using hr) h) (fun p l e R s m args below meth c H locs k n Q ad ls' hx hb h kk => ?_) kk
  exact lv_bipush hx hb hd hv kk
theorem L_iadd {a b : Int} (hd : decode code pc = .ok (.iadd, 1)) (hq : pc + 1 = q) (kk : LL L sc q ls (vI (iA a b) :: st) μ v k n) : LL L sc pc ls (vI b :: vI a :: st) μ v k n := by
  subst hq
  refine LL_pure (st2 := vI (iA a b) :: st) (fun h => ok_c (rI_wI _) (ok_t (ok_t h))) (fun p l e R s m args below meth c H locs k n Q ad ls' hx hb h kk => ?_) kk
  exact lv_iadd hx hb hd (by rw [o32_add]; exact kk)
theorem L_isub {a b : Int} (hd : decode code pc = .ok (.isub, 1)) (hq : pc + 1 = q) (kk : LL L sc q ls (vI (iS a b) :: st) μ v k n) : LL L sc pc ls (vI b :: vI a :: st) μ v k n := by
  subst hq
  refine LL_pure (st2 := vI (iS a b) :: st) (fun h => ok_c (rI_wI _) (ok_t (ok_t h))) (fun p l e R s m args below meth c H locs k n Q ad ls' hx hb h kk => ?_) kk
  exact lv_isub hx hb hd (by rw [o32_sub]; exact kk)
theorem L_iand {a b : Int} (hd : decode code pc = .ok (.iand, 1)) (hq : pc + 1 = q) (kk : LL L sc q ls (vI (bA a b) :: st) μ v k n) : LL L sc pc ls (vI b :: vI a :: st) μ v k n := by
  subst hq
  refine LL_pure (st2 := vI (bA a b) :: st) (fun h => ok_c (rI_of _) (ok_t (ok_t h))) (fun p l e R s m args below meth c H locs k n Q ad ls' hx hb h kk => ?_) kk
  exact lv_iand hx hb hd (by rw [List.map_cons, cV, bA, o32_self] at kk; exact kk)
theorem L_goto {off : Int} (hd : decode code pc = .ok (.goto off, 3)) (ht : (pc : Int) + off = (q : Int)) (kk : LL L sc q ls st μ v k n) : LL L sc pc ls st μ v k n :=
  LL_pure (fun h => h) (fun p l e R s m args below meth c H locs k n Q ad ls' hx hb h kk => lv_goto hx hb hd ht kk) kk
theorem LL_br {st2 : List AV} {P : Prop} {q2 : Nat} (hok : (∀ v ∈ st, oV v) → ∀ v ∈ st2, oV v)
    (k0 : ∀ (p : Program) (l : Launch) (e : Env) (R : Room) (s : State) (m : MethodId) (args : Array Value) (below : List Frame) (meth : Method) (c : Code) (H : Heap) (locs : List Loc) (k n : Nat) (Q : State → Prop) (ad : Nat → Nat) (ls' : Array Slot), p.tables.exec = Jvm.exec → c.code = code → (∀ v ∈ st, oV v) →
      (P → W p l e R s m args below meth c H locs k n Q (F0 m q ls' (st2.map (cV ad)))) → (¬ P → W p l e R s m args below meth c H locs k n Q (F0 m q2 ls' (st2.map (cV ad)))) → W p l e R s m args below meth c H locs k n Q (F0 m pc ls' (st.map (cV ad))))
    (kt : P → LL L sc q ls st2 μ v k n) (kf : ¬ P → LL L sc q2 ls st2 μ v k n) : LL L sc pc ls st μ v k n := by
  intro p l e s m below meth c b xs H locs dC dI D cL ad ls' X hxs hH hL hS hn hl hs
  exact k0 _ _ _ _ _ _ _ _ _ _ _ _ _ _ _ _ _ X.1.1 X.1.2.1 hs (fun h => kt h p l e s m below meth c b xs H locs dC dI D cL ad ls' X hxs hH hL hS hn hl (hok hs)) (fun h => kf h p l e s m below meth c b xs H locs dC dI D cL ad ls' X hxs hH hL hS hn hl (hok hs))
theorem L_icmpeq {a b : Int} {off : Int} (hd : decode code pc = .ok (.if_icmp .eq off, 3)) (ht : (pc : Int) + off = (q : Int)) {q2 : Nat} (hq : pc + 3 = q2) (kt : a = b → LL L sc q ls st μ v k n) (kf : ¬ a = b → LL L sc q2 ls st μ v k n) : LL L sc pc ls (vI b :: vI a :: st) μ v k n := by
  subst hq
  refine LL_br (st2 := st) (fun h => ok_t (ok_t h)) (fun p l e R s m args below meth c H locs k n Q ad ls' hx hb h k1 k2 => ?_) kt kf
  exact lv_icmp_eq hx hb hd ht (fun z => k1 ((o32_eq (ok_h (ok_t h)) (ok_h h)).mp z)) (fun z => k2 (fun w => z ((o32_eq (ok_h (ok_t h)) (ok_h h)).mpr w)))
theorem L_icmpgt {a b : Int} {off : Int} (hd : decode code pc = .ok (.if_icmp .gt off, 3)) (ht : (pc : Int) + off = (q : Int)) {q2 : Nat} (hq : pc + 3 = q2) (kt : b < a → LL L sc q ls st μ v k n) (kf : ¬ b < a → LL L sc q2 ls st μ v k n) : LL L sc pc ls (vI b :: vI a :: st) μ v k n := by
  subst hq
  refine LL_br (st2 := st) (fun h => ok_t (ok_t h)) (fun p l e R s m args below meth c H locs k n Q ad ls' hx hb h k1 k2 => ?_) kt kf
  exact lv_icmp_gt hx hb hd ht (fun z => k1 ((o32_lt (ok_h h) (ok_h (ok_t h))).mp z)) (fun z => k2 (fun w => z ((o32_lt (ok_h h) (ok_h (ok_t h))).mpr w)))
theorem LL_load {w : AV} {i : Nat} (hi : ls[i]? = some (some w))
    (k0 : ∀ (p : Program) (l : Launch) (e : Env) (R : Room) (s : State) (m : MethodId) (args : Array Value) (below : List Frame) (meth : Method) (c : Code) (H : Heap) (locs : List Loc) (k n : Nat) (Q : State → Prop) (ad : Nat → Nat) (ls' : Array Slot), p.tables.exec = Jvm.exec → c.code = code → ls'[i]? = some (.val (cV ad w)) →
      W p l e R s m args below meth c H locs k n Q (F0 m q ls' (cV ad w :: st.map (cV ad))) → W p l e R s m args below meth c H locs k n Q (F0 m pc ls' (st.map (cV ad))))
    (kk : LL L sc q ls (w :: st) μ v k n) : LL L sc pc ls st μ v k n := by
  intro p l e s m below meth c b xs H locs dC dI D cL ad ls' X hxs hH hL hS hn hl hs
  exact k0 _ _ _ _ _ _ _ _ _ _ _ _ _ _ _ _ _ X.1.1 X.1.2.1 (hl.2.2 i w hi).1 (kk p l e s m below meth c b xs H locs dC dI D cL ad ls' X hxs hH hL hS hn hl (ok_c (hl.2.2 i w hi).2 hs))
theorem L_iload {i : Nat} {a : Int} (hd : decode code pc = .ok (.iload i, 2)) (hi : ls[i]? = some (some (vI a))) (hq : pc + 2 = q) (kk : LL L sc q ls (vI a :: st) μ v k n) : LL L sc pc ls st μ v k n := by
  subst hq
  exact LL_load hi (fun p l e R s m args below meth c H locs k n Q ad ls' hx hb hg k2 => lv_iload hx hb hd hg k2) kk
theorem L_aload_n {j : Fin 4} {i : Nat} {a : Nat} (hd : decode code pc = .ok (.aload_n j, 1)) (he : (j : Nat) = i) (hi : ls[i]? = some (some (vR a))) (hq : pc + 1 = q) (kk : LL L sc q ls (vR a :: st) μ v k n) : LL L sc pc ls st μ v k n := by
  subst hq
  exact LL_load hi (fun p l e R s m args below meth c H locs k n Q ad ls' hx hb hg k2 => lv_aload_n hx hb hd he hg k2) kk
theorem L_istore {i : Nat} {a : Int} (hd : decode code pc = .ok (.istore i, 2)) (hi : i < 7) (hn0 : nL_ ls i) (hq : pc + 2 = q) (kk : LL L sc q (ls.set i (some (vI a))) st μ v k n) : LL L sc pc ls (vI a :: st) μ v k n := by
  subst hq
  intro p l e s m below meth c b xs H locs dC dI D cL ad ls' X hxs hH hL hS hn hl hs
  refine lv_istore X.1.1 X.1.2.1 hd (lR_has hl) (by rw [hn]; exact hi) rfl (fun ls2 h2 => ?_)
  exact kk p l e s m below meth c b xs H locs dC dI D cL ad ls2 X hxs hH hL hS (by rw [List.length_set]; exact hn) (lR_set hl (ok_h hs) (by rw [hn]; exact hi) hn0 h2) (ok_t hs)
theorem L_iinc {i : Nat} {z a : Int} (hd : decode code pc = .ok (.iinc i z, 3)) (hg : ls[i]? = some (some (vI a))) (hi : i < 7) (hn0 : nL_ ls i) (hq : pc + 3 = q) (kk : LL L sc q (ls.set i (some (vI (iA a z)))) st μ v k n) : LL L sc pc ls st μ v k n := by
  subst hq
  intro p l e s m below meth c b xs H locs dC dI D cL ad ls' X hxs hH hL hS hn hl hs
  obtain ⟨k', hk⟩ := List.getElem?_of_mem (pL_mem.mpr ⟨_, hg, rfl⟩ : (i, cV ad (vI a)) ∈ pL ad ls)
  refine lv_iinc X.1.1 X.1.2.1 hd (lR_has hl) hk (v := Int32.ofInt (iA a z)) (o32_add a z) (by rw [hn]; exact hi) rfl (fun ls2 h2 => ?_)
  exact kk p l e s m below meth c b xs H locs dC dI D cL ad ls2 X hxs hH hL hS (by rw [List.length_set]; exact hn) (lR_set hl (rI_wI _) (by rw [hn]; exact hi) hn0 h2) hs
theorem L_ts1 {dflt lo hi off : Int} {offs : Array Int} {len : Nat} {x : Int} (kz : Int) (hd : decode code pc = .ok (.tableswitch dflt lo hi offs, len)) (h1 : decide (lo ≤ kz) = true) (h2 : decide (kz ≤ hi) = true) (ho : offs[(kz - lo).toNat]? = some off) (ht : (pc : Int) + off = (q : Int)) (kt : x = kz → LL L sc q ls st μ v k n) (kf : ¬ x = kz → LL L sc pc ls (vI x :: st) μ v k n) : LL L sc pc ls (vI x :: st) μ v k n := by
  by_cases h : x = kz
  · subst h
    refine LL_pure (st2 := st) (fun h => ok_t h) (fun p l e R s m args below meth c H locs k n Q ad ls' hx hb h k2 => ?_) (kt rfl)
    have h1' := of_decide_eq_true h1
    have h2' := of_decide_eq_true h2
    exact lv_tableIn hx hb hd (by rw [rI_32 (ok_h h)]; omega) (by rw [rI_32 (ok_h h)]; omega) (by rw [rI_32 (ok_h h)]; exact ho) ht k2
  · exact kf h
theorem L_tsOut {dflt lo hi : Int} {offs : Array Int} {len : Nat} {x : Int} (hd : decode code pc = .ok (.tableswitch dflt lo hi offs, len)) (h : x < lo ∨ hi < x) (ht : (pc : Int) + dflt = (q : Int)) (kk : LL L sc q ls st μ v k n) : LL L sc pc ls (vI x :: st) μ v k n := by
  refine LL_pure (st2 := st) (fun h => ok_t h) (fun p l e R s m args below meth c H locs k n Q ad ls' hx hb h3 k2 => ?_) kk
  exact lv_tableOut hx hb hd (by rw [rI_32 (ok_h h3)]; exact h) ht k2
/-- the script's length, its ints -/
theorem L_slen (hd : decode code pc = .ok (.arraylength, 1)) (hq : pc + 1 = q) (hL0 : L < 2147483648) (kk : LL L sc q ls (vI (L : Int) :: st) μ v k n) : LL L sc pc ls (vR 99 :: st) μ v k n := by
  subst hq
  intro p l e s m below meth c b xs H locs dC dI D cL ad ls' X hxs hH hL hS hn hl hs
  obtain ⟨⟨hx, hb, hr, hml, hown, hts, hX, hbl, hlk, hgv⟩, hfl, hK, hP, had, hab⟩ := id X
  show W p l e room_1 s m #[Value.ref b] below meth c H locs k n _ (F0 m pc ls' (.ref (ad 99) :: st.map (cV ad)))
  rw [hab]
  refine va_slen hx hb hX hbl (Nat.not_le.mpr hbl) hS hd ?_
  rw [← Int32.ofInt_eq_ofNat]
  exact kk p l e s m below meth c b xs H locs dC dI D cL ad ls' X hxs hH hL hS hn hl (ok_c (v := vI (L : Int)) (by show rI _; unfold rI; omega) (ok_t hs))
theorem L_sld {i : Int} (hd : decode code pc = .ok (.iaload, 1)) (hi : 0 ≤ i ∧ i < L) (hq : pc + 1 = q) (kk : LL L sc q ls (vI (sc i.toNat) :: st) μ v k n) : LL L sc pc ls (vI i :: vR 99 :: st) μ v k n := by
  subst hq
  intro p l e s m below meth c b xs H locs dC dI D cL ad ls' X hxs hH hL hS hn hl hs
  obtain ⟨⟨hx, hb, hr, hml, hown, hts, hX, hbl, hlk, hgv⟩, hfl, hK, hP, had, hab⟩ := id X
  show W p l e room_1 s m #[Value.ref b] below meth c H locs k n _ (F0 m pc ls' (.int (Int32.ofInt i) :: .ref (ad 99) :: st.map (cV ad)))
  rw [hab]
  refine va_sld hx hb hX hbl (Nat.not_le.mpr hbl) hS (o32_in (ok_h hs) hi) hd ?_
  rw [o32_nat (ok_h hs) hi.1]
  have e1 : xs i.toNat = Int32.ofInt (sc i.toNat) := by rw [← hxs, o32_self]
  rw [e1]
  exact kk p l e s m below meth c b xs H locs dC dI D cL ad ls' X hxs hH hL hS hn hl (ok_c (v := vI (sc i.toNat)) (by rw [← hxs]; exact rI_of _) (ok_t (ok_t hs)))
theorem nS_tbl {args : Array Value} {s : State} (hts : ∀ w ∈ lw_tbl, w.before args s = true) : nS s := by
  intro w hw hn
  have h1 := hts w hw
  cases w <;> first | (cases hn; done) | exact va_Nw.of rfl h1
/-- a call of either system -/
theorem L_call {d1 idx nn b ci nf : Nat} {M1 : Mth} {As : List AV} {r1 : Int} {μ1 : Mm} {st0 : List AV} (w : AV) (hM : CC d1 M1 (vR b :: As) μ r1 μ1) (hd1 : d1 ≤ 800) (hm : mV R_law idx M1 nn) (hkb : kD b = (ci + 10, nf)) (hci : (vwCl[ci]?).map (fun q => q.1) = some M1.1.cls) (hl : As.length = nn) (hr : rT M1.2.2.2 r1 = [w]) (hst : st0 = As.reverse ++ vR b :: st) (hw : Nat.ble (st.map wd).sum 8 = true) (hkn : k ≤ 601024 ∧ n ≤ 7293034)
    (hd : decode code pc = .ok (.invokevirtual idx, 3)) (hq : pc + 3 = q) (kk : LL L sc q ls (w :: st) μ1 v k n) : LL L sc pc ls st0 μ v k n := by
  subst hq; subst hst
  intro p l e s m below meth c b' xs H locs dC dI D cL ad ls' X hxs hH hL hS hn hl' hs
  obtain ⟨⟨hx, hb, hr', hml, hown, hts, hX, hbl, hlk, hgv⟩, hfl, hK, hP, had, hab⟩ := id X
  obtain ⟨hs1, hs2⟩ := ok_rev hs
  have hts' : ∀ w ∈ tG, w.before #[Value.ref b'] s = true := fun w hw => hts w (List.mem_filter.mp hw).1
  have e1 : (As.reverse ++ vR b :: st).map (cV ad) = (As.map (cV ad)).reverse ++ .ref (ad b) :: st.map (cV ad) := by
    rw [List.map_append, List.map_reverse]; rfl
  rw [e1]
  have hK' : va_K (dC, dI) vwCl (tyS D) s := hK.sub [0, 1, 2] rfl
  have hlt : ad 98 < H.size := (Array.getElem?_eq_some_iff.mp hL.1).1
  have hne : ¬ aA ad H.size (ad 98) := by
    rintro (⟨j, h1, h2⟩ | h)
    · exact hL.2.1 j h1 h2
    · omega
  refine w_callV (nL := 7) ⟨hx, hb, hml, hown, hts'⟩ hM hm hkb hci hl hH hK' hP (nS_tbl hts) (ok_c trivial hs1) (hl'.1.trans hn) (by rw [wd_sum]; exact Nat.le_of_ble_eq_true hw) ⟨by show d1 + 1 ≤ 2048; omega, by show 100 * (d1 + 1) ≤ 84000; omega⟩ hkn hS (fun q hq => ?_) hd (fun H1 locs1 hr1 hH1 _ hfr hS1 => ?_)
  · rcases hq with ⟨j, h1, rfl⟩ | h
    · exact had j h1
    · exact Nat.le_trans hS.1 h
  · rw [rT_V, ← List.map_append]
    have hrw : ∀ v ∈ rT M1.2.2.2 r1, oV v := rT_ok hr1
    rw [hr] at hrw ⊢
    exact kk p l e s m below meth c b' xs H1 locs1 dC dI D cL ad ls' X hxs hH1 ⟨by rw [hfr _ hlt hne]; exact hL.1, hL.2⟩ hS1 hn hl' (fun v hv => (List.mem_append.mp hv).elim (hrw v) (ok_t hs2 v))
theorem L_weak {ls2 : List (Option AV)} (kk : LL L sc pc ls2 st μ v k n) (h : sb_ ls2 ls) : LL L sc pc ls st μ v k n := by
  obtain ⟨h1, h2⟩ := sb_ok h
  intro p l e s m below meth c b xs H locs dC dI D cL ad ls' X hxs hH hL hS hn hl hs
  exact kk p l e s m below meth c b xs H locs dC dI D cL ad ls' X hxs hH hL hS (h1.trans hn) ⟨hl.1.trans h1.symm, hl.2.1, fun i v hi => hl.2.2 i v (h2 i v hi)⟩ hs
/-- the law's end -/
theorem L_end (hkn : k ≤ 601024 ∧ n ≤ 7293034) (hd : decode code pc = .ok (.iconst 1, 1)) (hd2 : decode code (pc + 1) = .ok (.ireturn, 1)) : LL L sc pc ls [] μ v k n := by
  intro p l e s m below meth c b xs H locs dC dI D cL ad ls' X hxs hH hL hS hn hl hs
  obtain ⟨⟨hx, hb, hr, hml, hown, hts, hX, hbl, hlk, hgv⟩, hfl, hK, hP, had, hab⟩ := id X
  refine lv_iconst (v := 1) hx hb hd rfl ?_
  refine va_forget (fun q hq => hS.2.2 q hq) ?_
  refine W.widen (k := 601024) (n := 7293034) hkn.1 hkn.2 ?_
  exact lw_ret hx hb hr hlk hd2
theorem LL_widen {k2 n2 : Nat} (h1 : k ≤ k2) (h2 : n ≤ n2) (kk : LL L sc pc ls st μ v k2 n2) : LL L sc pc ls st μ v k n := by
  intro p l e s m below meth c b xs H locs dC dI D cL ad ls' X hxs hH hL hS hn hl hs
  exact W.widen h1 h2 (kk p l e s m below meth c b xs H locs dC dI D cL ad ls' X hxs hH hL hS hn hl hs)
end LR
