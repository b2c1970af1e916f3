/-! THE JUDGEMENT: a method's frame over the two systems' cells, in the words of the pure level -/
abbrev Mth : Type := MethodName × ByteArray × Nat × Option FieldType
theorem tb1 {w : Cond} (h : w ∈ tables_1_1) : w ∈ lw_tbl := List.mem_append_right (k2_sels lw_privs) (tc1 h)
theorem tb2 {w : Cond} (h : w ∈ tables_1_2) : w ∈ lw_tbl := List.mem_append_right (k2_sels lw_privs) (tc2 h)
theorem tb3 {w : Cond} (h : w ∈ tables_1_3) : w ∈ lw_tbl := List.mem_append_right (k2_sels lw_privs) (tc3 h)
theorem tb4 {w : Cond} (h : w ∈ tables_1_4) : w ∈ lw_tbl := List.mem_append_right (k2_sels lw_privs) (tc4 h)
theorem tb5 {w : Cond} (h : w ∈ tables_1_5) : w ∈ lw_tbl := List.mem_append_right (k2_sels lw_privs) (tc5 h)
theorem tb6 {w : Cond} (h : w ∈ tables_1_6) : w ∈ lw_tbl := List.mem_append_right (k2_sels lw_privs) (tc6 h)
theorem tb7 {w : Cond} (h : w ∈ tables_1_7) : w ∈ lw_tbl := List.mem_append_right (k2_sels lw_privs) (tc7 h)
def tG : List Cond := lw_tbl.filter goodWord
theorem tG_of {w : Cond} (h : w ∈ lw_tbl) (h2 : goodWord w = true) : w ∈ tG := List.mem_filter.mpr ⟨h, h2⟩
def isN : Cond → Bool
  | .fieldLinkNest _ _ _ _ _ _ => true
  | .methodLinkNest _ _ _ _ => true
  | _ => false
def nS (s : State) : Prop := ∀ w ∈ lw_tbl, isN w = true → va_Nw w s
def wM (M : Mth) : List Cond := .code M.1 M.2.1 M.2.2.1 M.2.2.2 :: tG
theorem nS_warm {s U : State} (hW : s.WarmedH U.vm) (h : nS s) : nS U := by
  intro w hw hn
  have h1 := h w hw hn
  cases w <;> first | (cases hn; done) | exact va_Nw.warmF hW h1 | exact va_Nw.warmM hW h1
theorem nS_same {s U : State} (hv : s.vm = U.vm) (h : nS s) : nS U := by
  intro w hw hn
  have h1 := h w hw hn
  cases w <;> first | (cases hn; done) | exact va_Nw.same rfl hv h1
def rmD (d : Nat) : Room := { frames := d, cells := 0, slots := 0, locals := 100 * d }
def rV (ad : Nat → Nat) (rt : Option FieldType) (r : Int) : Option Value := match rt with
  | none => none
  | some .long => some (.long (Int64.ofInt r))
  | some (.object _) => some (cV ad (vC r))
  | some _ => some (.int (Int32.ofInt r))
def rK (rt : Option FieldType) (r : Int) : Prop := match rt with
  | none => True
  | some .long => rL r
  | some (.object _) => True
  | some _ => rI r
/-- the heap holds the memory μ -/
def hO (dC : Nat → ClassId) (dI : Nat → Nat → Nat) (D : ClassId × ClassId × ClassId) (ad : Nat → Nat) (μ : Mm) (H : Heap) : Prop := va_P (dC, dI) vwCl (wO D ad μ) H ∧ oM μ
def qC (dC : Nat → ClassId) (dI : Nat → Nat → Nat) (D : ClassId × ClassId × ClassId) (ad : Nat → Nat) (A : Nat → Prop) (rt : Option FieldType) (r : Int) (μ' : Mm) : Array Value → State → Outcome → State → Prop :=
  fun _ st oc t => (oc = .returned (rV ad rt r) ∧ rK rt r ∧ hO dC dI D ad μ' t.heap) ∧ va_F A st t
def pC (dC : Nat → ClassId) (dI : Nat → Nat → Nat) (D : ClassId × ClassId × ClassId) (ad : Nat → Nat) (sz : Nat) (av : List AV) (μ : Mm) : Array Value → State → Prop :=
  va_Pc (av.map (cV ad)) (fun U => U.heap.size = sz ∧ hO dC dI D ad μ U.heap ∧ va_K (dC, dI) vwCl (tyS D) U ∧ nS U ∧ (∀ v ∈ av, oV v))
/-- A CALL: the method M, given the values av and the memory μ, returns r and leaves μ' -/
def CC (d : Nat) (M : Mth) (av : List AV) (μ : Mm) (r : Int) (μ' : Mm) : Prop :=
  ∀ (l : Launch) (dC : Nat → ClassId) (dI : Nat → Nat → Nat) (D : ClassId × ClassId × ClassId) (ad : Nat → Nat) (sz : Nat), aP ad →
    Met l M.1 (wM M) (rmD d) (pC dC dI D ad sz av μ) (qC dC dI D ad (aA ad sz) M.2.2.2 r μ') 0 0 (aA ad sz)
/-- the locals that are known -/
def lR (ad : Nat → Nat) (ls : List (Option AV)) (ls' : Array Slot) : Prop := ls'.size = ls.length ∧ lv_wf ls' ∧ ∀ (i : Nat) (v : AV), ls[i]? = some (some v) → ls'[i]? = some (.val (cV ad v)) ∧ oV v
def Cx (M : Mth) (p : Program) (s : State) (m : MethodId) (args : Array Value) (meth : Method) (c : Code) (dC : Nat → ClassId) (dI : Nat → Nat → Nat) (D : ClassId × ClassId × ClassId) (ad : Nat → Nat) : Prop :=
  p.tables.exec = Jvm.exec ∧ c.code = M.2.1 ∧ c.maxLocals = M.2.2.1 ∧ meth.sig.returnType = M.2.2.2 ∧ s.vm.findClass M.1.cls = some m.cls ∧ (∀ w ∈ tG, w.before args s = true) ∧ meth.locks = false ∧ va_K (dC, dI) vwCl (tyS D) s ∧ aP ad ∧ nS s
def VV (d : Nat) (M : Mth) (pc : Nat) (ls : List (Option AV)) (st : List AV) (μ : Mm) (r : Int) (μ' : Mm) : Prop :=
  ∀ (p : Program) (l : Launch) (e : Env) (s : State) (m : MethodId) (args : Array Value) (below : List Frame) (meth : Method) (c : Code) (H : Heap) (locs : List Loc) (dC : Nat → ClassId) (dI : Nat → Nat → Nat) (D : ClassId × ClassId × ClassId) (ad : Nat → Nat) (ls' : Array Slot),
    Cx M p s m args meth c dC dI D ad → hO dC dI D ad μ H → va_S (aA ad s.heap.size) s.heap H locs → ls.length = M.2.2.1 → lR ad ls ls' → (∀ v ∈ st, oV v) →
      W p l e (rmD d) s m args below meth c H locs 0 0 (MQ below (qC dC dI D ad (aA ad s.heap.size) M.2.2.2 r μ') args s 0 0 (aA ad s.heap.size)) (F0 m pc ls' (st.map (cV ad)))
section VR
variable {d : Nat} {M : Mth} {pc q : Nat} {ls : List (Option AV)} {st : List AV} {μ : Mm} {r : Int} {μ' : Mm}
/-- one row of the kit that changes the stack alone -/
theorem VV_pure {st2 : List AV} (hok : (∀ v ∈ st, oV v) → ∀ v ∈ st2, oV v)
    (k0 : ∀ (p : Program) (l : Launch) (e : Env) (R : Room) (s : State) (m : MethodId) (args : Array Value) (below : List Frame) (meth : Method) (c : Code) (H : Heap) (locs : List Loc) (Q : State → Prop) (ad : Nat → Nat) (ls' : Array Slot), p.tables.exec = Jvm.exec → c.code = M.2.1 → (∀ v ∈ st, oV v) →
      W p l e R s m args below meth c H locs 0 0 Q (F0 m q ls' (st2.map (cV ad))) → W p l e R s m args below meth c H locs 0 0 Q (F0 m pc ls' (st.map (cV ad))))
    (k : VV d M q ls st2 μ r μ') : VV d M pc ls st μ r μ' := by
  intro p l e s m args below meth c H locs dC dI D ad ls' C hH hS hn hl hs
  exact k0 _ _ _ _ _ _ _ _ _ _ _ _ _ _ _ C.1 C.2.1 hs (k p l e s m args below meth c H locs dC dI D ad ls' C hH hS hn hl (hok hs))
theorem ok_c {v : AV} {l : List AV} (h1 : oV v) (h2 : ∀ w ∈ l, oV w) : ∀ w ∈ v :: l, oV w := fun w hw => (List.mem_cons.mp hw).elim (fun e => e ▸ h1) (h2 w)
theorem ok_h {v : AV} {l : List AV} (h : ∀ w ∈ v :: l, oV w) : oV v := h v List.mem_cons_self
theorem ok_t {v : AV} {l : List AV} (h : ∀ w ∈ v :: l, oV w) : ∀ w ∈ l, oV w := fun w hw => h w (List.mem_cons_of_mem _ hw)
theorem V_iconst {n : Int} (hd : decode M.2.1 pc = .ok (.iconst n, 1)) (hr : (decide (-2147483648 ≤ n) && decide (n ≤ 2147483647)) = true) (hq : pc + 1 = q) (k : VV d M q ls (vI n :: st) μ r μ') : VV d M pc ls st μ r μ' := by
  subst hq
  refine VV_pure (st2 := vI n :: st) (fun h => ok_c (by simpa [oV, rI] using hr) h) (fun p l e R s m args below meth c H locs Q ad ls' hx hb h kk => ?_) k
  exact lv_iconst hx hb hd rfl kk
theorem V_bipush {n : Int} (hd : decode M.2.1 pc = .ok (.bipush n, 2)) (hr : (decide (-2147483648 ≤ n) && decide (n ≤ 2147483647)) = true) (hv : (Int8.ofInt n).toInt32 = Int32.ofInt n) (hq : pc + 2 = q) (k : VV d M q ls (vI n :: st) μ r μ') : VV d M pc ls st μ r μ' := by
  subst hq
  refine VV_pure (st2 := vI n :: st) (fun h => ok_c (by simpa [oV, rI] using hr) h) (fun p l e R s m args below meth c H locs Q ad ls' hx hb h kk => ?_) k
  exact lv_bipush hx hb hd hv kk
theorem V_sipush {n : Int} (hd : decode M.2.1 pc = .ok (.sipush n, 3)) (hr : (decide (-2147483648 ≤ n) && decide (n ≤ 2147483647)) = true) (hv : (Int16.ofInt n).toInt32 = Int32.ofInt n) (hq : pc + 3 = q) (k : VV d M q ls (vI n :: st) μ r μ') : VV d M pc ls st μ r μ' := by
  subst hq
  refine VV_pure (st2 := vI n :: st) (fun h => ok_c (by simpa [oV, rI] using hr) h) (fun p l e R s m args below meth c H locs Q ad ls' hx hb h kk => ?_) k
  exact lv_sipush hx hb hd hv kk
theorem V_lconst {n : Fin 2} (hd : decode M.2.1 pc = .ok (.lconst n, 1)) (hq : pc + 1 = q) (k : VV d M q ls (vL ((n : Nat) : Int) :: st) μ r μ') : VV d M pc ls st μ r μ' := by
  subst hq
  refine VV_pure (st2 := vL ((n : Nat) : Int) :: st) (fun h => ok_c (by simp only [oV, rL]; have := n.isLt; omega) h) (fun p l e R s m args below meth c H locs Q ad ls' hx hb h kk => ?_) k
  exact lv_lconst hx hb hd (Int64.ofInt_eq_ofNat).symm kk
theorem V_2 {op : Instr} {f : Int → Int → Int} {a b : Int} (hd : decode M.2.1 pc = .ok (op, 1))
    (hr : ∀ a b, rI a → rI b → rI (f a b))
    (k0 : ∀ (a b : Int), rI a → rI b → ∀ (p : Program) (l : Launch) (e : Env) (R : Room) (s : State) (m : MethodId) (args : Array Value) (below : List Frame) (meth : Method) (c : Code) (H : Heap) (locs : List Loc) (Q : State → Prop) (ls' : Array Slot) (rest : List Value), p.tables.exec = Jvm.exec → c.code = M.2.1 →
      W p l e R s m args below meth c H locs 0 0 Q (F0 m (pc + 1) ls' (.int (Int32.ofInt (f a b)) :: rest)) → W p l e R s m args below meth c H locs 0 0 Q (F0 m pc ls' (.int (Int32.ofInt b) :: .int (Int32.ofInt a) :: rest)))
    (hq : pc + 1 = q) (k : VV d M q ls (vI (f a b) :: st) μ r μ') : VV d M pc ls (vI b :: vI a :: st) μ r μ' := by
  subst hq
  refine VV_pure (st2 := vI (f a b) :: st) (fun h => ok_c (hr a b (ok_h (ok_t h)) (ok_h h)) (ok_t (ok_t h))) (fun p l e R s m args below meth c H locs Q ad ls' hx hb h kk => ?_) k
  exact k0 a b (ok_h (ok_t h)) (ok_h h) p l e R s m args below meth c H locs Q ls' _ hx hb kk
theorem V_iadd {a b : Int} (hd : decode M.2.1 pc = .ok (.iadd, 1)) (hq : pc + 1 = q) (k : VV d M q ls (vI (iA a b) :: st) μ r μ') : VV d M pc ls (vI b :: vI a :: st) μ r μ' :=
  V_2 (f := iA) hd (fun _ _ _ _ => rI_wI _) (fun a b _ _ p l e R s m args below meth c H locs Q ls' rest hx hb kk => lv_iadd hx hb hd (by rw [o32_add]; exact kk)) hq k
theorem V_isub {a b : Int} (hd : decode M.2.1 pc = .ok (.isub, 1)) (hq : pc + 1 = q) (k : VV d M q ls (vI (iS a b) :: st) μ r μ') : VV d M pc ls (vI b :: vI a :: st) μ r μ' :=
  V_2 (f := iS) hd (fun _ _ _ _ => rI_wI _) (fun a b _ _ p l e R s m args below meth c H locs Q ls' rest hx hb kk => lv_isub hx hb hd (by rw [o32_sub]; exact kk)) hq k
theorem V_imul {a b : Int} (hd : decode M.2.1 pc = .ok (.imul, 1)) (hq : pc + 1 = q) (k : VV d M q ls (vI (iM a b) :: st) μ r μ') : VV d M pc ls (vI b :: vI a :: st) μ r μ' :=
  V_2 (f := iM) hd (fun _ _ _ _ => rI_wI _) (fun a b _ _ p l e R s m args below meth c H locs Q ls' rest hx hb kk => lv_imul hx hb hd (by rw [o32_mul]; exact kk)) hq k
theorem V_iand {a b : Int} (hd : decode M.2.1 pc = .ok (.iand, 1)) (hq : pc + 1 = q) (k : VV d M q ls (vI (bA a b) :: st) μ r μ') : VV d M pc ls (vI b :: vI a :: st) μ r μ' :=
  V_2 (f := bA) hd (fun _ _ _ _ => rI_of _) (fun a b _ _ p l e R s m args below meth c H locs Q ls' rest hx hb kk => lv_iand hx hb hd (by rw [bA, o32_self] at kk; exact kk)) hq k
theorem V_ior {a b : Int} (hd : decode M.2.1 pc = .ok (.ior, 1)) (hq : pc + 1 = q) (k : VV d M q ls (vI (bO a b) :: st) μ r μ') : VV d M pc ls (vI b :: vI a :: st) μ r μ' :=
  V_2 (f := bO) hd (fun _ _ _ _ => rI_of _) (fun a b _ _ p l e R s m args below meth c H locs Q ls' rest hx hb kk => lv_ior hx hb hd (by rw [bO, o32_self] at kk; exact kk)) hq k
theorem V_ixor {a b : Int} (hd : decode M.2.1 pc = .ok (.ixor, 1)) (hq : pc + 1 = q) (k : VV d M q ls (vI (bX a b) :: st) μ r μ') : VV d M pc ls (vI b :: vI a :: st) μ r μ' :=
  V_2 (f := bX) hd (fun _ _ _ _ => rI_of _) (fun a b _ _ p l e R s m args below meth c H locs Q ls' rest hx hb kk => lv_ixor hx hb hd (by rw [bX, o32_self] at kk; exact kk)) hq k
theorem V_ishl {a b : Int} (hd : decode M.2.1 pc = .ok (.ishl, 1)) (hq : pc + 1 = q) (k : VV d M q ls (vI (bL a b) :: st) μ r μ') : VV d M pc ls (vI b :: vI a :: st) μ r μ' :=
  V_2 (f := bL) hd (fun _ _ _ _ => rI_of _) (fun a b _ _ p l e R s m args below meth c H locs Q ls' rest hx hb kk => lv_ishl hx hb hd (by rw [bL, o32_self] at kk; exact kk)) hq k
theorem V_ishr {a b : Int} (hd : decode M.2.1 pc = .ok (.ishr, 1)) (hq : pc + 1 = q) (k : VV d M q ls (vI (bR a b) :: st) μ r μ') : VV d M pc ls (vI b :: vI a :: st) μ r μ' :=
  V_2 (f := bR) hd (fun _ _ _ _ => rI_of _) (fun a b _ _ p l e R s m args below meth c H locs Q ls' rest hx hb kk => lv_ishr hx hb hd (by rw [bR, o32_self] at kk; exact kk)) hq k
theorem V_iushr {a b : Int} (hd : decode M.2.1 pc = .ok (.iushr, 1)) (hq : pc + 1 = q) (k : VV d M q ls (vI (bU a b) :: st) μ r μ') : VV d M pc ls (vI b :: vI a :: st) μ r μ' :=
  V_2 (f := bU) hd (fun _ _ _ _ => rI_of _) (fun a b _ _ p l e R s m args below meth c H locs Q ls' rest hx hb kk => lv_iushr hx hb hd (o32_self _).symm kk) hq k
theorem V_idiv {a b : Int} (hd : decode M.2.1 pc = .ok (.idiv, 1)) (hb0 : b ≠ 0) (hq : pc + 1 = q) (k : VV d M q ls (vI (iD a b) :: st) μ r μ') : VV d M pc ls (vI b :: vI a :: st) μ r μ' := by
  subst hq
  refine VV_pure (st2 := vI (iD a b) :: st) (fun h => ok_c (rI_wI _) (ok_t (ok_t h))) (fun p l e R s m args below meth c H locs Q ad ls' hx hb h kk => ?_) k
  have ha : rI a := ok_h (ok_t h)
  have hb1 : rI b := ok_h h
  exact lv_idiv hx hb hd (fun z => hb0 ((o32_eq hb1 rI_0).mp z)) (by rw [o32_div ha hb1]; exact kk)
theorem V_irem {a b : Int} (hd : decode M.2.1 pc = .ok (.irem, 1)) (hb0 : b ≠ 0) (hq : pc + 1 = q) (k : VV d M q ls (vI (iR a b) :: st) μ r μ') : VV d M pc ls (vI b :: vI a :: st) μ r μ' := by
  subst hq
  refine VV_pure (st2 := vI (iR a b) :: st) (fun h => ok_c (rI_wI _) (ok_t (ok_t h))) (fun p l e R s m args below meth c H locs Q ad ls' hx hb h kk => ?_) k
  have ha : rI a := ok_h (ok_t h)
  have hb1 : rI b := ok_h h
  exact lv_irem hx hb hd (fun z => hb0 ((o32_eq hb1 rI_0).mp z)) (by rw [o32_rem ha hb1]; exact kk)
theorem V_ladd {a b : Int} (hd : decode M.2.1 pc = .ok (.ladd, 1)) (hq : pc + 1 = q) (k : VV d M q ls (vL (lA a b) :: st) μ r μ') : VV d M pc ls (vL b :: vL a :: st) μ r μ' := by
  subst hq
  refine VV_pure (st2 := vL (lA a b) :: st) (fun h => ok_c (rL_wL _) (ok_t (ok_t h))) (fun p l e R s m args below meth c H locs Q ad ls' hx hb h kk => ?_) k
  exact lv_ladd hx hb hd (by rw [o64_add]; exact kk)
theorem V_lsub {a b : Int} (hd : decode M.2.1 pc = .ok (.lsub, 1)) (hq : pc + 1 = q) (k : VV d M q ls (vL (lS a b) :: st) μ r μ') : VV d M pc ls (vL b :: vL a :: st) μ r μ' := by
  subst hq
  refine VV_pure (st2 := vL (lS a b) :: st) (fun h => ok_c (rL_wL _) (ok_t (ok_t h))) (fun p l e R s m args below meth c H locs Q ad ls' hx hb h kk => ?_) k
  exact lv_lsub hx hb hd (by rw [o64_sub]; exact kk)
theorem V_lmul {a b : Int} (hd : decode M.2.1 pc = .ok (.lmul, 1)) (hq : pc + 1 = q) (k : VV d M q ls (vL (lM a b) :: st) μ r μ') : VV d M pc ls (vL b :: vL a :: st) μ r μ' := by
  subst hq
  refine VV_pure (st2 := vL (lM a b) :: st) (fun h => ok_c (rL_wL _) (ok_t (ok_t h))) (fun p l e R s m args below meth c H locs Q ad ls' hx hb h kk => ?_) k
  exact lv_lmul hx hb hd (by rw [o64_mul]; exact kk)
theorem V_ldiv {a b : Int} (hd : decode M.2.1 pc = .ok (.ldiv, 1)) (hb0 : b ≠ 0) (hq : pc + 1 = q) (k : VV d M q ls (vL (lD a b) :: st) μ r μ') : VV d M pc ls (vL b :: vL a :: st) μ r μ' := by
  subst hq
  refine VV_pure (st2 := vL (lD a b) :: st) (fun h => ok_c (rL_wL _) (ok_t (ok_t h))) (fun p l e R s m args below meth c H locs Q ad ls' hx hb h kk => ?_) k
  have ha : rL a := ok_h (ok_t h)
  have hb1 : rL b := ok_h h
  exact lv_ldiv hx hb hd (fun z => hb0 ((o64_eq hb1 (rI_rL rI_0)).mp z)) (by rw [o64_div ha hb1]; exact kk)
theorem V_lcmp {a b : Int} (hd : decode M.2.1 pc = .ok (.lcmp, 1)) (hq : pc + 1 = q) (k : VV d M q ls (vI (lC a b) :: st) μ r μ') : VV d M pc ls (vL b :: vL a :: st) μ r μ' := by
  subst hq
  refine VV_pure (st2 := vI (lC a b) :: st) (fun h => ok_c (by simp only [oV, rI, lC]; split <;> (try split) <;> omega) (ok_t (ok_t h))) (fun p l e R s m args below meth c H locs Q ad ls' hx hb h kk => ?_) k
  exact W.lcmp hx hb hd (by rw [o32_lcmp (ok_h (ok_t h)) (ok_h h)]; exact kk)
theorem V_i2l {a : Int} (hd : decode M.2.1 pc = .ok (.i2l, 1)) (hq : pc + 1 = q) (k : VV d M q ls (vL a :: st) μ r μ') : VV d M pc ls (vI a :: st) μ r μ' := by
  subst hq
  refine VV_pure (st2 := vL a :: st) (fun h => ok_c (rI_rL (ok_h h)) (ok_t h)) (fun p l e R s m args below meth c H locs Q ad ls' hx hb h kk => ?_) k
  exact lv_i2l hx hb hd (o32_i2l (ok_h h)) kk
theorem V_l2i {a : Int} (hd : decode M.2.1 pc = .ok (.l2i, 1)) (hq : pc + 1 = q) (k : VV d M q ls (vI (wI a) :: st) μ r μ') : VV d M pc ls (vL a :: st) μ r μ' := by
  subst hq
  refine VV_pure (st2 := vI (wI a) :: st) (fun h => ok_c (rI_wI _) (ok_t h)) (fun p l e R s m args below meth c H locs Q ad ls' hx hb h kk => ?_) k
  exact lv_l2i hx hb hd (o64_l2i a) kk
def c1 : AV → Prop
  | .inr (.inl _) => False
  | _ => True
theorem c1_cat {v : AV} (h : c1 v) (ad : Nat → Nat) : (cV ad v).category = 1 := by
  match v, h with
  | .inl _, _ => rfl
  | .inr (.inr (some _)), _ => rfl
  | .inr (.inr none), _ => rfl
theorem V_dup {v : AV} (hd : decode M.2.1 pc = .ok (.dup, 1)) (hv : c1 v) (hq : pc + 1 = q) (k : VV d M q ls (v :: v :: st) μ r μ') : VV d M pc ls (v :: st) μ r μ' := by
  subst hq
  refine VV_pure (fun h => ok_c (ok_h h) h) (fun p l e R s m args below meth c H locs Q ad ls' hx hb h kk => ?_) k
  exact lv_dup hx hb hd (c1_cat hv ad) kk
theorem V_pop {v : AV} (hd : decode M.2.1 pc = .ok (.pop, 1)) (hv : c1 v) (hq : pc + 1 = q) (k : VV d M q ls st μ r μ') : VV d M pc ls (v :: st) μ r μ' := by
  subst hq
  refine VV_pure (st2 := st) (fun h => ok_t h) (fun p l e R s m args below meth c H locs Q ad ls' hx hb h kk => ?_) k
  exact lv_pop hx hb hd (c1_cat hv ad) kk
theorem V_dup2 {v w : AV} (hd : decode M.2.1 pc = .ok (.dup2, 1)) (hv : c1 v) (hw : c1 w) (hq : pc + 1 = q) (k : VV d M q ls (v :: w :: v :: w :: st) μ r μ') : VV d M pc ls (v :: w :: st) μ r μ' := by
  subst hq
  refine VV_pure (fun h => ok_c (ok_h h) (ok_c (ok_h (ok_t h)) h)) (fun p l e R s m args below meth c H locs Q ad ls' hx hb h kk => ?_) k
  exact lv_dup2_11 hx hb hd (c1_cat hv ad) (c1_cat hw ad) kk
theorem V_null (hd : decode M.2.1 pc = .ok (.aconst_null, 1)) (hq : pc + 1 = q) (k : VV d M q ls (vN :: st) μ r μ') : VV d M pc ls st μ r μ' := by
  subst hq
  refine VV_pure (st2 := vN :: st) (fun h => ok_c trivial h) (fun p l e R s m args below meth c H locs Q ad ls' hx hb h kk => ?_) k
  exact lv_null hx hb hd kk
theorem V_goto {off : Int} (hd : decode M.2.1 pc = .ok (.goto off, 3)) (ht : (pc : Int) + off = (q : Int)) (k : VV d M q ls st μ r μ') : VV d M pc ls st μ r μ' :=
  VV_pure (fun h => h) (fun p l e R s m args below meth c H locs Q ad ls' hx hb h kk => lv_goto hx hb hd ht kk) k
theorem V_ldc {i : Nat} {n : Int} (hd : decode M.2.1 pc = .ok (.ldc i, 2)) (hr : rI n) (hw : Cond.constant M.1.cls i (Int32.ofInt n) ∈ tG) (hq : pc + 2 = q) (k : VV d M q ls (vI n :: st) μ r μ') : VV d M pc ls st μ r μ' := by
  subst hq
  intro p l e s m args below meth c H locs dC dI D ad ls' C hH hS hn hl hs
  obtain ⟨hx, hb, hml, hrt, hown, hts, hlk, hK, hP, hN⟩ := id C
  exact lv_ldc hx hb hown (hts _ hw) hd (k p l e s m args below meth c H locs dC dI D ad ls' C hH hS hn hl (ok_c hr hs))
theorem V_ldcw {i : Nat} {n : Int} (hd : decode M.2.1 pc = .ok (.ldc_w i, 3)) (hr : rI n) (hw : Cond.constant M.1.cls i (Int32.ofInt n) ∈ tG) (hq : pc + 3 = q) (k : VV d M q ls (vI n :: st) μ r μ') : VV d M pc ls st μ r μ' := by
  subst hq
  intro p l e s m args below meth c H locs dC dI D ad ls' C hH hS hn hl hs
  obtain ⟨hx, hb, hml, hrt, hown, hts, hlk, hK, hP, hN⟩ := id C
  exact lv_ldcw hx hb hown (hts _ hw) hd (k p l e s m args below meth c H locs dC dI D ad ls' C hH hS hn hl (ok_c hr hs))
theorem V_ldc2 {i : Nat} {n : Int} (hd : decode M.2.1 pc = .ok (.ldc2_w i, 3)) (hr : rL n) (hw : Cond.constantLong M.1.cls i (Int64.ofInt n) ∈ tG) (hq : pc + 3 = q) (k : VV d M q ls (vL n :: st) μ r μ') : VV d M pc ls st μ r μ' := by
  subst hq
  intro p l e s m args below meth c H locs dC dI D ad ls' C hH hS hn hl hs
  obtain ⟨hx, hb, hml, hrt, hown, hts, hlk, hK, hP, hN⟩ := id C
  exact lv_ldc2 hx hb hown (hts _ hw) hd (k p l e s m args below meth c H locs dC dI D ad ls' C hH hS hn hl (ok_c hr hs))
/-! branches -/
theorem V_br {st2 : List AV} {P : Prop} {q2 : Nat} (hok : (∀ v ∈ st, oV v) → ∀ v ∈ st2, oV v)
    (k0 : ∀ (p : Program) (l : Launch) (e : Env) (R : Room) (s : State) (m : MethodId) (args : Array Value) (below : List Frame) (meth : Method) (c : Code) (H : Heap) (locs : List Loc) (Q : State → Prop) (ad : Nat → Nat) (ls' : Array Slot), p.tables.exec = Jvm.exec → c.code = M.2.1 → (∀ v ∈ st, oV v) →
      (P → W p l e R s m args below meth c H locs 0 0 Q (F0 m q ls' (st2.map (cV ad)))) → (¬ P → W p l e R s m args below meth c H locs 0 0 Q (F0 m q2 ls' (st2.map (cV ad)))) → W p l e R s m args below meth c H locs 0 0 Q (F0 m pc ls' (st.map (cV ad))))
    (kt : P → VV d M q ls st2 μ r μ') (kf : ¬ P → VV d M q2 ls st2 μ r μ') : VV d M pc ls st μ r μ' := by
  intro p l e s m args below meth c H locs dC dI D ad ls' C hH hS hn hl hs
  exact k0 _ _ _ _ _ _ _ _ _ _ _ _ _ _ _ C.1 C.2.1 hs (fun h => kt h p l e s m args below meth c H locs dC dI D ad ls' C hH hS hn hl (hok hs)) (fun h => kf h p l e s m args below meth c H locs dC dI D ad ls' C hH hS hn hl (hok hs))
theorem V_ifeq {a : Int} {off : Int} (hd : decode M.2.1 pc = .ok (.ifCond .eq off, 3)) (ht : (pc : Int) + off = (q : Int)) {q2 : Nat} (hq : pc + 3 = q2) (kt : a = 0 → VV d M q ls st μ r μ') (kf : ¬ a = 0 → VV d M q2 ls st μ r μ') : VV d M pc ls (vI a :: st) μ r μ' := by
  subst hq
  refine V_br (st2 := st) (fun h => ok_t h) (fun p l e R s m args below meth c H locs Q ad ls' hx hb h k1 k2 => ?_) kt kf
  exact lv_if_eq hx hb hd ht (fun z => k1 ((o32_eq (ok_h h) rI_0).mp z)) (fun z => k2 (fun w => z ((o32_eq (ok_h h) rI_0).mpr w)))
theorem V_ifne {a : Int} {off : Int} (hd : decode M.2.1 pc = .ok (.ifCond .ne off, 3)) (ht : (pc : Int) + off = (q : Int)) {q2 : Nat} (hq : pc + 3 = q2) (kt : ¬ a = 0 → VV d M q ls st μ r μ') (kf : a = 0 → VV d M q2 ls st μ r μ') : VV d M pc ls (vI a :: st) μ r μ' := by
  subst hq
  refine V_br (st2 := st) (fun h => ok_t h) (fun p l e R s m args below meth c H locs Q ad ls' hx hb h k1 k2 => ?_) kf kt
  exact lv_if_ne hx hb hd ht (fun z => k2 (fun w => z ((o32_eq (ok_h h) rI_0).mpr w))) (fun z => k1 ((o32_eq (ok_h h) rI_0).mp z))
theorem V_iflt {a : Int} {off : Int} (hd : decode M.2.1 pc = .ok (.ifCond .lt off, 3)) (ht : (pc : Int) + off = (q : Int)) {q2 : Nat} (hq : pc + 3 = q2) (kt : a < 0 → VV d M q ls st μ r μ') (kf : ¬ a < 0 → VV d M q2 ls st μ r μ') : VV d M pc ls (vI a :: st) μ r μ' := by
  subst hq
  refine V_br (st2 := st) (fun h => ok_t h) (fun p l e R s m args below meth c H locs Q ad ls' hx hb h k1 k2 => ?_) kt kf
  exact lv_if_lt hx hb hd ht (fun z => k1 ((o32_lt (ok_h h) rI_0).mp z)) (fun z => k2 (fun w => z ((o32_lt (ok_h h) rI_0).mpr w)))
theorem V_ifge {a : Int} {off : Int} (hd : decode M.2.1 pc = .ok (.ifCond .ge off, 3)) (ht : (pc : Int) + off = (q : Int)) {q2 : Nat} (hq : pc + 3 = q2) (kt : 0 ≤ a → VV d M q ls st μ r μ') (kf : ¬ 0 ≤ a → VV d M q2 ls st μ r μ') : VV d M pc ls (vI a :: st) μ r μ' := by
  subst hq
  refine V_br (st2 := st) (fun h => ok_t h) (fun p l e R s m args below meth c H locs Q ad ls' hx hb h k1 k2 => ?_) kt kf
  exact lv_if_ge hx hb hd ht (fun z => k1 ((o32_le rI_0 (ok_h h)).mp z)) (fun z => k2 (fun w => z ((o32_le rI_0 (ok_h h)).mpr w)))
theorem V_ifgt {a : Int} {off : Int} (hd : decode M.2.1 pc = .ok (.ifCond .gt off, 3)) (ht : (pc : Int) + off = (q : Int)) {q2 : Nat} (hq : pc + 3 = q2) (kt : 0 < a → VV d M q ls st μ r μ') (kf : ¬ 0 < a → VV d M q2 ls st μ r μ') : VV d M pc ls (vI a :: st) μ r μ' := by
  subst hq
  refine V_br (st2 := st) (fun h => ok_t h) (fun p l e R s m args below meth c H locs Q ad ls' hx hb h k1 k2 => ?_) kt kf
  exact lv_if_gt hx hb hd ht (fun z => k1 ((o32_lt rI_0 (ok_h h)).mp z)) (fun z => k2 (fun w => z ((o32_lt rI_0 (ok_h h)).mpr w)))
theorem V_ifle {a : Int} {off : Int} (hd : decode M.2.1 pc = .ok (.ifCond .le off, 3)) (ht : (pc : Int) + off = (q : Int)) {q2 : Nat} (hq : pc + 3 = q2) (kt : a ≤ 0 → VV d M q ls st μ r μ') (kf : ¬ a ≤ 0 → VV d M q2 ls st μ r μ') : VV d M pc ls (vI a :: st) μ r μ' := by
  subst hq
  refine V_br (st2 := st) (fun h => ok_t h) (fun p l e R s m args below meth c H locs Q ad ls' hx hb h k1 k2 => ?_) kt kf
  exact lv_if_le hx hb hd ht (fun z => k1 ((o32_le (ok_h h) rI_0).mp z)) (fun z => k2 (fun w => z ((o32_le (ok_h h) rI_0).mpr w)))
theorem V_icmpeq {a b : Int} {off : Int} (hd : decode M.2.1 pc = .ok (.if_icmp .eq off, 3)) (ht : (pc : Int) + off = (q : Int)) {q2 : Nat} (hq : pc + 3 = q2) (kt : a = b → VV d M q ls st μ r μ') (kf : ¬ a = b → VV d M q2 ls st μ r μ') : VV d M pc ls (vI b :: vI a :: st) μ r μ' := by
  subst hq
  refine V_br (st2 := st) (fun h => ok_t (ok_t h)) (fun p l e R s m args below meth c H locs Q ad ls' hx hb h k1 k2 => ?_) kt kf
  exact lv_icmp_eq hx hb hd ht (fun z => k1 ((o32_eq (ok_h (ok_t h)) (ok_h h)).mp z)) (fun z => k2 (fun w => z ((o32_eq (ok_h (ok_t h)) (ok_h h)).mpr w)))
theorem V_icmpne {a b : Int} {off : Int} (hd : decode M.2.1 pc = .ok (.if_icmp .ne off, 3)) (ht : (pc : Int) + off = (q : Int)) {q2 : Nat} (hq : pc + 3 = q2) (kt : ¬ a = b → VV d M q ls st μ r μ') (kf : a = b → VV d M q2 ls st μ r μ') : VV d M pc ls (vI b :: vI a :: st) μ r μ' := by
  subst hq
  refine V_br (st2 := st) (fun h => ok_t (ok_t h)) (fun p l e R s m args below meth c H locs Q ad ls' hx hb h k1 k2 => ?_) kf kt
  exact lv_icmp_ne hx hb hd ht (fun z => k2 (fun w => z ((o32_eq (ok_h (ok_t h)) (ok_h h)).mpr w))) (fun z => k1 ((o32_eq (ok_h (ok_t h)) (ok_h h)).mp z))
theorem V_icmplt {a b : Int} {off : Int} (hd : decode M.2.1 pc = .ok (.if_icmp .lt off, 3)) (ht : (pc : Int) + off = (q : Int)) {q2 : Nat} (hq : pc + 3 = q2) (kt : a < b → VV d M q ls st μ r μ') (kf : ¬ a < b → VV d M q2 ls st μ r μ') : VV d M pc ls (vI b :: vI a :: st) μ r μ' := by
  subst hq
  refine V_br (st2 := st) (fun h => ok_t (ok_t h)) (fun p l e R s m args below meth c H locs Q ad ls' hx hb h k1 k2 => ?_) kt kf
  exact lv_icmp_lt hx hb hd ht (fun z => k1 ((o32_lt (ok_h (ok_t h)) (ok_h h)).mp z)) (fun z => k2 (fun w => z ((o32_lt (ok_h (ok_t h)) (ok_h h)).mpr w)))
theorem V_icmpge {a b : Int} {off : Int} (hd : decode M.2.1 pc = .ok (.if_icmp .ge off, 3)) (ht : (pc : Int) + off = (q : Int)) {q2 : Nat} (hq : pc + 3 = q2) (kt : b ≤ a → VV d M q ls st μ r μ') (kf : ¬ b ≤ a → VV d M q2 ls st μ r μ') : VV d M pc ls (vI b :: vI a :: st) μ r μ' := by
  subst hq
  refine V_br (st2 := st) (fun h => ok_t (ok_t h)) (fun p l e R s m args below meth c H locs Q ad ls' hx hb h k1 k2 => ?_) kt kf
  exact lv_icmp_ge hx hb hd ht (fun z => k1 ((o32_le (ok_h h) (ok_h (ok_t h))).mp z)) (fun z => k2 (fun w => z ((o32_le (ok_h h) (ok_h (ok_t h))).mpr w)))
theorem V_icmpgt {a b : Int} {off : Int} (hd : decode M.2.1 pc = .ok (.if_icmp .gt off, 3)) (ht : (pc : Int) + off = (q : Int)) {q2 : Nat} (hq : pc + 3 = q2) (kt : b < a → VV d M q ls st μ r μ') (kf : ¬ b < a → VV d M q2 ls st μ r μ') : VV d M pc ls (vI b :: vI a :: st) μ r μ' := by
  subst hq
  refine V_br (st2 := st) (fun h => ok_t (ok_t h)) (fun p l e R s m args below meth c H locs Q ad ls' hx hb h k1 k2 => ?_) kt kf
  exact lv_icmp_gt hx hb hd ht (fun z => k1 ((o32_lt (ok_h h) (ok_h (ok_t h))).mp z)) (fun z => k2 (fun w => z ((o32_lt (ok_h h) (ok_h (ok_t h))).mpr w)))
theorem V_icmple {a b : Int} {off : Int} (hd : decode M.2.1 pc = .ok (.if_icmp .le off, 3)) (ht : (pc : Int) + off = (q : Int)) {q2 : Nat} (hq : pc + 3 = q2) (kt : a ≤ b → VV d M q ls st μ r μ') (kf : ¬ a ≤ b → VV d M q2 ls st μ r μ') : VV d M pc ls (vI b :: vI a :: st) μ r μ' := by
  subst hq
  refine V_br (st2 := st) (fun h => ok_t (ok_t h)) (fun p l e R s m args below meth c H locs Q ad ls' hx hb h k1 k2 => ?_) kt kf
  exact lv_icmp_le hx hb hd ht (fun z => k1 ((o32_le (ok_h (ok_t h)) (ok_h h)).mp z)) (fun z => k2 (fun w => z ((o32_le (ok_h (ok_t h)) (ok_h h)).mpr w)))
end VR
