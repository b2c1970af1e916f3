/-! CONSTRUCTORS: a world that grows, its cells at base, base + 1, ..; a reference in the memory is 0 (null) or its cell's number and 1 -/
def tt : Nat → Nat
  | 0 => 0
  | n + 1 => tt n + aN n
theorem tt_mono {a b : Nat} (h : a ≤ b) : tt a ≤ tt b := by
  induction b with
  | zero => rw [Nat.le_zero.mp h]; exact Nat.le_refl _
  | succ b ih =>
    rcases Nat.lt_or_ge b a with q | q
    · rw [show a = b + 1 by omega]; exact Nat.le_refl _
    · exact Nat.le_trans (ih q) (Nat.le_add_right _ _)
def gV (μ : Mm) (k j : Nat) : AV := match rF ((kD k).1 - 10) j with
  | (0, _) => vI (μ k j)
  | _ => vC (μ k j - 1)
def eD (D : ClassId × ClassId × ClassId) (ad : Nat → Nat) (μ : Mm) (k : Nat) : va_E := match kD k with
  | (0, n) => .inl (D.1, n, .inl (fun j => Int32.ofInt (μ k j)))
  | (1, n) => .inl (D.2.1, n, .inr (.inr (.inr (.inr (fun j => if μ k j = 0 then none else some (ad (μ k j - 1).toNat))))))
  | (2, n) => .inl (D.2.2, n, .inr (.inr (.inr (.inr (fun j => if μ k j = 0 then none else some (ad (μ k j - 1).toNat))))))
  | (c, n) => .inr (c - 10, (List.range n).map (fun j => cV ad (gV μ k j)))
def wN (D : ClassId × ClassId × ClassId) (ad : Nat → Nat) (μ : Mm) (n : Nat) : va_W := (List.range n).map (fun k => (ad k, eD D ad μ k))
abbrev bs (base : Nat) : Nat → Nat := fun k => base + k
def hN (dC : Nat → ClassId) (dI : Nat → Nat → Nat) (D : ClassId × ClassId × ClassId) (base : Nat) (μ : Mm) (n : Nat) (H : Heap) : Prop := va_P (dC, dI) vwCl (wN D (bs base) μ n) H ∧ oM μ ∧ H.size = base + n ∧ ∀ k, n ≤ k → ∀ j, μ k j = 0
def rmN (d c s : Nat) : Room := { frames := d, cells := c, slots := s, locals := 100 * d }
def qN (dC : Nat → ClassId) (dI : Nat → Nat → Nat) (D : ClassId × ClassId × ClassId) (base n : Nat) (μ : Mm) : Array Value → State → Outcome → State → Prop :=
  fun _ st oc t => (oc = .returned none ∧ hN dC dI D base μ n t.heap) ∧ va_F (fun q => base ≤ q) st t
def aO (s : State) : Prop := va_AO RX3 s ∧ va_AO RX7 s
def pN (dC : Nat → ClassId) (dI : Nat → Nat → Nat) (D : ClassId × ClassId × ClassId) (base n : Nat) (av : List AV) (μ : Mm) : Array Value → State → Prop :=
  va_Pc (av.map (cV (bs base))) (fun U => hN dC dI D base μ n U.heap ∧ va_K (dC, dI) vwCl (tyS D) U ∧ nS U ∧ aO U ∧ (∀ v ∈ av, oV v))
def CN (d : Nat) (M : Mth) (av : List AV) (n : Nat) (μ : Mm) (n1 : Nat) (μ1 : Mm) : Prop :=
  ∀ (l : Launch) (dC : Nat → ClassId) (dI : Nat → Nat → Nat) (D : ClassId × ClassId × ClassId) (base : Nat),
    Met l M.1 (wM M) (rmN d (n1 - n) (tt n1 - tt n)) (pN dC dI D base n av μ) (qN dC dI D base n1 μ1) (n1 - n) (tt n1 - tt n) (fun q => base ≤ q)
def Cy (M : Mth) (p : Program) (s : State) (m : MethodId) (args : Array Value) (meth : Method) (c : Code) (dC : Nat → ClassId) (dI : Nat → Nat → Nat) (D : ClassId × ClassId × ClassId) : Prop :=
  p.tables.exec = Jvm.exec ∧ c.code = M.2.1 ∧ c.maxLocals = M.2.2.1 ∧ meth.sig.returnType = M.2.2.2 ∧ s.vm.findClass M.1.cls = some m.cls ∧ (∀ w ∈ tG, w.before args s = true) ∧ meth.locks = false ∧ va_K (dC, dI) vwCl (tyS D) s ∧ nS s ∧ aO s ∧ meth.name = M.1.name
def NN (d : Nat) (M : Mth) (n0 pc : Nat) (ls : List (Option AV)) (st : List AV) (n : Nat) (μ : Mm) (n1 : Nat) (μ1 : Mm) : Prop :=
  ∀ (p : Program) (l : Launch) (e : Env) (s : State) (m : MethodId) (args : Array Value) (below : List Frame) (meth : Method) (c : Code) (H : Heap) (locs : List Loc) (dC : Nat → ClassId) (dI : Nat → Nat → Nat) (D : ClassId × ClassId × ClassId) (base : Nat) (ls' : Array Slot),
    Cy M p s m args meth c dC dI D → s.heap.size = base + n0 → hN dC dI D base μ n H → va_S (fun q => base ≤ q) s.heap H locs → ls.length = M.2.2.1 → lR (bs base) ls ls' → (∀ v ∈ st, oV v) →
      W p l e (rmN d (n1 - n0) (tt n1 - tt n0)) s m args below meth c H locs (n - n0) (tt n - tt n0) (MQ below (qN dC dI D base n1 μ1) args s (n1 - n0) (tt n1 - tt n0) (fun q => base ≤ q)) (F0 m pc ls' (st.map (cV (bs base))))
theorem wN_len (D : ClassId × ClassId × ClassId) (ad : Nat → Nat) (μ : Mm) (n : Nat) : (wN D ad μ n).length = n := by simp [wN]
theorem wN_at (D : ClassId × ClassId × ClassId) (ad : Nat → Nat) (μ : Mm) {n k : Nat} (h : k < n) : (wN D ad μ n)[k]? = some (ad k, eD D ad μ k) := by simp [wN, h]
theorem wN_get {D : ClassId × ClassId × ClassId} {ad : Nat → Nat} {μ : Mm} {n k : Nat} {q : Nat × va_E} (h : (wN D ad μ n)[k]? = some q) : k < n ∧ q = (ad k, eD D ad μ k) := by
  have hl := (List.getElem?_eq_some_iff.mp h).1
  rw [wN_len] at hl
  rw [wN_at D ad μ hl] at h
  exact ⟨hl, (Option.some.inj h).symm⟩
theorem wN_set {D : ClassId × ClassId × ClassId} {ad : Nat → Nat} {μ μ' : Mm} {n k : Nat} {e : va_E} (hk : k < n) (he : eD D ad μ' k = e) (ho : ∀ j, j ≠ k → eD D ad μ' j = eD D ad μ j) : (wN D ad μ n).set k (ad k, e) = wN D ad μ' n := by
  apply List.ext_getElem?
  intro i
  by_cases hi : i < n
  · rw [wN_at D ad μ' hi]
    by_cases hik : i = k
    · subst hik
      rw [List.getElem?_set_self (by rw [wN_len]; exact hi), he]
    · rw [List.getElem?_set_ne (Ne.symm hik), wN_at D ad μ hi, ho i hik]
  · rw [List.getElem?_eq_none (by rw [List.length_set, wN_len]; omega), List.getElem?_eq_none (by rw [wN_len]; omega)]
theorem wN_succ (D : ClassId × ClassId × ClassId) (ad : Nat → Nat) (μ : Mm) (n : Nat) : wN D ad μ (n + 1) = wN D ad μ n ++ [(ad n, eD D ad μ n)] := by
  simp [wN, List.range_succ]
theorem eD_congr {D : ClassId × ClassId × ClassId} {ad : Nat → Nat} {μ μ' : Mm} {k : Nat} (h : μ' k = μ k) : eD D ad μ' k = eD D ad μ k := by
  unfold eD gV
  rw [h]
theorem eD_o {D : ClassId × ClassId × ClassId} {ad : Nat → Nat} {μ : Mm} {k ci n : Nat} (hk : kD k = (ci + 10, n)) : eD D ad μ k = .inr (ci, (List.range n).map (fun j => cV ad (gV μ k j))) := by
  unfold eD; rw [hk]; rfl
theorem eD_i {D : ClassId × ClassId × ClassId} {ad : Nat → Nat} {μ : Mm} {k n : Nat} (hk : kD k = (0, n)) : eD D ad μ k = .inl (D.1, n, .inl (fun j => Int32.ofInt (μ k j))) := by
  unfold eD; rw [hk]; rfl
theorem gV_I {μ : Mm} {k ci n j x : Nat} (hk : kD k = (ci + 10, n)) (hf : rF ci j = (0, x)) : gV μ k j = vI (μ k j) := by
  unfold gV; rw [hk]; simp only [Nat.add_sub_cancel]; rw [hf]; rfl
theorem gV_R {μ : Mm} {k ci n j x y : Nat} (hk : kD k = (ci + 10, n)) (hf : rF ci j = (x + 1, y)) : gV μ k j = vC (μ k j - 1) := by
  unfold gV; rw [hk]; simp only [Nat.add_sub_cancel]; rw [hf]; rfl
theorem wN_D {D : ClassId × ClassId × ClassId} {base : Nat} {μ : Mm} {n : Nat} : va_D (fun q => base ≤ q) (wN D (bs base) μ n) := by
  refine ⟨fun i j p q hi hj hpq => ?_, fun k q hk => ?_⟩
  · obtain ⟨h1, rfl⟩ := wN_get hi
    obtain ⟨h2, rfl⟩ := wN_get hj
    simp only [bs] at hpq
    omega
  · obtain ⟨h1, rfl⟩ := wN_get hk
    simp only [bs]
    omega
theorem hN_push {dC : Nat → ClassId} {dI : Nat → Nat → Nat} {D : ClassId × ClassId × ClassId} {base n : Nat} {μ : Mm} {H H1 : Heap} (h : hN dC dI D base μ n H) (z1 : H1.size = H.size + 1) (o1 : ∀ q, q < H.size → H1[q]? = H[q]?) (hc : va_at (dC, dI) vwCl (base + n, eD D (bs base) μ n) H1) : hN dC dI D base μ (n + 1) H1 := by
  obtain ⟨h1, h2, h3, h4⟩ := h
  refine ⟨?_, h2, by rw [z1, h3]; omega, fun k hk => h4 k (by omega)⟩
  rw [wN_succ]
  refine (h1.kept (fun k q hk => o1 _ (h1 k q hk).lt)).app (fun k q hk => ?_)
  have hz : k < 1 := (List.getElem?_eq_some_iff.mp hk).1
  rw [show k = 0 by omega] at hk
  cases hk
  exact hc
theorem vS_push {A : Nat → Prop} {H0 H H1 : Heap} {locs : List Loc} (hS : va_S A H0 H locs) (z1 : H1.size = H.size + 1) (o1 : ∀ q, q < H.size → H1[q]? = H[q]?) : va_S A H0 H1 locs :=
  ⟨Nat.le_trans hS.1 (by omega), fun x h1 h2 => (o1 x (Nat.lt_of_lt_of_le h1 hS.1)).trans (hS.2.1 x h1 h2), hS.2.2⟩
theorem nn_nat {N : Nat} (h : N < 100000) : ¬ Int32.ofInt (N : Int) < 0 ∧ (Int32.ofInt (N : Int)).toNatClampNeg = N := by
  have hr : rI (N : Int) := by unfold rI; omega
  refine ⟨fun q => ?_, by rw [o32_nat hr (by omega)]; simp⟩
  rw [o32_0, o32_lt hr (by unfold rI; omega)] at q
  omega
section NR
variable {d : Nat} {M : Mth} {n0 pc q : Nat} {ls : List (Option AV)} {st : List AV} {n : Nat} {μ : Mm} {n1 : Nat} {μ1 : Mm}
theorem NN_pure {st2 : List AV} (hok : (∀ v ∈ st, oV v) → ∀ v ∈ st2, oV v)
    (k0 : ∀ (p : Program) (l : Launch) (e : Env) (R : Room) (s : State) (m : MethodId) (args : Array Value) (below : List Frame) (meth : Method) (c : Code) (H : Heap) (locs : List Loc) (k n : Nat) (Q : State → Prop) (ad : Nat → Nat) (ls' : Array Slot), p.tables.exec = Jvm.exec → c.code = M.2.1 → (∀ v ∈ st, oV v) →
      W p l e R s m args below meth c H locs k n Q (F0 m q ls' (st2.map (cV ad))) → W p l e R s m args below meth c H locs k n Q (F0 m pc ls' (st.map (cV ad))))
    (kk : NN d M n0 q ls st2 n μ n1 μ1) : NN d M n0 pc ls st n μ n1 μ1 := by
  intro p l e s m args below meth c H locs dC dI D base ls' C hb hH hS hn hl hs
  exact k0 _ _ _ _ _ _ _ _ _ _ _ _ _ _ _ _ _ C.1 C.2.1 hs (kk p l e s m args below meth c H locs dC dI D base ls' C hb hH hS hn hl (hok hs))
theorem N_iconst {z : Int} (hd : decode M.2.1 pc = .ok (.iconst z, 1)) (hr : (decide (-2147483648 ≤ z) && decide (z ≤ 2147483647)) = true) (hq : pc + 1 = q) (kk : NN d M n0 q ls (vI z :: st) n μ n1 μ1) : NN d M n0 pc ls st n μ n1 μ1 := by
  subst hq
  refine NN_pure (st2 := vI z :: st) (fun h => ok_c (by simpa [oV, rI] using hr) h) (fun p l e R s m args below meth c H locs k n Q ad ls' hx hb h kk => ?_) kk
  exact lv_iconst hx hb hd rfl kk
theorem N_bipush {z : Int} (hd : decode M.2.1 pc = .ok (.bipush z, 2)) (hr : (decide (-2147483648 ≤ z) && decide (z ≤ 2147483647)) = true) (hv : (Int8.ofInt z).toInt32 = Int32.ofInt z) (hq : pc + 2 = q) (kk : NN d M n0 q ls (vI z :: st) n μ n1 μ1) : NN d M n0 pc ls st n μ n1 μ1 := by
  subst hq
  refine NN_pure (st2 := vI z :: st) (fun h => ok_c (by simpa [oV, rI] using hr) h) (fun p l e R s m args below meth c H locs k n Q ad ls' hx hb h kk => ?_) kk
  exact lv_bipush hx hb hd hv kk
theorem N_sipush {z : Int} (hd : decode M.2.1 pc = .ok (.sipush z, 3)) (hr : (decide (-2147483648 ≤ z) && decide (z ≤ 2147483647)) = true) (hv : (Int16.ofInt z).toInt32 = Int32.ofInt z) (hq : pc + 3 = q) (kk : NN d M n0 q ls (vI z :: st) n μ n1 μ1) : NN d M n0 pc ls st n μ n1 μ1 := by
  subst hq
  refine NN_pure (st2 := vI z :: st) (fun h => ok_c (by simpa [oV, rI] using hr) h) (fun p l e R s m args below meth c H locs k n Q ad ls' hx hb h kk => ?_) kk
  exact lv_sipush hx hb hd hv kk
theorem N_dup {v : AV} (hd : decode M.2.1 pc = .ok (.dup, 1)) (hv : c1 v) (hq : pc + 1 = q) (kk : NN d M n0 q ls (v :: v :: st) n μ n1 μ1) : NN d M n0 pc ls (v :: st) n μ n1 μ1 := by
  subst hq
  refine NN_pure (st2 := v :: v :: st) (fun h => ok_c (ok_h h) h) (fun p l e R s m args below meth c H locs k n Q ad ls' hx hb h kk => ?_) kk
  exact lv_dup hx hb hd (c1_cat hv ad) kk
theorem N_goto {off : Int} (hd : decode M.2.1 pc = .ok (.goto off, 3)) (ht : (pc : Int) + off = (q : Int)) (kk : NN d M n0 q ls st n μ n1 μ1) : NN d M n0 pc ls st n μ n1 μ1 :=
  NN_pure (fun h => h) (fun p l e R s m args below meth c H locs k n Q ad ls' hx hb h kk => lv_goto hx hb hd ht kk) kk
theorem N_icmpge {a b : Int} {off : Int} (hd : decode M.2.1 pc = .ok (.if_icmp .ge off, 3)) (ht : (pc : Int) + off = (q : Int)) {q2 : Nat} (hq : pc + 3 = q2) (kt : b ≤ a → NN d M n0 q ls st n μ n1 μ1) (kf : ¬ b ≤ a → NN d M n0 q2 ls st n μ n1 μ1) : NN d M n0 pc ls (vI b :: vI a :: st) n μ n1 μ1 := by
  subst hq
  intro p l e s m args below meth c H locs dC dI D base ls' C hb hH hS hn hl hs
  exact lv_icmp_ge C.1 C.2.1 hd ht (fun z => kt ((o32_le (ok_h hs) (ok_h (ok_t hs))).mp z) p l e s m args below meth c H locs dC dI D base ls' C hb hH hS hn hl (ok_t (ok_t hs))) (fun z => kf (fun w => z ((o32_le (ok_h hs) (ok_h (ok_t hs))).mpr w)) p l e s m args below meth c H locs dC dI D base ls' C hb hH hS hn hl (ok_t (ok_t hs)))
theorem NN_load {w : AV} {i : Nat} (hi : ls[i]? = some (some w))
    (k0 : ∀ (p : Program) (l : Launch) (e : Env) (R : Room) (s : State) (m : MethodId) (args : Array Value) (below : List Frame) (meth : Method) (c : Code) (H : Heap) (locs : List Loc) (k n : Nat) (Q : State → Prop) (ad : Nat → Nat) (ls' : Array Slot), p.tables.exec = Jvm.exec → c.code = M.2.1 → ls'[i]? = some (.val (cV ad w)) →
      W p l e R s m args below meth c H locs k n Q (F0 m q ls' (cV ad w :: st.map (cV ad))) → W p l e R s m args below meth c H locs k n Q (F0 m pc ls' (st.map (cV ad))))
    (kk : NN d M n0 q ls (w :: st) n μ n1 μ1) : NN d M n0 pc ls st n μ n1 μ1 := by
  intro p l e s m args below meth c H locs dC dI D base ls' C hb hH hS hn hl hs
  exact k0 _ _ _ _ _ _ _ _ _ _ _ _ _ _ _ _ _ C.1 C.2.1 (hl.2.2 i w hi).1 (kk p l e s m args below meth c H locs dC dI D base ls' C hb hH hS hn hl (ok_c (hl.2.2 i w hi).2 hs))
theorem N_iload_n {k : Fin 4} {i : Nat} {a : Int} (hd : decode M.2.1 pc = .ok (.iload_n k, 1)) (he : (k : Nat) = i) (hi : ls[i]? = some (some (vI a))) (hq : pc + 1 = q) (kk : NN d M n0 q ls (vI a :: st) n μ n1 μ1) : NN d M n0 pc ls st n μ n1 μ1 := by
  subst hq
  exact NN_load hi (fun p l e R s m args below meth c H locs k n Q ad ls' hx hb hg k2 => lv_iload_n hx hb hd he hg k2) kk
theorem N_aload_n {k : Fin 4} {i : Nat} {a : Nat} (hd : decode M.2.1 pc = .ok (.aload_n k, 1)) (he : (k : Nat) = i) (hi : ls[i]? = some (some (vR a))) (hq : pc + 1 = q) (kk : NN d M n0 q ls (vR a :: st) n μ n1 μ1) : NN d M n0 pc ls st n μ n1 μ1 := by
  subst hq
  exact NN_load hi (fun p l e R s m args below meth c H locs k n Q ad ls' hx hb hg k2 => lv_aload_n hx hb hd he hg k2) kk
theorem N_istore_n {k : Fin 4} {i : Nat} {a : Int} (hd : decode M.2.1 pc = .ok (.istore_n k, 1)) (he : (k : Nat) = i) (hi : i < M.2.2.1) (hn0 : nL_ ls i) (hq : pc + 1 = q) (kk : NN d M n0 q (ls.set i (some (vI a))) st n μ n1 μ1) : NN d M n0 pc ls (vI a :: st) n μ n1 μ1 := by
  subst hq
  intro p l e s m args below meth c H locs dC dI D base ls' C hb hH hS hn hl hs
  refine lv_istore_n C.1 C.2.1 hd he (lR_has hl) (by rw [hn]; exact hi) rfl (fun ls2 h2 => ?_)
  exact kk p l e s m args below meth c H locs dC dI D base ls2 C hb hH hS (by rw [List.length_set]; exact hn) (lR_set hl (ok_h hs) (by rw [hn]; exact hi) hn0 h2) (ok_t hs)
theorem N_iinc {i : Nat} {z a : Int} (hd : decode M.2.1 pc = .ok (.iinc i z, 3)) (hg : ls[i]? = some (some (vI a))) (hi : i < M.2.2.1) (hn0 : nL_ ls i) (hq : pc + 3 = q) (kk : NN d M n0 q (ls.set i (some (vI (iA a z)))) st n μ n1 μ1) : NN d M n0 pc ls st n μ n1 μ1 := by
  subst hq
  intro p l e s m args below meth c H locs dC dI D base ls' C hb hH hS hn hl hs
  obtain ⟨k', hk⟩ := List.getElem?_of_mem (pL_mem.mpr ⟨_, hg, rfl⟩ : (i, cV (bs base) (vI a)) ∈ pL (bs base) ls)
  refine lv_iinc C.1 C.2.1 hd (lR_has hl) hk (v := Int32.ofInt (iA a z)) (o32_add a z) (by rw [hn]; exact hi) rfl (fun ls2 h2 => ?_)
  exact kk p l e s m args below meth c H locs dC dI D base ls2 C hb hH hS (by rw [List.length_set]; exact hn) (lR_set hl (rI_wI _) (by rw [hn]; exact hi) hn0 h2) hs
theorem N_obj {idx a : Nat} (hw : Cond.methodLink M.1.cls idx Lib.objectInit ∈ tG ∧ Cond.instanceMethod Lib.objectInit ∈ tG ∧ Cond.code Lib.objectInit ⟨#[0xb1]⟩ 1 none ∈ tG) (hd : decode M.2.1 pc = .ok (.invokespecial idx, 3)) (hd1 : 1 ≤ d) (hwd : Nat.ble (st.map wd).sum 8 = true) (hq : pc + 3 = q) (kk : NN d M n0 q ls st n μ n1 μ1) : NN d M n0 pc ls (vR a :: st) n μ n1 μ1 := by
  subst hq
  intro p l e s m args below meth c H locs dC dI D base ls' C hb hH hS hn hl hs
  obtain ⟨hx, hbd, hml, hrt, hown, hts, hlk, hK, hN, hO, hnm⟩ := id C
  have h9 : (st.map wd).sum ≤ 8 := Nat.le_of_ble_eq_true hwd
  refine W.objInit hx hbd hown (hts _ hw.1) (hts _ hw.2.1) (hts _ hw.2.2) (g := F0 m pc ls' (.ref (bs base a) :: st.map (cV (bs base)))) rfl (by rw [hml]; exact hl.1.trans hn) rfl hd (by show 1 ≤ d; exact hd1) (by show 2 * 0 + _ + 12 ≤ 100 * d; rw [wd_sum]; omega) ?_
  exact kk p l e s m args below meth c H locs dC dI D base ls' C hb hH hS hn hl (ok_t hs)
theorem N_vret (hrt : M.2.2.2 = none) (hd : decode M.2.1 pc = .ok (.return_, 1)) (hn1 : n = n1) (hμ : μ = μ1) : NN d M n0 pc ls [] n μ n1 μ1 := by
  subst hn1; subst hμ
  intro p l e s m args below meth c H locs dC dI D base ls' C hb hH hS hn hl hs
  obtain ⟨hx, hbd, hml, hr2, hown, hts, hlk, hK, hN, hO, hnm⟩ := id C
  exact W.vret hx hbd (hr2.trans hrt) (fun t ht hW => ⟨⟨rfl, by rw [ht]; exact hH⟩, hS.F ht⟩) hS.2.2 hd hlk
/-- a new object, zero -/
theorem N_new {idx ci nf : Nat} {C1 : String} {T : u_T} {ty : Nat → FieldType} (hcl : clF ci C1 T nf ty) (hdf : (List.range nf).all (fun j => decide (defaultValue (ty j) = if (rF ci j).1 = 0 then Value.int 0 else Value.null)) = true) (hk : kD n = (ci + 10, nf)) (hw : Cond.classLink M.1.cls idx C1 ∈ tG ∧ Cond.instantiable C1 nf ∈ tG ∧ Cond.initialized C1 ∈ tG) (h0 : n0 ≤ n) (h1 : n + 1 ≤ n1) (hd : decode M.2.1 pc = .ok (.new idx, 3)) (hq : pc + 3 = q) (kk : NN d M n0 q ls (vR n :: st) (n + 1) μ n1 μ1) : NN d M n0 pc ls st n μ n1 μ1 := by
  subst hq
  intro p l e s m args below meth c H locs dC dI D base ls' C hb hH hS hn hl hs
  obtain ⟨hx, hbd, hml, hr2, hown, hts, hlk, hK, hN, hO, hnm⟩ := id C
  obtain ⟨g1, g2, g3, g4⟩ := hcl
  have e1 := tt_mono h1
  have e2 : tt (n + 1) = tt n + nf := by show tt n + aN n = _; unfold aN; rw [hk]
  have e3 := tt_mono h0
  have hKn := hK.1 ci _ g1
  refine W.newcK hx hbd hown (hts _ hw.1) (hts _ hw.2.1) (hts _ hw.2.2) rfl hd (by show n - n0 + 1 ≤ n1 - n0; omega) (by show tt n - tt n0 + nf ≤ tt n1 - tt n0; omega) hKn.2.1 hH.2.2.1 (fun H1 kC hkC c1 z1 o1 => ?_)
  have z2 : H1.size = H.size + 1 := by rw [z1, hH.2.2.1]
  have o2 : ∀ q, q < H.size → H1[q]? = H[q]? := fun q hq => o1 q (by rw [← hH.2.2.1]; exact hq)
  have hat : va_at (dC, dI) vwCl (base + n, eD D (bs base) μ n) H1 := by
    rw [eD_o hk]
    refine ⟨_, g1, (u_born ty hts g2 hKn hkC c1 g3).to (fun j hj => ?_)⟩
    have h9 := List.all_eq_true.mp hdf j (List.mem_range.mpr hj)
    rw [decide_eq_true_eq] at h9
    have hzero : μ n j = 0 := hH.2.2.2 n (Nat.le_refl n) j
    show defaultValue (ty j) = _
    rw [h9]
    simp only [vp_V, List.getD_eq_getElem?_getD, List.getElem?_map, List.getElem?_range hj, Option.map_some, Option.getD_some]
    rcases hr : rF ci j with ⟨_ | x, y⟩
    · rw [gV_I hk hr, hzero]; rfl
    · rw [gV_R hk hr, hzero]
      rfl
  have := kk p l e s m args below meth c H1 locs dC dI D base ls' C hb (hN_push hH z2 o2 hat) (vS_push hS z2 o2) hn hl (ok_c trivial hs)
  rw [e2, show n + 1 - n0 = n - n0 + 1 by omega, show tt n + nf - tt n0 = tt n - tt n0 + nf by omega] at this
  exact this
theorem N_newarr {N : Nat} (hk : kD n = (0, N)) (hN9 : Nat.blt N 100000 = true) (hw : Cond.arrayClass .int ∈ tG) (h0 : n0 ≤ n) (h1 : n + 1 ≤ n1) (hd : decode M.2.1 pc = .ok (.newarray .int, 2)) (hq : pc + 2 = q) (kk : NN d M n0 q ls (vR n :: st) (n + 1) μ n1 μ1) : NN d M n0 pc ls (vI (N : Int) :: st) n μ n1 μ1 := by
  subst hq
  intro p l e s m args below meth c H locs dC dI D base ls' C hb hH hS hn hl hs
  obtain ⟨hx, hbd, hml, hr2, hown, hts, hlk, hK, hN, hO, hnm⟩ := id C
  have e1 := tt_mono h1
  have e2 : tt (n + 1) = tt n + N := by show tt n + aN n = _; unfold aN; rw [hk]
  have e3 := tt_mono h0
  have hN8 : N < 100000 := Nat.le_of_ble_eq_true hN9
  obtain ⟨hneg, hnat⟩ := nn_nat hN8
  refine va_newaK (atype := .int) hx hbd (hts _ hw) rfl hd rfl hneg hnat (by show N * 4 ≤ _; omega) (by show n - n0 + 1 ≤ n1 - n0; omega) (by show tt n - tt n0 + N ≤ tt n1 - tt n0; omega) hH.2.2.1 (fun H1 cA c1 z1 o1 hAr hNm => ?_)
  have z2 : H1.size = H.size + 1 := by rw [z1, hH.2.2.1]
  have o2 : ∀ q, q < H.size → H1[q]? = H[q]? := fun q hq => o1 q (by rw [← hH.2.2.1]; exact hq)
  have hcA : cA = D.1 := Option.some.inj (hNm.symm.trans (hK.2 0 _ rfl).2)
  subst hcA
  have hat : va_at (dC, dI) vwCl (base + n, eD D (bs base) μ n) H1 := by
    rw [eD_i hk]
    show H1[base + n]? = some (arrV D.1 N (fun j => .int (Int32.ofInt (μ n j))))
    rw [c1]
    have hzero : ∀ j, μ n j = 0 := fun j => hH.2.2.2 n (Nat.le_refl n) j
    simp only [hzero]
    rfl
  have := kk p l e s m args below meth c H1 locs dC dI D base ls' C hb (hN_push hH z2 o2 hat) (vS_push hS z2 o2) hn hl (ok_c trivial (ok_t hs))
  rw [e2, show n + 1 - n0 = n - n0 + 1 by omega, show tt n + N - tt n0 = tt n - tt n0 + N by omega] at this
  exact this
theorem eD_z {D : ClassId × ClassId × ClassId} {base n : Nat} {μ : Mm} (hz : ∀ j, μ n j = 0) : (fun j => if μ n j = 0 then none else some (bs base (μ n j - 1).toNat)) = fun _ => none := by
  funext j; rw [if_pos (hz j)]
theorem eD_p {D : ClassId × ClassId × ClassId} {ad : Nat → Nat} {μ : Mm} {k n : Nat} (hk : kD k = (1, n)) : eD D ad μ k = .inl (D.2.1, n, .inr (.inr (.inr (.inr (fun j => if μ k j = 0 then none else some (ad (μ k j - 1).toNat)))))) := by
  unfold eD; rw [hk]; rfl
theorem eD_t {D : ClassId × ClassId × ClassId} {ad : Nat → Nat} {μ : Mm} {k n : Nat} (hk : kD k = (2, n)) : eD D ad μ k = .inl (D.2.2, n, .inr (.inr (.inr (.inr (fun j => if μ k j = 0 then none else some (ad (μ k j - 1).toNat)))))) := by
  unfold eD; rw [hk]; rfl
theorem N_anew {idx N c2 : Nat} {C1 : String} (hk : kD n = (c2, N)) (hc2 : c2 = 1 ∧ C1 = RX3 ∨ c2 = 2 ∧ C1 = RX7) (hN9 : Nat.blt N 100000 = true) (hw : Cond.classLink M.1.cls idx C1 ∈ tG) (h0 : n0 ≤ n) (h1 : n + 1 ≤ n1) (hd : decode M.2.1 pc = .ok (.anewarray idx, 3)) (hq : pc + 3 = q) (kk : NN d M n0 q ls (vR n :: st) (n + 1) μ n1 μ1) : NN d M n0 pc ls (vI (N : Int) :: st) n μ n1 μ1 := by
  subst hq
  intro p l e s m args below meth c H locs dC dI D base ls' C hb hH hS hn hl hs
  obtain ⟨hx, hbd, hml, hr2, hown, hts, hlk, hK, hN, hO, hnm⟩ := id C
  have e1 := tt_mono h1
  have e2 : tt (n + 1) = tt n + N := by show tt n + aN n = _; unfold aN; rw [hk]
  have e3 := tt_mono h0
  have hN8 : N < 100000 := Nat.le_of_ble_eq_true hN9
  obtain ⟨hneg, hnat⟩ := nn_nat hN8
  have hover : va_AO C1 s := by rcases hc2 with ⟨-, rfl⟩ | ⟨-, rfl⟩ <;> first | exact hO.1 | exact hO.2
  refine W.anew hx hbd hown (hts _ hw) (va_AO.use hover) rfl hd rfl hneg (by rw [hnat]; omega) (by show n - n0 + 1 ≤ n1 - n0; omega) (by rw [hnat]; show tt n - tt n0 + N ≤ tt n1 - tt n0; omega) fun cA kA comp f1 f2 f3 f4 => ?_
  rw [hnat, hH.2.2.1]
  generalize hH1 : H.push ({ cls := cA, slots := Array.replicate N .null, vm := .none } : Cell) = H1
  have z2 : H1.size = H.size + 1 := by rw [← hH1, Array.size_push]
  have c1 : H1[base + n]? = some (arrV cA N (fun _ => .null)) := by rw [← hH1, ← hH.2.2.1, Array.getElem?_push_size, ← arrV_new]
  have o2 : ∀ q : Nat, q < H.size → H1[q]? = H[q]? := fun q hq => by rw [← hH1, Array.getElem?_push, if_neg (Nat.ne_of_lt hq)]
  have hzero : ∀ j, μ n j = 0 := fun j => hH.2.2.2 n (Nat.le_refl n) j
  have hat : va_at (dC, dI) vwCl (base + n, eD D (bs base) μ n) H1 := by
    rcases hc2 with ⟨rfl, rfl⟩ | ⟨rfl, rfl⟩
    · have hcA : cA = D.2.1 := by
        obtain ⟨k2, comp2, -, -, -, h9⟩ := (hK.2 1 _ rfl).2
        exact Option.some.inj (f1.symm.trans h9)
      subst hcA
      rw [eD_p hk, eD_z (D := D) hzero]
      exact c1
    · have hcA : cA = D.2.2 := by
        obtain ⟨k2, comp2, -, -, -, h9⟩ := (hK.2 2 _ rfl).2
        exact Option.some.inj (f1.symm.trans h9)
      subst hcA
      rw [eD_t hk, eD_z (D := D) hzero]
      exact c1
  have := kk p l e s m args below meth c H1 locs dC dI D base ls' C hb (hN_push hH z2 o2 hat) (vS_push hS z2 o2) hn hl (ok_c trivial (ok_t hs))
  rw [e2, show n + 1 - n0 = n - n0 + 1 by omega, show tt n + N - tt n0 = tt n - tt n0 + N by omega] at this
  exact this
theorem wN_putF {D : ClassId × ClassId × ClassId} {ad : Nat → Nat} {ci nf j a k0 : Nat} {z : Int} {v : AV} (hk : kD a = (ci + 10, nf)) (ha : a < k0) (hj : j < nf) (hv : gV (sM μ a j z) a j = v) :
    (wN D ad μ k0).set a (ad a, .inr (ci, ((List.range nf).map (fun j => cV ad (gV μ a j))).set j (cV ad v))) = wN D ad (sM μ a j z) k0 := by
  refine wN_set ha ?_ (fun i hi => eD_congr (sM_ne hi))
  rw [eD_o hk]
  congr 2
  symm
  refine fs_set hj (by rw [hv]) (fun i hi => ?_)
  show cV ad (gV (sM μ a j z) a i) = cV ad (gV μ a i)
  have : (sM μ a j z) a i = μ a i := by simp [sM, hi]
  unfold gV
  rw [this]
theorem hN_s {dC : Nat → ClassId} {dI : Nat → Nat → Nat} {D : ClassId × ClassId × ClassId} {base a j : Nat} {z : Int} {H H1 : Heap} (h : hN dC dI D base μ n H) (hP : va_P (dC, dI) vwCl (wN D (bs base) (sM μ a j z) n) H1) (hz : rI z) (ha : a < n) (hs : H1.size = H.size) : hN dC dI D base (sM μ a j z) n H1 :=
  ⟨hP, oM_s h.2.1 hz, by rw [hs]; exact h.2.2.1, fun k hk i => by rw [sM_ne (by omega)]; exact h.2.2.2 k hk i⟩
end NR
section NP
variable {p : Program} {l : Launch} {e : Env} {R : Room} {s : State} {m : MethodId} {args : Array Value} {below : List Frame} {meth : Method} {c : Code} {H : Heap} {locs : List Loc} {cells slots : Nat} {Q : State → Prop}
variable {pc : Nat} {ls : Array Slot} {rest : List Value} {A : Nat → Prop} {H0 : Heap} {cc : ByteArray} {D : va_G} {cl : List vw_C} {tys : List (ClassId × FieldType)} {ws : va_W} {a : Nat}
/-- a field of an own cell, written; the heap's size stays -/
theorem n_put (hexec : p.tables.exec = Jvm.exec) (hb : c.code = cc) {own C : String} {T : u_T} {N ci index : Nat} {Ts : List Cond} (hts : ∀ w ∈ Ts, w.before args s = true) (hin : ∀ w ∈ u_ws C T N, w ∈ Ts) (ty0 : Nat → FieldType) (hty : ∀ k, k < N → parseFieldDescriptor (T k).2.2.1 = some (ty0 k)) (hnm : ∀ a, a < N → ∀ b, b < N → a ≠ b → (T a).2.1 ≠ (T b).2.1) (hown : s.vm.findClass own = some m.cls) (hK : va_K D cl tys s) (hP : va_P D cl ws H) (hD : va_D A ws) (hS0 : va_S A H0 H locs) (q0 : Nat) {fs : List Value} (he : ws[q0]? = some (a, .inr (ci, fs))) (hc : cl[ci]? = some (C, T, N)) (k : Nat) (hk : k < N) (hlink : (Cond.fieldLink own index (T k).1 (T k).2.1 (T k).2.2.1).before args s = true) (hfin : (T k).2.2.2 = false ∨ meth.name = "<init>" ∧ (T k).1 = own) {ty : FieldType} {v : Value} (hd : parseFieldDescriptor (T k).2.2.1 = some ty) (hn : narrow ty v = v) (hfit : fits ty v = true) (hl : k < fs.length)
    (hdg : decode cc pc = .ok (.putfield index, 3)) (kk : ∀ (H1 : Heap) (locs1 : List Loc), H1.size = H.size → va_P D cl (ws.set q0 (a, .inr (ci, fs.set k v))) H1 → va_S A H0 H1 locs1 → W p l e R s m args below meth c H1 locs1 cells slots Q (F0 m (pc + 3) ls rest)) : W p l e R s m args below meth c H locs cells slots Q (F0 m pc ls (v :: .ref a :: rest)) := by
  have hap := va_apart (own := own) hts hin ty0 hty hnm hK hc
  obtain ⟨r, h1, cell, q1, q2, q3, q4⟩ := hP q0 _ he
  have hr : r = (C, T, N) := Option.some.inj (h1.symm.trans hc)
  subst hr
  obtain ⟨hS, hfc, kC, hkC, hkind⟩ := hK.1 ci _ hc
  obtain ⟨cf, kf, fi, f, hi, hsl⟩ := hS k hk
  have hlay := hts _ (hin _ (u_in_lay hk))
  have hst := (u_facts hfc hkC (u_lays hts hin hk) hi).1
  have kk2 : ∀ H' : Heap, H'[a]? = some (cell.setSlot f.slot v) → H'.size = H.size → (∀ q, q ≠ a → H'[q]? = H[q]?) → W p l e R s m args below meth c H' (locs ++ [⟨a, f.slot⟩]) cells slots Q (F0 m (pc + 3) ls rest) := fun H' e1 e2 e3 => by
    rw [hsl] at e1 ⊢
    exact kk H' _ e2 (hP.set hD he ⟨_, hc, t_OB.to (V := updV (vp_V fs) k v) ⟨_, e1, q2, q3, t_set q4 hap hk v⟩ (fun j _ => vp_updV_set hl v j)⟩ e3) (hS0.put e2 e3 (hD.2 q0 _ he))
  unfold u_lay at hlay
  cases hf : (T k).2.2.2 with
  | false =>
    rw [if_neg (by rw [hf]; decide)] at hlay
    have h6 := u_store hfc hkC hkind hlay hi hd hn hfit
    exact W.putK hexec hb (f := f) ⟨hown, hlink, ⟨_, _, _, hi⟩, hst⟩ (by rw [q2]; exact h6) q1 q3 (by rw [hsl]; exact k2_hasslot (q4 k hk)) rfl rfl hdg kk2
  | true =>
    rw [if_pos hf] at hlay
    obtain ⟨hin2, hdecl⟩ : meth.name = "<init>" ∧ (T k).1 = own := by
      rcases hfin with h | h
      · rw [hf] at h; cases h
      · exact h
    have hcf : m.cls = cf := by
      obtain ⟨_, _, c', _, _, _, -, -, hf', -, -, -, hown2, -⟩ := Cond.laysFinal_spec hlay
      have e1 : c' = cf := by have := hi.symm.trans hf'; simp at this; exact this.1.symm
      rw [hdecl] at hown2
      rw [← e1]; exact Option.some.inj (hown.symm.trans hown2)
    have h6 := u_fits hfc hkC hkind (Or.inr hlay) hi hd hn hfit
    exact W.putFinK hexec hb hown hlink hi hst hcf hin2 (by rw [q2]; exact h6) q1 q3 (by rw [hsl]; exact k2_hasslot (q4 k hk)) rfl rfl hdg kk2
theorem n_aast (hexec : p.tables.exec = Jvm.exec) (hb : c.code = cc) (hK : va_K D cl tys s) (hP : va_P D cl ws H) (hD : va_D A ws) (hS : va_S A H0 H locs) (q0 t0 qk ci : Nat) {cA : ClassId} {r : vw_C} {n v : Nat} {vs : List Value} {f : Nat → Option Nat} (ha : ws[q0]? = some (a, .inl (cA, n, .inr (.inr (.inr (.inr f)))))) (ht : tys[t0]? = some (cA, .object r.1)) (hv : ws[qk]? = some (v, .inr (ci, vs))) (hc : cl[ci]? = some r) {i : Int32} (hin : vp_in i n) (hdg : decode cc pc = .ok (.aastore, 1))
    (kk : ∀ (H1 : Heap) (locs1 : List Loc), H1.size = H.size → va_P D cl (ws.set q0 (a, .inl (cA, n, .inr (.inr (.inr (.inr (va_up f i.toNatClampNeg (some v)))))))) H1 → va_S A H0 H1 locs1 → W p l e R s m args below meth c H1 locs1 cells slots Q (F0 m (pc + 1) ls rest)) : W p l e R s m args below meth c H locs cells slots Q (F0 m pc ls (.ref v :: .int i :: .ref a :: rest)) := by
  have hlt : i.toNatClampNeg < n := Nat.not_le.mp fun q => hin (Or.inr q)
  have h0 : ¬ i < 0 := fun q => hin (Or.inl q)
  obtain ⟨r', hr', cellV, g1, g2, g3, -⟩ := hP qk _ hv
  have hcls := (hK.1 ci r hc).2
  obtain ⟨kA, comp, k1, k2, k3, -⟩ := (hK.2 t0 _ ht).2
  have hcomp : comp = D.1 ci := Option.some.inj (k3.symm.trans hcls.1)
  subst hcomp
  obtain ⟨kC, hkC, -⟩ := hcls.2
  refine W.aast hexec hb (hP q0 _ ha) (fun q h => by cases h) (fun h => by cases h) k1 k2 rfl hkC ⟨h0, by show _ < (arrV _ _ _).slots.size; rw [arrV_size]; exact hlt⟩ g1 (fun q h => by rw [g3] at h; cases h) (by rw [g2]; exact hkC) (by rw [g2]; exact va_assign hcls) rfl rfl hdg fun H1 e z oq => ?_
  refine kk H1 _ z (hP.set hD ha ?_ oq) (hS.put z oq (hD.2 q0 _ ha))
  show H1[a]? = some (vp_cell _ _)
  rw [e]
  rw [vp_cell_q, vp_cell_q, arrV_store]
  congr 2
  funext q
  by_cases hq : q = i.toNatClampNeg
  · subst hq
    simp [updV, va_up, va_rf]
  · simp [updV, va_up, hq]
theorem n_iast (hexec : p.tables.exec = Jvm.exec) (hb : c.code = cc) (hK : va_K D cl tys s) (hP : va_P D cl ws H) (hD : va_D A ws) (hS : va_S A H0 H locs) (q0 t0 : Nat) {cA : ClassId} {n : Nat} {f : Nat → Int32} (ha : ws[q0]? = some (a, .inl (cA, n, .inl f))) (ht : tys[t0]? = some (cA, .int)) {i : Int32} {x : Int32} (hin : vp_in i n) (hdg : decode cc pc = .ok (.iastore, 1))
    (kk : ∀ (H1 : Heap) (locs1 : List Loc), H1.size = H.size → va_P D cl (ws.set q0 (a, .inl (cA, n, .inl (upd f i.toNatClampNeg x)))) H1 → va_S A H0 H1 locs1 → W p l e R s m args below meth c H1 locs1 cells slots Q (F0 m (pc + 1) ls rest)) : W p l e R s m args below meth c H locs cells slots Q (F0 m pc ls (.int x :: .int i :: .ref a :: rest)) := by
  refine W.iast hexec hb (hP q0 _ ha) ((hK.2 t0 _ ht).1 n (fun j => .int (f j))) (fun q => by cases q) (by show ¬ (i < 0 ∨ (arrV _ _ _).slots.size ≤ _); rw [arrV_size]; exact hin) rfl rfl hdg fun H1 e z oq => ?_
  refine kk H1 _ z (hP.set hD ha ?_ oq) (hS.put z oq (hD.2 q0 _ ha))
  show H1[a]? = some (vp_cell _ _)
  rw [e]
  rw [vp_cell_i, vp_cell_i, arrV_store]
  congr 2
  funext q
  by_cases hq : q = i.toNatClampNeg
  · subst hq
    simp [updV, upd]
  · simp [updV, upd, hq]
end NP
section NR2
variable {d : Nat} {M : Mth} {n0 pc q : Nat} {ls : List (Option AV)} {st : List AV} {n : Nat} {μ : Mm} {n1 : Nat} {μ1 : Mm}
theorem N_put {idx ci j nf a : Nat} {C1 : String} {T : u_T} {tys : Nat → FieldType} {ty : FieldType} {v : AV} {z : Int} (hcl : clF ci C1 T nf tys) (hj : Nat.blt j nf = true) (hty : tys j = ty) (hfi : (T j).2.2.2 = false ∨ M.1.name = "<init>" ∧ (T j).1 = M.1.cls) (hw : Cond.fieldLink M.1.cls idx (T j).1 (T j).2.1 (T j).2.2.1 ∈ tG) (hk : kD a = (ci + 10, nf)) (ha : Nat.blt a n = true) (hv : gV (sM μ a j z) a j = v) (hz : oV v → rI z) (hnar : ∀ ad : Nat → Nat, narrow ty (cV ad v) = cV ad v) (hfit : ∀ ad : Nat → Nat, fits ty (cV ad v) = true) (hd : decode M.2.1 pc = .ok (.putfield idx, 3)) (hq : pc + 3 = q) (kk : NN d M n0 q ls st n (sM μ a j z) n1 μ1) : NN d M n0 pc ls (v :: vR a :: st) n μ n1 μ1 := by
  subst hq
  intro p l e s m args below meth c H locs dC dI D base ls' C hb hH hS hn hl hs
  obtain ⟨hx, hbd, hml, hr2, hown, hts, hlk, hK, hN, hO, hnm⟩ := id C
  obtain ⟨g1, g2, g3, g4⟩ := hcl
  have hj9 : j < nf := Nat.le_of_ble_eq_true hj
  have ha9 : a < n := Nat.le_of_ble_eq_true ha
  have he : (wN D (bs base) μ n)[a]? = some (bs base a, .inr (ci, (List.range nf).map (fun j => cV (bs base) (gV μ a j)))) := by rw [wN_at D _ μ ha9, eD_o hk]
  have hpd : parseFieldDescriptor (T j).2.2.1 = some ty := by rw [g3 j hj9, hty]
  refine n_put (D := (dC, dI)) (ci := ci) (v := cV (bs base) v) (C := C1) (T := T) (N := nf) hx hbd hts g2 tys g3 g4 hown hK hH.1 (wN_D (D := D) (base := base)) hS a he g1 j hj9 (hts _ hw) (hfi.imp id (fun h => ⟨hnm.trans h.1, h.2⟩)) hpd (hnar _) (hfit _) (by simp [hj9]) hd (fun H1 locs1 z1 hP1 hS1 => ?_)
  rw [wN_putF hk ha9 hj9 hv] at hP1
  exact kk p l e s m args below meth c H1 locs1 dC dI D base ls' C hb (hN_s hH hP1 (hz (ok_h hs)) ha9 z1) hS1 hn hl (ok_t (ok_t hs))
theorem N_putI {idx ci j nf a y : Nat} {C1 : String} {T : u_T} {tys : Nat → FieldType} {z : Int} (hcl : clF ci C1 T nf tys) (hj : Nat.blt j nf = true) (hty : tys j = .int) (hfi : (T j).2.2.2 = false ∨ M.1.name = "<init>" ∧ (T j).1 = M.1.cls) (hw : Cond.fieldLink M.1.cls idx (T j).1 (T j).2.1 (T j).2.2.1 ∈ tG) (hk : kD a = (ci + 10, nf)) (ha : Nat.blt a n = true) (hf : rF ci j = (0, y)) (hd : decode M.2.1 pc = .ok (.putfield idx, 3)) (hq : pc + 3 = q) (kk : NN d M n0 q ls st n (sM μ a j z) n1 μ1) : NN d M n0 pc ls (vI z :: vR a :: st) n μ n1 μ1 :=
  N_put hcl hj hty hfi hw hk ha (by rw [gV_I hk hf]; simp [sM]) (fun h => h) (fun _ => rfl) (fun _ => rfl) hd hq kk
theorem N_putZ {idx ci j nf a y : Nat} {C1 : String} {T : u_T} {tys : Nat → FieldType} {z : Int} (hcl : clF ci C1 T nf tys) (hj : Nat.blt j nf = true) (hty : tys j = .boolean) (hfi : (T j).2.2.2 = false ∨ M.1.name = "<init>" ∧ (T j).1 = M.1.cls) (hw : Cond.fieldLink M.1.cls idx (T j).1 (T j).2.1 (T j).2.2.1 ∈ tG) (hk : kD a = (ci + 10, nf)) (ha : Nat.blt a n = true) (hf : rF ci j = (0, y)) (hz : z = 0 ∨ z = 1) (hd : decode M.2.1 pc = .ok (.putfield idx, 3)) (hq : pc + 3 = q) (kk : NN d M n0 q ls st n (sM μ a j z) n1 μ1) : NN d M n0 pc ls (vI z :: vR a :: st) n μ n1 μ1 :=
  N_put hcl hj hty hfi hw hk ha (by rw [gV_I hk hf]; simp [sM]) (fun h => h) (fun _ => by rcases hz with rfl | rfl <;> rfl) (fun _ => by rcases hz with rfl | rfl <;> rfl) hd hq kk
/-- a reference: the cell's number and 1 -/
theorem N_putR {idx ci j nf a t x y : Nat} {C1 : String} {T : u_T} {tys : Nat → FieldType} {ty : FieldType} (hcl : clF ci C1 T nf tys) (hj : Nat.blt j nf = true) (hty : tys j = ty) (hr : ty.isReference = true) (hfi : (T j).2.2.2 = false ∨ M.1.name = "<init>" ∧ (T j).1 = M.1.cls) (hw : Cond.fieldLink M.1.cls idx (T j).1 (T j).2.1 (T j).2.2.1 ∈ tG) (hk : kD a = (ci + 10, nf)) (ha : Nat.blt a n = true) (hf : rF ci j = (x + 1, y)) (ht : Nat.blt t 100000 = true) (hd : decode M.2.1 pc = .ok (.putfield idx, 3)) (hq : pc + 3 = q) (kk : NN d M n0 q ls st n (sM μ a j ((t + 1 : Nat) : Int)) n1 μ1) : NN d M n0 pc ls (vR t :: vR a :: st) n μ n1 μ1 :=
  N_put hcl hj hty hfi hw hk ha (by rw [gV_R hk hf]; simp only [sM, and_self, if_true]; unfold vC; rw [if_neg (by omega)]; show vR _ = vR _; congr 1; omega) (fun _ => by have h9 : t < 100000 := Nat.le_of_ble_eq_true ht; unfold rI; omega) (fun _ => by cases ty <;> first | rfl | (cases hr)) (fun _ => by cases ty <;> first | rfl | (cases hr)) hd hq kk
end NR2
/-! CONSTRUCTORS 2: arrays' stores, reads, calls, the entry -/
def mI (own : String) (idx : Nat) (M : Mth) (n : Nat) : Prop := (Cond.methodLink own idx M.1 ∈ tG ∨ ∃ host, Cond.methodLinkNest own idx M.1 host ∈ lw_tbl) ∧ Cond.instanceMethod M.1 ∈ tG ∧ Cond.initialized M.1.cls ∈ tG ∧ Cond.code M.1 M.2.1 M.2.2.1 none ∈ tG ∧ M.1.name = "<init>" ∧ M.2.2.2 = none ∧
  (M.1.cls ≠ "java/lang/invoke/MethodHandle" ∧ M.1.cls ≠ "java/lang/invoke/VarHandle" ∧ (parseMethodDescriptor M.1.desc).map (fun d => d.parameters.length) = some n) ∧ M.2.2.1 ≤ 60
theorem pN_blind {dC : Nat → ClassId} {dI : Nat → Nat → Nat} {D : ClassId × ClassId × ClassId} {base n : Nat} {av : List AV} {μ : Mm} : FrameBlind (pN dC dI D base n av μ) := by
  intro a U g mk q
  obtain ⟨q0, q1, q2, q3, q4, q5⟩ := q
  exact ⟨q0, q1, va_K.moved (u := U) (U := U.calling g mk a) (Vm.Alike.refl U.vm) q2, nS_same (s := U) (U := U.calling g mk a) rfl q3, ⟨va_AO.moved (u := U) (U := U.calling g mk a) (Vm.Alike.refl U.vm) q4.1, va_AO.moved (u := U) (U := U.calling g mk a) (Vm.Alike.refl U.vm) q4.2⟩, q5⟩
section NR3
variable {d : Nat} {M : Mth} {n0 pc q : Nat} {ls : List (Option AV)} {st st0 : List AV} {n : Nat} {μ : Mm} {n1 : Nat} {μ1 : Mm}
theorem N_icmpge_t {a b : Int} {off : Int} (hd : decode M.2.1 pc = .ok (.if_icmp .ge off, 3)) (ht : (pc : Int) + off = (q : Int)) (h : b ≤ a) (kt : NN d M n0 q ls st n μ n1 μ1) : NN d M n0 pc ls (vI b :: vI a :: st) n μ n1 μ1 :=
  N_icmpge (q2 := pc + 3) hd ht rfl (fun _ => kt) (fun h2 => absurd h h2)
theorem N_icmpge_f {a b : Int} {off : Int} {qt : Nat} (hd : decode M.2.1 pc = .ok (.if_icmp .ge off, 3)) (ht : (pc : Int) + off = (qt : Int)) (hq : pc + 3 = q) (h : ¬ b ≤ a) (kf : NN d M n0 q ls st n μ n1 μ1) : NN d M n0 pc ls (vI b :: vI a :: st) n μ n1 μ1 :=
  N_icmpge hd ht hq (fun h2 => absurd h2 h) (fun _ => kf)
theorem N_getR {idx ci j nf a t x y : Nat} {C1 : String} {T : u_T} {tys : Nat → FieldType} (hcl : clF ci C1 T nf tys) (hj : Nat.blt j nf = true) (hw : Cond.fieldLink M.1.cls idx (T j).1 (T j).2.1 (T j).2.2.1 ∈ tG) (hk : kD a = (ci + 10, nf)) (ha : Nat.blt a n = true) (hf : rF ci j = (x + 1, y)) (hv : μ a j = ((t + 1 : Nat) : Int)) (hd : decode M.2.1 pc = .ok (.getfield idx, 3)) (hq : pc + 3 = q) (kk : NN d M n0 q ls (vR t :: st) n μ n1 μ1) : NN d M n0 pc ls (vR a :: st) n μ n1 μ1 := by
  subst hq
  intro p l e s m args below meth c H locs dC dI D base ls' C hb hH hS hn hl hs
  obtain ⟨hx, hbd, hml, hr2, hown, hts, hlk, hK, hN, hO, hnm⟩ := id C
  obtain ⟨g1, g2, g3, g4⟩ := hcl
  have hj9 : j < nf := Nat.le_of_ble_eq_true hj
  have ha9 : a < n := Nat.le_of_ble_eq_true ha
  have he : (wN D (bs base) μ n)[a]? = some (bs base a, .inr (ci, (List.range nf).map (fun j => cV (bs base) (gV μ a j)))) := by rw [wN_at D _ μ ha9, eD_o hk]
  have hv2 : ((List.range nf).map (fun j => cV (bs base) (gV μ a j)))[j]? = some (cV (bs base) (vR t)) := by
    rw [List.getElem?_map, List.getElem?_range hj9]
    show some (cV (bs base) (gV μ a j)) = _
    rw [gV_R hk hf, hv]
    unfold vC
    rw [if_neg (by omega)]
    congr 3
    omega
  exact va_get (D := (dC, dI)) (ci := ci) (v := cV (bs base) (vR t)) (C := C1) (T := T) (N := nf) hx hbd hts g2 hown hK hH.1 a he g1 j hj9 (hts _ hw) (fun _ h9 => h9) hv2 hd (kk p l e s m args below meth c H locs dC dI D base ls' C hb hH hS hn hl (ok_c trivial (ok_t hs)))
theorem N_aastore {a t ci nf N c2 : Nat} {i : Int} {r : vw_C} (hk : kD a = (c2, N)) (hc : c2 = 1 ∧ r.1 = RX3 ∨ c2 = 2 ∧ r.1 = RX7) (hkt : kD t = (ci + 10, nf)) (hr : vwCl[ci]? = some r) (ha : Nat.blt a n = true) (ht : Nat.blt t n = true) (ht2 : Nat.blt t 100000 = true) (hi : 0 ≤ i ∧ i < (N : Int)) (hd : decode M.2.1 pc = .ok (.aastore, 1)) (hq : pc + 1 = q) (kk : NN d M n0 q ls st n (sM μ a i.toNat ((t + 1 : Nat) : Int)) n1 μ1) : NN d M n0 pc ls (vR t :: vI i :: vR a :: st) n μ n1 μ1 := by
  subst hq
  intro p l e s m args below meth c H locs dC dI D base ls' C hb hH hS hn hl hs
  obtain ⟨hx, hbd, hml, hr2, hown, hts, hlk, hK, hN, hO, hnm⟩ := id C
  have ha9 : a < n := Nat.le_of_ble_eq_true ha
  have ht9 : t < n := Nat.le_of_ble_eq_true ht
  have ht8 : t < 100000 := Nat.le_of_ble_eq_true ht2
  have hri : rI i := ok_h (ok_t hs)
  have hin : vp_in (Int32.ofInt i) N := o32_in hri hi
  have het : (wN D (bs base) μ n)[t]? = some (bs base t, .inr (ci, (List.range nf).map (fun j => cV (bs base) (gV μ t j)))) := by rw [wN_at D _ μ ht9, eD_o hkt]
  have hfun : va_up (fun j => if μ a j = 0 then none else some (bs base (μ a j - 1).toNat)) i.toNat (some (bs base t)) = fun j => if sM μ a i.toNat ((t + 1 : Nat) : Int) a j = 0 then none else some (bs base (sM μ a i.toNat ((t + 1 : Nat) : Int) a j - 1).toNat) := by
    funext j
    by_cases h : j = i.toNat
    · subst h
      simp only [va_up, sM, and_self, if_true]
      rw [if_neg (by omega)]
      congr 2
      omega
    · simp [va_up, sM, h]
  rcases hc with ⟨rfl, hrc⟩ | ⟨rfl, hrc⟩
  · have hea : (wN D (bs base) μ n)[a]? = some (bs base a, .inl (D.2.1, N, .inr (.inr (.inr (.inr (fun j => if μ a j = 0 then none else some (bs base (μ a j - 1).toNat))))))) := by rw [wN_at D _ μ ha9, eD_p hk]
    refine n_aast (D := (dC, dI)) (ci := ci) (r := r) hx hbd hK hH.1 (wN_D (D := D) (base := base)) hS a 1 t hea (by rw [hrc]; rfl) het hr hin hd (fun H1 locs1 z1 hP1 hS1 => ?_)
    rw [o32_nat hri hi.1, hfun] at hP1
    rw [wN_set (μ' := sM μ a i.toNat ((t + 1 : Nat) : Int)) ha9 (eD_p hk) (fun j hj => eD_congr (sM_ne hj))] at hP1
    exact kk p l e s m args below meth c H1 locs1 dC dI D base ls' C hb (hN_s hH hP1 (by unfold rI; omega) ha9 z1) hS1 hn hl (ok_t (ok_t (ok_t hs)))
  · have hea : (wN D (bs base) μ n)[a]? = some (bs base a, .inl (D.2.2, N, .inr (.inr (.inr (.inr (fun j => if μ a j = 0 then none else some (bs base (μ a j - 1).toNat))))))) := by rw [wN_at D _ μ ha9, eD_t hk]
    refine n_aast (D := (dC, dI)) (ci := ci) (r := r) hx hbd hK hH.1 (wN_D (D := D) (base := base)) hS a 2 t hea (by rw [hrc]; rfl) het hr hin hd (fun H1 locs1 z1 hP1 hS1 => ?_)
    rw [o32_nat hri hi.1, hfun] at hP1
    rw [wN_set (μ' := sM μ a i.toNat ((t + 1 : Nat) : Int)) ha9 (eD_t hk) (fun j hj => eD_congr (sM_ne hj))] at hP1
    exact kk p l e s m args below meth c H1 locs1 dC dI D base ls' C hb (hN_s hH hP1 (by unfold rI; omega) ha9 z1) hS1 hn hl (ok_t (ok_t (ok_t hs)))
theorem N_iastore {a N : Nat} {i z : Int} (hk : kD a = (0, N)) (hi : 0 ≤ i ∧ i < (N : Int)) (ha : Nat.blt a n = true) (hd : decode M.2.1 pc = .ok (.iastore, 1)) (hq : pc + 1 = q) (kk : NN d M n0 q ls st n (sM μ a i.toNat z) n1 μ1) : NN d M n0 pc ls (vI z :: vI i :: vR a :: st) n μ n1 μ1 := by
  subst hq
  intro p l e s m args below meth c H locs dC dI D base ls' C hb hH hS hn hl hs
  obtain ⟨hx, hbd, hml, hr2, hown, hts, hlk, hK, hN, hO, hnm⟩ := id C
  have ha9 : a < n := Nat.le_of_ble_eq_true ha
  have hri : rI i := ok_h (ok_t hs)
  have he : (wN D (bs base) μ n)[a]? = some (bs base a, .inl (D.1, N, .inl (fun j => Int32.ofInt (μ a j)))) := by rw [wN_at D _ μ ha9, eD_i hk]
  refine n_iast (D := (dC, dI)) hx hbd hK hH.1 (wN_D (D := D) (base := base)) hS a 0 he rfl (o32_in hri hi) hd (fun H1 locs1 z1 hP1 hS1 => ?_)
  have hfun : upd (fun j => Int32.ofInt (μ a j)) i.toNat (Int32.ofInt z) = fun j => Int32.ofInt (sM μ a i.toNat z a j) := by
    funext j
    by_cases h : j = i.toNat
    · simp [upd, sM, h]
    · simp [upd, sM, h]
  rw [o32_nat hri hi.1, hfun] at hP1
  rw [wN_set (μ' := sM μ a i.toNat z) ha9 (eD_i hk) (fun j hj => eD_congr (sM_ne hj))] at hP1
  exact kk p l e s m args below meth c H1 locs1 dC dI D base ls' C hb (hN_s hH hP1 (ok_h hs) ha9 z1) hS1 hn hl (ok_t (ok_t (ok_t hs)))
/-- a call of a constructor -/
theorem N_init {d1 idx na b n2 : Nat} {M1 : Mth} {As : List AV} {μ2 : Mm} (hM : CN d1 M1 (vR b :: As) n μ n2 μ2) (hd1 : d1 + 1 ≤ d) (hm : mI M.1.cls idx M1 na) (hl9 : As.length = na) (hst : st0 = As.reverse ++ vR b :: st) (hwd : Nat.ble (st.map wd).sum 8 = true) (h0 : n0 ≤ n) (h2 : n ≤ n2) (h3 : n2 ≤ n1) (hd : decode M.2.1 pc = .ok (.invokespecial idx, 3)) (hq : pc + 3 = q) (kk : NN d M n0 q ls st n2 μ2 n1 μ1) : NN d M n0 pc ls st0 n μ n1 μ1 := by
  subst hq; subst hst
  intro p l e s m args below meth c H locs dC dI D base ls' C hb hH hS hn hl hs
  obtain ⟨hx, hbd, hml, hr2, hown, hts, hlk, hK, hN, hO, hnm⟩ := id C
  obtain ⟨hs1, hs2⟩ := ok_rev hs
  obtain ⟨w1, w2, w3, w4, w5, w6, w7, w8⟩ := hm
  have t0 := tt_mono h0
  have t2 := tt_mono h2
  have t3 := tt_mono h3
  have e1 : (As.reverse ++ vR b :: st).map (cV (bs base)) = (As.map (cV (bs base))).reverse ++ .ref (bs base b) :: st.map (cV (bs base)) := by
    rw [List.map_append, List.map_reverse]; rfl
  rw [e1]
  have hsum : ((st.map (cV (bs base))).map fun v => v.category).sum ≤ 8 := by rw [wd_sum]; exact Nat.le_of_ble_eq_true hwd
  have S : CallFix p m c M.2.1 M.2.2.1 s args tG M.1.cls := ⟨hx, hbd, hml, hown, hts⟩
  have hpre : PreS s H (pN dC dI D base n (vR b :: As) μ) (.ref (bs base b) :: As.map (cV (bs base))) :=
    ⟨pN_blind, fun U hU hW => ⟨rfl, by rw [hU]; exact hH, va_K.moved hW.alike hK, nS_warm hW hN, ⟨va_AO.moved hW.alike hO.1, va_AO.moved hW.alike hO.2⟩, ok_c trivial hs1⟩⟩
  have hrun : va_Run p l e (rmN d (n1 - n0) (tt n1 - tt n0)) s m args below meth c H locs (n - n0) (tt n - tt n0) (n2 - n) (tt n2 - tt n) (F0 m pc ls' ((As.map (cV (bs base))).reverse ++ .ref (bs base b) :: st.map (cV (bs base)))) (st.map (cV (bs base))) (qN dC dI D base n2 μ2 (Value.ref (bs base b) :: As.map (cV (bs base))).toArray) (fun q => base ≤ q) := by
    rcases w1 with w1 | ⟨host, w1⟩
    · exact va_runI (As := As.map (cV (bs base))) (b := bs base b) S (hM l dC dI D base) ⟨callB_of (ws' := tG) (rm := rmN d1 (n2 - n) (tt n2 - tt n)) na hts (gI_of (by rw [w6]; exact w4)) (by unfold wM; rw [w6]) rfl rfl (hts _ w3) (hts _ w1) w7 ⟨hd1, by show 8 + (M1.2.2.1 + 11) + 100 * d1 ≤ 100 * d; omega⟩, w5, hts _ w2⟩
        hpre rfl (by rw [List.length_map]; exact hl9) (hl.1.trans hn) rfl (by show 2 * 0 + _ ≤ 8; omega) hd ⟨by show n - n0 + (n2 - n) ≤ n1 - n0; omega, by show tt n - tt n0 + (tt n2 - tt n) ≤ tt n1 - tt n0; omega⟩
    · exact va_runIN (host := host) (As := As.map (cV (bs base))) (b := bs base b) S (hM l dC dI D base) ⟨va_cnB (ws' := tG) (rm := rmN d1 (n2 - n) (tt n2 - tt n)) na hts (gI_of (by rw [w6]; exact w4)) (by unfold wM; rw [w6]) rfl rfl (hN _ w1 rfl) (hts _ w3) w7 ⟨hd1, by show 8 + (M1.2.2.1 + 11) + 100 * d1 ≤ 100 * d; omega⟩, w5, hts _ w2⟩
        hpre rfl (by rw [List.length_map]; exact hl9) (hl.1.trans hn) rfl (by show 2 * 0 + _ ≤ 8; omega) hd ⟨by show n - n0 + (n2 - n) ≤ n1 - n0; omega, by show tt n - tt n0 + (tt n2 - tt n) ≤ tt n1 - tt n0; omega⟩
  intro T hT X
  obtain ⟨v, st₀, t, T', L, g0, X', hL, z1, z2, ⟨⟨hv, hp⟩, hz, hk⟩, stp⟩ := hrun T hT X
  cases hv
  rw [g0] at hz hk
  have k1 := kk p l e s m args below meth c T'.heap (locs ++ L) dC dI D base ls' C hb (by rw [z1]; exact hp) ⟨Nat.le_trans hS.1 (by rw [z1]; exact hz), fun q h1 h2 => by rw [z1, hk q (Nat.lt_of_lt_of_le h1 hS.1) h2]; exact hS.2.1 q h1 h2, fun q hq => by
      rcases List.mem_append.mp hq with h | h
      · exact hS.2.2 q h
      · exact hL q h⟩ hn hl (ok_t hs2)
  rw [show n2 - n0 = n - n0 + (n2 - n) by omega, show tt n2 - tt n0 = tt n - tt n0 + (tt n2 - tt n) by omega] at k1
  obtain ⟨t3, a1, b1⟩ := k1 T' rfl X'
  exact ⟨t3, stp t3 a1, b1⟩
theorem N_enter {av : List AV} (hrt : M.2.2.2 = none) (hy : plainName M.1.cls = true) (hle : (lA_ av).length ≤ M.2.2.1) (k : NN d M n 0 (lA_ av ++ List.replicate (M.2.2.1 - (lA_ av).length) none) [] n μ n1 μ1) : CN d M av n μ n1 μ1 := by
  intro l dC dI D base
  refine Met.ofW (cc := M.2.1) (maxL := M.2.2.1) (ret := M.2.2.2) hy rfl ?_
  intro p e s m args below meth c s₁ B hml hv
  obtain ⟨rfl, hH, hK, hN, hO, hok⟩ := hv
  have hts : ∀ w ∈ tG, w.before _ s = true := fun w hw => atoms_spec (ws := wM M) B.pre w (List.mem_cons_of_mem _ hw)
  have hown : s.vm.findClass M.1.cls = some m.cls := findClass_of_methodNamed B.named
  rw [lg_entry_eq]
  have hl := lv_entry (av.map (cV (bs base))) (n := M.2.2.1) (by rw [lA_len]; exact hle)
  have hk := k p l e s m _ below meth c s.heap [] dC dI D base _ ⟨B.exec, B.bytes, hml, B.returns, hown, hts, B.notSynchronized, hK, hN, hO, (name_of_methodNamed B.named B.method).1⟩ hH.2.2.1 hH va_S.rf (by simp; omega) ⟨by rw [hl.1]; simp; omega, hl.2.1, fun i v hi => ?_⟩ (fun v hv => by cases hv)
  · rw [Nat.sub_self, Nat.sub_self] at hk
    exact hk
  by_cases h : i < (lA_ av).length
  · rw [List.getElem?_append_left h] at hi
    obtain ⟨h1, h2⟩ := lA_arg (bs base) av 0 i v hi
    exact ⟨hl.2.2 (i, cV (bs base) v) (by simpa using h1), hok v h2⟩
  · rw [List.getElem?_append_right (by omega)] at hi
    have := List.mem_of_getElem? hi
    rw [List.mem_replicate] at this
    cases this.2
end NR3
