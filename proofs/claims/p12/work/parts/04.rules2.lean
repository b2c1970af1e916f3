/-! locals -/
section VL
variable {d : Nat} {M : Mth} {pc q : Nat} {ls : List (Option AV)} {st : List AV} {μ : Mm} {r : Int} {μ' : Mm}
theorem VV_load {v : AV} {i : Nat} (hi : ls[i]? = some (some v))
    (k0 : ∀ (p : Program) (l : Launch) (e : Env) (R : Room) (s : State) (m : MethodId) (args : Array Value) (below : List Frame) (meth : Method) (c : Code) (H : Heap) (locs : List Loc) (Q : State → Prop) (ad : Nat → Nat) (ls' : Array Slot), p.tables.exec = Jvm.exec → c.code = M.2.1 → ls'[i]? = some (.val (cV ad v)) →
      W p l e R s m args below meth c H locs 0 0 Q (F0 m q ls' (cV ad v :: st.map (cV ad))) → W p l e R s m args below meth c H locs 0 0 Q (F0 m pc ls' (st.map (cV ad))))
    (k : VV d M q ls (v :: st) μ r μ') : VV d M pc ls st μ r μ' := by
  intro p l e s m args below meth c H locs dC dI D ad ls' C hH hS hn hl hs
  exact k0 _ _ _ _ _ _ _ _ _ _ _ _ _ _ _ C.1 C.2.1 (hl.2.2 i v hi).1 (k p l e s m args below meth c H locs dC dI D ad ls' C hH hS hn hl (ok_c (hl.2.2 i v hi).2 hs))
theorem V_iload_n {k : Fin 4} {i : Nat} {a : Int} (hd : decode M.2.1 pc = .ok (.iload_n k, 1)) (he : (k : Nat) = i) (hi : ls[i]? = some (some (vI a))) (hq : pc + 1 = q) (kk : VV d M q ls (vI a :: st) μ r μ') : VV d M pc ls st μ r μ' := by
  subst hq
  exact VV_load hi (fun p l e R s m args below meth c H locs Q ad ls' hx hb hg k2 => lv_iload_n hx hb hd he hg k2) kk
theorem V_iload {i : Nat} {a : Int} (hd : decode M.2.1 pc = .ok (.iload i, 2)) (hi : ls[i]? = some (some (vI a))) (hq : pc + 2 = q) (kk : VV d M q ls (vI a :: st) μ r μ') : VV d M pc ls st μ r μ' := by
  subst hq
  exact VV_load hi (fun p l e R s m args below meth c H locs Q ad ls' hx hb hg k2 => lv_iload hx hb hd hg k2) kk
theorem V_lload_n {k : Fin 4} {i : Nat} {a : Int} (hd : decode M.2.1 pc = .ok (.lload_n k, 1)) (he : (k : Nat) = i) (hi : ls[i]? = some (some (vL a))) (hq : pc + 1 = q) (kk : VV d M q ls (vL a :: st) μ r μ') : VV d M pc ls st μ r μ' := by
  subst hq
  exact VV_load hi (fun p l e R s m args below meth c H locs Q ad ls' hx hb hg k2 => lv_lload_n hx hb hd he hg k2) kk
theorem V_lload {i : Nat} {a : Int} (hd : decode M.2.1 pc = .ok (.lload i, 2)) (hi : ls[i]? = some (some (vL a))) (hq : pc + 2 = q) (kk : VV d M q ls (vL a :: st) μ r μ') : VV d M pc ls st μ r μ' := by
  subst hq
  exact VV_load hi (fun p l e R s m args below meth c H locs Q ad ls' hx hb hg k2 => lv_lload hx hb hd hg k2) kk
theorem V_aload_n {k : Fin 4} {i : Nat} {a : Nat} (hd : decode M.2.1 pc = .ok (.aload_n k, 1)) (he : (k : Nat) = i) (hi : ls[i]? = some (some (vR a))) (hq : pc + 1 = q) (kk : VV d M q ls (vR a :: st) μ r μ') : VV d M pc ls st μ r μ' := by
  subst hq
  exact VV_load hi (fun p l e R s m args below meth c H locs Q ad ls' hx hb hg k2 => lv_aload_n hx hb hd he hg k2) kk
theorem V_aload {i : Nat} {a : Nat} (hd : decode M.2.1 pc = .ok (.aload i, 2)) (hi : ls[i]? = some (some (vR a))) (hq : pc + 2 = q) (kk : VV d M q ls (vR a :: st) μ r μ') : VV d M pc ls st μ r μ' := by
  subst hq
  exact VV_load hi (fun p l e R s m args below meth c H locs Q ad ls' hx hb hg k2 => lv_aload hx hb hd hg k2) kk
theorem vC_n {c : Int} (h : c = -1) : vC c = vN := if_pos h
theorem vC_r {c : Int} (h : ¬ c = -1) : vC c = vR c.toNat := if_neg h
/-- a reference that may be null -/
theorem V_aloadC_n {k : Fin 4} {i : Nat} {a : Int} (hd : decode M.2.1 pc = .ok (.aload_n k, 1)) (he : (k : Nat) = i) (hi : ls[i]? = some (some (vC a))) (hq : pc + 1 = q) (kk : VV d M q ls (vC a :: st) μ r μ') : VV d M pc ls st μ r μ' := by
  subst hq
  refine VV_load hi (fun p l e R s m args below meth c H locs Q ad ls' hx hb hg k2 => ?_) kk
  by_cases h : a = -1
  · rw [vC_n h] at hg k2; exact lv_aload_nN hx hb hd he hg k2
  · rw [vC_r h] at hg k2; exact lv_aload_n hx hb hd he hg k2
theorem V_aloadC {i : Nat} {a : Int} (hd : decode M.2.1 pc = .ok (.aload i, 2)) (hi : ls[i]? = some (some (vC a))) (hq : pc + 2 = q) (kk : VV d M q ls (vC a :: st) μ r μ') : VV d M pc ls st μ r μ' := by
  subst hq
  refine VV_load hi (fun p l e R s m args below meth c H locs Q ad ls' hx hb hg k2 => ?_) kk
  by_cases h : a = -1
  · rw [vC_n h] at hg k2; exact lv_aloadN hx hb hd hg k2
  · rw [vC_r h] at hg k2; exact lv_aload hx hb hd hg k2
theorem V_ifnull {a : Int} {off : Int} (hd : decode M.2.1 pc = .ok (.ifnull off, 3)) (ht : (pc : Int) + off = (q : Int)) {q2 : Nat} (hq : pc + 3 = q2) (kt : a = -1 → VV d M q ls st μ r μ') (kf : ¬ a = -1 → VV d M q2 ls st μ r μ') : VV d M pc ls (vC a :: st) μ r μ' := by
  subst hq
  refine V_br (st2 := st) (fun h => ok_t h) (fun p l e R s m args below meth c H locs Q ad ls' hx hb h k1 k2 => ?_) kt kf
  by_cases h : a = -1
  · rw [List.map_cons, vC_n h]; exact lv_ifnullN hx hb hd ht (k1 h)
  · rw [List.map_cons, vC_r h]; exact lv_ifnull hx hb hd (k2 h)
theorem VV_eq {ls2 : List (Option AV)} {st2 : List AV} (h1 : ls = ls2) (h2 : st = st2) (k : VV d M pc ls2 st2 μ r μ') : VV d M pc ls st μ r μ' := by subst h1; subst h2; exact k
/-- no long just ahead of i -/
def nL_ (ls : List (Option AV)) (i : Nat) : Prop := match i with
  | 0 => True
  | j + 1 => match ls[j]? with
    | some (some (.inr (.inl _))) => False
    | _ => True
/-- the listed locals -/
def pL (ad : Nat → Nat) (ls : List (Option AV)) : List (Nat × Value) := (List.range ls.length).filterMap (fun i => match ls[i]? with
  | some (some v) => some (i, cV ad v)
  | _ => none)
theorem pL_mem {ad : Nat → Nat} {ls : List (Option AV)} {i : Nat} {w : Value} : (i, w) ∈ pL ad ls ↔ ∃ v, ls[i]? = some (some v) ∧ w = cV ad v := by
  constructor
  · intro h
    obtain ⟨j, hj, he⟩ := List.mem_filterMap.mp h
    cases hv : ls[j]? with
    | none => rw [hv] at he; cases he
    | some o =>
      cases o with
      | none => rw [hv] at he; cases he
      | some v =>
        rw [hv] at he
        cases he
        exact ⟨v, hv, rfl⟩
  · rintro ⟨v, hv, rfl⟩
    refine List.mem_filterMap.mpr ⟨i, List.mem_range.mpr (List.getElem?_eq_some_iff.mp hv).1, ?_⟩
    rw [hv]
theorem lR_has {ad : Nat → Nat} {ls : List (Option AV)} {ls' : Array Slot} (h : lR ad ls ls') : lv_has ls' ls.length (pL ad ls) := by
  refine ⟨h.1, h.2.1, fun q hq => ?_⟩
  obtain ⟨v, h1, h2⟩ := pL_mem.mp (show (q.1, q.2) ∈ pL ad ls from hq)
  rw [h2]
  exact (h.2.2 q.1 v h1).1
theorem lR_set {ad : Nat → Nat} {ls : List (Option AV)} {ls' ls2 : Array Slot} {i : Nat} {v : AV} (h : lR ad ls ls') (hv : oV v) (hi : i < ls.length) (hn : nL_ ls i)
    (h2 : lv_has ls2 ls.length ((i, cV ad v) :: (pL ad ls).filter (fun q => !(q.1 == i) && !(q.1 + 1 == i && q.2.category == 2)))) : lR ad (ls.set i (some v)) ls2 := by
  refine ⟨by rw [List.length_set]; exact h2.1, h2.2.1, fun j w hj => ?_⟩
  by_cases hji : j = i
  · subst hji
    rw [List.getElem?_set_self hi] at hj
    cases hj
    exact ⟨h2.2.2 (j, cV ad v) List.mem_cons_self, hv⟩
  · rw [List.getElem?_set_ne (Ne.symm hji)] at hj
    refine ⟨h2.2.2 (j, cV ad w) (List.mem_cons_of_mem _ (List.mem_filter.mpr ⟨pL_mem.mpr ⟨w, hj, rfl⟩, ?_⟩)), (h.2.2 j w hj).2⟩
    have e1 : (j == i) = false := by simpa using hji
    rw [Bool.and_eq_true]
    refine ⟨by rw [e1]; rfl, ?_⟩
    by_cases hj1 : j + 1 = i
    · subst hj1
      unfold nL_ at hn
      simp only [hj] at hn
      rcases w with a | a | _ | _
      · simp [cV, Value.category]
      · exact hn.elim
      · simp [cV, Value.category]
      · simp [cV, Value.category]
    · have e2 : (j + 1 == i) = false := by simpa using hj1
      show (!(j + 1 == i && _)) = true
      rw [e2]; rfl
theorem VV_store {v : AV} {i : Nat} (hi : i < M.2.2.1) (hn : nL_ ls i)
    (k0 : ∀ (p : Program) (l : Launch) (e : Env) (R : Room) (s : State) (m : MethodId) (args : Array Value) (below : List Frame) (meth : Method) (c : Code) (H : Heap) (locs : List Loc) (Q : State → Prop) (ad : Nat → Nat) (ls' : Array Slot) (nL : Nat) (lv : List (Nat × Value)), p.tables.exec = Jvm.exec → c.code = M.2.1 → lv_has ls' nL lv → i < nL →
      (∀ ls2 : Array Slot, lv_has ls2 nL ((i, cV ad v) :: lv.filter (fun q => !(q.1 == i) && !(q.1 + 1 == i && q.2.category == 2))) → W p l e R s m args below meth c H locs 0 0 Q (F0 m q ls2 (st.map (cV ad)))) → W p l e R s m args below meth c H locs 0 0 Q (F0 m pc ls' (cV ad v :: st.map (cV ad))))
    (k : VV d M q (ls.set i (some v)) st μ r μ') : VV d M pc ls (v :: st) μ r μ' := by
  intro p l e s m args below meth c H locs dC dI D ad ls' C hH hS hn' hl hs
  refine k0 _ _ _ _ _ _ _ _ _ _ _ _ _ ad ls' ls.length (pL ad ls) C.1 C.2.1 (lR_has hl) (by rw [hn']; exact hi) (fun ls2 h2 => ?_)
  exact k p l e s m args below meth c H locs dC dI D ad ls2 C hH hS (by rw [List.length_set]; exact hn') (lR_set hl (ok_h hs) (by rw [hn']; exact hi) hn h2) (ok_t hs)
theorem V_istore_n {k : Fin 4} {i : Nat} {a : Int} (hd : decode M.2.1 pc = .ok (.istore_n k, 1)) (he : (k : Nat) = i) (hi : i < M.2.2.1) (hn : nL_ ls i) (hq : pc + 1 = q) (kk : VV d M q (ls.set i (some (vI a))) st μ r μ') : VV d M pc ls (vI a :: st) μ r μ' := by
  subst hq
  exact VV_store hi hn (fun p l e R s m args below meth c H locs Q ad ls' nL lv hx hb h1 h2 k2 => lv_istore_n hx hb hd he h1 h2 rfl k2) kk
theorem V_istore {i : Nat} {a : Int} (hd : decode M.2.1 pc = .ok (.istore i, 2)) (hi : i < M.2.2.1) (hn : nL_ ls i) (hq : pc + 2 = q) (kk : VV d M q (ls.set i (some (vI a))) st μ r μ') : VV d M pc ls (vI a :: st) μ r μ' := by
  subst hq
  exact VV_store hi hn (fun p l e R s m args below meth c H locs Q ad ls' nL lv hx hb h1 h2 k2 => lv_istore hx hb hd h1 h2 rfl k2) kk
theorem V_astore_n {k : Fin 4} {i : Nat} {a : Nat} (hd : decode M.2.1 pc = .ok (.astore_n k, 1)) (he : (k : Nat) = i) (hi : i < M.2.2.1) (hn : nL_ ls i) (hq : pc + 1 = q) (kk : VV d M q (ls.set i (some (vR a))) st μ r μ') : VV d M pc ls (vR a :: st) μ r μ' := by
  subst hq
  exact VV_store hi hn (fun p l e R s m args below meth c H locs Q ad ls' nL lv hx hb h1 h2 k2 => lv_astore_n hx hb hd he h1 h2 rfl k2) kk
theorem V_astore {i : Nat} {a : Nat} (hd : decode M.2.1 pc = .ok (.astore i, 2)) (hi : i < M.2.2.1) (hn : nL_ ls i) (hq : pc + 2 = q) (kk : VV d M q (ls.set i (some (vR a))) st μ r μ') : VV d M pc ls (vR a :: st) μ r μ' := by
  subst hq
  exact VV_store hi hn (fun p l e R s m args below meth c H locs Q ad ls' nL lv hx hb h1 h2 k2 => lv_astore hx hb hd h1 h2 rfl k2) kk
theorem V_iinc {i : Nat} {n a : Int} (hd : decode M.2.1 pc = .ok (.iinc i n, 3)) (hg : ls[i]? = some (some (vI a))) (hi : i < M.2.2.1) (hn : nL_ ls i) (hq : pc + 3 = q) (kk : VV d M q (ls.set i (some (vI (iA a n)))) st μ r μ') : VV d M pc ls st μ r μ' := by
  subst hq
  intro p l e s m args below meth c H locs dC dI D ad ls' C hH hS hn' hl hs
  obtain ⟨k, hk⟩ := List.getElem?_of_mem (pL_mem.mpr ⟨_, hg, rfl⟩ : (i, cV ad (vI a)) ∈ pL ad ls)
  refine lv_iinc C.1 C.2.1 hd (lR_has hl) hk (v := Int32.ofInt (iA a n)) (o32_add a n) (by rw [hn']; exact hi) rfl (fun ls2 h2 => ?_)
  exact kk p l e s m args below meth c H locs dC dI D ad ls2 C hH hS (by rw [List.length_set]; exact hn') (lR_set hl (rI_wI _) (by rw [hn']; exact hi) hn h2) hs
/-- a long -/
theorem lR_set2 {ad : Nat → Nat} {ls : List (Option AV)} {ls' ls2 : Array Slot} {i : Nat} {a : Int} (h : lR ad ls ls') (hv : rL a) (hi : i + 1 < ls.length) (hn : nL_ ls i)
    (h2 : lv_has ls2 ls.length ((i, cV ad (vL a)) :: (pL ad ls).filter (fun q => !(q.1 == i) && (!(q.1 == i + 1) && !(q.1 + 1 == i && q.2.category == 2))))) : lR ad ((ls.set i (some (vL a))).set (i + 1) none) ls2 := by
  refine ⟨by rw [List.length_set, List.length_set]; exact h2.1, h2.2.1, fun j w hj => ?_⟩
  by_cases hji1 : j = i + 1
  · subst hji1
    rw [List.getElem?_set_self (by rw [List.length_set]; exact hi)] at hj
    cases hj
  rw [List.getElem?_set_ne (Ne.symm hji1)] at hj
  by_cases hji : j = i
  · subst hji
    rw [List.getElem?_set_self (by omega)] at hj
    cases hj
    exact ⟨h2.2.2 (j, cV ad (vL a)) List.mem_cons_self, hv⟩
  · rw [List.getElem?_set_ne (Ne.symm hji)] at hj
    refine ⟨h2.2.2 (j, cV ad w) (List.mem_cons_of_mem _ (List.mem_filter.mpr ⟨pL_mem.mpr ⟨w, hj, rfl⟩, ?_⟩)), (h.2.2 j w hj).2⟩
    have e1 : (j == i) = false := by simpa using hji
    have e3 : (j == i + 1) = false := by simpa using hji1
    rw [Bool.and_eq_true, Bool.and_eq_true]
    refine ⟨by rw [e1]; rfl, by rw [e3]; rfl, ?_⟩
    by_cases hj1 : j + 1 = i
    · subst hj1
      unfold nL_ at hn
      simp only [hj] at hn
      rcases w with a | a | _ | _
      · simp [cV, Value.category]
      · exact hn.elim
      · simp [cV, Value.category]
      · simp [cV, Value.category]
    · have e2 : (j + 1 == i) = false := by simpa using hj1
      show (!(j + 1 == i && _)) = true
      rw [e2]; rfl
theorem V_lstore_n {k : Fin 4} {i : Nat} {a : Int} (hd : decode M.2.1 pc = .ok (.lstore_n k, 1)) (he : (k : Nat) = i) (hi : i + 1 < M.2.2.1) (hn : nL_ ls i) (hq : pc + 1 = q) (kk : VV d M q ((ls.set i (some (vL a))).set (i + 1) none) st μ r μ') : VV d M pc ls (vL a :: st) μ r μ' := by
  subst hq
  intro p l e s m args below meth c H locs dC dI D ad ls' C hH hS hn' hl hs
  refine lv_lstore_n C.1 C.2.1 hd he (lR_has hl) (by rw [hn']; exact hi) rfl (fun ls2 h2 => ?_)
  exact kk p l e s m args below meth c H locs dC dI D ad ls2 C hH hS (by rw [List.length_set, List.length_set]; exact hn') (lR_set2 hl (ok_h hs) (by rw [hn']; exact hi) hn h2) (ok_t hs)
theorem V_lstore {i : Nat} {a : Int} (hd : decode M.2.1 pc = .ok (.lstore i, 2)) (hi : i + 1 < M.2.2.1) (hn : nL_ ls i) (hq : pc + 2 = q) (kk : VV d M q ((ls.set i (some (vL a))).set (i + 1) none) st μ r μ') : VV d M pc ls (vL a :: st) μ r μ' := by
  subst hq
  intro p l e s m args below meth c H locs dC dI D ad ls' C hH hS hn' hl hs
  refine lv_lstore C.1 C.2.1 hd (lR_has hl) (by rw [hn']; exact hi) rfl (fun ls2 h2 => ?_)
  exact kk p l e s m args below meth c H locs dC dI D ad ls2 C hH hS (by rw [List.length_set, List.length_set]; exact hn') (lR_set2 hl (ok_h hs) (by rw [hn']; exact hi) hn h2) (ok_t hs)
/-- fewer locals known -/
def sb_ : List (Option AV) → List (Option AV) → Prop
  | [], [] => True
  | none :: a, _ :: b => sb_ a b
  | some v :: a, w :: b => w = some v ∧ sb_ a b
  | _, _ => False
theorem sb_ok : ∀ {a b : List (Option AV)}, sb_ a b → a.length = b.length ∧ ∀ (i : Nat) (v : AV), a[i]? = some (some v) → b[i]? = some (some v)
  | [], [], _ => ⟨rfl, fun i v h => by simp at h⟩
  | none :: a, _ :: b, h => by
    obtain ⟨h1, h2⟩ := sb_ok (a := a) (b := b) h
    refine ⟨by simp [h1], fun i v hi => ?_⟩
    cases i with
    | zero => simp at hi
    | succ i => simpa using h2 i v (by simpa using hi)
  | some x :: a, w :: b, h => by
    obtain ⟨h0, h⟩ := h
    obtain ⟨h1, h2⟩ := sb_ok (a := a) (b := b) h
    refine ⟨by simp [h1], fun i v hi => ?_⟩
    cases i with
    | zero => simp at hi; subst hi; simp [h0]
    | succ i => simpa using h2 i v (by simpa using hi)
  | [], _ :: _, h => h.elim
  | some _ :: _, [], h => h.elim
  | none :: _, [], h => h.elim
theorem V_weak {ls2 : List (Option AV)} (k : VV d M pc ls2 st μ r μ') (h : sb_ ls2 ls) : VV d M pc ls st μ r μ' := by
  obtain ⟨h1, h2⟩ := sb_ok h
  intro p l e s m args below meth c H locs dC dI D ad ls' C hH hS hn hl hs
  exact k p l e s m args below meth c H locs dC dI D ad ls' C hH hS (h1.trans hn) ⟨hl.1.trans h1.symm, hl.2.1, fun i v hi => hl.2.2 i v (h2 i v hi)⟩ hs
end VL
