/-! NoSuchElementException(String) calls its super by entry 13: its own chain and its own throw (ns_throw: vx_ctorMadeS of kit/laws/EXCEPTIONS, pasted and turned) -/
abbrev nseN : String := "java/util/NoSuchElementException"
abbrev rteN : String := "java/lang/RuntimeException"
abbrev excN : String := "java/lang/Exception"
def ns6 : ByteArray := ⟨#[0x2a, 0x2b, 0xb7, 0x00, 0x0d, 0xb1]⟩
theorem ns6_0 : decode ns6 0 = .ok (.aload_n 0, 1) := by decide +kernel
theorem ns6_1 : decode ns6 1 = .ok (.aload_n 1, 1) := by decide +kernel
theorem ns6_2 : decode ns6 2 = .ok (.invokespecial 13, 3) := by decide +kernel
theorem ns6_5 : decode ns6 5 = .ok (.return_, 1) := by decide +kernel
/-- the words of the throw: the kit's list, the first pass by the other entry -/
def nsL : List Cond := (Bundle.ownAtoms RX10 175 nseN [rteN, excN]).filter (fun w => decide (w ∉ Bundle.passSAtoms nseN rteN 7 Bundle.six)) ++ Bundle.passSAtoms nseN rteN 13 ns6
theorem nsL_T : ∀ x ∈ Bundle.throwableAtoms, x ∈ nsL := by decide +kernel
theorem nsL_S : ∀ x ∈ Bundle.throwableSAtoms, x ∈ nsL := by decide +kernel
theorem nsL_C : ∀ x ∈ Bundle.passSAtoms nseN rteN 13 ns6 ++ Bundle.chainSAtoms rteN [excN], x ∈ nsL := by decide +kernel
theorem ns_fit : Bundle.fit nseN = true := by decide +kernel
theorem ns_chain {args : Array Value} {s : State} {pl : Platform} (hpl : pl.magicAccessors = ({} : Platform).magicAccessors) {top : MethodId} (htop : s.methodNamed? (Bundle.initS Bundle.tN) = some top)
    (h : ∀ c ∈ Bundle.passSAtoms nseN rteN 13 ns6 ++ Bundle.chainSAtoms rteN [excN], c.before args s = true) :
    ∃ (P1 : PassC) (Ps : List PassC), Ps.length = 2 ∧ P1.LinksS pl s ∧ (∀ P, P ∈ Ps → P.LinksS pl s) ∧ s.methodNamed? (Bundle.initS nseN) = some P1.m ∧
      P1.sup = firstOf top (Ps.map (·.toPassT)) ∧ PassesOn top (Ps.map (·.toPassT)) := by
  obtain ⟨P', Ps, hlen, L', hL, hm', hsup, hpass⟩ := Bundle.chainS (args := args) hpl htop [excN] rteN (by decide +kernel) (by decide +kernel) (fun c hc => h c (List.mem_append_right _ hc))
  obtain ⟨P, L, hm, hs⟩ := PassC.ofS_atoms (args := args) (s := s) hpl (X := nseN) (Y := rteN) (Bundle.fit_spec ns_fit).1 (by decide) ns6_0 ns6_1 ns6_2 ns6_5 (fun c hc => h c (List.mem_append_left _ hc))
  refine ⟨P, P' :: Ps, by rw [List.length_cons, hlen]; rfl, L, fun Q hQ => ?_, hm, Option.some.inj (hs.symm.trans hm'), hsup, hpass⟩
  rcases List.mem_cons.mp hQ with rfl | hQ
  · exact L'
  · exact hL Q hQ
section NSE
variable {p : Program} {l : Launch} {e : Env} {R : Room} {s : State} {m₀ : MethodId} {args : Array Value} {below : List Frame} {meth : Method} {c : Code} {W : State} {locs : List Loc} {cells slots : Nat}
set_option maxHeartbeats 2000000 in
theorem ns_throw (X : Stand p l e R s m₀ args below meth c W locs cells slots) (hexec : p.tables.exec = Jvm.exec) (htr : e.platform.stackTraces = false) 
    (hown : s.vm.findClass RX10 = some m₀.cls)
    (h : ∀ a ∈ nsL, a.before args s = true)
    (hlocs : ∀ x ∈ locs, ∀ cell, s.heap[x.base]? = some cell → cell.vm.isStatics = false)
    {a : Addr} {cX : ClassId} {kX : Class} (hfoundX : s.vm.findClass nseN = some cX) (hkX : s.vm.classes[cX]? = some kX) (hcell : W.heap[a]? = some (freshCell cX kX)) (hnew : s.heap.size ≤ a)
    {msg : Value} (hmsg : msg.isRef = true)
    {g : JFrame} (hg : g.method = m₀) (hsize : g.locals.size = c.maxLocals) {rest : List Value} (hstack : g.stack = msg :: .ref a :: .ref a :: rest)
    (hlocked : g.locked = none) (hentered : g.entered = []) (hd6 : decode c.code g.pc = .ok (.invokespecial 175, 3)) (hd9 : decode c.code (g.pc + 3) = .ok (.athrow, 1)) (hout : ∀ x ∈ c.exceptionTable.toList, covers x (g.pc + 3) = false) (hlocks : meth.locks = false)
    (hRframes : 5 < R.frames) (hRlocals : 2 * g.monitorRoom + ((Value.ref a :: rest).map fun v => v.category).sum + (81) ≤ R.locals) :
    ∃ U : State, Steps p.tables e below (W.setTop g) U ∧ U.status = .running ∧ Ended U below (.threw a) ∧ s.WarmedH U.vm ∧ s.sameButNew ({ U with vm := s.vm } : State) locs cells slots ∧
      ∃ ce, U.heap[a]? = some ce ∧ s.vm.findClass nseN = some ce.cls ∧ ce.vm = .none := by
  have howns : e.platform.frameOwnsMonitors = true := by rw [X.admits.platform]
  have hfin : e.platform.finalization = false := by rw [X.admits.platform]
  have hpl : e.platform.magicAccessors = ({} : Platform).magicAccessors := by rw [X.admits.platform]
  have a' : ∀ x, x ∈ nsL → x.holds args s none s [] = true := fun x hx => h x hx
  obtain ⟨T, Z0, L, -, Y⟩ := ThrowableC.of_atoms (args := args) howns hfin hpl (fun x hx => h x (nsL_T x hx))
  obtain ⟨Z, M, LZ, LM, hnZ⟩ := Init0T.ofS_atoms (args := args) hpl L Y (fun x hx => h x (nsL_S x hx))
  obtain ⟨P1, Ps, hlen, L1, hL, hP1m, hlink1, hlink⟩ := ns_chain (args := args) hpl hnZ (fun x hx => h x (nsL_C x hx))
  have hfound : s.vm.findClass nseN = some P1.m.cls := findClass_of_methodNamed hP1m
  cases Option.some.inj (hfoundX.symm.trans hfound)
  obtain ⟨c1, kX', hc1, hk, hord, -, -, hn6⟩ := Cond.instantiable_spec (a' (.instantiable nseN 6) (by decide +kernel))
  cases Option.some.inj (hc1.symm.trans hfound)
  cases Option.some.inj (hkX.symm.trans hk)
  have hsel0 : selectMethod e.platform s.vm P1.m.cls T.fill0 = .method T.fill0 := by
    obtain ⟨c2, r2, m2, q1, q2, q3, q4, -⟩ := Cond.selects_spec (a' (.selects nseN Bundle.tFill0 Bundle.tFill0) (by decide +kernel))
    cases Option.some.inj (q1.symm.trans hfound)
    cases Option.some.inj (q2.symm.trans (State.methodFound?_of_named Y.fill0 (by decide)))
    cases Option.some.inj (q3.symm.trans Y.fill0)
    rw [Launch.admits_selectMethod X.admits]; exact q4
  have hselF : selectMethod e.platform s.vm P1.m.cls T.fill = .method T.fill := by
    obtain ⟨c2, r2, m2, q1, q2, q3, q4, -⟩ := Cond.selects_spec (a' (.selects nseN Bundle.tFill Bundle.tFill) (by decide +kernel))
    cases Option.some.inj (q1.symm.trans hfound)
    cases Option.some.inj (q2.symm.trans (State.methodFound?_of_named Y.fill (by decide)))
    cases Option.some.inj (q3.symm.trans Y.fill)
    rw [Launch.admits_selectMethod X.admits]; exact q4
  obtain ⟨cellS0, hcS0, hiss⟩ := Y.statics
  obtain ⟨u0, hu0⟩ := Cond.staticRefV Y.unassigned L.unassignedStatic L.statics hcS0 hiss (a' (.isRef (.static Bundle.tN "UNASSIGNED_STACK" Bundle.steD)) (by decide +kernel))
  obtain ⟨sen, hsen⟩ := Cond.staticRefV Y.sentinel L.sentinelStatic L.statics hcS0 hiss (a' (.isRef (.static Bundle.tN "SUPPRESSED_SENTINEL" Bundle.listD)) (by decide +kernel))
  obtain ⟨ci198, i198, fB, hk198, hg198, ha198, hsB, -, hnB, htB, hffB⟩ := Cond.ownField (t := .object "java/lang/Object") Y.found L.cls (by decide +kernel) (a' (.fieldLink Bundle.tN 198 Bundle.tN "backtrace" "Ljava/lang/Object;") (by decide +kernel)) (a' (.lays Bundle.tN Bundle.tN "backtrace" "Ljava/lang/Object;") (by decide +kernel)) e.platform hpl
  obtain ⟨cellS, hcS', heS, -, hkeep⟩ := X.same.2.2.2.2.2 T.aS cellS0 hcS0
  have hcellS : W.heap[T.aS]? = some cellS := hcS'
  have hout' : ∀ i, (⟨T.aS, i⟩ : Loc) ∉ locs := fun i hmem => by
    have := hlocs _ hmem cellS0 hcS0
    rw [hiss] at this; cases this
  have hknownS : cellS.vm ≠ .unknown := by
    rw [heS]; intro hu
    rw [show cellS0.vm = .unknown from hu] at hiss
    cases hiss
  have hneS : T.aS ≠ a := Nat.ne_of_lt (Nat.lt_of_lt_of_le (Array.getElem?_eq_some_iff.mp hcS0).1 hnew)
  obtain ⟨iM, hffM⟩ := Y.msg
  obtain ⟨tyC, dC, hdC, hdnC⟩ := Cond.laysAt hfound hk Y.cause (a' (.lays nseN Bundle.tN "cause" "Ljava/lang/Throwable;") (by decide +kernel))
  obtain ⟨tyS, dS, hdS, hdnS⟩ := Cond.laysAt hfound hk Y.stack (a' (.lays nseN Bundle.tN "stackTrace" Bundle.steD) (by decide +kernel))
  obtain ⟨tyP, dP, hdP, hdnP⟩ := Cond.laysAt hfound hk Y.supp (a' (.lays nseN Bundle.tN "suppressedExceptions" Bundle.listD) (by decide +kernel))
  obtain ⟨tyM, dM, hdM, hdnM⟩ := Cond.laysAt hfound hk hffM (a' (.lays nseN Bundle.tN "detailMessage" "Ljava/lang/String;") (by decide +kernel))
  obtain ⟨tyB, dB, hdB, hdnB⟩ := Cond.laysAt hfound hk hffB (a' (.lays nseN Bundle.tN "backtrace" "Ljava/lang/Object;") (by decide +kernel))
  have bC := Cond.laysApart hdB hdC hdnB hdnC (by rw [hnB, Y.causeName]; decide)
  have bS := Cond.laysApart hdB hdS hdnB hdnS (by rw [hnB, Y.stackName]; decide)
  have bP := Cond.laysApart hdB hdP hdnB hdnP (by rw [hnB, Y.suppName]; decide)
  have hskip : SkipFacts T e.platform s (fun u => u) u0 ((preparedCellV T.toThrowableT (freshCell P1.m.cls kX) a u0 sen).withEntry W.cur) :=
    ⟨{ ci198 := ci198, i198 := i198, fBack := fB }, ⟨hk198, hg198, ha198, hsB⟩, by
      have := fresh_default (c := P1.m.cls) tyB
      rw [htB] at this
      simpa [preparedCellV, Cell.setSlot, Cell.withEntry, Array.getElem?_setIfInBounds, bC, bS, bP, bC.symm, bS.symm, bP.symm, defaultValue] using this, fun _ _ => rfl⟩
  obtain ⟨tm, methC, cdC, kC, vm₁, hnC, -, -, -, -, -, -, -, hW₁, st1⟩ := Steps.initColdS (tb := p.tables) (e := e) (below := below) (s := s) (U := W) X.here hexec X.warmed hpl hown (t := Bundle.initS nseN) rfl rfl (Bundle.fit_spec ns_fit).2
    (a' (.methodLink RX10 175 (Bundle.initS nseN)) (by decide +kernel)) (h (.instanceMethod (Bundle.initS nseN)) (by decide +kernel)) (bytes := ns6) (maxL := 2) (h (.code (Bundle.initS nseN) ns6 2 none) (by decide +kernel))
    (f := g) hg (a := a) (msg := msg) (rest := .ref a :: rest) hstack hd6
  cases Option.some.inj (hnC.symm.trans hP1m)
  have X₁ := X.noted hW₁
  obtain ⟨vm₂, X₂, st2⟩ := X₁.ctorMessageOffV hexec (g := { g with stack := .ref a :: rest }) hg hsize T L Z LZ M LM (P1 :: Ps)
    (fun P hP => by rcases List.mem_cons.mp hP with rfl | hP; exact L1; exact hL P hP) ⟨hlink1, hlink⟩ (u0 := u0) (sen := sen) (self := a) hmsg (cell := freshCell P1.m.cls kX) (cellS := cellS)
    hcell (fun _ => by simp) (by simp) rfl rfl hsel0 hselF hcellS hneS hknownS (by rw [hkeep _ (hout' _)]; exact hu0) (by rw [hkeep _ (hout' _)]; exact hsen)
    (Takes.of_laid hk hord tyC (by rw [Y.causeType]; rfl)) (Takes.of_laid hk hord tyS (by rw [Y.stackType]; exact fits_refV_array _ u0)) (Takes.of_laid hk hord tyP (by rw [Y.suppType]; exact fits_refV_object _ sen))
    (Takes.of_laid hk hord tyM (by rw [Y.msgType]; exact fits_refV_object _ ⟨msg, hmsg⟩)) Y.objLocals hskip htr [] hd6
    (by simp only [List.length_cons, hlen]; omega) (by simp only [List.length_cons, hlen]; exact hRlocals)
  obtain ⟨hwalk, hrun, hended, hWU, hsame⟩ := X₂.athrowLeaves hexec (g := { g with stack := .ref a :: rest, pc := g.pc + 3 }) hg hlocked hentered hout (a := a) (rest := rest) rfl hd9
  have hlt : a < ((W.setVm vm₁).setVm vm₂).heap.size := (Array.getElem?_eq_some_iff.mp hcell).1
  have hU := heapAt_setCell_self (s := (W.setVm vm₁).setVm vm₂) (plainBareV T.toThrowableT (freshCell P1.m.cls kX) a u0 sen msg) hlt
  refine ⟨_, st1 _ (fun acts => ?_), hrun, hended, hWU, hsame.weaken (fun y hy hlt' => ?_) (Nat.le_refl _) (Nat.le_refl _), _, hU, hfound, rfl⟩
  · rw [doInvoke_state]
    exact st2 _ hwalk
  · rcases List.mem_append.mp hy with h1 | h1
    · exact h1
    · exfalso
      have hb : y.base = a := by
        simp only [List.mem_cons, List.not_mem_nil, or_false] at h1
        rcases h1 with rfl | rfl | rfl | rfl | rfl <;> rfl
      rw [hb] at hlt'
      exact Nat.not_lt.mpr hnew hlt'
end NSE
section NST
variable {p : Program} {l : Launch} {e : Env} {R : Room} {s : State} {m : MethodId} {args : Array Value} {below : List Frame} {meth : Method} {c : Code} {H : Heap} {locs : List Loc} {cells slots : Nat} {Qc : Array Value → State → Outcome → State → Prop} {XC : String → State → State → Prop} {free : Addr → Prop} {ls : Array Slot} {rest : List Value}
/-- 'throw new NoSuchElementException("text")' in UnderFloor.crank -/
theorem ns_throwS {cc : ByteArray} {pc : Nat} (hexec : p.tables.exec = Jvm.exec) (hb : c.code = cc) (hl : l.stackTraces = false) {text : String} {mc ms sa : Nat} {A : Nat → Prop}
    (hown : s.vm.findClass RX10 = some m.cls)
    (hk : (Cond.classLink RX10 171 nseN).before args s = true) (hini : (Cond.initialized nseN).before args s = true) (hstr : vk_R RX10 173 text sa s) (hat : ∀ w ∈ nsL.filter vx_no, w.before args s = true)
    (hgood : ∀ w ∈ Cond.classLink RX10 171 nseN :: Cond.initialized nseN :: nsL.filter vx_no, vx_ot w = true)
    (hU : vx_Zq Bundle.tN "UNASSIGNED_STACK" Bundle.steD A s s.heap) (hN : vx_Zq Bundle.tN "SUPPRESSED_SENTINEL" Bundle.listD A s s.heap) (hS : va_S A s.heap H locs) (hsize : ls.size = c.maxLocals)
    (d0 : decode cc pc = .ok (.new 171, 3)) (d3 : decode cc (pc + 3) = .ok (.dup, 1)) (d4 : decode cc (pc + 4) = .ok (.ldc 173, 2)) (d6 : decode cc (pc + 6) = .ok (.invokespecial 175, 3)) (d9 : decode cc (pc + 9) = .ok (.athrow, 1))
    (hout : ∀ x ∈ c.exceptionTable.toList, covers x (pc + 9) = false)
    (hRframes : 5 < R.frames) (hRlocals : (rest.map fun v => v.category).sum + 82 ≤ R.locals) (hRcells : cells + 1 ≤ R.cells) (hRslots : slots + 6 ≤ R.slots) (hlocks : meth.locks = false)
    (hx : ∀ t : State, s.vm.Alike t.vm → H.size ≤ t.heap.size → (∀ q : Nat, q < H.size → t.heap[q]? = H[q]?) → XC nseN s t)
    (hf : ∀ z ∈ locs, free z.base) (hc : cells + 1 ≤ mc) (hs : slots + 6 ≤ ms) :
    W p l e R s m args below meth c H locs cells slots (vx_MQ below Qc XC args s mc ms free) (F0 m pc ls rest) := by
  intro T hT X
  have htr : e.platform.stackTraces = false := (show e.platform.stackTraces = l.stackTraces by rw [X.admits.platform]).trans hl
  have Y := vx_rebase X (R' := { frames := R.frames, locals := R.locals, cells := 1, slots := 6 }) (Nat.le_refl _) (Nat.le_refl _) hRcells hRslots
  obtain ⟨s', hA⟩ : ∃ z, z = (T.setVm s.vm).setFrames (.invoking m args :: below) := ⟨_, rfl⟩
  rw [← hA] at Y
  have hvm : s'.vm = s.vm := by rw [hA]; rfl
  have hhp : s'.heap = H := by rw [hA]; exact hT
  have hW0 : s.WarmedH s'.vm := by rw [hvm]; exact State.WarmedH.refl s
  have hat' : ∀ w ∈ nsL.filter vx_no, w.before args s' = true := fun w hw => vx_ot_at hW0 hvm.symm (hgood w (List.mem_cons_of_mem _ (List.mem_cons_of_mem _ hw))) (hat w hw)
  have hk' : (Cond.classLink RX10 171 nseN).before args s' = true := vx_ot_at hW0 hvm.symm (hgood _ List.mem_cons_self) hk
  have hini' : (Cond.initialized nseN).before args s' = true := vx_ot_at hW0 hvm.symm (hgood _ (List.mem_cons_of_mem _ List.mem_cons_self)) hini
  have hU' : vx_Zq Bundle.tN "UNASSIGNED_STACK" Bundle.steD A s' s'.heap := by rw [hhp]; exact vx_Zq.moved hW0.alike (hU.kept hS.2.1)
  have hN' : vx_Zq Bundle.tN "SUPPRESSED_SENTINEL" Bundle.listD A s' s'.heap := by rw [hhp]; exact vx_Zq.moved hW0.alike (hN.kept hS.2.1)
  have h : ∀ w ∈ nsL, w.before args s' = true := vx_own hat' (vx_isRefq hU'.1) (vx_isRefq hN'.1) hU'.2.word hN'.2.word
  have hown' : s'.vm.findClass RX10 = some m.cls := by rw [hvm]; exact hown
  have hins : (Cond.instantiable nseN 6).before args s' = true := h _ (by decide +kernel)
  obtain ⟨vm₁, cX, kX, hfX, hkX, -, -, X₁, st1⟩ := Y.newCold hexec (own := RX10) (C := nseN) (index := 171) (n := 6) hown' hk' hins hini'
    (g := F0 m pc ls rest) rfl (by rw [hb]; exact d0) (Nat.le_refl _) (Nat.le_refl _)
  generalize hT1 : (T.setVm vm₁).pushCell { cls := cX, slots := kX.instanceTypes.map defaultValue, vm := .none } = T1 at X₁ st1
  have hcat : (Value.ref T.heap.size).category = 1 := rfl
  have hcellA : T1.heap[T.heap.size]? = some (freshCell cX kX) := by rw [← hT1]; exact State.heap_pushCell_size _ _
  have d3' : decode c.code (pc + 3) = .ok (.dup, 1) := by rw [hb]; exact d3
  have d4' : decode c.code (pc + 4) = .ok (.ldc 173, 2) := by rw [hb]; exact d4
  have hstr' : vk_R RX10 173 text sa s' := vk_R.warm hW0 hstr
  obtain ⟨U, hsteps, hrun, hend, hW, hsame, ce, hce, hOc, hOv⟩ := ns_throw X₁ hexec htr hown' h (fun x hx => nomatch hx) hfX hkX hcellA (by rw [hhp, hT]; exact Nat.le_refl _) (msg := .ref sa) rfl
    (g := { method := m, pc := pc + 6, locals := ls, stack := .ref sa :: .ref T.heap.size :: .ref T.heap.size :: rest, locked := none }) rfl hsize (rest := rest) rfl
    rfl rfl (by rw [hb]; exact d6) (by rw [hb]; exact d9) hout hlocks hRframes (by simp only [List.map_cons, List.sum_cons, hcat]; omega)
  obtain ⟨f1, f2⟩ := vx_frame hsame
  rw [hhp] at f1 f2
  have hWs : s.WarmedH U.vm := State.WarmedH.trans hW0 hW
  have hcl : s.vm.findClass nseN = some ce.cls := by
    have h9 := hOc
    rw [hvm] at h9
    exact h9
  have hall : s.sameButNew ({ U with vm := s.vm } : State) locs mc ms := by
    subst hA
    obtain ⟨e1, e2⟩ := hsame
    rw [State.setFrames_setFrames] at e1
    have h2 : (T.setVm s.vm).sameButNew ({ U with vm := s.vm } : State) [] (0 + 1) (0 + 6) := ⟨e1, e2⟩
    have h3 := X.same.trans h2
    rw [List.append_nil] at h3
    exact h3.mono hc hs
  refine ⟨U, ?_, .threw T.heap.size, hrun, hend, Or.inr ⟨T.heap.size, rfl, nseN, ce, locs, hx U hWs.alike f1 (fun q hq => f2 q hq (fun z hz => nomatch hz)), hce, hOv, hcl, hWs, hall, hf⟩⟩
  refine st1 _ ?_
  show Steps p.tables e below (T1.setTop { method := m, pc := pc + 3, locals := ls, stack := .ref T.heap.size :: rest, locked := none }) _
  jvm_step X₁.here [X₁.here.top, hexec, d3', Value.category]
  exact X₁.ldcString hexec (own := RX10) (text := text) (index := 173) (a := sa) hown' hstr'.1 hstr'.2
    (g := { method := m, pc := pc + 4, locals := ls, stack := .ref T.heap.size :: .ref T.heap.size :: rest, locked := none }) rfl d4' _ hsteps
end NST
/-! CRANK: the one call that may throw -/
theorem dX10_crank_0 : decode cX10_crank 0 = .ok (.aload_n 0, 1) := dc_42 (byA eNcX10_crank (p := 0) (v := 42) (by decide +kernel))
theorem dX10_crank_1 : decode cX10_crank 1 = .ok (.getfield 37, 3) := dc_180 (byA eNcX10_crank (p := 1) (v := 180) (by decide +kernel)) (byA eNcX10_crank (p := 2) (v := 0) (by decide +kernel)) (byA eNcX10_crank (p := 3) (v := 37) (by decide +kernel)) rfl
theorem dX10_crank_4 : decode cX10_crank 4 = .ok (.iload_n 1, 1) := dc_27 (byA eNcX10_crank (p := 4) (v := 27) (by decide +kernel))
theorem dX10_crank_5 : decode cX10_crank 5 = .ok (.invokevirtual 168, 3) := dc_182 (byA eNcX10_crank (p := 5) (v := 182) (by decide +kernel)) (byA eNcX10_crank (p := 6) (v := 0) (by decide +kernel)) (byA eNcX10_crank (p := 7) (v := 168) (by decide +kernel)) rfl
theorem dX10_crank_8 : decode cX10_crank 8 = .ok (.istore_n 2, 1) := dc_61 (byA eNcX10_crank (p := 8) (v := 61) (by decide +kernel))
theorem dX10_crank_9 : decode cX10_crank 9 = .ok (.iload_n 2, 1) := dc_28 (byA eNcX10_crank (p := 9) (v := 28) (by decide +kernel))
theorem dX10_crank_10 : decode cX10_crank 10 = .ok (.iconst (-1), 1) := dc_2 (byA eNcX10_crank (p := 10) (v := 2) (by decide +kernel))
theorem dX10_crank_11 : decode cX10_crank 11 = .ok (.if_icmp .ne 13, 3) := dc_160 (byA eNcX10_crank (p := 11) (v := 160) (by decide +kernel)) (byA eNcX10_crank (p := 12) (v := 0) (by decide +kernel)) (byA eNcX10_crank (p := 13) (v := 13) (by decide +kernel)) (by decide +kernel)
theorem dX10_crank_14 : decode cX10_crank 14 = .ok (.new 171, 3) := dc_187 (byA eNcX10_crank (p := 14) (v := 187) (by decide +kernel)) (byA eNcX10_crank (p := 15) (v := 0) (by decide +kernel)) (byA eNcX10_crank (p := 16) (v := 171) (by decide +kernel)) rfl
theorem dX10_crank_17 : decode cX10_crank 17 = .ok (.dup, 1) := dc_89 (byA eNcX10_crank (p := 17) (v := 89) (by decide +kernel))
theorem dX10_crank_18 : decode cX10_crank 18 = .ok (.ldc 173, 2) := dc_18 (byA eNcX10_crank (p := 18) (v := 18) (by decide +kernel)) (byA eNcX10_crank (p := 19) (v := 173) (by decide +kernel))
theorem dX10_crank_20 : decode cX10_crank 20 = .ok (.invokespecial 175, 3) := dc_183 (byA eNcX10_crank (p := 20) (v := 183) (by decide +kernel)) (byA eNcX10_crank (p := 21) (v := 0) (by decide +kernel)) (byA eNcX10_crank (p := 22) (v := 175) (by decide +kernel)) rfl
theorem dX10_crank_23 : decode cX10_crank 23 = .ok (.athrow, 1) := dc_191 (byA eNcX10_crank (p := 23) (v := 191) (by decide +kernel))
theorem dX10_crank_24 : decode cX10_crank 24 = .ok (.iload_n 2, 1) := dc_28 (byA eNcX10_crank (p := 24) (v := 28) (by decide +kernel))
theorem dX10_crank_25 : decode cX10_crank 25 = .ok (.ireturn, 1) := dc_172 (byA eNcX10_crank (p := 25) (v := 172) (by decide +kernel))
theorem dL_crank_0 : decode cL_crank 0 = .ok (.aload_n 2, 1) := dc_44 (byA eNcL_crank (p := 0) (v := 44) (by decide +kernel))
theorem dL_crank_1 : decode cL_crank 1 = .ok (.iconst 0, 1) := dc_3 (byA eNcL_crank (p := 1) (v := 3) (by decide +kernel))
theorem dL_crank_2 : decode cL_crank 2 = .ok (.aload_n 0, 1) := dc_42 (byA eNcL_crank (p := 2) (v := 42) (by decide +kernel))
theorem dL_crank_3 : decode cL_crank 3 = .ok (.iload_n 1, 1) := dc_27 (byA eNcL_crank (p := 3) (v := 27) (by decide +kernel))
theorem dL_crank_4 : decode cL_crank 4 = .ok (.invokevirtual 7, 3) := dc_182 (byA eNcL_crank (p := 4) (v := 182) (by decide +kernel)) (byA eNcL_crank (p := 5) (v := 0) (by decide +kernel)) (byA eNcL_crank (p := 6) (v := 7) (by decide +kernel)) rfl
theorem dL_crank_7 : decode cL_crank 7 = .ok (.i2l, 1) := dc_133 (byA eNcL_crank (p := 7) (v := 133) (by decide +kernel))
theorem dL_crank_8 : decode cL_crank 8 = .ok (.lastore, 1) := dc_80 (byA eNcL_crank (p := 8) (v := 80) (by decide +kernel))
theorem dL_crank_9 : decode cL_crank 9 = .ok (.goto 6, 3) := dc_167 (byA eNcL_crank (p := 9) (v := 167) (by decide +kernel)) (byA eNcL_crank (p := 10) (v := 0) (by decide +kernel)) (byA eNcL_crank (p := 11) (v := 6) (by decide +kernel)) (by decide +kernel)
theorem dL_crank_12 : decode cL_crank 12 = .ok (.astore_n 3, 1) := dc_78 (byA eNcL_crank (p := 12) (v := 78) (by decide +kernel))
theorem dL_crank_13 : decode cL_crank 13 = .ok (.iconst 1, 1) := dc_4 (byA eNcL_crank (p := 13) (v := 4) (by decide +kernel))
theorem dL_crank_14 : decode cL_crank 14 = .ok (.ireturn, 1) := dc_172 (byA eNcL_crank (p := 14) (v := 172) (by decide +kernel))
theorem dL_crank_15 : decode cL_crank 15 = .ok (.iconst 0, 1) := dc_3 (byA eNcL_crank (p := 15) (v := 3) (by decide +kernel))
theorem dL_crank_16 : decode cL_crank 16 = .ok (.ireturn, 1) := dc_172 (byA eNcL_crank (p := 16) (v := 172) (by decide +kernel))
abbrev mX10_crank : Mth := (yX10_crank, cX10_crank, 3, some .int)
/-- the words of the throw that the tables alone decide -/
def nsW4 : List Cond := [.declares (Bundle.initS rteN), .declares (Bundle.initS excN), .declares (Bundle.initS Bundle.tN), .castable nseN nseN]
def nsB (U : State) : Prop := ∀ w ∈ nsW4, w.before #[] U = true
theorem nsW4_ot : ∀ w ∈ nsW4, w.onTables = true := by decide
theorem nsB.of {A : Array Value} {U : State} (h : ∀ w ∈ nsW4, w.before A U = true) : nsB U := fun w hw => va_tabs (nsW4_ot w hw) rfl (h w hw)
theorem nsB.use {A : Array Value} {U : State} (h : nsB U) : ∀ w ∈ nsW4, w.before A U = true := fun w hw => va_tabs (nsW4_ot w hw) rfl (h w hw)
theorem nsB.moved {u U : State} (hvm : u.vm.Alike U.vm) (h : nsB u) : nsB U := by
  have tr : ∀ {w : Cond}, w.onTables = true → w.before #[] (u.setVm U.vm) = true → w.before #[] U = true := fun {w} hc h => va_tabs (u := u.setVm U.vm) (U := U) hc rfl h
  intro w hw
  have h1 := h w hw
  simp only [nsW4, List.mem_cons, List.not_mem_nil, or_false] at hw
  rcases hw with rfl | rfl | rfl | rfl
  · exact tr rfl (by rw [Cond.declares_setVm hvm]; exact h1)
  · exact tr rfl (by rw [Cond.declares_setVm hvm]; exact h1)
  · exact tr rfl (by rw [Cond.declares_setVm hvm]; exact h1)
  · exact tr rfl (by rw [Cond.castable_setVm hvm]; exact h1)
abbrev nsAll : List Cond := Cond.classLink RX10 171 nseN :: Cond.initialized nseN :: nsL.filter vx_no
def nsQ0 : List Cond := (tables_1_5.drop 36).take 65
theorem nsQ0_t : ∀ w ∈ nsQ0, w ∈ lw_tbl := fun w h => tb5 (List.mem_of_mem_drop (List.mem_of_mem_take h))
def nsQ1 : List Cond := (tables_1_1.drop 16).take 4
theorem nsQ1_t : ∀ w ∈ nsQ1, w ∈ lw_tbl := fun w h => tb1 (List.mem_of_mem_drop (List.mem_of_mem_take h))
def nsQ2 : List Cond := (tables_1_7.drop 207).take 2
theorem nsQ2_t : ∀ w ∈ nsQ2, w ∈ lw_tbl := fun w h => tb7 (List.mem_of_mem_drop (List.mem_of_mem_take h))
def nsQ3 : List Cond := (tables_1_3.drop 102).take 1
theorem nsQ3_t : ∀ w ∈ nsQ3, w ∈ lw_tbl := fun w h => tb3 (List.mem_of_mem_drop (List.mem_of_mem_take h))
def nsQ4 : List Cond := (tables_1_5.drop 31).take 1
theorem nsQ4_t : ∀ w ∈ nsQ4, w ∈ lw_tbl := fun w h => tb5 (List.mem_of_mem_drop (List.mem_of_mem_take h))
def nsQ5 : List Cond := (tables_1_7.drop 194).take 1
theorem nsQ5_t : ∀ w ∈ nsQ5, w ∈ lw_tbl := fun w h => tb7 (List.mem_of_mem_drop (List.mem_of_mem_take h))
def nsQ : List Cond := nsQ0 ++ (nsQ1 ++ (nsQ2 ++ (nsQ3 ++ (nsQ4 ++ (nsQ5)))))
theorem nsQ_t : ∀ w ∈ nsQ, w ∈ lw_tbl := fun w h => by
  unfold nsQ at h
  rcases List.mem_append.mp h with h | h
  · exact nsQ0_t w h
  rcases List.mem_append.mp h with h | h
  · exact nsQ1_t w h
  rcases List.mem_append.mp h with h | h
  · exact nsQ2_t w h
  rcases List.mem_append.mp h with h | h
  · exact nsQ3_t w h
  rcases List.mem_append.mp h with h | h
  · exact nsQ4_t w h
  exact nsQ5_t w h
theorem nsQw4 : ∀ w ∈ nsW4, w ∈ nsQ := by decide +kernel
theorem nsW4_tbl : ∀ w ∈ nsW4, w ∈ lw_tbl := fun w h => nsQ_t w (nsQw4 w h)
theorem nsQL : ∀ w ∈ nsAll, ((decide (w ∈ nsQ) || decide (w ∈ lw_tbl)) && goodWord w) = true ∨ w ∈ nsW4 := by decide +kernel
theorem nsL_in : ∀ w ∈ nsAll, (decide (w ∈ lw_tbl) && goodWord w) = true ∨ w ∈ nsW4 := fun w hw => by
  rcases nsQL w hw with h | h
  · refine Or.inl ?_
    simp only [Bool.and_eq_true, Bool.or_eq_true, decide_eq_true_eq] at h ⊢
    exact ⟨h.1.elim (fun z => nsQ_t w z) id, h.2⟩
  · exact Or.inr h
theorem nsL_ot : ∀ w ∈ nsAll, vx_ot w = true := by decide +kernel
theorem nsL_hat {args : Array Value} {s : State} (hts : ∀ w ∈ tG, w.before args s = true) (hB : nsB s) : ∀ w ∈ nsAll, w.before args s = true := by
  intro w hw
  rcases nsL_in w hw with h | h
  · simp only [Bool.and_eq_true, decide_eq_true_eq] at h
    exact hts w (tG_of h.1 h.2)
  · exact hB.use w h
def tnZ (A : Nat → Prop) (U : State) (H : Heap) : Prop := vx_Zq Bundle.tN "UNASSIGNED_STACK" Bundle.steD A U H ∧ vx_Zq Bundle.tN "SUPPRESSED_SENTINEL" Bundle.listD A U H
theorem tnZ.moved {A : Nat → Prop} {u U : State} {H : Heap} (hvm : u.vm.Alike U.vm) (h : tnZ A u H) : tnZ A U H := ⟨vx_Zq.moved hvm h.1, vx_Zq.moved hvm h.2⟩
theorem tnZ.kept {A : Nat → Prop} {U : State} {H H1 : Heap} (h : tnZ A U H) (hq : ∀ a : Nat, a < H.size → ¬ A a → H1[a]? = H[a]?) : tnZ A U H1 := ⟨h.1.kept hq, h.2.kept hq⟩
theorem tnZ.narrow {A B : Nat → Prop} {U : State} {H : Heap} (h : tnZ A U H) (hAB : ∀ q, B q → A q) : tnZ B U H := ⟨h.1.narrow hAB, h.2.narrow hAB⟩
theorem hO_kept {dC : Nat → ClassId} {dI : Nat → Nat → Nat} {D : ClassId × ClassId × ClassId} {ad : Nat → Nat} {μ : Mm} {H H1 : Heap} (h : hO dC dI D ad μ H) (hk : ∀ q : Nat, q < H.size → H1[q]? = H[q]?) : hO dC dI D ad μ H1 :=
  ⟨va_P.kept h.1 (fun k q hq => hk q.1 (vx_lt h.1 hq)), h.2⟩
theorem hO_at {dC : Nat → ClassId} {dI : Nat → Nat → Nat} {D : ClassId × ClassId × ClassId} {ad : Nat → Nat} {μ : Mm} {H H1 : Heap} (h : hO dC dI D ad μ H) (hk : ∀ k, k < nC → H1[ad k]? = H[ad k]?) : hO dC dI D ad μ H1 :=
  ⟨va_P.kept h.1 (fun k q hq => by obtain ⟨h1, rfl⟩ := wO_get hq; exact hk k h1), h.2⟩
def rmCr : Room := { frames := 8, cells := 1, slots := 6, locals := 800 }
def pX (dC : Nat → ClassId) (dI : Nat → Nat → Nat) (D : ClassId × ClassId × ClassId) (ad : Nat → Nat) (sz sa : Nat) (a : Int) (μ : Mm) : Array Value → State → Prop :=
  va_Pc [.ref (ad 0), .int (Int32.ofInt a)] (fun U => U.heap.size = sz ∧ hO dC dI D ad μ U.heap ∧ va_K (dC, dI) vwCl (tyS D) U ∧ nS U ∧ rI a ∧ vk_R RX10 173 "no such crank" sa U ∧ tnZ (aA ad sz) U U.heap ∧ nsB U)
theorem pX_blind {dC : Nat → ClassId} {dI : Nat → Nat → Nat} {D : ClassId × ClassId × ClassId} {ad : Nat → Nat} {sz sa : Nat} {a : Int} {μ : Mm} : FrameBlind (pX dC dI D ad sz sa a μ) := by
  intro a U g mk q
  obtain ⟨q0, q1, q2, q3, q4, q5, q6, q7, q8⟩ := q
  exact ⟨q0, q1, q2, va_K.moved (u := U) (U := U.calling g mk a) (Vm.Alike.refl U.vm) q3, nS_same (s := U) (U := U.calling g mk a) rfl q4, q5, vk_R.same (u := U) (U := U.calling g mk a) rfl q6, tnZ.moved (u := U) (U := U.calling g mk a) (Vm.Alike.refl U.vm) q7, nsB.moved (u := U) (U := U.calling g mk a) (Vm.Alike.refl U.vm) q8⟩
/-- a field that holds an object of the layout, at the kit's level -/
theorem w_getO {p : Program} {l : Launch} {e : Env} {R : Room} {s : State} {m : MethodId} {args : Array Value} {below : List Frame} {meth : Method} {c : Code} {H : Heap} {locs : List Loc} {cells slots : Nat} {Q : State → Prop} {pc : Nat} {ls : Array Slot} {rest : List Value} {cc : ByteArray} {own : String}
    {dC : Nat → ClassId} {dI : Nat → Nat → Nat} {D : ClassId × ClassId × ClassId} {ad : Nat → Nat} {μ : Mm} {idx ci j n a o t : Nat} {ty : FieldType} {fin : Bool} (hx : p.tables.exec = Jvm.exec) (hb : c.code = cc) (hts : ∀ w ∈ tG, w.before args s = true) (hown : s.vm.findClass own = some m.cls) (hN : nS s)
    (hK : va_K (dC, dI) vwCl (tyS D) s) (hH : hO dC dI D ad μ H) (hL : fL own idx ci j ty fin) (hk : kD a = (ci + 10, n)) (hj : j < n) (hf : rF ci j = (1, o)) (ht : a + o = t) (hd : decode cc pc = .ok (.getfield idx, 3))
    (kk : W p l e R s m args below meth c H locs cells slots Q (F0 m (pc + 3) ls (.ref (ad t) :: rest))) : W p l e R s m args below meth c H locs cells slots Q (F0 m pc ls (.ref (ad a) :: rest)) := by
  subst ht
  obtain ⟨CC, T, N, tys, ⟨h1, h2, h3, h4⟩, h5, -, -, h6⟩ := hL
  have hc : ci < 80 := clF_lt ⟨h1, h2, h3, h4⟩
  have he : (wO D ad μ)[a]? = some (ad a, .inr (ci, (List.range n).map (fun j => cV ad (fV μ a j)))) := by rw [wO_at D ad μ (kD_o hk hc), eN_o hk]
  have hv2 : ((List.range n).map (fun j => cV ad (fV μ a j)))[j]? = some (cV ad (vR (a + o))) := by simp [hj, fV_O hk hf]
  rcases h6 with h6 | ⟨host, h6⟩
  · exact va_get (D := (dC, dI)) (ci := ci) (v := cV ad (vR (a + o))) (C := CC) (T := T) (N := N) hx hb hts h2 hown hK hH.1 a he h1 j h5 (hts _ h6) (fun _ h9 => h9) hv2 hd kk
  · exact va_getN (D := (dC, dI)) (ci := ci) (v := cV ad (vR (a + o))) (C := CC) (T := T) (N := N) hx hb hts h2 hown hK hH.1 a he h1 j h5 (va_Nw.use rfl (hN _ h6 rfl)) (fun _ h9 => h9) hv2 hd kk
set_option maxHeartbeats 1000000 in
theorem cr_X10 {l : Launch} (hl : l.stackTraces = false) {dC : Nat → ClassId} {dI : Nat → Nat → Nat} {D : ClassId × ClassId × ClassId} {ad : Nat → Nat} {sz sa : Nat} {a w : Int} {μ μ1 : Mm} (hp : aP ad) (hpl : X0_placeOf 5 a μ = some (w, μ1)) :
    vx_Met l yX10_crank (wM mX10_crank) rmCr (pX dC dI D ad sz sa a μ) (va_Qi (fun r (_ : Unit) => w ≠ -1 ∧ rI w ∧ r = Int32.ofInt w) (fun _ t => hO dC dI D ad μ1 t.heap) (aA ad sz)) (vx_X (fun (_ : Unit) => w = -1) (fun E _ t => E = nseN ∧ hO dC dI D ad μ1 t.heap) (aA ad sz)) 1 6 (aA ad sz) := by
  refine vx_ofW (cc := cX10_crank) (maxL := 3) (ret := some .int) (by decide +kernel) rfl ?_
  intro p e s m args below meth c s₁ B hml htab hv
  obtain ⟨rfl, hsz, hH, hK, hN, ha, hstr, hZ, hB⟩ := hv
  subst hsz
  have hts : ∀ w ∈ tG, w.before _ s = true := fun w hw => atoms_spec (ws := wM mX10_crank) B.pre w (List.mem_cons_of_mem _ hw)
  have hown : s.vm.findClass RX10 = some m.cls := findClass_of_methodNamed B.named
  have hw := nsL_hat hts hB
  rw [lg_entry_eq]
  have hl0 := lv_entry ([.ref (ad 0), .int (Int32.ofInt a)]) (n := 3) (by show 2 ≤ 3; decide)
  revert hl0
  generalize (lg_sl [Value.ref (ad 0), Value.int (Int32.ofInt a)] ++ List.replicate (3 - (lg_sl [Value.ref (ad 0), Value.int (Int32.ofInt a)]).length) Slot.unset).toArray = ls
  intro hl0
  have hl0 : lv_has ls 3 [(0, .ref (ad 0)), (1, .int (Int32.ofInt a))] := hl0
  refine lv_aload_n B.exec B.bytes dX10_crank_0 rfl (lv_at hl0 0 rfl) ?_
  refine w_getO (a := 0) (t := 5) B.exec B.bytes hts hown hN hK hH fl_X10_37 rfl (by decide) rfl rfl dX10_crank_1 ?_
  refine lv_iload_n B.exec B.bytes dX10_crank_4 rfl (lv_at hl0 1 rfl) ?_
  refine w_callV (d := 1) (As := [vI a]) (b := 5) (nL := 3) ⟨B.exec, B.bytes, hml, hown, hts⟩ (kX0_placeOf 1 (by decide) rfl hpl) mv_X10_168 (rfl : kD 5 = (0 + 10, 9)) rfl rfl hH hK hp hN (ok_c trivial (ok_c ha (fun _ h => nomatch h))) hl0.1 (by decide) ⟨by decide, by decide⟩ ⟨Nat.zero_le _, Nat.zero_le _⟩ va_S.rf (fun q h => h) dX10_crank_5 ?_
  intro H1 locs1 hrk hH1 hsz1 hfr hS1
  have hrk : rI w := hrk
  refine lv_istore_n (lv' := [(2, .int (Int32.ofInt w)), (0, .ref (ad 0)), (1, .int (Int32.ofInt a))]) B.exec B.bytes dX10_crank_8 rfl hl0 (by decide) rfl (fun ls1 hl1 => ?_)
  refine lv_iload_n B.exec B.bytes dX10_crank_9 rfl (lv_at hl1 0 rfl) ?_
  refine lv_iconst B.exec B.bytes dX10_crank_10 rfl ?_
  refine lv_icmp_ne (tgt := 24) B.exec B.bytes dX10_crank_11 (by decide) (fun hne => ?_) (fun heq => ?_)
  · refine lv_iload_n B.exec B.bytes dX10_crank_24 rfl (lv_at hl1 0 rfl) ?_
    refine vx_ret (W.widen (k := 1) (n := 6) (Nat.zero_le _) (Nat.zero_le _) ?_)
    exact W.iret B.exec B.bytes B.returns (fun t ht hW => ⟨⟨_, (), rfl, ⟨fun h => hne (by rw [h]), hrk, rfl⟩, by subst ht; exact hH1⟩, hS1.F ht⟩) hS1.2.2 dX10_crank_25 B.notSynchronized
  · have hw1 : w = -1 := (o32_eq hrk (by unfold rI; omega)).mp heq
    refine ns_throwS B.exec B.bytes hl hown (hw _ List.mem_cons_self) (hw _ (List.mem_cons_of_mem _ List.mem_cons_self)) hstr (fun w h => hw w (List.mem_cons_of_mem _ (List.mem_cons_of_mem _ h))) nsL_ot hZ.1 hZ.2 hS1 (hl1.1.trans hml.symm)
      dX10_crank_14 dX10_crank_17 dX10_crank_18 dX10_crank_20 dX10_crank_23 (fun x hx => (htab x hx).elim) (by decide) (by decide) (by decide) (by decide) B.notSynchronized (fun t hvm hsz hk => ?_) hS1.2.2 (by decide) (by decide)
    exact ⟨(), hw1, ⟨rfl, hO_kept hH1 hk⟩, Nat.le_trans hS1.1 hsz, fun q h1 h2 => (hk q (Nat.lt_of_lt_of_le h1 hS1.1)).trans (hS1.2.1 q h1 h2)⟩
/-! THE LAW'S OWN CRANK: a call that catches -/
def A2 (ad : Nat → Nat) (sz : Nat) : Nat → Prop := fun q => aA ad sz q ∨ q = ad 98
def oLc (cL : ClassId) (ad : Nat → Nat) (v : Int64) (H : Heap) : Prop := H[ad 98]? = some (vp_cell cL (1, .inr (.inl (fun _ => v)))) ∧ ∀ k, k < nC → ad k ≠ ad 98
abbrev eL (cL : ClassId) (v : Int64) : va_E := .inl (cL, 1, .inr (.inl (fun _ => v)))
theorem oLc_P {dC : Nat → ClassId} {dI : Nat → Nat → Nat} {D : ClassId × ClassId × ClassId} {ad : Nat → Nat} {μ : Mm} {cL : ClassId} {v : Int64} {H : Heap} (h : hO dC dI D ad μ H) (hC : oLc cL ad v H) : va_P (dC, dI) vwCl (wO D ad μ ++ [(ad 98, eL cL v)]) H := by
  intro k q hk
  by_cases c : k < (wO D ad μ).length
  · rw [List.getElem?_append_left c] at hk
    exact h.1 k q hk
  · rw [List.getElem?_append_right (by omega)] at hk
    have hm := List.mem_of_getElem? hk
    rw [List.mem_singleton] at hm
    subst hm
    exact hC.1
theorem oLc_D {D : ClassId × ClassId × ClassId} {ad : Nat → Nat} {μ : Mm} {cL : ClassId} {v : Int64} {sz : Nat} (hp : aP ad) (hC : ∀ k, k < nC → ad k ≠ ad 98) : va_D (A2 ad sz) (wO D ad μ ++ [(ad 98, eL cL v)]) := by
  have hg : ∀ k q, (wO D ad μ ++ [(ad 98, eL cL v)])[k]? = some q → (k < nC ∧ q.1 = ad k) ∨ (k = nC ∧ q.1 = ad 98) := by
    intro k q hk
    by_cases c : k < (wO D ad μ).length
    · rw [List.getElem?_append_left c] at hk
      obtain ⟨h1, rfl⟩ := wO_get hk
      exact Or.inl ⟨h1, rfl⟩
    · have hl := (List.getElem?_eq_some_iff.mp hk).1
      rw [List.getElem?_append_right (by omega)] at hk
      have hm := List.mem_of_getElem? hk
      rw [List.mem_singleton] at hm
      subst hm
      rw [List.length_append, wO_len] at hl
      rw [wO_len] at c
      simp only [List.length_cons, List.length_nil] at hl
      exact Or.inr ⟨by omega, rfl⟩
  refine ⟨fun i j x y hi hj hxy => ?_, fun k q hk => ?_⟩
  · rcases hg i x hi with ⟨h1, h2⟩ | ⟨h1, h2⟩ <;> rcases hg j y hj with ⟨h3, h4⟩ | ⟨h3, h4⟩
    · exact hp i j h1 h3 (by rw [← h2, ← h4, hxy])
    · exact absurd (by rw [← h2, ← h4, hxy]) (hC i h1)
    · exact absurd (by rw [← h2, ← h4, hxy]) (hC j h3)
    · omega
  · rcases hg k q hk with ⟨h1, h2⟩ | ⟨h1, h2⟩
    · rw [h2]; exact Or.inl (aA_k h1)
    · rw [h2]; exact Or.inr rfl
def pY (dC : Nat → ClassId) (dI : Nat → Nat → Nat) (D : ClassId × ClassId × ClassId) (cL : ClassId) (ad : Nat → Nat) (sz sa : Nat) (a : Int) (v : Int64) (μ : Mm) : Array Value → State → Prop :=
  va_Pc [.ref (ad 0), .int (Int32.ofInt a), .ref (ad 98)] (fun U => U.heap.size = sz ∧ hO dC dI D ad μ U.heap ∧ oLc cL ad v U.heap ∧ va_K (dC, dI) vwCl (tyS D ++ [(cL, .long)]) U ∧ nS U ∧ rI a ∧ vk_R RX10 173 "no such crank" sa U ∧ tnZ (A2 ad sz) U U.heap ∧ nsB U)
theorem pY_blind {dC : Nat → ClassId} {dI : Nat → Nat → Nat} {D : ClassId × ClassId × ClassId} {cL : ClassId} {ad : Nat → Nat} {sz sa : Nat} {a : Int} {v : Int64} {μ : Mm} : FrameBlind (pY dC dI D cL ad sz sa a v μ) := by
  intro a U g mk q
  obtain ⟨q0, q1, q2, q2b, q3, q4, q5, q6, q7, q8⟩ := q
  exact ⟨q0, q1, q2, q2b, va_K.moved (u := U) (U := U.calling g mk a) (Vm.Alike.refl U.vm) q3, nS_same (s := U) (U := U.calling g mk a) rfl q4, q5, vk_R.same (u := U) (U := U.calling g mk a) rfl q6, tnZ.moved (u := U) (U := U.calling g mk a) (Vm.Alike.refl U.vm) q7, nsB.moved (u := U) (U := U.calling g mk a) (Vm.Alike.refl U.vm) q8⟩
abbrev wsLc : List Cond := Cond.codeWith yL_crank cL_crank 4 (some .int) [(0, 9, 12, 13)] :: tG
def rmLc : Room := { frames := 10, cells := 1, slots := 6, locals := 1000 }
set_option maxRecDepth 100000 in
theorem mvL_7 : mV R_law 7 mX10_crank 1 := ⟨(tG_of (tb5 (List.mem_of_getElem? (i := 32) rfl)) (by decide +kernel)), (tG_of (tb5 (List.mem_of_getElem? (i := 33) rfl)) (by decide +kernel)), (tG_of (tb5 (List.mem_of_getElem? (i := 34) rfl)) (by decide +kernel)), (tG_of (tb1 (List.mem_of_getElem? (i := 1) rfl)) (by decide +kernel)), (tG_of (tb5 (List.mem_of_getElem? (i := 35) rfl)) (by decide +kernel)), ⟨by decide, by decide, by decide +kernel⟩, by decide⟩
theorem lkL_13 : Cond.classLink R_law 13 nseN ∈ tG := by
  have h : (decide (Cond.classLink R_law 13 nseN ∈ lw_tbl) && goodWord (Cond.classLink R_law 13 nseN)) = true := by decide +kernel
  simp only [Bool.and_eq_true, decide_eq_true_eq] at h
  exact tG_of h.1 h.2
set_option maxHeartbeats 1000000 in
theorem cr_L {l : Launch} (hl : l.stackTraces = false) {dC : Nat → ClassId} {dI : Nat → Nat → Nat} {D : ClassId × ClassId × ClassId} {cL : ClassId} {ad : Nat → Nat} {sz sa : Nat} {a w : Int} {v : Int64} {μ μ1 : Mm} (hp : aP ad) (hpl : X0_placeOf 5 a μ = some (w, μ1)) :
    Met l yL_crank wsLc rmLc (pY dC dI D cL ad sz sa a v μ) (va_Qi (fun r (_ : Unit) => r = if w = -1 then 1 else 0) (fun _ t => hO dC dI D ad μ1 t.heap ∧ oLc cL ad (if w = -1 then v else Int64.ofInt w) t.heap) (A2 ad sz)) 1 6 (A2 ad sz) := by
  refine va_MetW (hh := [(0, 9, 12, 13)]) (cc := cL_crank) (maxL := 4) (ret := some .int) (by decide +kernel) rfl ?_
  intro p e s m args below meth c s₁ B hml hv
  obtain ⟨rfl, hsz, hH, hC, hK, hN, ha, hstr, hZ, hB⟩ := hv
  subst hsz
  have hts : ∀ w ∈ tG, w.before _ s = true := fun w hw => atoms_spec (ws := wsLc) B.pre w (List.mem_cons_of_mem _ hw)
  have htab : c.exceptionTable.toList = tableOf [(0, 9, 12, 13)] := vx_table (x := yL_crank) B (atoms_spec (ws := wsLc) B.pre _ List.mem_cons_self)
  have hown : s.vm.findClass R_law = some m.cls := findClass_of_methodNamed B.named
  have hK' : va_K (dC, dI) vwCl (tyS D) s := hK.sub [0, 1, 2] rfl
  rw [lg_entry_eq]
  have hl0 := lv_entry ([.ref (ad 0), .int (Int32.ofInt a), .ref (ad 98)]) (n := 4) (by show 3 ≤ 4; decide)
  revert hl0
  generalize (lg_sl [Value.ref (ad 0), Value.int (Int32.ofInt a), Value.ref (ad 98)] ++ List.replicate (4 - (lg_sl [Value.ref (ad 0), Value.int (Int32.ofInt a), Value.ref (ad 98)]).length) Slot.unset).toArray = ls
  intro hl0
  have hl0 : lv_has ls 4 [(0, .ref (ad 0)), (1, .int (Int32.ofInt a)), (2, .ref (ad 98))] := hl0
  refine lv_aload_n B.exec B.bytes dL_crank_0 rfl (lv_at hl0 2 rfl) ?_
  refine lv_iconst B.exec B.bytes dL_crank_1 rfl ?_
  refine lv_aload_n B.exec B.bytes dL_crank_2 rfl (lv_at hl0 0 rfl) ?_
  refine lv_iload_n B.exec B.bytes dL_crank_3 rfl (lv_at hl0 1 rfl) ?_
  obtain ⟨m1, m2, m3, m4, m5, m6, m7⟩ := mvL_7
  have hlt : ad 98 < s.heap.size := (Array.getElem?_eq_some_iff.mp hC.1).1
  have hne : ¬ aA ad s.heap.size (ad 98) := by
    rintro (⟨j, h1, h2⟩ | h)
    · exact hC.2 j h1 h2
    · omega
  refine vx_calli (A0 := A2 ad s.heap.size) (A1 := aA ad s.heap.size) (AX := aA ad s.heap.size) (rest := [.int (Int32.ofInt 0), .ref (ad 98)])
    (vx_runV (As := [.int (Int32.ofInt a)]) (b := ad 0) (C := RX10) (nL := 4) (n := 1) ⟨B.exec, B.bytes, hml, hown, hts⟩ (cr_X10 (sz := s.heap.size) (sa := sa) hl hp hpl) ⟨callB_of (ws' := tG) 1 hts (gI_of m5) rfl rfl rfl (hts _ m4) (hts _ m1) m6 ⟨by decide, by decide⟩, hts _ m2, hts _ m3⟩
      ⟨pX_blind, rcv (a := 0) (ci := 10) (n := 18) (q := (RX10, TX10, 18)) hK' hH rfl rfl, fun U hU hW => ⟨rfl, by rw [hU], by rw [hU]; exact hH, va_K.moved hW.alike hK', nS_warm hW hN, ha, vk_R.warm hW hstr, by rw [hU]; exact (tnZ.moved hW.alike hZ).narrow (fun q h => Or.inl h), hB.moved hW.alike⟩⟩ rfl rfl hl0.1 rfl (by show 2 * 0 + (1 + (1 + 0)) ≤ 8; omega) dL_crank_4 ⟨by decide, by decide⟩)
    va_S.rf (fun q _ h => Or.inl h) (fun q h => Or.inl h) (fun q _ h => Or.inl h) (fun E ce q9 u t H1 locs1 ht hvm hpx hb hsz hk hS hce hv hcl => ?_) (fun r u t H1 locs1 ht hvm hpost hb hsz hk hS => ?_)
  · obtain ⟨rfl, hO1⟩ := hb
    refine vx_catch hown [] _ [] (by rw [htab]; rfl) (fun _ h => nomatch h) (by decide) (by decide) (name := nseN) (hts _ lkL_13) (hB.use _ (by decide)) hce hv hcl ?_
    refine lv_astore_n (lv' := [(3, .ref q9), (0, .ref (ad 0)), (1, .int (Int32.ofInt a)), (2, .ref (ad 98))]) B.exec B.bytes dL_crank_12 rfl hl0 (by decide) rfl (fun ls1 hl1 => ?_)
    refine lv_iconst B.exec B.bytes dL_crank_13 rfl ?_
    exact W.iret B.exec B.bytes B.returns (fun t2 ht2 hW => ⟨⟨_, (), rfl, by rw [if_pos hpx]; rfl, by show hO dC dI D ad μ1 t2.heap; rw [ht2, ← ht]; exact hO1, by show oLc cL ad _ t2.heap; rw [if_pos hpx, ht2]; exact ⟨(hk _ hlt hne).trans hC.1, hC.2⟩⟩, hS.F ht2⟩) hS.2.2 dL_crank_14 B.notSynchronized
  · obtain ⟨hw, hrw, rfl⟩ := hpost
    have hO1 : hO dC dI D ad μ1 H1 := by rw [← ht]; exact hb
    have hC1 : oLc cL ad v H1 := ⟨(hk _ hlt hne).trans hC.1, hC.2⟩
    refine lv_i2l B.exec B.bytes dL_crank_7 (o32_i2l hrw) ?_
    refine va_last (A := A2 ad s.heap.size) B.exec B.bytes hK (oLc_P hO1 hC1) (oLc_D hp hC.2) hS nC 3 (n := 1) (cA := cL) (f := fun _ => v) (by rw [List.getElem?_append_right (by rw [wO_len]; exact Nat.le_refl _), wO_len, Nat.sub_self]; rfl) rfl (o32_in (i := 0) rI_0 (by decide)) dL_crank_8 (fun H2 locs2 hP2 hD2 hS2 => ?_)
    have hl98 : (wO D ad μ1 ++ [(ad 98, eL cL v)]).length = nC + 1 := by rw [List.length_append, wO_len]; rfl
    have hO2 : hO dC dI D ad μ1 H2 := ⟨fun k q hk => hP2 k q (by have h1 := (wO_get hk).1; rw [List.getElem?_set_ne (by omega), List.getElem?_append_left (by rw [wO_len]; exact h1)]; exact hk), hO1.2⟩
    have hC2 : oLc cL ad (Int64.ofInt w) H2 := by
      refine ⟨?_, hC.2⟩
      have h9 := hP2 nC (ad 98, .inl (cL, 1, .inr (.inl (vp_updL (fun _ => v) (Int32.ofInt 0).toNatClampNeg (Int64.ofInt w))))) (List.getElem?_set_self (by rw [hl98]; exact Nat.lt_succ_self _))
      refine Eq.trans (b := some (vp_cell cL (1, .inr (.inl (vp_updL (fun _ => v) (Int32.ofInt 0).toNatClampNeg (Int64.ofInt w)))))) h9 ?_
      refine congrArg some (show arrV cL 1 (fun j => .long (vp_updL (fun _ => v) (Int32.ofInt 0).toNatClampNeg (Int64.ofInt w) j)) = arrV cL 1 (fun _ => .long (Int64.ofInt w)) from arrV_eq (fun j hj => ?_))
      have h0 : j = 0 := by omega
      subst h0
      rfl
    refine lv_goto (tgt := 15) B.exec B.bytes dL_crank_9 (by decide) ?_
    refine lv_iconst B.exec B.bytes dL_crank_15 rfl ?_
    exact W.iret B.exec B.bytes B.returns (fun t2 ht2 hW => ⟨⟨_, (), rfl, by rw [if_neg hw]; rfl, by show hO dC dI D ad μ1 t2.heap; rw [ht2]; exact hO2, by show oLc cL ad _ t2.heap; rw [if_neg hw, ht2]; exact hC2⟩, hS2.F ht2⟩) hS2.2.2 dL_crank_16 B.notSynchronized
/-! HCr: the law's call of its own crank -/
theorem wsS_good : GoodIn tG (va_wsS R_law 37 yL_crank wsLc) := by
  have h : ([.methodLink R_law 37 yL_crank, .static yL_crank, .initialized yL_crank.cls, .initialized R_law, Cond.codeWith yL_crank cL_crank 4 (some .int) [(0, 9, 12, 13)]] : List Cond).all (fun w => decide (w ∈ lw_tbl) && goodWord w) = true := by decide +kernel
  intro w hw
  by_cases c : w ∈ tG
  · exact ⟨c, tG_good c⟩
  · have h2 : (decide (w ∈ lw_tbl) && goodWord w) = true := by
      refine List.all_eq_true.mp h w ?_
      simp only [va_wsS, List.mem_append, List.mem_cons, List.not_mem_nil, or_false] at hw ⊢
      rcases hw with hw | hw | hw
      · rcases hw with hw | hw | hw
        · exact Or.inl hw
        · exact Or.inr (Or.inl hw)
        · exact Or.inr (Or.inr (Or.inl hw))
      · exact Or.inr (Or.inr (Or.inr (Or.inr hw)))
      · exact absurd hw c
    simp only [Bool.and_eq_true, decide_eq_true_eq] at h2
    have h3 := tG_of h2.1 h2.2
    exact ⟨h3, tG_good h3⟩
theorem lays_U : Cond.laysStatic Bundle.tN "UNASSIGNED_STACK" Bundle.steD ∈ lw_tbl := by decide +kernel
theorem lays_N : Cond.laysStatic Bundle.tN "SUPPRESSED_SENTINEL" Bundle.listD ∈ lw_tbl := by decide +kernel
theorem init_T : Cond.initialized Bundle.tN ∈ lw_tbl := by decide +kernel
theorem str_173 : Cond.stringRef RX10 173 "no such crank" ∈ lw_tbl := by decide +kernel
set_option maxHeartbeats 1000000 in
theorem hCr : HCr := by
  intro L sc ls μ μ1 v k n a w hpl hk hn k1 k2
  intro p l e s m below meth c b xs H locs dC dI D cL ad ls' X hxs hH hL hS hn7 hl hs
  obtain ⟨⟨hx, hb, hr', hml, hown, hts, hX, hbl, hlk, hgv⟩, hfl, hK, hP, had, hab⟩ := id X
  have hlT : l.stackTraces = false := by unfold Launch.stackTraces; rw [hfl]; decide +kernel
  have hts' : ∀ w ∈ tG, w.before #[Value.ref b] s = true := fun w hw => hts w (List.mem_filter.mp hw).1
  have hfg := flat_of_before _ hgv
  have hex : (Cond.exactly (.string RX10 173) "java/lang/String").before #[Value.ref b] s = true := hfg _ (by decide +kernel)
  obtain ⟨sa, c1, ce1, kk1, q1, -⟩ := Cond.exactly_spec (args := #[Value.ref b]) (first := s) (o := none) (s := s) (idx := []) hex
  have hstr : vk_R RX10 173 "no such crank" sa s := vk_R.of (A := #[Value.ref b]) (hts _ str_173) q1
  have hZ0 : tnZ (fun q : Nat => s.heap.size ≤ q) s s.heap := ⟨vx_Zqof (hts _ lays_U) (hts _ init_T) (hfg _ (by decide +kernel)) (fun a h1 h2 => absurd h1 (Nat.not_lt.mpr h2)), vx_Zqof (hts _ lays_N) (hts _ init_T) (hfg _ (by decide +kernel)) (fun a h1 h2 => absurd h1 (Nat.not_lt.mpr h2))⟩
  have hZ : tnZ (fun q : Nat => s.heap.size ≤ q) s H := hZ0.kept hS.2.1
  have hB : nsB s := nsB.of (A := #[Value.ref b]) (fun w hw => hts w (nsW4_tbl w hw))
  have hA : ∀ q, A2 ad H.size q → s.heap.size ≤ q := by
    rintro q ((⟨j, h1, rfl⟩ | h) | rfl)
    · exact had j h1
    · exact Nat.le_trans hS.1 h
    · exact hL.2.2
  have ha : rI a := ok_h (ok_t hs)
  refine va_calli (A0 := fun q : Nat => s.heap.size ≤ q) (A1 := A2 ad H.size) (rest := [])
    (vx_runSW (As := [.ref (ad 0), .int (Int32.ofInt a), .ref (ad 98)]) (nL := 7) (n := 3) ⟨hx, hb, hml, hown, hts'⟩ (cr_L (sz := H.size) (sa := sa) (v := v) (dC := dC) (dI := dI) (D := D) (cL := cL) hlT hP hpl)
      (vx_cwSW (Ts := tG) (ws' := tG) 3 hts' wsS_good rfl rfl rfl ⟨by decide, by decide, by decide +kernel⟩ ⟨by decide, by decide⟩)
      ⟨pY_blind, fun U hU hW => ⟨rfl, by rw [hU], by rw [hU]; exact hH, by rw [hU]; exact ⟨hL.1, hL.2.1⟩, va_K.moved hW.alike hK, nS_warm hW (nS_tbl hts), ha, vk_R.warm hW hstr, by rw [hU]; exact (tnZ.moved hW.alike hZ).narrow hA, hB.moved hW.alike⟩⟩
      rfl rfl (hl.1.trans hn7) rfl (by show 2 * 0 + 0 ≤ 8; omega) dL_law_364 ⟨by show k + 1 ≤ 601024; omega, by show n + 6 ≤ 7293034; omega⟩)
    hS (fun q _ h => hA q h) hA (fun r u t H1 locs1 ht hvm hpost hb1 hsz hk1 hS1 => ?_)
  obtain ⟨hO1, hC1⟩ := hb1
  rw [ht] at hO1 hC1
  refine W.widen (k := k + 1) (n := n + 10) (Nat.le_refl _) (by omega) ?_
  by_cases hw : w = -1
  · rw [if_pos hw] at hpost hC1
    subst hpost
    exact k1 v hw p l e s m below meth c b xs H1 locs1 dC dI D cL ad ls' X hxs hO1 ⟨hC1.1, hL.2⟩ hS1 hn7 hl (ok_c (by show rI 1; unfold rI; omega) (fun _ h => nomatch h))
  · rw [if_neg hw] at hpost hC1
    subst hpost
    exact k2 hw p l e s m below meth c b xs H1 locs1 dC dI D cL ad ls' X hxs hO1 ⟨hC1.1, hL.2⟩ hS1 hn7 hl (ok_c (by show rI 0; unfold rI; omega) (fun _ h => nomatch h))
/-! THE LAW'S START: classes, arrays, the two objects, the row of one long; then its loop -/
theorem inst_all : ∀ k, k < 12 → ∃ q, vwCl[k]? = some q ∧ Cond.instantiable q.1 q.2.2 ∈ lw_tbl ∧ ∀ w ∈ u_ws q.1 q.2.1 q.2.2, w ∈ lw_tbl := by
  have f : ∀ {w : Cond}, w ∈ tG → w ∈ lw_tbl := fun h => (List.mem_filter.mp h).1
  intro k hk
  match k, hk with
  | 0, _ => exact ⟨_, cl0.1, by decide +kernel, fun w hw => f (cl0.2.1 w hw)⟩
  | 1, _ => exact ⟨_, cl1.1, by decide +kernel, fun w hw => f (cl1.2.1 w hw)⟩
  | 2, _ => exact ⟨_, cl2.1, by decide +kernel, fun w hw => f (cl2.2.1 w hw)⟩
  | 3, _ => exact ⟨_, cl3.1, by decide +kernel, fun w hw => f (cl3.2.1 w hw)⟩
  | 4, _ => exact ⟨_, cl4.1, by decide +kernel, fun w hw => f (cl4.2.1 w hw)⟩
  | 5, _ => exact ⟨_, cl5.1, by decide +kernel, fun w hw => f (cl5.2.1 w hw)⟩
  | 6, _ => exact ⟨_, cl6.1, by decide +kernel, fun w hw => f (cl6.2.1 w hw)⟩
  | 7, _ => exact ⟨_, cl7.1, by decide +kernel, fun w hw => f (cl7.2.1 w hw)⟩
  | 8, _ => exact ⟨_, cl8.1, by decide +kernel, fun w hw => f (cl8.2.1 w hw)⟩
  | 9, _ => exact ⟨_, cl9.1, by decide +kernel, fun w hw => f (cl9.2.1 w hw)⟩
  | 10, _ => exact ⟨_, cl10.1, by decide +kernel, fun w hw => f (cl10.2.1 w hw)⟩
  | 11, _ => exact ⟨_, cl11.1, by decide +kernel, fun w hw => f (cl11.2.1 w hw)⟩
theorem known_all {s : State} {args : Array Value} (hts : ∀ w ∈ lw_tbl, w.before args s = true) : ∃ (dC : Nat → ClassId) (dI : Nat → Nat → Nat), ∀ (k : Nat) (q : vw_C), vwCl[k]? = some q → u_Kn s q.1 q.2.1 q.2.2 (dC k) (dI k) := by
  have h : ∀ k : Nat, ∃ x : ClassId × (Nat → Nat), ∀ q, vwCl[k]? = some q → u_Kn s q.1 q.2.1 q.2.2 x.1 x.2 := by
    intro k
    by_cases hk : k < 12
    · obtain ⟨q, h1, h2, h3⟩ := inst_all k hk
      obtain ⟨c, i, hkn⟩ := u_known hts h3 (hts _ h2)
      exact ⟨(c, i), fun q' hq' => by cases h1.symm.trans hq'; exact hkn⟩
    · refine ⟨((0 : Nat), fun _ => 0), fun q hq => ?_⟩
      have h1 := (List.getElem?_eq_some_iff.mp hq).1
      have h2 : vwCl.length = 12 := rfl
      omega
  exact ⟨fun k => (h k).choose.1, fun k => (h k).choose.2, fun k q hq => (h k).choose_spec q hq⟩
theorem arr_prim {s : State} {args : Array Value} {ty : FieldType} (h : (Cond.arrayClass ty).before args s = true) : ∃ cA, ArrOfT s cA ty ∧ s.vm.findClass ("[" ++ ty.toString) = some cA := by
  obtain ⟨c, k, comp, h1, h2, h3⟩ := Cond.arrayClass_spec h
  exact ⟨c, fun n z => ⟨fun k h => (by cases h), k, h2, comp, h3⟩, h1⟩
theorem arr_obj {s : State} {args : Array Value} {C : String} (h : (Cond.arrayOver (.object C)).before args s = true) : ∃ cA, ArrOfT s cA (.object C) ∧ va_RA s cA (.object C) := by
  obtain ⟨comp, c, k, f4, -, f2, f3, f1⟩ := Cond.arrayOver_spec h
  exact ⟨c, fun N z => ⟨(fun k h => by cases h), k, f2, comp, f3⟩, k, comp, f2, f3, f4, f1⟩
section LWS
variable {p : Program} {l : Launch} {e : Env} {R : Room} {s : State} {m : MethodId} {args : Array Value} {below : List Frame} {meth : Method} {c : Code} {H : Heap} {locs : List Loc} {cells slots : Nat} {Q : State → Prop} {pc nL : Nat} {ls : Array Slot} {rest : List Value} {cc : ByteArray} {own : String}
variable {dC : Nat → ClassId} {dI : Nat → Nat → Nat} {D : ClassId × ClassId × ClassId}
theorem w_new (hx : p.tables.exec = Jvm.exec) (hbd : c.code = cc) (hown : s.vm.findClass own = some m.cls) (hts : ∀ w ∈ tG, w.before args s = true) (hK : va_K (dC, dI) vwCl (tyS D) s) {idx ci nf base n : Nat} {μ : Mm} {C1 : String} {T : u_T} {ty : Nat → FieldType} (hcl : clF ci C1 T nf ty)
    (hdf : (List.range nf).all (fun j => decide (defaultValue (ty j) = if (rF ci j).1 = 0 then Value.int 0 else Value.null)) = true) (hk : kD n = (ci + 10, nf)) (hw : Cond.classLink own idx C1 ∈ tG ∧ Cond.instantiable C1 nf ∈ tG ∧ Cond.initialized C1 ∈ tG) (hH : hN dC dI D base μ n H) (hc : cells + 1 ≤ R.cells) (hs : slots + nf ≤ R.slots) (hd : decode cc pc = .ok (.new idx, 3))
    (kk : ∀ H1 : Heap, hN dC dI D base μ (n + 1) H1 → H1.size = H.size + 1 → (∀ q, q < H.size → H1[q]? = H[q]?) → W p l e R s m args below meth c H1 locs (cells + 1) (slots + nf) Q (F0 m (pc + 3) ls (.ref (base + n) :: rest))) :
    W p l e R s m args below meth c H locs cells slots Q (F0 m pc ls rest) := by
  obtain ⟨g1, g2, g3, g4⟩ := hcl
  have hKn := hK.1 ci _ g1
  refine W.newcK hx hbd hown (hts _ hw.1) (hts _ hw.2.1) (hts _ hw.2.2) rfl hd hc hs hKn.2.1 hH.2.2.1 (fun H1 kC hkC c1 z1 o1 => ?_)
  have z2 : H1.size = H.size + 1 := by rw [z1, hH.2.2.1]
  have o2 : ∀ q, q < H.size → H1[q]? = H[q]? := fun q hq => o1 q (by rw [← hH.2.2.1]; exact hq)
  have hat : va_at (dC, dI) vwCl (base + n, eD D (bs base) μ n) H1 := by
    rw [eD_o hk]
    refine ⟨_, g1, (u_born ty hts g2 hKn hkC c1 g3).to (fun j hj => ?_)⟩
    have h9 := List.all_eq_true.mp hdf j (List.mem_range.mpr hj)
    rw [decide_eq_true_eq] at h9
    have hzero : μ n j = 0 := hH.2.2.2 n (Nat.le_refl n) j
    show defaultValue (ty j) = _
    rw [h9]
    simp only [vp_V, List.getD_eq_getElem?_getD, List.getElem?_map, List.getElem?_range hj, Option.map_some, Option.getD_some]
    rcases hr : rF ci j with ⟨_ | x, y⟩
    · rw [gV_I hk hr, hzero]; rfl
    · rw [gV_R hk hr, hzero]
      rfl
  exact kk H1 (hN_push hH z2 o2 hat) z2 o2
theorem w_init {d1 idx base n n2 b : Nat} {M1 : Mth} {μ μ2 : Mm} {A0 : Nat → Prop} {H0 : Heap} (S : CallFix p m c cc nL s args tG own) (hM : CN d1 M1 [vR b] n μ n2 μ2) (hm : mI own idx M1 0) (hK : va_K (dC, dI) vwCl (tyS D) s) (hN9 : nS s) (hO : aO s) (hH : hN dC dI D base μ n H) (hsz : ls.size = nL) (hwd : (rest.map fun v => v.category).sum ≤ 8) (hR : d1 + 1 ≤ R.frames ∧ 100 * (d1 + 1) ≤ R.locals)
    (hcs : cells + (n2 - n) ≤ R.cells ∧ slots + (tt n2 - tt n) ≤ R.slots) (hS : va_S A0 H0 H locs) (hA : ∀ q : Nat, base ≤ q → A0 q) (hd : decode cc pc = .ok (.invokespecial idx, 3))
    (kk : ∀ (H1 : Heap) (locs1 : List Loc), hN dC dI D base μ2 n2 H1 → va_S A0 H0 H1 locs1 → W p l e R s m args below meth c H1 locs1 (cells + (n2 - n)) (slots + (tt n2 - tt n)) Q (F0 m (pc + 3) ls rest)) :
    W p l e R s m args below meth c H locs cells slots Q (F0 m pc ls (.ref (bs base b) :: rest)) := by
  obtain ⟨w1, w2, w3, w4, w5, w6, w7, w8⟩ := hm
  have hts := S.2.2.2.2
  have hpre : PreS s H (pN dC dI D base n [vR b] μ) [.ref (bs base b)] :=
    ⟨pN_blind, fun U hU hW => ⟨rfl, by rw [hU]; exact hH, va_K.moved hW.alike hK, nS_warm hW hN9, ⟨va_AO.moved hW.alike hO.1, va_AO.moved hW.alike hO.2⟩, ok_c trivial (fun _ h => nomatch h)⟩⟩
  rcases w1 with w1 | ⟨host, w1⟩
  · intro T hT X
    obtain ⟨v, st₀, t, T', L, g0, X', hL, z1, z2, ⟨⟨hv, hp⟩, hz, hk⟩, stp⟩ := va_runI (As := []) (b := bs base b) (rest := rest) S (hM l dC dI D base) ⟨callB_of (ws' := tG) (rm := rmN d1 (n2 - n) (tt n2 - tt n)) 0 hts (gI_of (by rw [w6]; exact w4)) (by unfold wM; rw [w6]) rfl rfl (hts _ w3) (hts _ w1) w7 ⟨hR.1, by show 8 + (M1.2.2.1 + 11) + 100 * d1 ≤ R.locals; omega⟩, w5, hts _ w2⟩
        hpre (g := F0 m pc ls (.ref (bs base b) :: rest)) (cells := cells) (slots := slots) (locs := locs) rfl rfl hsz rfl (by show 2 * 0 + _ ≤ 8; omega) hd hcs T hT X
    cases hv
    rw [g0] at hz hk
    obtain ⟨t3, a1, b1⟩ := kk T'.heap (locs ++ L) (by rw [z1]; exact hp) ⟨Nat.le_trans hS.1 (by rw [z1]; exact hz), fun q h1 h2 => by rw [z1, hk q (Nat.lt_of_lt_of_le h1 hS.1) (fun h => h2 (hA q h))]; exact hS.2.1 q h1 h2, fun q hq => by
      rcases List.mem_append.mp hq with h | h
      · exact hS.2.2 q h
      · exact hA _ (hL q h)⟩ T' rfl X'
    exact ⟨t3, stp t3 a1, b1⟩
  · intro T hT X
    obtain ⟨v, st₀, t, T', L, g0, X', hL, z1, z2, ⟨⟨hv, hp⟩, hz, hk⟩, stp⟩ := va_runIN (host := host) (As := []) (b := bs base b) (rest := rest) S (hM l dC dI D base) ⟨va_cnB (ws' := tG) (rm := rmN d1 (n2 - n) (tt n2 - tt n)) 0 hts (gI_of (by rw [w6]; exact w4)) (by unfold wM; rw [w6]) rfl rfl (hN9 _ w1 rfl) (hts _ w3) w7 ⟨hR.1, by show 8 + (M1.2.2.1 + 11) + 100 * d1 ≤ R.locals; omega⟩, w5, hts _ w2⟩
        hpre (g := F0 m pc ls (.ref (bs base b) :: rest)) (cells := cells) (slots := slots) (locs := locs) rfl rfl hsz rfl (by show 2 * 0 + _ ≤ 8; omega) hd hcs T hT X
    cases hv
    rw [g0] at hz hk
    obtain ⟨t3, a1, b1⟩ := kk T'.heap (locs ++ L) (by rw [z1]; exact hp) ⟨Nat.le_trans hS.1 (by rw [z1]; exact hz), fun q h1 h2 => by rw [z1, hk q (Nat.lt_of_lt_of_le h1 hS.1) (fun h => h2 (hA q h))]; exact hS.2.1 q h1 h2, fun q hq => by
      rcases List.mem_append.mp hq with h | h
      · exact hS.2.2 q h
      · exact hA _ (hL q h)⟩ T' rfl X'
    exact ⟨t3, stp t3 a1, b1⟩
end LWS
/-- the addresses: the systems' cells, the row of one long, the script -/
def adL (base b : Nat) : Nat → Nat := fun k => if k = 99 then b else base + k
theorem adL_k {base b k : Nat} (h : k ≠ 99) : adL base b k = base + k := if_neg h
theorem adL_cV {base b : Nat} {v : AV} (h : v ≠ vR 99) : cV (adL base b) v = cV (bs base) v := by
  match v, h with
  | .inl a, _ => rfl
  | .inr (.inl a), _ => rfl
  | .inr (.inr none), _ => rfl
  | .inr (.inr (some t)), h => exact congrArg Value.ref (adL_k (fun e => h (by rw [e])))
def chk9 (k : Nat) : Bool := match kD k with
  | (0, _) => true
  | (1, n) => (List.range n).all (fun j => decide (aE k j ≠ 99))
  | (2, n) => (List.range n).all (fun j => decide (aE k j ≠ 99))
  | (_, n) => (List.range n).all (fun j => decide (fV μ0 k j ≠ vR 99))
theorem chk9_all : (List.range 98).all chk9 = true := by decide +kernel
theorem eN_adL {D : ClassId × ClassId × ClassId} {base b k : Nat} {H : Heap} {dC : Nat → ClassId} {dI : Nat → Nat → Nat} (h98 : k < 98) (h : va_at (dC, dI) vwCl (base + k, eN D (bs base) μ0 k) H) : va_at (dC, dI) vwCl (base + k, eN D (adL base b) μ0 k) H := by
  have h1 := List.all_eq_true.mp chk9_all k (List.mem_range.mpr h98)
  unfold chk9 at h1
  rcases hkd : kD k with ⟨c, n⟩
  have hge := kD_ge h98
  rw [hkd] at hge h1
  simp only at hge
  rcases hge with rfl | rfl | rfl | hge
  · rw [eN_i hkd] at h ⊢
    exact h
  · rw [eN_p hkd] at h ⊢
    simp only [List.all_eq_true, decide_eq_true_eq] at h1
    refine Eq.trans h (congrArg some (show arrV D.2.1 n (fun j => va_rf (some (bs base (aE k j)))) = arrV D.2.1 n (fun j => va_rf (some (adL base b (aE k j)))) from arrV_eq (fun j hj => ?_)))
    rw [adL_k (h1 j (List.mem_range.mpr hj))]
  · rw [eN_t hkd] at h ⊢
    simp only [List.all_eq_true, decide_eq_true_eq] at h1
    refine Eq.trans h (congrArg some (show arrV D.2.2 n (fun j => va_rf (some (bs base (aE k j)))) = arrV D.2.2 n (fun j => va_rf (some (adL base b (aE k j)))) from arrV_eq (fun j hj => ?_)))
    rw [adL_k (h1 j (List.mem_range.mpr hj))]
  · obtain ⟨ci, rfl⟩ : ∃ ci, c = ci + 10 := ⟨c - 10, by omega⟩
    have h2 : ∀ j, j < n → fV μ0 k j ≠ vR 99 := by
      have h3 : (List.range n).all (fun j => decide (fV μ0 k j ≠ vR 99)) = true := h1
      intro j hj
      have := List.all_eq_true.mp h3 j (List.mem_range.mpr hj)
      rwa [decide_eq_true_eq] at this
    rw [eN_o hkd] at h ⊢
    have e1 : (List.range n).map (fun j => cV (adL base b) (fV μ0 k j)) = (List.range n).map (fun j => cV (bs base) (fV μ0 k j)) :=
      List.map_congr_left (fun j hj => adL_cV (h2 j (List.mem_range.mp hj)))
    rw [e1]
    exact h
theorem hO_adL {dC : Nat → ClassId} {dI : Nat → Nat → Nat} {D : ClassId × ClassId × ClassId} {base b : Nat} {H : Heap} (h : hO dC dI D (bs base) μ0 H) : hO dC dI D (adL base b) μ0 H := by
  refine ⟨fun k q hk => ?_, h.2⟩
  obtain ⟨hl, rfl⟩ := wO_get hk
  have h98 : k < 98 := hl
  have h1 := h.1 k _ (wO_at D (bs base) μ0 hl)
  rw [adL_k (by omega)]
  exact eN_adL h98 h1
/-! whole_start, from an invariant that the calls keep -/
set_option maxRecDepth 100000 in
theorem mIL_15 : mI R_law 15 mX10_init 0 := ⟨Or.inl (tG_of (tb1 (List.mem_of_getElem? (i := 22) rfl)) (by decide +kernel)), mo_X10_init⟩
set_option maxRecDepth 100000 in
theorem mIL_18 : mI R_law 18 mX11_init 0 := ⟨Or.inl (tG_of (tb5 (List.mem_of_getElem? (i := 104) rfl)) (by decide +kernel)), mo_X11_init⟩
theorem lk_tG {w : Cond} (h : (decide (w ∈ lw_tbl) && goodWord w) = true) : w ∈ tG := by
  simp only [Bool.and_eq_true, decide_eq_true_eq] at h
  exact tG_of h.1 h.2
theorem nwL_8 : Cond.classLink R_law 8 RX10 ∈ tG ∧ Cond.instantiable RX10 18 ∈ tG ∧ Cond.initialized RX10 ∈ tG := ⟨lk_tG (by decide +kernel), lk_tG (by decide +kernel), lk_tG (by decide +kernel)⟩
theorem nwL_16 : Cond.classLink R_law 16 RX11 ∈ tG ∧ Cond.instantiable RX11 54 ∈ tG ∧ Cond.initialized RX11 ∈ tG := ⟨lk_tG (by decide +kernel), lk_tG (by decide +kernel), lk_tG (by decide +kernel)⟩
theorem tt_v : tt 0 = 0 ∧ tt 1 = 18 ∧ tt 70 ≤ 10000 ∧ tt 71 = tt 70 + 54 ∧ tt 98 ≤ 15000 ∧ tt 1 ≤ tt 70 ∧ tt 71 ≤ tt 98 := by decide +kernel
theorem hN_zero {dC : Nat → ClassId} {dI : Nat → Nat → Nat} {D : ClassId × ClassId × ClassId} {H : Heap} : hN dC dI D H.size (fun _ _ => 0) 0 H :=
  ⟨fun k q hk => absurd (wN_get hk).1 (Nat.not_lt_zero k), fun _ _ => rI_0, rfl, fun _ _ _ => rfl⟩
set_option maxHeartbeats 2000000 in
theorem law_go {Inv : Nat → Mm → Prop} {L : Nat} (hst : ∀ i, i + 6 ≤ L → sAll (Inv i) (Inv (i + 6))) (hI0 : Inv 0 μ0) {p : Program} {e : Env} {s : State} {m : MethodId} {below : List Frame} {meth : Method} {c : Code} (l : Launch) (hflags : l.flags = flags0) {b : Nat} {xs : Nat → Int32} (hL : L ≤ 3072) (C0 : lw_At p s m meth c b L xs) :
    W p l e room_1 s m #[Value.ref b] below meth c s.heap [] 0 0 (lw_Z below #[Value.ref b] s) (entryFrame m ([Value.ref b] : List Value).toArray 7) := by
  obtain ⟨hx, hb, hr, hml, hown, hts, hX, hbl, hlk, hgv⟩ := id C0
  have hts' : ∀ w ∈ tG, w.before #[Value.ref b] s = true := fun w hw => hts w (List.mem_filter.mp hw).1
  obtain ⟨dC, dI, hKc⟩ := known_all hts
  obtain ⟨cI, i1, i2⟩ := arr_prim (ty := .int) (hts (.arrayClass .int) (by decide +kernel))
  obtain ⟨cL, l1, l2⟩ := arr_prim (ty := .long) (hts (.arrayClass .long) (by decide +kernel))
  have hO3 : (Cond.arrayOver (.object RX3)).before #[Value.ref b] s = true := hts _ (by decide +kernel)
  have hO7 : (Cond.arrayOver (.object RX7)).before #[Value.ref b] s = true := hts _ (by decide +kernel)
  obtain ⟨cP, p1, p2⟩ := arr_obj hO3
  obtain ⟨cT, t1, t2⟩ := arr_obj hO7
  obtain ⟨D, hD⟩ : ∃ D : ClassId × ClassId × ClassId, D = (cI, cP, cT) := ⟨_, rfl⟩
  have hK4 : va_K (dC, dI) vwCl (tyS D ++ [(cL, .long)]) s := by
    refine ⟨hKc, fun k q h => ?_⟩
    subst hD
    match k, h with
    | 0, h => cases h; exact ⟨i1, i2⟩
    | 1, h => cases h; exact ⟨p1, p2⟩
    | 2, h => cases h; exact ⟨t1, t2⟩
    | 3, h => cases h; exact ⟨l1, l2⟩
    | k + 4, h => simp [tyS] at h
  have hK : va_K (dC, dI) vwCl (tyS D) s := hK4.sub [0, 1, 2] rfl
  have hN9 : nS s := nS_tbl hts
  have hOO : aO s := ⟨va_AO.of (A := #[Value.ref b]) hO3, va_AO.of (A := #[Value.ref b]) hO7⟩
  obtain ⟨tt0, tt1, tt70, tt71, tt98, ttA, ttB⟩ := tt_v
  rw [lg_entry_eq]
  have hl0 := lv_entry ([.ref b]) (n := 7) (by show 1 ≤ 7; decide)
  revert hl0
  generalize (lg_sl [Value.ref b] ++ List.replicate (7 - (lg_sl [Value.ref b]).length) Slot.unset).toArray = ls
  intro hl0
  have hl0 : lv_has ls 7 [(0, .ref b)] := hl0
  refine w_new (base := s.heap.size) (n := 0) (μ := fun _ _ => 0) (D := D) hx hb hown hts' hK cl10 (by decide +kernel) rfl nwL_8 hN_zero (by decide) (by decide) dL_law_0 (fun H1 hH1 z1 o1 => ?_)
  have hS1 : va_S (fun q : Nat => s.heap.size ≤ q) s.heap H1 [] := vS_push va_S.rf z1 o1
  refine lv_dup hx hb dL_law_3 rfl ?_
  refine w_init (base := s.heap.size) (n := 1) (n2 := 70) (b := 0) (nL := 7) (A0 := fun q : Nat => s.heap.size ≤ q) ⟨hx, hb, hml, hown, hts'⟩ (kN_0 _) mIL_15 hK hN9 hOO hH1 hl0.1 (by show 1 + 0 ≤ 8; omega) ⟨by decide, by decide⟩ ⟨by show 0 + 1 + (70 - 1) ≤ 601024; omega, by show 0 + 18 + (tt 70 - tt 1) ≤ 7293034; omega⟩ hS1 (fun _ h => h) dL_law_4 (fun H2 locs2 hH2 hS2 => ?_)
  refine lv_astore_n (lv' := [(1, .ref (s.heap.size + 0)), (0, .ref b)]) hx hb dL_law_7 rfl hl0 (by decide) rfl (fun ls1 hl1 => ?_)
  refine w_new (base := s.heap.size) (n := 70) (D := D) hx hb hown hts' hK cl11 (by decide +kernel) rfl nwL_16 hH2 (by show 0 + 1 + (70 - 1) + 1 ≤ 601024; omega) (by show 0 + 18 + (tt 70 - tt 1) + 54 ≤ 7293034; omega) dL_law_8 (fun H3 hH3 z3 o3 => ?_)
  have hS3 := vS_push hS2 z3 o3
  refine lv_dup hx hb dL_law_11 rfl ?_
  refine w_init (base := s.heap.size) (n := 71) (n2 := 98) (b := 70) (nL := 7) (A0 := fun q : Nat => s.heap.size ≤ q) ⟨hx, hb, hml, hown, hts'⟩ (kN_70 _) mIL_18 hK hN9 hOO hH3 hl1.1 (by show 1 + 0 ≤ 8; omega) ⟨by decide, by decide⟩ ⟨by show 0 + 1 + (70 - 1) + 1 + (98 - 71) ≤ 601024; omega, by show 0 + 18 + (tt 70 - tt 1) + 54 + (tt 98 - tt 71) ≤ 7293034; omega⟩ hS3 (fun _ h => h) dL_law_12 (fun H4 locs4 hH4 hS4 => ?_)
  refine lv_astore_n (lv' := [(2, .ref (s.heap.size + 70)), (1, .ref (s.heap.size + 0)), (0, .ref b)]) hx hb dL_law_15 rfl hl1 (by decide) rfl (fun ls2 hl2 => ?_)
  refine lv_iconst hx hb dL_law_16 rfl ?_
  refine va_newaK (atype := .long) hx hb (hts (.arrayClass .long) (by decide +kernel)) rfl dL_law_17 rfl (N := 1) (by decide) (by decide) (by decide) (by show 0 + 1 + (70 - 1) + 1 + (98 - 71) + 1 ≤ 601024; omega) (by show 0 + 18 + (tt 70 - tt 1) + 54 + (tt 98 - tt 71) + 1 ≤ 7293034; omega) hH4.2.2.1 (fun H5 cA e5 z5 o5 hAr hNm => ?_)
  have hcA : cA = cL := Option.some.inj (hNm.symm.trans l2)
  subst hcA
  have hH4' : hN dC dI D s.heap.size mB 98 H4 := hH4
  have hO4 : hO dC dI D (adL s.heap.size b) μ0 H4 := hO_adL (hN_hO hH4')
  have z5' : H5.size = H4.size + 1 := by rw [z5, hH4.2.2.1]
  have o5' : ∀ q, q < H4.size → H5[q]? = H4[q]? := fun q hq => o5 q (by rw [← hH4.2.2.1]; exact hq)
  have hO5 : hO dC dI D (adL s.heap.size b) μ0 H5 := hO_kept hO4 o5'
  have hS5 : va_S (fun q : Nat => s.heap.size ≤ q) s.heap H5 locs4 := vS_push hS4 z5' o5'
  refine lv_astore_n (lv' := [(3, .ref (s.heap.size + 98)), (2, .ref (s.heap.size + 70)), (1, .ref (s.heap.size + 0)), (0, .ref b)]) hx hb dL_law_19 rfl hl2 (by decide) rfl (fun ls3 hl3 => ?_)
  refine lv_iconst hx hb dL_law_20 rfl ?_
  refine lv_istore (lv' := [(4, .int (Int32.ofInt 0)), (3, .ref (s.heap.size + 98)), (2, .ref (s.heap.size + 70)), (1, .ref (s.heap.size + 0)), (0, .ref b)]) hx hb dL_law_21 hl3 (by decide) rfl (fun ls4 hl4 => ?_)
  refine W.widen (k := 200) (n := 20000) (by show 0 + 1 + (70 - 1) + 1 + (98 - 71) + 1 ≤ 200; omega) (by show 0 + 18 + (tt 70 - tt 1) + 54 + (tt 98 - tt 71) + 1 ≤ 20000; omega) ?_
  have hgo := law_loop hCr hst (L := L) (sc := fun j => (xs j).toInt) hL (fun j => rI_of (xs j)) (L + 6) 0 μ0 0 200 20000 (by omega) (by omega) hI0 (by omega) (by omega)
  have hap : aP (adL s.heap.size b) := by
    intro i j hi hj h
    have hi' : i < 98 := hi
    have hj' : j < 98 := hj
    rw [adL_k (by omega), adL_k (by omega)] at h
    omega
  have hg := hgo p l e s m below meth c b xs H5 locs4 dC dI D cA (adL s.heap.size b) ls4 ⟨C0, hflags, hK4, hap, fun k hk => by have hk' : k < 98 := hk; rw [adL_k (by omega)]; omega, rfl⟩ (fun _ => rfl) hO5
    ⟨by rw [adL_k (by decide)]; exact e5, fun k hk => by have hk' : k < 98 := hk; rw [adL_k (by omega), adL_k (by decide)]; omega, by rw [adL_k (by decide)]; omega⟩ hS5 rfl ⟨hl4.1, hl4.2.1, fun i v hi => ?_⟩ (fun _ h => nomatch h)
  · exact hg
  · match i, hi with
    | 0, hi => cases hi; exact ⟨lv_at hl4 4 rfl, trivial⟩
    | 1, hi => cases hi; exact ⟨lv_at hl4 3 rfl, trivial⟩
    | 2, hi => cases hi; exact ⟨lv_at hl4 2 rfl, trivial⟩
    | 3, hi => cases hi; exact ⟨lv_at hl4 1 rfl, trivial⟩
    | 4, hi => cases hi; exact ⟨lv_at hl4 0 rfl, rI_0⟩
    | 5, hi => cases hi
    | 6, hi => cases hi
    | k + 7, hi => simp at hi
/-! THE MATHEMATICS: what a pure function does, by a postcondition -/
def wp (x : Rs) (Q : Int → Mm → Prop) : Prop := match x with
  | none => False
  | some q => Q q.1 q.2
theorem wp_some (r : Int) (μ : Mm) (Q : Int → Mm → Prop) : wp (some (r, μ)) Q = Q r μ := rfl
theorem wp_none (Q : Int → Mm → Prop) : wp none Q = False := rfl
theorem wp_bd (x : Rs) (f : Int → Mm → Rs) (Q : Int → Mm → Prop) : wp (bd x f) Q = wp x (fun r μ => wp (f r μ) Q) := by
  cases x <;> rfl
theorem wp_lt (x : Int) (f : Int → Rs) (Q : Int → Mm → Prop) : wp (lt_ x f) Q = wp (f x) Q := rfl
theorem wp_sF (μ : Mm) (a j : Nat) (v : Int) (f : Mm → Rs) (Q : Int → Mm → Prop) : wp (sF μ a j v f) Q = wp (f (sM μ a j v)) Q := rfl
theorem wp_ite {c : Prop} {_ : Decidable c} (x y : Rs) (Q : Int → Mm → Prop) : wp (if c then x else y) Q = if c then wp x Q else wp y Q := by
  by_cases h : c
  · rw [if_pos h, if_pos h]
  · rw [if_neg h, if_neg h]
theorem wp_ldA (μ : Mm) (a : Nat) (i : Int) (f : Int → Rs) (Q : Int → Mm → Prop) : wp (ldA μ a i f) Q = ((0 ≤ i ∧ i < aN a) ∧ wp (f (μ a i.toNat)) Q) := by
  unfold ldA
  rw [wp_ite]
  by_cases h : 0 ≤ i ∧ i < aN a
  · rw [if_pos h]; exact propext ⟨fun z => ⟨h, z⟩, fun z => z.2⟩
  · rw [if_neg h]; exact propext ⟨fun z => z.elim, fun z => absurd z.1 h⟩
theorem wp_stA (μ : Mm) (a : Nat) (i v : Int) (f : Mm → Rs) (Q : Int → Mm → Prop) : wp (stA μ a i v f) Q = ((0 ≤ i ∧ i < aN a) ∧ wp (f (sM μ a i.toNat v)) Q) := by
  unfold stA
  rw [wp_ite]
  by_cases h : 0 ≤ i ∧ i < aN a
  · rw [if_pos h]; exact propext ⟨fun z => ⟨h, z⟩, fun z => z.2⟩
  · rw [if_neg h]; exact propext ⟨fun z => z.elim, fun z => absurd z.1 h⟩
theorem wp_sZ (μ : Mm) (a j : Nat) (v : Int) (f : Mm → Rs) (Q : Int → Mm → Prop) : wp (sZ μ a j v f) Q = ((v = 0 ∨ v = 1) ∧ wp (f (sM μ a j v)) Q) := by
  unfold sZ
  rw [wp_ite]
  by_cases h : v = 0 ∨ v = 1
  · rw [if_pos h]; exact propext ⟨fun z => ⟨h, z⟩, fun z => z.2⟩
  · rw [if_neg h]; exact propext ⟨fun z => z.elim, fun z => absurd z.1 h⟩
theorem wp_rZ (v : Int) (μ : Mm) (Q : Int → Mm → Prop) : wp (rZ v μ) Q = ((v = 0 ∨ v = 1) ∧ Q v μ) := by
  unfold rZ
  rw [wp_ite]
  by_cases h : v = 0 ∨ v = 1
  · rw [if_pos h]; exact propext ⟨fun z => ⟨h, z⟩, fun z => z.2⟩
  · rw [if_neg h]; exact propext ⟨fun z => z.elim, fun z => absurd z.1 h⟩
theorem wp_dZ (b : Int) (f : Rs) (Q : Int → Mm → Prop) : wp (dZ b f) Q = (b ≠ 0 ∧ wp f Q) := by
  unfold dZ
  rw [wp_ite]
  by_cases h : b = 0
  · rw [if_pos h]; exact propext ⟨fun z => z.elim, fun z => absurd h z.1⟩
  · rw [if_neg h]; exact propext ⟨fun z => ⟨h, z⟩, fun z => z.2⟩
theorem wp_aL (a : Nat) (i : Int) (f : Nat → Rs) (Q : Int → Mm → Prop) : wp (aL a i f) Q = ((0 ≤ i ∧ i < aN a) ∧ wp (f (aE a i.toNat)) Q) := by
  unfold aL
  rw [wp_ite]
  by_cases h : 0 ≤ i ∧ i < aN a
  · rw [if_pos h]; exact propext ⟨fun z => ⟨h, z⟩, fun z => z.2⟩
  · rw [if_neg h]; exact propext ⟨fun z => z.elim, fun z => absurd z.1 h⟩
theorem wp_mR (μ : Mm) (a j : Nat) (k : Nat × Nat) (f : Nat → Rs) (Q : Int → Mm → Prop) : wp (mR μ a j k f) Q = (kD (μ a j).toNat = k ∧ wp (f (μ a j).toNat) Q) := by
  unfold mR
  rw [wp_ite]
  by_cases h : kD (μ a j).toNat = k
  · rw [if_pos h]; exact propext ⟨fun z => ⟨h, z⟩, fun z => z.2⟩
  · rw [if_neg h]; exact propext ⟨fun z => z.elim, fun z => absurd z.1 h⟩
theorem wp_kC (c : Int) (k : Nat × Nat) (f : Nat → Rs) (Q : Int → Mm → Prop) : wp (kC c k f) Q = (kD c.toNat = k ∧ wp (f c.toNat) Q) := by
  unfold kC
  rw [wp_ite]
  by_cases h : kD c.toNat = k
  · rw [if_pos h]; exact propext ⟨fun z => ⟨h, z⟩, fun z => z.2⟩
  · rw [if_neg h]; exact propext ⟨fun z => z.elim, fun z => absurd z.1 h⟩
theorem wp_cpA (μ : Mm) (a b : Nat) (n : Int) (f : Mm → Rs) (Q : Int → Mm → Prop) : wp (cpA μ a b n f) Q = ((0 ≤ n ∧ n ≤ aN a ∧ n ≤ aN b) ∧ wp (f (cA_ μ a b n)) Q) := by
  unfold cpA
  rw [wp_ite]
  by_cases h : 0 ≤ n ∧ n ≤ aN a ∧ n ≤ aN b
  · rw [if_pos h]; exact propext ⟨fun z => ⟨h, z⟩, fun z => z.2⟩
  · rw [if_neg h]; exact propext ⟨fun z => z.elim, fun z => absurd z.1 h⟩
theorem wp_mono {x : Rs} {P Q : Int → Mm → Prop} (h : wp x P) (hi : ∀ r μ, P r μ → Q r μ) : wp x Q := by
  cases x with
  | none => exact h
  | some q => exact hi _ _ h
theorem wp_eq {x : Rs} {r : Int} {μ : Mm} {Q : Int → Mm → Prop} (h : x = some (r, μ)) (hq : Q r μ) : wp x Q := by
  rw [h]; exact hq
theorem wp_ex {x : Rs} {Q : Int → Mm → Prop} (h : wp x Q) : ∃ r μ, x = some (r, μ) ∧ Q r μ := by
  cases x with
  | none => exact h.elim
  | some q => exact ⟨q.1, q.2, rfl, h⟩
theorem bd_some (r : Int) (μ : Mm) (f : Int → Mm → Rs) : bd (some (r, μ)) f = f r μ := rfl
/-! numbers -/
theorem iA_id {a b : Int} (h1 : -2147483648 ≤ a + b) (h2 : a + b ≤ 2147483647) : iA a b = a + b := wI_id h1 h2
theorem iS_id {a b : Int} (h1 : -2147483648 ≤ a - b) (h2 : a - b ≤ 2147483647) : iS a b = a - b := wI_id h1 h2
theorem iM_id {a b : Int} (h1 : -2147483648 ≤ a * b) (h2 : a * b ≤ 2147483647) : iM a b = a * b := wI_id h1 h2
theorem iD_id {a b : Int} (h1 : 0 ≤ a) (h2 : a ≤ 2147483647) (h3 : 0 < b) : iD a b = a / b := by
  unfold iD
  rw [Int.tdiv_eq_ediv_of_nonneg h1]
  have h4 := Int.ediv_nonneg h1 (Int.le_of_lt h3)
  have h5 := Int.ediv_le_self b h1
  exact wI_id (by omega) (by omega)
theorem iR_id {a b : Int} (h1 : 0 ≤ a) (h2 : a ≤ 2147483647) (h3 : 0 < b) : iR a b = a % b := by
  unfold iR
  rw [iD_id h1 h2 h3]
  have h4 := Int.emod_nonneg a (Int.ne_of_gt h3)
  have h5 := Int.emod_lt_of_pos a h3
  have h6 := Int.mul_ediv_add_emod a b
  have h7 : a - a / b * b = a % b := by rw [Int.mul_comm]; omega
  have h9 := Int.mul_nonneg (Int.le_of_lt h3) (Int.ediv_nonneg h1 (Int.le_of_lt h3))
  have h8 : a % b ≤ a := by omega
  rw [h7]
  exact wI_id (by omega) (by omega)
theorem mX_eq (a b : Int) : mX a b = max a b := by
  unfold mX; omega
theorem mN_eq (a b : Int) : mN a b = min a b := by
  unfold mN; omega
theorem lt_fuel {n d : Nat} (h : d < n) : ∃ n', n = n' + 1 ∧ d ≤ n' := ⟨n - 1, by omega, by omega⟩
/-- 1 for true -/
def b2 (p : Prop) [Decidable p] : Int := if p then 1 else 0
theorem b2_0 {p : Prop} [Decidable p] : (b2 p = 0) = ¬ p := by
  unfold b2
  by_cases h : p
  · rw [if_pos h]; exact propext ⟨fun z => absurd z (by decide), fun z => absurd h z⟩
  · rw [if_neg h]; exact propext ⟨fun _ => h, fun _ => rfl⟩
theorem b2_t {p : Prop} [Decidable p] (h : p) : b2 p = 1 := if_pos h
theorem b2_f {p : Prop} [Decidable p] (h : ¬ p) : b2 p = 0 := if_neg h
theorem b2_01 (p : Prop) [Decidable p] : b2 p = 0 ∨ b2 p = 1 := by
  by_cases h : p
  · exact Or.inr (b2_t h)
  · exact Or.inl (b2_f h)
theorem b2_congr {p q : Prop} [Decidable p] [Decidable q] (h : p ↔ q) : b2 p = b2 q := by
  by_cases hp : p
  · rw [b2_t hp, b2_t (h.mp hp)]
  · rw [b2_f hp, b2_f (fun z => hp (h.mpr z))]
/-! which cells have changed -/
def fr (S : List Nat) (μ μ' : Mm) : Prop := ∀ k, k ∉ S → μ' k = μ k
theorem fr_rf {S : List Nat} {μ : Mm} : fr S μ μ := fun _ _ => rfl
theorem fr_tr {S : List Nat} {μ μ' μ'' : Mm} (h1 : fr S μ μ') (h2 : fr S μ' μ'') : fr S μ μ'' := fun k hk => (h2 k hk).trans (h1 k hk)
theorem fr_sM {S : List Nat} {μ μ' : Mm} {a j : Nat} {v : Int} (h : fr S μ μ') (ha : a ∈ S) : fr S μ (sM μ' a j v) := fun k hk => by
  have hne : k ≠ a := fun e => hk (e ▸ ha)
  rw [sM_ne hne]; exact h k hk
theorem fr_cA {S : List Nat} {μ μ' : Mm} {a b : Nat} {n : Int} (h : fr S μ μ') (ha : b ∈ S) : fr S μ (cA_ μ' a b n) := fun k hk => by
  have hne : k ≠ b := fun e => hk (e ▸ ha)
  have : cA_ μ' a b n k = μ' k := by funext j; simp [cA_, hne]
  rw [this]; exact h k hk
theorem fr_w {S S' : List Nat} {μ μ' : Mm} (h : fr S μ μ') (hs : ∀ k, k ∈ S → k ∈ S') : fr S' μ μ' := fun k hk => h k (fun z => hk (hs k z))
theorem sM_s (μ : Mm) (a j : Nat) (v : Int) : sM μ a j v a j = v := by simp [sM]
theorem sM_j {μ : Mm} {a j k : Nat} {v : Int} (h : k ≠ j) : sM μ a j v a k = μ a k := by simp [sM, h]
theorem sM_a {μ : Mm} {a b j k : Nat} {v : Int} (h : b ≠ a) : sM μ a j v b k = μ b k := by simp [sM, h]
theorem sM_if (μ : Mm) (a j : Nat) (v : Int) (k : Nat) : sM μ a j v a k = if k = j then v else μ a k := by simp [sM]
theorem sM_id {μ : Mm} {a j : Nat} : sM μ a j (μ a j) = μ := by
  funext i k
  unfold sM
  by_cases h : i = a ∧ k = j
  · rw [if_pos h, h.1, h.2]
  · rw [if_neg h]
/-! FEED, END: the tape on both sides -/
def byt (x : Int) (q : Nat) : Int := bA (bU x (24 - 8 * q)) 255
theorem bA_255 (x : Int32) : 0 ≤ (x &&& 255).toInt ∧ (x &&& 255).toInt ≤ 255 := by
  have h1 : (x &&& 255).toBitVec = x.toBitVec &&& 255#32 := rfl
  have h2 : (x &&& 255).toBitVec.toNat ≤ 255 := by
    rw [h1, BitVec.toNat_and]
    exact Nat.and_le_right
  have h3 : (x &&& 255).toInt = ((x &&& 255).toBitVec.toNat : Int) := by
    show (x &&& 255).toBitVec.toInt = _
    rw [BitVec.toInt_eq_toNat_cond, if_pos (by omega)]
  rw [h3]
  omega
theorem byt_b (x : Int) (q : Nat) : 0 ≤ byt x q ∧ byt x q ≤ 255 := bA_255 _
theorem sh_eq (x : Int32) (n : Nat) (hn : n = 0 ∨ n = 8 ∨ n = 16 ∨ n = 24) : (x >>> (Int32.ofInt (n : Int) &&& 31)) &&& 255 = ((x.toUInt32 >>> ((Int32.ofInt (n : Int)).toUInt32 &&& Int32.toUInt32 31)).toInt32) &&& 255 := by
  apply Int32.toBitVec.inj
  rcases hn with rfl | rfl | rfl | rfl
  all_goals
    apply BitVec.eq_of_getLsbD_eq
    intro i hi
    simp only [Int32.toBitVec_and, BitVec.getLsbD_and]
    by_cases h8 : i < 8
    · congr 1
      have e : ∀ (y : BitVec 32) (k : Nat), k + 8 ≤ 32 → (y.sshiftRight k).getLsbD i = (y >>> k).getLsbD i := by
        intro y k hk
        rw [BitVec.getLsbD_sshiftRight, BitVec.getLsbD_ushiftRight]
        simp [show ¬ 32 ≤ i by omega, show k + i < 32 by omega]
      first
        | exact e x.toBitVec 0 (by omega)
        | exact e x.toBitVec 8 (by omega)
        | exact e x.toBitVec 16 (by omega)
        | exact e x.toBitVec 24 (by omega)
    · have h9 : (Int32.toBitVec 255).getLsbD i = false := by
        show (255#32).getLsbD i = false
        rw [BitVec.getLsbD_ofNat]
        have : (255 : Nat).testBit i = false := Nat.testBit_lt_two_pow (Nat.lt_of_lt_of_le (by decide : 255 < 2 ^ 8) (Nat.pow_le_pow_right (by decide) (by omega)))
        rw [this, Bool.and_false]
      rw [h9, Bool.and_false, Bool.and_false]
theorem byt_R (x : Int) (q : Nat) (h : q < 4) : bA (bR x ((24 - 8 * q : Nat) : Int)) 255 = byt x q := by
  have e : ((24 - 8 * q : Nat) : Int) = 24 - 8 * (q : Int) := by omega
  unfold byt bA bR bU
  rw [o32_self, o32_self, ← e]
  exact congrArg Int32.toInt (sh_eq (Int32.ofInt x) (24 - 8 * q) (by omega))
/-- a byte comes to the tape whose length is the slot s of o, whose bytes are a -/
def putB (o s a : Nat) (μ : Mm) (b : Int) : Mm := if b = 0 then μ else sM (sM μ a (μ o s).toNat b) o s (μ o s + 1)
def nzc : List Int → Int
  | [] => 0
  | b :: l => (if b = 0 then 0 else 1) + nzc l
theorem nzc_b (l : List Int) : 0 ≤ nzc l ∧ nzc l ≤ l.length := by
  induction l with
  | nil => exact ⟨Int.le_refl _, Int.le_refl _⟩
  | cons b l ih =>
    unfold nzc
    simp only [List.length_cons]
    split <;> omega
theorem nzc_app (l m : List Int) : nzc (l ++ m) = nzc l + nzc m := by
  induction l with
  | nil => simp [nzc]
  | cons b l ih => simp only [List.cons_append, nzc, ih]; omega
def four (x : Int) : List Int := [byt x 0, byt x 1, byt x 2, byt x 3]
theorem sh_v : iA 24 (-8) = 16 ∧ iA 16 (-8) = 8 ∧ iA 8 (-8) = 0 ∧ iA 0 (-8) = -8 := by decide
theorem byt_v (x : Int) : bA (bU x 24) 255 = byt x 0 ∧ bA (bU x 16) 255 = byt x 1 ∧ bA (bU x 8) 255 = byt x 2 ∧ bA (bU x 0) 255 = byt x 3 := ⟨rfl, rfl, rfl, rfl⟩
theorem bytesIn_n (x : Int) (μ : Mm) (n : Nat) : X7_bytesIn_L5 x (n + 5) 0 24 μ = some (nzc (four x), μ) := by
  obtain ⟨e1, e2, e3, e4⟩ := sh_v
  obtain ⟨b1, b2, b3, b4⟩ := byt_v x
  simp only [X7_bytesIn_L5, e1, e2, e3, e4, b1, b2, b3, b4, four, nzc]
  by_cases h0 : byt x 0 = 0 <;> by_cases h1 : byt x 1 = 0 <;> by_cases h2 : byt x 2 = 0 <;> by_cases h3 : byt x 3 = 0 <;> simp only [h0, h1, h2, h3, if_true, if_false] <;> rfl
theorem bytesIn_eq (x : Int) (μ : Mm) : X7_bytesIn x μ = some (nzc (four x), μ) := bytesIn_n x μ 999995
theorem add_n (x : Int) (μ : Mm) (n : Nat) (h0 : 0 ≤ μ 1 1) (h : μ 1 1 + nzc (four x) ≤ 160) : X7_add_L3 1 x (n + 5) 24 μ = some (0, (four x).foldl (putB 1 1 2) μ) := by
  obtain ⟨e1, e2, e3, e4⟩ := sh_v
  obtain ⟨b1, b2, b3, b4⟩ := byt_v x
  have st : ∀ (m : Nat) (i i' : Int) (b : Int) (ν : Mm) (rest : Rs), b ≠ 0 → 0 ≤ ν 1 1 → ν 1 1 < 160 → X7_add_L3 1 x m i' (putB 1 1 2 ν b) = rest → (if ((aN (1 + 1) : Nat) : Int) ≤ (ν 1 1) then (X7_add_L3 1 x m i' ν) else (stA ν (1 + 1) (ν 1 1) b fun μ5 => sF μ5 1 1 (iA (μ5 1 1) 1) fun μ7 => X7_add_L3 1 x m i' μ7)) = rest := by
    intro m i i' b ν rest hb h0 h1 hr
    rw [if_neg (by show ¬ (160 : Int) ≤ ν 1 1; omega)]
    unfold stA
    rw [if_pos (by show 0 ≤ ν 1 1 ∧ ν 1 1 < 160; omega)]
    unfold sF
    dsimp only
    rw [sM_a (show (1 : Nat) ≠ 1 + 1 by decide), iA_id (by omega) (by omega)]
    unfold putB at hr
    rw [if_neg hb] at hr
    exact hr
  have p0 : ∀ (ν : Mm) (b : Int), b = 0 → putB 1 1 2 ν b = ν := fun ν b h => if_pos h
  have p1 : ∀ (ν : Mm) (b : Int), b ≠ 0 → putB 1 1 2 ν b 1 1 = ν 1 1 + 1 := fun ν b h => by unfold putB; rw [if_neg h, sM_s]
  have q : ∀ (m : Nat) (i i' : Int) (b : Int) (ν : Mm) (rest : Rs), ¬ i < 0 → bA (bU x i) 255 = b → iA i (-8) = i' → 0 ≤ ν 1 1 → ν 1 1 + (if b = 0 then 0 else 1) ≤ 160 → X7_add_L3 1 x m i' (putB 1 1 2 ν b) = rest → X7_add_L3 1 x (m + 1) i ν = rest := by
    intro m i i' b ν rest hi hb hi' h0 h1 hr
    show (if i < 0 then _ else _) = rest
    rw [if_neg hi, hb, hi']
    unfold lt_
    dsimp only
    by_cases hz : b = 0
    · rw [if_pos hz]; rw [p0 ν b hz] at hr; exact hr
    · rw [if_neg hz]; rw [if_neg hz] at h1; exact st m i i' b ν rest hz h0 (by omega) hr
  have pb : ∀ (ν : Mm) (b : Int), putB 1 1 2 ν b 1 1 = ν 1 1 + (if b = 0 then 0 else 1) := by
    intro ν b
    by_cases hz : b = 0
    · rw [p0 ν b hz, if_pos hz]; omega
    · rw [p1 ν b hz, if_neg hz]
  have hc : nzc (four x) = (if byt x 0 = 0 then 0 else 1) + ((if byt x 1 = 0 then 0 else 1) + ((if byt x 2 = 0 then 0 else 1) + ((if byt x 3 = 0 then 0 else 1) + 0))) := rfl
  rw [hc] at h
  have g : ∀ b : Int, (0 : Int) ≤ (if b = 0 then 0 else 1) := fun b => by split <;> omega
  have g0 := g (byt x 0)
  have g1 := g (byt x 1)
  have g2 := g (byt x 2)
  have g3 := g (byt x 3)
  refine q _ 24 16 _ _ _ (by decide) b1 e1 h0 (by omega) ?_
  refine q _ 16 8 _ _ _ (by decide) b2 e2 (by rw [pb]; omega) (by rw [pb]; omega) ?_
  refine q _ 8 0 _ _ _ (by decide) b3 e3 (by rw [pb, pb]; omega) (by rw [pb, pb]; omega) ?_
  refine q _ 0 (-8) _ _ _ (by decide) b4 e4 (by rw [pb, pb, pb]; omega) (by rw [pb, pb, pb]; omega) ?_
  show (if (-8 : Int) < 0 then _ else _) = _
  rw [if_pos (by decide)]
  rfl
theorem add_eq (x : Int) (μ : Mm) (h0 : 0 ≤ μ 1 1) (h : μ 1 1 + nzc (four x) ≤ 160) : X7_add 1 x μ = some (0, (four x).foldl (putB 1 1 2) μ) := add_n x μ 999995 h0 h
theorem foldB_len (o s a : Nat) (hoa : o ≠ a) (l : List Int) (μ : Mm) : (l.foldl (putB o s a) μ) o s = μ o s + nzc l := by
  induction l generalizing μ with
  | nil => simp [nzc]
  | cons b l ih =>
    rw [List.foldl_cons, ih]
    show putB o s a μ b o s + nzc l = μ o s + ((if b = 0 then 0 else 1) + nzc l)
    unfold putB
    by_cases h : b = 0
    · rw [if_pos h, if_pos h]; omega
    · rw [if_neg h, if_neg h, sM_s]; omega
theorem feed_eq (a b c d e : Int) (μ : Mm) (h0 : 0 ≤ μ 1 1) (h1 : μ 1 1 ≤ 160) : X10_feed a b c d e μ = (if μ 1 1 + nzc (four a ++ (four b ++ (four c ++ (four d ++ four e)))) ≤ 160 then some (μ 1 1 + nzc (four a ++ (four b ++ (four c ++ (four d ++ four e)))), (four a ++ (four b ++ (four c ++ (four d ++ four e)))).foldl (putB 1 1 2) μ) else some (-1, μ)) := by
  have ha : 0 ≤ nzc (four a) ∧ nzc (four a) ≤ 4 := nzc_b (four a)
  have hb : 0 ≤ nzc (four b) ∧ nzc (four b) ≤ 4 := nzc_b (four b)
  have hc : 0 ≤ nzc (four c) ∧ nzc (four c) ≤ 4 := nzc_b (four c)
  have hd : 0 ≤ nzc (four d) ∧ nzc (four d) ≤ 4 := nzc_b (four d)
  have he : 0 ≤ nzc (four e) ∧ nzc (four e) ≤ 4 := nzc_b (four e)
  have f := fun l μ => foldB_len 1 1 2 (by decide) l μ
  unfold X10_feed
  simp only [bytesIn_eq, bd_some, lt_, nzc_app, List.foldl_append]
  generalize hA : four a = A at *
  generalize hB : four b = B at *
  generalize hC : four c = C at *
  generalize hD : four d = D at *
  generalize hE : four e = E at *
  rw [iA_id (a := nzc A) (by omega) (by omega), iA_id (a := nzc A + nzc B) (by omega) (by omega), iA_id (a := nzc A + nzc B + nzc C) (by omega) (by omega), iA_id (a := nzc A + nzc B + nzc C + nzc D) (by omega) (by omega), iA_id (by omega) (by omega)]
  by_cases h : μ 1 1 + (nzc A + (nzc B + (nzc C + (nzc D + nzc E)))) ≤ 160
  · rw [if_pos (by omega), if_pos h]
    rw [add_eq a μ h0 (by rw [hA]; omega), bd_some, add_eq b _ (by rw [hA, f]; omega) (by rw [hA, hB, f]; omega), bd_some, add_eq c _ (by rw [hA, hB, f, f]; omega) (by rw [hA, hB, hC, f, f]; omega), bd_some, add_eq d _ (by rw [hA, hB, hC, f, f, f]; omega) (by rw [hA, hB, hC, hD, f, f, f]; omega), bd_some, add_eq e _ (by rw [hA, hB, hC, hD, f, f, f, f]; omega) (by rw [hA, hB, hC, hD, hE, f, f, f, f]; omega), bd_some, hA, hB, hC, hD, hE]
    simp only [f]
    congr 2
    omega
  · rw [if_neg (by omega), if_neg h]
/-! FEED on the model's side (written by wip/gen/feedgen.py) -/
theorem byteOf_0 (a b c d e : Int) (μ : Mm) : X11_byteOf a b c d e 0 μ = some (byt a 0, μ) := by
  unfold X11_byteOf
  rw [if_neg (by decide)]
  unfold X11_byteOf_J45
  rw [show iS 24 (iM 8 (iR 0 4)) = ((24 - 8 * 0 : Nat) : Int) by decide, byt_R a 0 (by decide)]
theorem byteOf_1 (a b c d e : Int) (μ : Mm) : X11_byteOf a b c d e 1 μ = some (byt a 1, μ) := by
  unfold X11_byteOf
  rw [if_neg (by decide)]
  unfold X11_byteOf_J45
  rw [show iS 24 (iM 8 (iR 1 4)) = ((24 - 8 * 1 : Nat) : Int) by decide, byt_R a 1 (by decide)]
theorem byteOf_2 (a b c d e : Int) (μ : Mm) : X11_byteOf a b c d e 2 μ = some (byt a 2, μ) := by
  unfold X11_byteOf
  rw [if_neg (by decide)]
  unfold X11_byteOf_J45
  rw [show iS 24 (iM 8 (iR 2 4)) = ((24 - 8 * 2 : Nat) : Int) by decide, byt_R a 2 (by decide)]
theorem byteOf_3 (a b c d e : Int) (μ : Mm) : X11_byteOf a b c d e 3 μ = some (byt a 3, μ) := by
  unfold X11_byteOf
  rw [if_neg (by decide)]
  unfold X11_byteOf_J45
  rw [show iS 24 (iM 8 (iR 3 4)) = ((24 - 8 * 3 : Nat) : Int) by decide, byt_R a 3 (by decide)]
theorem byteOf_4 (a b c d e : Int) (μ : Mm) : X11_byteOf a b c d e 4 μ = some (byt b 0, μ) := by
  unfold X11_byteOf
  rw [if_pos (by decide), if_neg (by decide)]
  unfold X11_byteOf_J45
  rw [show iS 24 (iM 8 (iR 4 4)) = ((24 - 8 * 0 : Nat) : Int) by decide, byt_R b 0 (by decide)]
theorem byteOf_5 (a b c d e : Int) (μ : Mm) : X11_byteOf a b c d e 5 μ = some (byt b 1, μ) := by
  unfold X11_byteOf
  rw [if_pos (by decide), if_neg (by decide)]
  unfold X11_byteOf_J45
  rw [show iS 24 (iM 8 (iR 5 4)) = ((24 - 8 * 1 : Nat) : Int) by decide, byt_R b 1 (by decide)]
theorem byteOf_6 (a b c d e : Int) (μ : Mm) : X11_byteOf a b c d e 6 μ = some (byt b 2, μ) := by
  unfold X11_byteOf
  rw [if_pos (by decide), if_neg (by decide)]
  unfold X11_byteOf_J45
  rw [show iS 24 (iM 8 (iR 6 4)) = ((24 - 8 * 2 : Nat) : Int) by decide, byt_R b 2 (by decide)]
theorem byteOf_7 (a b c d e : Int) (μ : Mm) : X11_byteOf a b c d e 7 μ = some (byt b 3, μ) := by
  unfold X11_byteOf
  rw [if_pos (by decide), if_neg (by decide)]
  unfold X11_byteOf_J45
  rw [show iS 24 (iM 8 (iR 7 4)) = ((24 - 8 * 3 : Nat) : Int) by decide, byt_R b 3 (by decide)]
theorem byteOf_8 (a b c d e : Int) (μ : Mm) : X11_byteOf a b c d e 8 μ = some (byt c 0, μ) := by
  unfold X11_byteOf
  rw [if_pos (by decide), if_pos (by decide), if_neg (by decide)]
  unfold X11_byteOf_J45
  rw [show iS 24 (iM 8 (iR 8 4)) = ((24 - 8 * 0 : Nat) : Int) by decide, byt_R c 0 (by decide)]
theorem byteOf_9 (a b c d e : Int) (μ : Mm) : X11_byteOf a b c d e 9 μ = some (byt c 1, μ) := by
  unfold X11_byteOf
  rw [if_pos (by decide), if_pos (by decide), if_neg (by decide)]
  unfold X11_byteOf_J45
  rw [show iS 24 (iM 8 (iR 9 4)) = ((24 - 8 * 1 : Nat) : Int) by decide, byt_R c 1 (by decide)]
theorem byteOf_10 (a b c d e : Int) (μ : Mm) : X11_byteOf a b c d e 10 μ = some (byt c 2, μ) := by
  unfold X11_byteOf
  rw [if_pos (by decide), if_pos (by decide), if_neg (by decide)]
  unfold X11_byteOf_J45
  rw [show iS 24 (iM 8 (iR 10 4)) = ((24 - 8 * 2 : Nat) : Int) by decide, byt_R c 2 (by decide)]
theorem byteOf_11 (a b c d e : Int) (μ : Mm) : X11_byteOf a b c d e 11 μ = some (byt c 3, μ) := by
  unfold X11_byteOf
  rw [if_pos (by decide), if_pos (by decide), if_neg (by decide)]
  unfold X11_byteOf_J45
  rw [show iS 24 (iM 8 (iR 11 4)) = ((24 - 8 * 3 : Nat) : Int) by decide, byt_R c 3 (by decide)]
theorem byteOf_12 (a b c d e : Int) (μ : Mm) : X11_byteOf a b c d e 12 μ = some (byt d 0, μ) := by
  unfold X11_byteOf
  rw [if_pos (by decide), if_pos (by decide), if_pos (by decide), if_neg (by decide)]
  unfold X11_byteOf_J45
  rw [show iS 24 (iM 8 (iR 12 4)) = ((24 - 8 * 0 : Nat) : Int) by decide, byt_R d 0 (by decide)]
theorem byteOf_13 (a b c d e : Int) (μ : Mm) : X11_byteOf a b c d e 13 μ = some (byt d 1, μ) := by
  unfold X11_byteOf
  rw [if_pos (by decide), if_pos (by decide), if_pos (by decide), if_neg (by decide)]
  unfold X11_byteOf_J45
  rw [show iS 24 (iM 8 (iR 13 4)) = ((24 - 8 * 1 : Nat) : Int) by decide, byt_R d 1 (by decide)]
theorem byteOf_14 (a b c d e : Int) (μ : Mm) : X11_byteOf a b c d e 14 μ = some (byt d 2, μ) := by
  unfold X11_byteOf
  rw [if_pos (by decide), if_pos (by decide), if_pos (by decide), if_neg (by decide)]
  unfold X11_byteOf_J45
  rw [show iS 24 (iM 8 (iR 14 4)) = ((24 - 8 * 2 : Nat) : Int) by decide, byt_R d 2 (by decide)]
theorem byteOf_15 (a b c d e : Int) (μ : Mm) : X11_byteOf a b c d e 15 μ = some (byt d 3, μ) := by
  unfold X11_byteOf
  rw [if_pos (by decide), if_pos (by decide), if_pos (by decide), if_neg (by decide)]
  unfold X11_byteOf_J45
  rw [show iS 24 (iM 8 (iR 15 4)) = ((24 - 8 * 3 : Nat) : Int) by decide, byt_R d 3 (by decide)]
theorem byteOf_16 (a b c d e : Int) (μ : Mm) : X11_byteOf a b c d e 16 μ = some (byt e 0, μ) := by
  unfold X11_byteOf
  rw [if_pos (by decide), if_pos (by decide), if_pos (by decide), if_pos (by decide)]
  unfold X11_byteOf_J45
  rw [show iS 24 (iM 8 (iR 16 4)) = ((24 - 8 * 0 : Nat) : Int) by decide, byt_R e 0 (by decide)]
theorem byteOf_17 (a b c d e : Int) (μ : Mm) : X11_byteOf a b c d e 17 μ = some (byt e 1, μ) := by
  unfold X11_byteOf
  rw [if_pos (by decide), if_pos (by decide), if_pos (by decide), if_pos (by decide)]
  unfold X11_byteOf_J45
  rw [show iS 24 (iM 8 (iR 17 4)) = ((24 - 8 * 1 : Nat) : Int) by decide, byt_R e 1 (by decide)]
theorem byteOf_18 (a b c d e : Int) (μ : Mm) : X11_byteOf a b c d e 18 μ = some (byt e 2, μ) := by
  unfold X11_byteOf
  rw [if_pos (by decide), if_pos (by decide), if_pos (by decide), if_pos (by decide)]
  unfold X11_byteOf_J45
  rw [show iS 24 (iM 8 (iR 18 4)) = ((24 - 8 * 2 : Nat) : Int) by decide, byt_R e 2 (by decide)]
theorem byteOf_19 (a b c d e : Int) (μ : Mm) : X11_byteOf a b c d e 19 μ = some (byt e 3, μ) := by
  unfold X11_byteOf
  rw [if_pos (by decide), if_pos (by decide), if_pos (by decide), if_pos (by decide)]
  unfold X11_byteOf_J45
  rw [show iS 24 (iM 8 (iR 19 4)) = ((24 - 8 * 3 : Nat) : Int) by decide, byt_R e 3 (by decide)]
theorem cnt_step (a b c d e : Int) (K : Int → Mm → Rs) (n : Nat) (z k k' v : Int) (μ : Mm) (hk : ¬ 20 ≤ k) (hb : X11_byteOf a b c d e k μ = some (v, μ)) (hk' : iA k 1 = k') (hz : 0 ≤ z ∧ z ≤ 1000) : X11_feed_L6 a b c d e K (n + 1) z k μ = X11_feed_L6 a b c d e K n (z + (if v = 0 then 0 else 1)) k' μ := by
  show (if 20 ≤ k then _ else _) = _
  rw [if_neg hk, hb, bd_some, hk']
  by_cases h : v = 0
  · rw [if_pos h, if_pos h, iA_id (by omega) (by omega)]
  · rw [if_neg h, if_neg h, iA_id (by omega) (by omega)]
theorem put_step (a b c d e : Int) (n : Nat) (k k' v : Int) (μ : Mm) (hk : ¬ 20 ≤ k) (hb : ∀ ν, X11_byteOf a b c d e k ν = some (v, ν)) (hk' : iA k 1 = k') (h0 : 0 ≤ μ 70 2) (h1 : μ 70 2 + (if v = 0 then 0 else 1) ≤ 160) : X11_feed_L62 a b c d e (n + 1) k μ = X11_feed_L62 a b c d e n k' (putB 70 2 71 μ v) := by
  show (if 20 ≤ k then _ else _) = _
  rw [if_neg hk, hb, bd_some, hk']
  unfold putB
  by_cases h : v = 0
  · rw [if_pos h, if_pos h]
  · rw [if_neg h] at h1
    rw [if_neg h, if_neg h]
    unfold stA
    rw [if_pos (by show 0 ≤ μ 70 2 ∧ μ 70 2 < 160; omega)]
    unfold sF
    dsimp only
    rw [sM_a (show (70 : Nat) ≠ 71 by decide), iA_id (by omega) (by omega)]
theorem putB_len (o s a : Nat) (μ : Mm) (b : Int) : putB o s a μ b o s = μ o s + (if b = 0 then 0 else 1) := by
  unfold putB
  by_cases h : b = 0
  · rw [if_pos h, if_pos h]; omega
  · rw [if_neg h, if_neg h, sM_s]
def LB (a b c d e : Int) : List Int := four a ++ (four b ++ (four c ++ (four d ++ four e)))
theorem bit_b (v : Int) : (0 : Int) ≤ (if v = 0 then 0 else 1) ∧ (if v = 0 then 0 else 1) ≤ (1 : Int) := by split <;> omega
theorem cnt_all (a b c d e : Int) (K : Int → Mm → Rs) (μ : Mm) (n : Nat) : X11_feed_L6 a b c d e K (n + 21) 0 0 μ = K (nzc (LB a b c d e)) μ := by
  have g0 := bit_b (byt a 0)
  have g1 := bit_b (byt a 1)
  have g2 := bit_b (byt a 2)
  have g3 := bit_b (byt a 3)
  have g4 := bit_b (byt b 0)
  have g5 := bit_b (byt b 1)
  have g6 := bit_b (byt b 2)
  have g7 := bit_b (byt b 3)
  have g8 := bit_b (byt c 0)
  have g9 := bit_b (byt c 1)
  have g10 := bit_b (byt c 2)
  have g11 := bit_b (byt c 3)
  have g12 := bit_b (byt d 0)
  have g13 := bit_b (byt d 1)
  have g14 := bit_b (byt d 2)
  have g15 := bit_b (byt d 3)
  have g16 := bit_b (byt e 0)
  have g17 := bit_b (byt e 1)
  have g18 := bit_b (byt e 2)
  have g19 := bit_b (byt e 3)
  have hs : nzc (LB a b c d e) = 0 + (if byt a 0 = 0 then 0 else 1) + (if byt a 1 = 0 then 0 else 1) + (if byt a 2 = 0 then 0 else 1) + (if byt a 3 = 0 then 0 else 1) + (if byt b 0 = 0 then 0 else 1) + (if byt b 1 = 0 then 0 else 1) + (if byt b 2 = 0 then 0 else 1) + (if byt b 3 = 0 then 0 else 1) + (if byt c 0 = 0 then 0 else 1) + (if byt c 1 = 0 then 0 else 1) + (if byt c 2 = 0 then 0 else 1) + (if byt c 3 = 0 then 0 else 1) + (if byt d 0 = 0 then 0 else 1) + (if byt d 1 = 0 then 0 else 1) + (if byt d 2 = 0 then 0 else 1) + (if byt d 3 = 0 then 0 else 1) + (if byt e 0 = 0 then 0 else 1) + (if byt e 1 = 0 then 0 else 1) + (if byt e 2 = 0 then 0 else 1) + (if byt e 3 = 0 then 0 else 1) := by
    simp only [LB, four, nzc, List.cons_append, List.nil_append]
    omega
  rw [cnt_step a b c d e K _ _ 0 1 (byt a 0) μ (by decide) (byteOf_0 a b c d e μ) (by decide) (by omega)]
  rw [cnt_step a b c d e K _ _ 1 2 (byt a 1) μ (by decide) (byteOf_1 a b c d e μ) (by decide) (by omega)]
  rw [cnt_step a b c d e K _ _ 2 3 (byt a 2) μ (by decide) (byteOf_2 a b c d e μ) (by decide) (by omega)]
  rw [cnt_step a b c d e K _ _ 3 4 (byt a 3) μ (by decide) (byteOf_3 a b c d e μ) (by decide) (by omega)]
  rw [cnt_step a b c d e K _ _ 4 5 (byt b 0) μ (by decide) (byteOf_4 a b c d e μ) (by decide) (by omega)]
  rw [cnt_step a b c d e K _ _ 5 6 (byt b 1) μ (by decide) (byteOf_5 a b c d e μ) (by decide) (by omega)]
  rw [cnt_step a b c d e K _ _ 6 7 (byt b 2) μ (by decide) (byteOf_6 a b c d e μ) (by decide) (by omega)]
  rw [cnt_step a b c d e K _ _ 7 8 (byt b 3) μ (by decide) (byteOf_7 a b c d e μ) (by decide) (by omega)]
  rw [cnt_step a b c d e K _ _ 8 9 (byt c 0) μ (by decide) (byteOf_8 a b c d e μ) (by decide) (by omega)]
  rw [cnt_step a b c d e K _ _ 9 10 (byt c 1) μ (by decide) (byteOf_9 a b c d e μ) (by decide) (by omega)]
  rw [cnt_step a b c d e K _ _ 10 11 (byt c 2) μ (by decide) (byteOf_10 a b c d e μ) (by decide) (by omega)]
  rw [cnt_step a b c d e K _ _ 11 12 (byt c 3) μ (by decide) (byteOf_11 a b c d e μ) (by decide) (by omega)]
  rw [cnt_step a b c d e K _ _ 12 13 (byt d 0) μ (by decide) (byteOf_12 a b c d e μ) (by decide) (by omega)]
  rw [cnt_step a b c d e K _ _ 13 14 (byt d 1) μ (by decide) (byteOf_13 a b c d e μ) (by decide) (by omega)]
  rw [cnt_step a b c d e K _ _ 14 15 (byt d 2) μ (by decide) (byteOf_14 a b c d e μ) (by decide) (by omega)]
  rw [cnt_step a b c d e K _ _ 15 16 (byt d 3) μ (by decide) (byteOf_15 a b c d e μ) (by decide) (by omega)]
  rw [cnt_step a b c d e K _ _ 16 17 (byt e 0) μ (by decide) (byteOf_16 a b c d e μ) (by decide) (by omega)]
  rw [cnt_step a b c d e K _ _ 17 18 (byt e 1) μ (by decide) (byteOf_17 a b c d e μ) (by decide) (by omega)]
  rw [cnt_step a b c d e K _ _ 18 19 (byt e 2) μ (by decide) (byteOf_18 a b c d e μ) (by decide) (by omega)]
  rw [cnt_step a b c d e K _ _ 19 20 (byt e 3) μ (by decide) (byteOf_19 a b c d e μ) (by decide) (by omega)]
  show (if (20 : Int) ≤ 20 then _ else _) = _
  rw [if_pos (by decide), hs]
theorem put_all (a b c d e : Int) (μ : Mm) (n : Nat) (h0 : 0 ≤ μ 70 2) (h1 : μ 70 2 + nzc (LB a b c d e) ≤ 160) : X11_feed_L62 a b c d e (n + 21) 0 μ = some (μ 70 2 + nzc (LB a b c d e), (LB a b c d e).foldl (putB 70 2 71) μ) := by
  have g0 := bit_b (byt a 0)
  have g1 := bit_b (byt a 1)
  have g2 := bit_b (byt a 2)
  have g3 := bit_b (byt a 3)
  have g4 := bit_b (byt b 0)
  have g5 := bit_b (byt b 1)
  have g6 := bit_b (byt b 2)
  have g7 := bit_b (byt b 3)
  have g8 := bit_b (byt c 0)
  have g9 := bit_b (byt c 1)
  have g10 := bit_b (byt c 2)
  have g11 := bit_b (byt c 3)
  have g12 := bit_b (byt d 0)
  have g13 := bit_b (byt d 1)
  have g14 := bit_b (byt d 2)
  have g15 := bit_b (byt d 3)
  have g16 := bit_b (byt e 0)
  have g17 := bit_b (byt e 1)
  have g18 := bit_b (byt e 2)
  have g19 := bit_b (byt e 3)
  have hs : nzc (LB a b c d e) = 0 + (if byt a 0 = 0 then 0 else 1) + (if byt a 1 = 0 then 0 else 1) + (if byt a 2 = 0 then 0 else 1) + (if byt a 3 = 0 then 0 else 1) + (if byt b 0 = 0 then 0 else 1) + (if byt b 1 = 0 then 0 else 1) + (if byt b 2 = 0 then 0 else 1) + (if byt b 3 = 0 then 0 else 1) + (if byt c 0 = 0 then 0 else 1) + (if byt c 1 = 0 then 0 else 1) + (if byt c 2 = 0 then 0 else 1) + (if byt c 3 = 0 then 0 else 1) + (if byt d 0 = 0 then 0 else 1) + (if byt d 1 = 0 then 0 else 1) + (if byt d 2 = 0 then 0 else 1) + (if byt d 3 = 0 then 0 else 1) + (if byt e 0 = 0 then 0 else 1) + (if byt e 1 = 0 then 0 else 1) + (if byt e 2 = 0 then 0 else 1) + (if byt e 3 = 0 then 0 else 1) := by
    simp only [LB, four, nzc, List.cons_append, List.nil_append]
    omega
  have hfl := foldB_len 70 2 71 (by decide) (LB a b c d e) μ
  rw [put_step a b c d e _ 0 1 (byt a 0) _ (by decide) (byteOf_0 a b c d e) (by decide) h0 (by omega)]
  rw [put_step a b c d e _ 1 2 (byt a 1) _ (by decide) (byteOf_1 a b c d e) (by decide) (by simp only [putB_len]; omega) (by simp only [putB_len]; omega)]
  rw [put_step a b c d e _ 2 3 (byt a 2) _ (by decide) (byteOf_2 a b c d e) (by decide) (by simp only [putB_len]; omega) (by simp only [putB_len]; omega)]
  rw [put_step a b c d e _ 3 4 (byt a 3) _ (by decide) (byteOf_3 a b c d e) (by decide) (by simp only [putB_len]; omega) (by simp only [putB_len]; omega)]
  rw [put_step a b c d e _ 4 5 (byt b 0) _ (by decide) (byteOf_4 a b c d e) (by decide) (by simp only [putB_len]; omega) (by simp only [putB_len]; omega)]
  rw [put_step a b c d e _ 5 6 (byt b 1) _ (by decide) (byteOf_5 a b c d e) (by decide) (by simp only [putB_len]; omega) (by simp only [putB_len]; omega)]
  rw [put_step a b c d e _ 6 7 (byt b 2) _ (by decide) (byteOf_6 a b c d e) (by decide) (by simp only [putB_len]; omega) (by simp only [putB_len]; omega)]
  rw [put_step a b c d e _ 7 8 (byt b 3) _ (by decide) (byteOf_7 a b c d e) (by decide) (by simp only [putB_len]; omega) (by simp only [putB_len]; omega)]
  rw [put_step a b c d e _ 8 9 (byt c 0) _ (by decide) (byteOf_8 a b c d e) (by decide) (by simp only [putB_len]; omega) (by simp only [putB_len]; omega)]
  rw [put_step a b c d e _ 9 10 (byt c 1) _ (by decide) (byteOf_9 a b c d e) (by decide) (by simp only [putB_len]; omega) (by simp only [putB_len]; omega)]
  rw [put_step a b c d e _ 10 11 (byt c 2) _ (by decide) (byteOf_10 a b c d e) (by decide) (by simp only [putB_len]; omega) (by simp only [putB_len]; omega)]
  rw [put_step a b c d e _ 11 12 (byt c 3) _ (by decide) (byteOf_11 a b c d e) (by decide) (by simp only [putB_len]; omega) (by simp only [putB_len]; omega)]
  rw [put_step a b c d e _ 12 13 (byt d 0) _ (by decide) (byteOf_12 a b c d e) (by decide) (by simp only [putB_len]; omega) (by simp only [putB_len]; omega)]
  rw [put_step a b c d e _ 13 14 (byt d 1) _ (by decide) (byteOf_13 a b c d e) (by decide) (by simp only [putB_len]; omega) (by simp only [putB_len]; omega)]
  rw [put_step a b c d e _ 14 15 (byt d 2) _ (by decide) (byteOf_14 a b c d e) (by decide) (by simp only [putB_len]; omega) (by simp only [putB_len]; omega)]
  rw [put_step a b c d e _ 15 16 (byt d 3) _ (by decide) (byteOf_15 a b c d e) (by decide) (by simp only [putB_len]; omega) (by simp only [putB_len]; omega)]
  rw [put_step a b c d e _ 16 17 (byt e 0) _ (by decide) (byteOf_16 a b c d e) (by decide) (by simp only [putB_len]; omega) (by simp only [putB_len]; omega)]
  rw [put_step a b c d e _ 17 18 (byt e 1) _ (by decide) (byteOf_17 a b c d e) (by decide) (by simp only [putB_len]; omega) (by simp only [putB_len]; omega)]
  rw [put_step a b c d e _ 18 19 (byt e 2) _ (by decide) (byteOf_18 a b c d e) (by decide) (by simp only [putB_len]; omega) (by simp only [putB_len]; omega)]
  rw [put_step a b c d e _ 19 20 (byt e 3) _ (by decide) (byteOf_19 a b c d e) (by decide) (by simp only [putB_len]; omega) (by simp only [putB_len]; omega)]
  show (if (20 : Int) ≤ 20 then _ else _) = _
  rw [if_pos (by decide), ← hfl]
  rfl
theorem mfeed_eq (a b c d e : Int) (μ : Mm) (h0 : 0 ≤ μ 70 2) (h1 : μ 70 2 ≤ 160) : X11_feed a b c d e μ = (if μ 70 2 + nzc (LB a b c d e) ≤ 160 then some (μ 70 2 + nzc (LB a b c d e), (LB a b c d e).foldl (putB 70 2 71) μ) else some (-1, μ)) := by
  have hb := nzc_b (LB a b c d e)
  have hl : (LB a b c d e).length = 20 := rfl
  rw [hl] at hb
  refine (cnt_all a b c d e _ μ 999979).trans ?_
  rw [iA_id (by omega) (by omega)]
  by_cases h : μ 70 2 + nzc (LB a b c d e) ≤ 160
  · rw [if_pos h, if_pos h]
    exact put_all a b c d e μ 999979 h0 h
  · rw [if_neg h, if_neg h]
