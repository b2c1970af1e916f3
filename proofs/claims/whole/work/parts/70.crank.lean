/-! CRANK: the one call that may throw -/
theorem dX10_crank_0 : decode cX10_crank 0 = .ok (.aload_n 0, 1) := by decide +kernel
theorem dX10_crank_1 : decode cX10_crank 1 = .ok (.getfield 37, 3) := by decide +kernel
theorem dX10_crank_4 : decode cX10_crank 4 = .ok (.iload_n 1, 1) := by decide +kernel
theorem dX10_crank_5 : decode cX10_crank 5 = .ok (.invokevirtual 168, 3) := by decide +kernel
theorem dX10_crank_8 : decode cX10_crank 8 = .ok (.istore_n 2, 1) := by decide +kernel
theorem dX10_crank_9 : decode cX10_crank 9 = .ok (.iload_n 2, 1) := by decide +kernel
theorem dX10_crank_10 : decode cX10_crank 10 = .ok (.iconst (-1), 1) := by decide +kernel
theorem dX10_crank_11 : decode cX10_crank 11 = .ok (.if_icmp .ne 13, 3) := by decide +kernel
theorem dX10_crank_14 : decode cX10_crank 14 = .ok (.new 171, 3) := by decide +kernel
theorem dX10_crank_17 : decode cX10_crank 17 = .ok (.dup, 1) := by decide +kernel
theorem dX10_crank_18 : decode cX10_crank 18 = .ok (.ldc 173, 2) := by decide +kernel
theorem dX10_crank_20 : decode cX10_crank 20 = .ok (.invokespecial 175, 3) := by decide +kernel
theorem dX10_crank_23 : decode cX10_crank 23 = .ok (.athrow, 1) := by decide +kernel
theorem dX10_crank_24 : decode cX10_crank 24 = .ok (.iload_n 2, 1) := by decide +kernel
theorem dX10_crank_25 : decode cX10_crank 25 = .ok (.ireturn, 1) := by decide +kernel
theorem dL_crank_0 : decode cL_crank 0 = .ok (.aload_n 2, 1) := by decide +kernel
theorem dL_crank_1 : decode cL_crank 1 = .ok (.iconst 0, 1) := by decide +kernel
theorem dL_crank_2 : decode cL_crank 2 = .ok (.aload_n 0, 1) := by decide +kernel
theorem dL_crank_3 : decode cL_crank 3 = .ok (.iload_n 1, 1) := by decide +kernel
theorem dL_crank_4 : decode cL_crank 4 = .ok (.invokevirtual 7, 3) := by decide +kernel
theorem dL_crank_7 : decode cL_crank 7 = .ok (.i2l, 1) := by decide +kernel
theorem dL_crank_8 : decode cL_crank 8 = .ok (.lastore, 1) := by decide +kernel
theorem dL_crank_9 : decode cL_crank 9 = .ok (.goto 6, 3) := by decide +kernel
theorem dL_crank_12 : decode cL_crank 12 = .ok (.astore_n 3, 1) := by decide +kernel
theorem dL_crank_13 : decode cL_crank 13 = .ok (.iconst 1, 1) := by decide +kernel
theorem dL_crank_14 : decode cL_crank 14 = .ok (.ireturn, 1) := by decide +kernel
theorem dL_crank_15 : decode cL_crank 15 = .ok (.iconst 0, 1) := by decide +kernel
theorem dL_crank_16 : decode cL_crank 16 = .ok (.ireturn, 1) := by decide +kernel
abbrev mX10_crank : Mth := (yX10_crank, cX10_crank, 3, some .int)
abbrev nseN : String := "java/util/NoSuchElementException"
def tnZ (A : Nat → Prop) (U : State) (H : Heap) : Prop := vx_Zq Bundle.tN "UNASSIGNED_STACK" Bundle.steD A U H ∧ vx_Zq Bundle.tN "SUPPRESSED_SENTINEL" Bundle.listD A U H
def pX (dC : Nat → ClassId) (dI : Nat → Nat → Nat) (D : ClassId × ClassId × ClassId) (ad : Nat → Nat) (sz sa : Nat) (a : Int) (μ : Mm) : Array Value → State → Prop :=
  va_Pc [.ref (ad 0), .int (Int32.ofInt a)] (fun U => U.heap.size = sz ∧ hO dC dI D ad μ U.heap ∧ va_K (dC, dI) vwCl (tyS D) U ∧ nS U ∧ rI a ∧ vk_R RX10 173 "no such crank" sa U ∧ tnZ (aA ad sz) U U.heap)
def qX (dC : Nat → ClassId) (dI : Nat → Nat → Nat) (D : ClassId × ClassId × ClassId) (ad : Nat → Nat) (A : Nat → Prop) (w : Int) (μ1 : Mm) : Array Value → State → Outcome → State → Prop :=
  fun _ st oc t => (w ≠ -1 ∧ oc = .returned (some (.int (Int32.ofInt w))) ∧ hO dC dI D ad μ1 t.heap) ∧ va_F A st t
def xX (dC : Nat → ClassId) (dI : Nat → Nat → Nat) (D : ClassId × ClassId × ClassId) (ad : Nat → Nat) (A : Nat → Prop) (w : Int) (μ1 : Mm) : String → State → State → Prop :=
  fun E st t => E = nseN ∧ w = -1 ∧ hO dC dI D ad μ1 t.heap ∧ va_F A st t
theorem crank_at : ∀ w ∈ Cond.classLink RX10 171 nseN :: Cond.initialized nseN :: vx_atS RX10 175 nseN ["java/lang/RuntimeException", "java/lang/Exception"], vx_ot w = true := by decide +kernel
abbrev atL : List Cond := vx_atS RX10 175 nseN ["java/lang/RuntimeException", "java/lang/Exception"]
