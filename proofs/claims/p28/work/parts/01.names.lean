-- ===== PART A: goes FIRST, ahead of the names: the tables' words, and 'selects' of the private methods out of them =====
theorem tc1 {w : Cond} (h : w ∈ tables_1_1) : w ∈ tables_1 := (show w ∈ tables_1_1 ++ (tables_1_2 ++ (tables_1_3 ++ (tables_1_4 ++ (tables_1_5 ++ (tables_1_6 ++ tables_1_7))))) from (List.mem_append_left _ h))
theorem tc2 {w : Cond} (h : w ∈ tables_1_2) : w ∈ tables_1 := (show w ∈ tables_1_1 ++ (tables_1_2 ++ (tables_1_3 ++ (tables_1_4 ++ (tables_1_5 ++ (tables_1_6 ++ tables_1_7))))) from (List.mem_append_right _ (List.mem_append_left _ h)))
theorem tc3 {w : Cond} (h : w ∈ tables_1_3) : w ∈ tables_1 := (show w ∈ tables_1_1 ++ (tables_1_2 ++ (tables_1_3 ++ (tables_1_4 ++ (tables_1_5 ++ (tables_1_6 ++ tables_1_7))))) from (List.mem_append_right _ (List.mem_append_right _ (List.mem_append_left _ h))))
theorem tc4 {w : Cond} (h : w ∈ tables_1_4) : w ∈ tables_1 := (show w ∈ tables_1_1 ++ (tables_1_2 ++ (tables_1_3 ++ (tables_1_4 ++ (tables_1_5 ++ (tables_1_6 ++ tables_1_7))))) from (List.mem_append_right _ (List.mem_append_right _ (List.mem_append_right _ (List.mem_append_left _ h)))))
theorem tc5 {w : Cond} (h : w ∈ tables_1_5) : w ∈ tables_1 := (show w ∈ tables_1_1 ++ (tables_1_2 ++ (tables_1_3 ++ (tables_1_4 ++ (tables_1_5 ++ (tables_1_6 ++ tables_1_7))))) from (List.mem_append_right _ (List.mem_append_right _ (List.mem_append_right _ (List.mem_append_right _ (List.mem_append_left _ h))))))
theorem tc6 {w : Cond} (h : w ∈ tables_1_6) : w ∈ tables_1 := (show w ∈ tables_1_1 ++ (tables_1_2 ++ (tables_1_3 ++ (tables_1_4 ++ (tables_1_5 ++ (tables_1_6 ++ tables_1_7))))) from (List.mem_append_right _ (List.mem_append_right _ (List.mem_append_right _ (List.mem_append_right _ (List.mem_append_right _ (List.mem_append_left _ h)))))))
theorem tc7 {w : Cond} (h : w ∈ tables_1_7) : w ∈ tables_1 := (show w ∈ tables_1_1 ++ (tables_1_2 ++ (tables_1_3 ++ (tables_1_4 ++ (tables_1_5 ++ (tables_1_6 ++ tables_1_7))))) from (List.mem_append_right _ (List.mem_append_right _ (List.mem_append_right _ (List.mem_append_right _ (List.mem_append_right _ (List.mem_append_right _ h)))))))
/-- a private method of a class that the tables say can be made, by its rows of tables_1 -/
def lw_okq (q : MethodName × Nat) : Prop := (q.1.cls ≠ "java/lang/invoke/MethodHandle" ∧ q.1.cls ≠ "java/lang/invoke/VarHandle") ∧ Cond.instantiable q.1.cls q.2 ∈ tables_1 ∧ Cond.privateMethod q.1 ∈ tables_1 ∧ Cond.instanceMethod q.1 ∈ tables_1
set_option maxRecDepth 100000 in
theorem lw_p0 : lw_okq (⟨"UnderFloor", "faultOfTape", "(I)I"⟩, 18) := ⟨⟨by decide +kernel, by decide +kernel⟩, (tc1 (List.mem_of_getElem? (i := 21) rfl)), (tc2 (List.mem_of_getElem? (i := 169) rfl)), (tc2 (List.mem_of_getElem? (i := 170) rfl))⟩
set_option maxRecDepth 100000 in
theorem lw_p1 : lw_okq (⟨"UnderFloor$Cellar", "readRow", "(LUnderFloor$Reader;I)V"⟩, 9) := ⟨⟨by decide +kernel, by decide +kernel⟩, (tc1 (List.mem_of_getElem? (i := 93) rfl)), (tc2 (List.mem_of_getElem? (i := 181) rfl)), (tc2 (List.mem_of_getElem? (i := 182) rfl))⟩
set_option maxRecDepth 100000 in
theorem lw_p2 : lw_okq (⟨"UnderFloor$Cellar", "put", "(LUnderFloor$Reader;II)V"⟩, 9) := ⟨⟨by decide +kernel, by decide +kernel⟩, (tc1 (List.mem_of_getElem? (i := 93) rfl)), (tc2 (List.mem_of_getElem? (i := 192) rfl)), (tc2 (List.mem_of_getElem? (i := 193) rfl))⟩
set_option maxRecDepth 100000 in
theorem lw_p3 : lw_okq (⟨"UnderFloor$Play", "readCue", "(LUnderFloor$Reader;I)V"⟩, 3) := ⟨⟨by decide +kernel, by decide +kernel⟩, (tc1 (List.mem_of_getElem? (i := 139) rfl)), (tc2 (List.mem_of_getElem? (i := 222) rfl)), (tc2 (List.mem_of_getElem? (i := 223) rfl))⟩
set_option maxRecDepth 100000 in
theorem lw_p4 : lw_okq (⟨"UnderFloor$Law", "worth", "()I"⟩, 6) := ⟨⟨by decide +kernel, by decide +kernel⟩, (tc1 (List.mem_of_getElem? (i := 68) rfl)), (tc3 (List.mem_of_getElem? (i := 2) rfl)), (tc3 (List.mem_of_getElem? (i := 3) rfl))⟩
set_option maxRecDepth 100000 in
theorem lw_p5 : lw_okq (⟨"UnderFloor$Law", "startsCondition", "()Z"⟩, 6) := ⟨⟨by decide +kernel, by decide +kernel⟩, (tc1 (List.mem_of_getElem? (i := 68) rfl)), (tc3 (List.mem_of_getElem? (i := 10) rfl)), (tc3 (List.mem_of_getElem? (i := 11) rfl))⟩
set_option maxRecDepth 100000 in
theorem lw_p6 : lw_okq (⟨"UnderFloor$Law", "sum", "(I)I"⟩, 6) := ⟨⟨by decide +kernel, by decide +kernel⟩, (tc1 (List.mem_of_getElem? (i := 68) rfl)), (tc3 (List.mem_of_getElem? (i := 15) rfl)), (tc3 (List.mem_of_getElem? (i := 16) rfl))⟩
set_option maxRecDepth 100000 in
theorem lw_p7 : lw_okq (⟨"UnderFloor$Law", "term", "(I)I"⟩, 6) := ⟨⟨by decide +kernel, by decide +kernel⟩, (tc1 (List.mem_of_getElem? (i := 68) rfl)), (tc3 (List.mem_of_getElem? (i := 19) rfl)), (tc3 (List.mem_of_getElem? (i := 20) rfl))⟩
set_option maxRecDepth 100000 in
theorem lw_p8 : lw_okq (⟨"UnderFloor$Law", "atom", "(I)I"⟩, 6) := ⟨⟨by decide +kernel, by decide +kernel⟩, (tc1 (List.mem_of_getElem? (i := 68) rfl)), (tc3 (List.mem_of_getElem? (i := 23) rfl)), (tc3 (List.mem_of_getElem? (i := 24) rfl))⟩
set_option maxRecDepth 100000 in
theorem lw_p9 : lw_okq (⟨"UnderFloor$Law", "letter", "(I)I"⟩, 6) := ⟨⟨by decide +kernel, by decide +kernel⟩, (tc1 (List.mem_of_getElem? (i := 68) rfl)), (tc3 (List.mem_of_getElem? (i := 30) rfl)), (tc3 (List.mem_of_getElem? (i := 31) rfl))⟩
set_option maxRecDepth 100000 in
theorem lw_p10 : lw_okq (⟨"UnderFloor$Law", "condition", "(I)Z"⟩, 6) := ⟨⟨by decide +kernel, by decide +kernel⟩, (tc1 (List.mem_of_getElem? (i := 68) rfl)), (tc3 (List.mem_of_getElem? (i := 50) rfl)), (tc3 (List.mem_of_getElem? (i := 51) rfl))⟩
set_option maxRecDepth 100000 in
theorem lw_p11 : lw_okq (⟨"UnderFloor$Law", "truth", "(I)Z"⟩, 6) := ⟨⟨by decide +kernel, by decide +kernel⟩, (tc1 (List.mem_of_getElem? (i := 68) rfl)), (tc3 (List.mem_of_getElem? (i := 54) rfl)), (tc3 (List.mem_of_getElem? (i := 55) rfl))⟩
set_option maxRecDepth 100000 in
theorem lw_p12 : lw_okq (⟨"UnderFloor$Law", "unit", "(I)Z"⟩, 6) := ⟨⟨by decide +kernel, by decide +kernel⟩, (tc1 (List.mem_of_getElem? (i := 68) rfl)), (tc3 (List.mem_of_getElem? (i := 58) rfl)), (tc3 (List.mem_of_getElem? (i := 59) rfl))⟩
set_option maxRecDepth 100000 in
theorem lw_p13 : lw_okq (⟨"UnderFloor$Law", "comparison", "(I)Z"⟩, 6) := ⟨⟨by decide +kernel, by decide +kernel⟩, (tc1 (List.mem_of_getElem? (i := 68) rfl)), (tc3 (List.mem_of_getElem? (i := 62) rfl)), (tc3 (List.mem_of_getElem? (i := 63) rfl))⟩
set_option maxRecDepth 100000 in
theorem lw_p14 : lw_okq (⟨"UnderFloor$Law", "denied", "(I)Z"⟩, 6) := ⟨⟨by decide +kernel, by decide +kernel⟩, (tc1 (List.mem_of_getElem? (i := 68) rfl)), (tc3 (List.mem_of_getElem? (i := 66) rfl)), (tc3 (List.mem_of_getElem? (i := 67) rfl))⟩
set_option maxRecDepth 100000 in
theorem lw_p15 : lw_okq (⟨"UnderFloor$Law", "enclosed", "(I)Z"⟩, 6) := ⟨⟨by decide +kernel, by decide +kernel⟩, (tc1 (List.mem_of_getElem? (i := 68) rfl)), (tc3 (List.mem_of_getElem? (i := 70) rfl)), (tc3 (List.mem_of_getElem? (i := 71) rfl))⟩
def lw_privs_1 : List (MethodName × Nat) := [(⟨"UnderFloor", "faultOfTape", "(I)I"⟩, 18), (⟨"UnderFloor$Cellar", "readRow", "(LUnderFloor$Reader;I)V"⟩, 9), (⟨"UnderFloor$Cellar", "put", "(LUnderFloor$Reader;II)V"⟩, 9), (⟨"UnderFloor$Play", "readCue", "(LUnderFloor$Reader;I)V"⟩, 3), (⟨"UnderFloor$Law", "worth", "()I"⟩, 6), (⟨"UnderFloor$Law", "startsCondition", "()Z"⟩, 6), (⟨"UnderFloor$Law", "sum", "(I)I"⟩, 6), (⟨"UnderFloor$Law", "term", "(I)I"⟩, 6), (⟨"UnderFloor$Law", "atom", "(I)I"⟩, 6), (⟨"UnderFloor$Law", "letter", "(I)I"⟩, 6), (⟨"UnderFloor$Law", "condition", "(I)Z"⟩, 6), (⟨"UnderFloor$Law", "truth", "(I)Z"⟩, 6), (⟨"UnderFloor$Law", "unit", "(I)Z"⟩, 6), (⟨"UnderFloor$Law", "comparison", "(I)Z"⟩, 6), (⟨"UnderFloor$Law", "denied", "(I)Z"⟩, 6), (⟨"UnderFloor$Law", "enclosed", "(I)Z"⟩, 6)]
theorem lw_r1 : ∀ q ∈ lw_privs_1, lw_okq q := List.forall_mem_cons.mpr ⟨lw_p0, List.forall_mem_cons.mpr ⟨lw_p1, List.forall_mem_cons.mpr ⟨lw_p2, List.forall_mem_cons.mpr ⟨lw_p3, List.forall_mem_cons.mpr ⟨lw_p4, List.forall_mem_cons.mpr ⟨lw_p5, List.forall_mem_cons.mpr ⟨lw_p6, List.forall_mem_cons.mpr ⟨lw_p7, List.forall_mem_cons.mpr ⟨lw_p8, List.forall_mem_cons.mpr ⟨lw_p9, List.forall_mem_cons.mpr ⟨lw_p10, List.forall_mem_cons.mpr ⟨lw_p11, List.forall_mem_cons.mpr ⟨lw_p12, List.forall_mem_cons.mpr ⟨lw_p13, List.forall_mem_cons.mpr ⟨lw_p14, List.forall_mem_cons.mpr ⟨lw_p15, fun _ h => absurd h List.not_mem_nil⟩⟩⟩⟩⟩⟩⟩⟩⟩⟩⟩⟩⟩⟩⟩⟩
set_option maxRecDepth 100000 in
theorem lw_p16 : lw_okq (⟨"UnderFloor", "takeCellar", "()I"⟩, 18) := ⟨⟨by decide +kernel, by decide +kernel⟩, (tc1 (List.mem_of_getElem? (i := 21) rfl)), (tc3 (List.mem_of_getElem? (i := 79) rfl)), (tc3 (List.mem_of_getElem? (i := 80) rfl))⟩
set_option maxRecDepth 100000 in
theorem lw_p17 : lw_okq (⟨"UnderFloor", "takePlay", "()I"⟩, 18) := ⟨⟨by decide +kernel, by decide +kernel⟩, (tc1 (List.mem_of_getElem? (i := 21) rfl)), (tc3 (List.mem_of_getElem? (i := 84) rfl)), (tc3 (List.mem_of_getElem? (i := 85) rfl))⟩
set_option maxRecDepth 100000 in
theorem lw_p18 : lw_okq (⟨"UnderFloor", "takeLaw", "()I"⟩, 18) := ⟨⟨by decide +kernel, by decide +kernel⟩, (tc1 (List.mem_of_getElem? (i := 21) rfl)), (tc3 (List.mem_of_getElem? (i := 88) rfl)), (tc3 (List.mem_of_getElem? (i := 89) rfl))⟩
set_option maxRecDepth 100000 in
theorem lw_p19 : lw_okq (⟨"UnderFloor$Ways", "reach", "(LUnderFloor$Cellar;II)V"⟩, 3) := ⟨⟨by decide +kernel, by decide +kernel⟩, (tc1 (List.mem_of_getElem? (i := 164) rfl)), (tc3 (List.mem_of_getElem? (i := 115) rfl)), (tc3 (List.mem_of_getElem? (i := 116) rfl))⟩
set_option maxRecDepth 100000 in
theorem lw_p20 : lw_okq (⟨"UnderFloor", "isPlay", "(I)Z"⟩, 18) := ⟨⟨by decide +kernel, by decide +kernel⟩, (tc1 (List.mem_of_getElem? (i := 21) rfl)), (tc3 (List.mem_of_getElem? (i := 202) rfl)), (tc3 (List.mem_of_getElem? (i := 203) rfl))⟩
set_option maxRecDepth 100000 in
theorem lw_p21 : lw_okq (⟨"UnderFloor", "lawThatHolds", "()LUnderFloor$Text;"⟩, 18) := ⟨⟨by decide +kernel, by decide +kernel⟩, (tc1 (List.mem_of_getElem? (i := 21) rfl)), (tc3 (List.mem_of_getElem? (i := 206) rfl)), (tc3 (List.mem_of_getElem? (i := 207) rfl))⟩
set_option maxRecDepth 100000 in
theorem lw_p22 : lw_okq (⟨"UnderFloor", "runs", "(II)Z"⟩, 18) := ⟨⟨by decide +kernel, by decide +kernel⟩, (tc1 (List.mem_of_getElem? (i := 21) rfl)), (tc3 (List.mem_of_getElem? (i := 225) rfl)), (tc3 (List.mem_of_getElem? (i := 226) rfl))⟩
set_option maxRecDepth 100000 in
theorem lw_p23 : lw_okq (⟨"UnderFloor", "lay", "(I)Z"⟩, 18) := ⟨⟨by decide +kernel, by decide +kernel⟩, (tc1 (List.mem_of_getElem? (i := 21) rfl)), (tc3 (List.mem_of_getElem? (i := 229) rfl)), (tc3 (List.mem_of_getElem? (i := 230) rfl))⟩
set_option maxRecDepth 100000 in
theorem lw_p24 : lw_okq (⟨"UnderFloor$Job", "measure", "(LUnderFloor$Cellar;II)V"⟩, 7) := ⟨⟨by decide +kernel, by decide +kernel⟩, (tc1 (List.mem_of_getElem? (i := 180) rfl)), (tc4 (List.mem_of_getElem? (i := 1) rfl)), (tc4 (List.mem_of_getElem? (i := 2) rfl))⟩
set_option maxRecDepth 100000 in
theorem lw_p25 : lw_okq (⟨"UnderFloor$Run", "addLate", "(I)V"⟩, 10) := ⟨⟨by decide +kernel, by decide +kernel⟩, (tc1 (List.mem_of_getElem? (i := 218) rfl)), (tc4 (List.mem_of_getElem? (i := 35) rfl)), (tc4 (List.mem_of_getElem? (i := 36) rfl))⟩
set_option maxRecDepth 100000 in
theorem lw_p26 : lw_okq (⟨"UnderFloor", "told", "(III)I"⟩, 18) := ⟨⟨by decide +kernel, by decide +kernel⟩, (tc1 (List.mem_of_getElem? (i := 21) rfl)), (tc4 (List.mem_of_getElem? (i := 63) rfl)), (tc4 (List.mem_of_getElem? (i := 64) rfl))⟩
set_option maxRecDepth 100000 in
theorem lw_p27 : lw_okq (⟨"UnderFloor$Search", "forget", "()V"⟩, 9) := ⟨⟨by decide +kernel, by decide +kernel⟩, (tc2 (List.mem_of_getElem? (i := 23) rfl)), (tc4 (List.mem_of_getElem? (i := 76) rfl)), (tc4 (List.mem_of_getElem? (i := 77) rfl))⟩
set_option maxRecDepth 100000 in
theorem lw_p28 : lw_okq (⟨"UnderFloor$Search", "visit", "(IIIIII)V"⟩, 9) := ⟨⟨by decide +kernel, by decide +kernel⟩, (tc2 (List.mem_of_getElem? (i := 23) rfl)), (tc4 (List.mem_of_getElem? (i := 84) rfl)), (tc4 (List.mem_of_getElem? (i := 85) rfl))⟩
set_option maxRecDepth 100000 in
theorem lw_p29 : lw_okq (⟨"UnderFloor$Search", "follow", "(IIIIII)V"⟩, 9) := ⟨⟨by decide +kernel, by decide +kernel⟩, (tc2 (List.mem_of_getElem? (i := 23) rfl)), (tc4 (List.mem_of_getElem? (i := 89) rfl)), (tc4 (List.mem_of_getElem? (i := 90) rfl))⟩
set_option maxRecDepth 100000 in
theorem lw_p30 : lw_okq (⟨"UnderFloor$Search", "withLate", "(II)I"⟩, 9) := ⟨⟨by decide +kernel, by decide +kernel⟩, (tc2 (List.mem_of_getElem? (i := 23) rfl)), (tc4 (List.mem_of_getElem? (i := 94) rfl)), (tc4 (List.mem_of_getElem? (i := 95) rfl))⟩
set_option maxRecDepth 100000 in
theorem lw_p31 : lw_okq (⟨"UnderFloor$Search", "isNew", "(IIII)Z"⟩, 9) := ⟨⟨by decide +kernel, by decide +kernel⟩, (tc2 (List.mem_of_getElem? (i := 23) rfl)), (tc4 (List.mem_of_getElem? (i := 99) rfl)), (tc4 (List.mem_of_getElem? (i := 100) rfl))⟩
def lw_privs_2 : List (MethodName × Nat) := [(⟨"UnderFloor", "takeCellar", "()I"⟩, 18), (⟨"UnderFloor", "takePlay", "()I"⟩, 18), (⟨"UnderFloor", "takeLaw", "()I"⟩, 18), (⟨"UnderFloor$Ways", "reach", "(LUnderFloor$Cellar;II)V"⟩, 3), (⟨"UnderFloor", "isPlay", "(I)Z"⟩, 18), (⟨"UnderFloor", "lawThatHolds", "()LUnderFloor$Text;"⟩, 18), (⟨"UnderFloor", "runs", "(II)Z"⟩, 18), (⟨"UnderFloor", "lay", "(I)Z"⟩, 18), (⟨"UnderFloor$Job", "measure", "(LUnderFloor$Cellar;II)V"⟩, 7), (⟨"UnderFloor$Run", "addLate", "(I)V"⟩, 10), (⟨"UnderFloor", "told", "(III)I"⟩, 18), (⟨"UnderFloor$Search", "forget", "()V"⟩, 9), (⟨"UnderFloor$Search", "visit", "(IIIIII)V"⟩, 9), (⟨"UnderFloor$Search", "follow", "(IIIIII)V"⟩, 9), (⟨"UnderFloor$Search", "withLate", "(II)I"⟩, 9), (⟨"UnderFloor$Search", "isNew", "(IIII)Z"⟩, 9)]
theorem lw_r2 : ∀ q ∈ lw_privs_2, lw_okq q := List.forall_mem_cons.mpr ⟨lw_p16, List.forall_mem_cons.mpr ⟨lw_p17, List.forall_mem_cons.mpr ⟨lw_p18, List.forall_mem_cons.mpr ⟨lw_p19, List.forall_mem_cons.mpr ⟨lw_p20, List.forall_mem_cons.mpr ⟨lw_p21, List.forall_mem_cons.mpr ⟨lw_p22, List.forall_mem_cons.mpr ⟨lw_p23, List.forall_mem_cons.mpr ⟨lw_p24, List.forall_mem_cons.mpr ⟨lw_p25, List.forall_mem_cons.mpr ⟨lw_p26, List.forall_mem_cons.mpr ⟨lw_p27, List.forall_mem_cons.mpr ⟨lw_p28, List.forall_mem_cons.mpr ⟨lw_p29, List.forall_mem_cons.mpr ⟨lw_p30, List.forall_mem_cons.mpr ⟨lw_p31, fun _ h => absurd h List.not_mem_nil⟩⟩⟩⟩⟩⟩⟩⟩⟩⟩⟩⟩⟩⟩⟩⟩
set_option maxRecDepth 100000 in
theorem lw_p32 : lw_okq (⟨"UnderFloor", "isMet", "(I)Z"⟩, 18) := ⟨⟨by decide +kernel, by decide +kernel⟩, (tc1 (List.mem_of_getElem? (i := 21) rfl)), (tc4 (List.mem_of_getElem? (i := 112) rfl)), (tc4 (List.mem_of_getElem? (i := 113) rfl))⟩
set_option maxRecDepth 100000 in
theorem lw_p33 : lw_okq (⟨"UnderFloor", "latesByBook", "(I)I"⟩, 18) := ⟨⟨by decide +kernel, by decide +kernel⟩, (tc1 (List.mem_of_getElem? (i := 21) rfl)), (tc4 (List.mem_of_getElem? (i := 116) rfl)), (tc4 (List.mem_of_getElem? (i := 117) rfl))⟩
set_option maxRecDepth 100000 in
theorem lw_p34 : lw_okq (⟨"UnderFloor", "ageOfJob", "()I"⟩, 18) := ⟨⟨by decide +kernel, by decide +kernel⟩, (tc1 (List.mem_of_getElem? (i := 21) rfl)), (tc4 (List.mem_of_getElem? (i := 138) rfl)), (tc4 (List.mem_of_getElem? (i := 139) rfl))⟩
set_option maxRecDepth 100000 in
theorem lw_p35 : lw_okq (⟨"UnderFloor", "leastInTrial", "(I)I"⟩, 18) := ⟨⟨by decide +kernel, by decide +kernel⟩, (tc1 (List.mem_of_getElem? (i := 21) rfl)), (tc4 (List.mem_of_getElem? (i := 150) rfl)), (tc4 (List.mem_of_getElem? (i := 151) rfl))⟩
set_option maxRecDepth 100000 in
theorem lw_p36 : lw_okq (⟨"UnderFloor", "leastLates", "()I"⟩, 18) := ⟨⟨by decide +kernel, by decide +kernel⟩, (tc1 (List.mem_of_getElem? (i := 21) rfl)), (tc4 (List.mem_of_getElem? (i := 154) rfl)), (tc4 (List.mem_of_getElem? (i := 155) rfl))⟩
set_option maxRecDepth 100000 in
theorem lw_p37 : lw_okq (⟨"UnderFloor", "leastTogether", "(II)I"⟩, 18) := ⟨⟨by decide +kernel, by decide +kernel⟩, (tc1 (List.mem_of_getElem? (i := 21) rfl)), (tc4 (List.mem_of_getElem? (i := 172) rfl)), (tc4 (List.mem_of_getElem? (i := 173) rfl))⟩
set_option maxRecDepth 100000 in
theorem lw_p38 : lw_okq (⟨"UnderFloor$Thuds", "visit", "(IIIIII)V"⟩, 7) := ⟨⟨by decide +kernel, by decide +kernel⟩, (tc2 (List.mem_of_getElem? (i := 59) rfl)), (tc4 (List.mem_of_getElem? (i := 217) rfl)), (tc4 (List.mem_of_getElem? (i := 218) rfl))⟩
set_option maxRecDepth 100000 in
theorem lw_p39 : lw_okq (⟨"UnderFloor$Thuds", "passesOver", "(I)Z"⟩, 7) := ⟨⟨by decide +kernel, by decide +kernel⟩, (tc2 (List.mem_of_getElem? (i := 59) rfl)), (tc4 (List.mem_of_getElem? (i := 221) rfl)), (tc4 (List.mem_of_getElem? (i := 222) rfl))⟩
set_option maxRecDepth 100000 in
theorem lw_p40 : lw_okq (⟨"UnderFloor$Thuds", "follow", "(IIIIII)V"⟩, 7) := ⟨⟨by decide +kernel, by decide +kernel⟩, (tc2 (List.mem_of_getElem? (i := 59) rfl)), (tc4 (List.mem_of_getElem? (i := 226) rfl)), (tc4 (List.mem_of_getElem? (i := 227) rfl))⟩
set_option maxRecDepth 100000 in
theorem lw_p41 : lw_okq (⟨"UnderFloor$Thuds", "heardAt", "(III)I"⟩, 7) := ⟨⟨by decide +kernel, by decide +kernel⟩, (tc2 (List.mem_of_getElem? (i := 59) rfl)), (tc4 (List.mem_of_getElem? (i := 231) rfl)), (tc4 (List.mem_of_getElem? (i := 232) rfl))⟩
set_option maxRecDepth 100000 in
theorem lw_p42 : lw_okq (⟨"UnderFloor$Thuds", "isMissed", "(II)Z"⟩, 7) := ⟨⟨by decide +kernel, by decide +kernel⟩, (tc2 (List.mem_of_getElem? (i := 59) rfl)), (tc4 (List.mem_of_getElem? (i := 235) rfl)), (tc4 (List.mem_of_getElem? (i := 236) rfl))⟩
set_option maxRecDepth 100000 in
theorem lw_p43 : lw_okq (⟨"UnderFloor$Search", "weigh", "(LUnderFloor$Job;[I)V"⟩, 9) := ⟨⟨by decide +kernel, by decide +kernel⟩, (tc2 (List.mem_of_getElem? (i := 23) rfl)), (tc5 (List.mem_of_getElem? (i := 16) rfl)), (tc5 (List.mem_of_getElem? (i := 17) rfl))⟩
set_option maxRecDepth 100000 in
theorem lw_p44 : lw_okq (⟨"UnderFloor$Search", "gather", "(IIIII[I)V"⟩, 9) := ⟨⟨by decide +kernel, by decide +kernel⟩, (tc2 (List.mem_of_getElem? (i := 23) rfl)), (tc5 (List.mem_of_getElem? (i := 20) rfl)), (tc5 (List.mem_of_getElem? (i := 21) rfl))⟩
set_option maxRecDepth 100000 in
theorem lw_p45 : lw_okq (⟨"UnderFloor$Search", "gatherBehind", "(IIIII[I)V"⟩, 9) := ⟨⟨by decide +kernel, by decide +kernel⟩, (tc2 (List.mem_of_getElem? (i := 23) rfl)), (tc5 (List.mem_of_getElem? (i := 25) rfl)), (tc5 (List.mem_of_getElem? (i := 26) rfl))⟩
set_option maxRecDepth 100000 in
theorem lw_p46 : lw_okq (⟨"java/lang/Throwable", "fillInStackTrace", "(I)Ljava/lang/Throwable;"⟩, 6) := ⟨⟨by decide +kernel, by decide +kernel⟩, (tc5 (List.mem_of_getElem? (i := 73) rfl)), (tc5 (List.mem_of_getElem? (i := 71) rfl)), (tc5 (List.mem_of_getElem? (i := 72) rfl))⟩
set_option maxRecDepth 100000 in
theorem lw_p47 : lw_okq (⟨"UnderFloorModel", "readCellar", "()I"⟩, 54) := ⟨⟨by decide +kernel, by decide +kernel⟩, (tc5 (List.mem_of_getElem? (i := 103) rfl)), (tc6 (List.mem_of_getElem? (i := 47) rfl)), (tc6 (List.mem_of_getElem? (i := 48) rfl))⟩
def lw_privs_3 : List (MethodName × Nat) := [(⟨"UnderFloor", "isMet", "(I)Z"⟩, 18), (⟨"UnderFloor", "latesByBook", "(I)I"⟩, 18), (⟨"UnderFloor", "ageOfJob", "()I"⟩, 18), (⟨"UnderFloor", "leastInTrial", "(I)I"⟩, 18), (⟨"UnderFloor", "leastLates", "()I"⟩, 18), (⟨"UnderFloor", "leastTogether", "(II)I"⟩, 18), (⟨"UnderFloor$Thuds", "visit", "(IIIIII)V"⟩, 7), (⟨"UnderFloor$Thuds", "passesOver", "(I)Z"⟩, 7), (⟨"UnderFloor$Thuds", "follow", "(IIIIII)V"⟩, 7), (⟨"UnderFloor$Thuds", "heardAt", "(III)I"⟩, 7), (⟨"UnderFloor$Thuds", "isMissed", "(II)Z"⟩, 7), (⟨"UnderFloor$Search", "weigh", "(LUnderFloor$Job;[I)V"⟩, 9), (⟨"UnderFloor$Search", "gather", "(IIIII[I)V"⟩, 9), (⟨"UnderFloor$Search", "gatherBehind", "(IIIII[I)V"⟩, 9), (⟨"java/lang/Throwable", "fillInStackTrace", "(I)Ljava/lang/Throwable;"⟩, 6), (⟨"UnderFloorModel", "readCellar", "()I"⟩, 54)]
theorem lw_r3 : ∀ q ∈ lw_privs_3, lw_okq q := List.forall_mem_cons.mpr ⟨lw_p32, List.forall_mem_cons.mpr ⟨lw_p33, List.forall_mem_cons.mpr ⟨lw_p34, List.forall_mem_cons.mpr ⟨lw_p35, List.forall_mem_cons.mpr ⟨lw_p36, List.forall_mem_cons.mpr ⟨lw_p37, List.forall_mem_cons.mpr ⟨lw_p38, List.forall_mem_cons.mpr ⟨lw_p39, List.forall_mem_cons.mpr ⟨lw_p40, List.forall_mem_cons.mpr ⟨lw_p41, List.forall_mem_cons.mpr ⟨lw_p42, List.forall_mem_cons.mpr ⟨lw_p43, List.forall_mem_cons.mpr ⟨lw_p44, List.forall_mem_cons.mpr ⟨lw_p45, List.forall_mem_cons.mpr ⟨lw_p46, List.forall_mem_cons.mpr ⟨lw_p47, fun _ h => absurd h List.not_mem_nil⟩⟩⟩⟩⟩⟩⟩⟩⟩⟩⟩⟩⟩⟩⟩⟩
set_option maxRecDepth 100000 in
theorem lw_p48 : lw_okq (⟨"UnderFloorModel", "rowText", "()V"⟩, 54) := ⟨⟨by decide +kernel, by decide +kernel⟩, (tc5 (List.mem_of_getElem? (i := 103) rfl)), (tc6 (List.mem_of_getElem? (i := 51) rfl)), (tc6 (List.mem_of_getElem? (i := 52) rfl))⟩
set_option maxRecDepth 100000 in
theorem lw_p49 : lw_okq (⟨"UnderFloorModel", "look", "()I"⟩, 54) := ⟨⟨by decide +kernel, by decide +kernel⟩, (tc5 (List.mem_of_getElem? (i := 103) rfl)), (tc6 (List.mem_of_getElem? (i := 55) rfl)), (tc6 (List.mem_of_getElem? (i := 56) rfl))⟩
set_option maxRecDepth 100000 in
theorem lw_p50 : lw_okq (⟨"UnderFloorModel", "here", "()I"⟩, 54) := ⟨⟨by decide +kernel, by decide +kernel⟩, (tc5 (List.mem_of_getElem? (i := 103) rfl)), (tc6 (List.mem_of_getElem? (i := 59) rfl)), (tc6 (List.mem_of_getElem? (i := 60) rfl))⟩
set_option maxRecDepth 100000 in
theorem lw_p51 : lw_okq (⟨"UnderFloorModel", "bad", "()V"⟩, 54) := ⟨⟨by decide +kernel, by decide +kernel⟩, (tc5 (List.mem_of_getElem? (i := 103) rfl)), (tc6 (List.mem_of_getElem? (i := 72) rfl)), (tc6 (List.mem_of_getElem? (i := 73) rfl))⟩
set_option maxRecDepth 100000 in
theorem lw_p52 : lw_okq (⟨"UnderFloorModel", "readPlay", "(I)I"⟩, 54) := ⟨⟨by decide +kernel, by decide +kernel⟩, (tc5 (List.mem_of_getElem? (i := 103) rfl)), (tc6 (List.mem_of_getElem? (i := 76) rfl)), (tc6 (List.mem_of_getElem? (i := 77) rfl))⟩
set_option maxRecDepth 100000 in
theorem lw_p53 : lw_okq (⟨"UnderFloorModel", "cueText", "(I)V"⟩, 54) := ⟨⟨by decide +kernel, by decide +kernel⟩, (tc5 (List.mem_of_getElem? (i := 103) rfl)), (tc6 (List.mem_of_getElem? (i := 80) rfl)), (tc6 (List.mem_of_getElem? (i := 81) rfl))⟩
set_option maxRecDepth 100000 in
theorem lw_p54 : lw_okq (⟨"UnderFloorModel", "atEnd", "()I"⟩, 54) := ⟨⟨by decide +kernel, by decide +kernel⟩, (tc5 (List.mem_of_getElem? (i := 103) rfl)), (tc6 (List.mem_of_getElem? (i := 87) rfl)), (tc6 (List.mem_of_getElem? (i := 88) rfl))⟩
set_option maxRecDepth 100000 in
theorem lw_p55 : lw_okq (⟨"UnderFloorModel", "readLaw", "(I)I"⟩, 54) := ⟨⟨by decide +kernel, by decide +kernel⟩, (tc5 (List.mem_of_getElem? (i := 103) rfl)), (tc6 (List.mem_of_getElem? (i := 91) rfl)), (tc6 (List.mem_of_getElem? (i := 92) rfl))⟩
set_option maxRecDepth 100000 in
theorem lw_p56 : lw_okq (⟨"UnderFloorModel", "open", "(I)V"⟩, 54) := ⟨⟨by decide +kernel, by decide +kernel⟩, (tc5 (List.mem_of_getElem? (i := 103) rfl)), (tc6 (List.mem_of_getElem? (i := 95) rfl)), (tc6 (List.mem_of_getElem? (i := 96) rfl))⟩
set_option maxRecDepth 100000 in
theorem lw_p57 : lw_okq (⟨"UnderFloorModel", "clause", "()V"⟩, 54) := ⟨⟨by decide +kernel, by decide +kernel⟩, (tc5 (List.mem_of_getElem? (i := 103) rfl)), (tc6 (List.mem_of_getElem? (i := 99) rfl)), (tc6 (List.mem_of_getElem? (i := 100) rfl))⟩
set_option maxRecDepth 100000 in
theorem lw_p58 : lw_okq (⟨"UnderFloorModel", "condition", "()V"⟩, 54) := ⟨⟨by decide +kernel, by decide +kernel⟩, (tc5 (List.mem_of_getElem? (i := 103) rfl)), (tc6 (List.mem_of_getElem? (i := 103) rfl)), (tc6 (List.mem_of_getElem? (i := 104) rfl))⟩
set_option maxRecDepth 100000 in
theorem lw_p59 : lw_okq (⟨"UnderFloorModel", "unit", "()V"⟩, 54) := ⟨⟨by decide +kernel, by decide +kernel⟩, (tc5 (List.mem_of_getElem? (i := 103) rfl)), (tc6 (List.mem_of_getElem? (i := 107) rfl)), (tc6 (List.mem_of_getElem? (i := 108) rfl))⟩
set_option maxRecDepth 100000 in
theorem lw_p60 : lw_okq (⟨"UnderFloorModel", "opens", "()V"⟩, 54) := ⟨⟨by decide +kernel, by decide +kernel⟩, (tc5 (List.mem_of_getElem? (i := 103) rfl)), (tc6 (List.mem_of_getElem? (i := 111) rfl)), (tc6 (List.mem_of_getElem? (i := 112) rfl))⟩
set_option maxRecDepth 100000 in
theorem lw_p61 : lw_okq (⟨"UnderFloorModel", "put", "(II)V"⟩, 54) := ⟨⟨by decide +kernel, by decide +kernel⟩, (tc5 (List.mem_of_getElem? (i := 103) rfl)), (tc6 (List.mem_of_getElem? (i := 115) rfl)), (tc6 (List.mem_of_getElem? (i := 116) rfl))⟩
set_option maxRecDepth 100000 in
theorem lw_p62 : lw_okq (⟨"UnderFloorModel", "closes", "(I)V"⟩, 54) := ⟨⟨by decide +kernel, by decide +kernel⟩, (tc5 (List.mem_of_getElem? (i := 103) rfl)), (tc6 (List.mem_of_getElem? (i := 119) rfl)), (tc6 (List.mem_of_getElem? (i := 120) rfl))⟩
set_option maxRecDepth 100000 in
theorem lw_p63 : lw_okq (⟨"UnderFloorModel", "sum", "()V"⟩, 54) := ⟨⟨by decide +kernel, by decide +kernel⟩, (tc5 (List.mem_of_getElem? (i := 103) rfl)), (tc6 (List.mem_of_getElem? (i := 123) rfl)), (tc6 (List.mem_of_getElem? (i := 124) rfl))⟩
def lw_privs_4 : List (MethodName × Nat) := [(⟨"UnderFloorModel", "rowText", "()V"⟩, 54), (⟨"UnderFloorModel", "look", "()I"⟩, 54), (⟨"UnderFloorModel", "here", "()I"⟩, 54), (⟨"UnderFloorModel", "bad", "()V"⟩, 54), (⟨"UnderFloorModel", "readPlay", "(I)I"⟩, 54), (⟨"UnderFloorModel", "cueText", "(I)V"⟩, 54), (⟨"UnderFloorModel", "atEnd", "()I"⟩, 54), (⟨"UnderFloorModel", "readLaw", "(I)I"⟩, 54), (⟨"UnderFloorModel", "open", "(I)V"⟩, 54), (⟨"UnderFloorModel", "clause", "()V"⟩, 54), (⟨"UnderFloorModel", "condition", "()V"⟩, 54), (⟨"UnderFloorModel", "unit", "()V"⟩, 54), (⟨"UnderFloorModel", "opens", "()V"⟩, 54), (⟨"UnderFloorModel", "put", "(II)V"⟩, 54), (⟨"UnderFloorModel", "closes", "(I)V"⟩, 54), (⟨"UnderFloorModel", "sum", "()V"⟩, 54)]
theorem lw_r4 : ∀ q ∈ lw_privs_4, lw_okq q := List.forall_mem_cons.mpr ⟨lw_p48, List.forall_mem_cons.mpr ⟨lw_p49, List.forall_mem_cons.mpr ⟨lw_p50, List.forall_mem_cons.mpr ⟨lw_p51, List.forall_mem_cons.mpr ⟨lw_p52, List.forall_mem_cons.mpr ⟨lw_p53, List.forall_mem_cons.mpr ⟨lw_p54, List.forall_mem_cons.mpr ⟨lw_p55, List.forall_mem_cons.mpr ⟨lw_p56, List.forall_mem_cons.mpr ⟨lw_p57, List.forall_mem_cons.mpr ⟨lw_p58, List.forall_mem_cons.mpr ⟨lw_p59, List.forall_mem_cons.mpr ⟨lw_p60, List.forall_mem_cons.mpr ⟨lw_p61, List.forall_mem_cons.mpr ⟨lw_p62, List.forall_mem_cons.mpr ⟨lw_p63, fun _ h => absurd h List.not_mem_nil⟩⟩⟩⟩⟩⟩⟩⟩⟩⟩⟩⟩⟩⟩⟩⟩
set_option maxRecDepth 100000 in
theorem lw_p64 : lw_okq (⟨"UnderFloorModel", "term", "()V"⟩, 54) := ⟨⟨by decide +kernel, by decide +kernel⟩, (tc5 (List.mem_of_getElem? (i := 103) rfl)), (tc6 (List.mem_of_getElem? (i := 127) rfl)), (tc6 (List.mem_of_getElem? (i := 128) rfl))⟩
set_option maxRecDepth 100000 in
theorem lw_p65 : lw_okq (⟨"UnderFloorModel", "atom", "()V"⟩, 54) := ⟨⟨by decide +kernel, by decide +kernel⟩, (tc5 (List.mem_of_getElem? (i := 103) rfl)), (tc6 (List.mem_of_getElem? (i := 131) rfl)), (tc6 (List.mem_of_getElem? (i := 132) rfl))⟩
set_option maxRecDepth 100000 in
theorem lw_p66 : lw_okq (⟨"UnderFloorModel", "plainNumber", "()I"⟩, 54) := ⟨⟨by decide +kernel, by decide +kernel⟩, (tc5 (List.mem_of_getElem? (i := 103) rfl)), (tc6 (List.mem_of_getElem? (i := 135) rfl)), (tc6 (List.mem_of_getElem? (i := 136) rfl))⟩
set_option maxRecDepth 100000 in
theorem lw_p67 : lw_okq (⟨"UnderFloorModel", "compare", "()V"⟩, 54) := ⟨⟨by decide +kernel, by decide +kernel⟩, (tc5 (List.mem_of_getElem? (i := 103) rfl)), (tc6 (List.mem_of_getElem? (i := 142) rfl)), (tc6 (List.mem_of_getElem? (i := 143) rfl))⟩
set_option maxRecDepth 100000 in
theorem lw_p68 : lw_okq (⟨"UnderFloorModel", "goOnAnd", "()V"⟩, 54) := ⟨⟨by decide +kernel, by decide +kernel⟩, (tc5 (List.mem_of_getElem? (i := 103) rfl)), (tc6 (List.mem_of_getElem? (i := 149) rfl)), (tc6 (List.mem_of_getElem? (i := 150) rfl))⟩
set_option maxRecDepth 100000 in
theorem lw_p69 : lw_okq (⟨"UnderFloorModel", "goOnOr", "()V"⟩, 54) := ⟨⟨by decide +kernel, by decide +kernel⟩, (tc5 (List.mem_of_getElem? (i := 103) rfl)), (tc6 (List.mem_of_getElem? (i := 153) rfl)), (tc6 (List.mem_of_getElem? (i := 154) rfl))⟩
set_option maxRecDepth 100000 in
theorem lw_p70 : lw_okq (⟨"UnderFloorModel", "takeCellar", "()I"⟩, 54) := ⟨⟨by decide +kernel, by decide +kernel⟩, (tc5 (List.mem_of_getElem? (i := 103) rfl)), (tc6 (List.mem_of_getElem? (i := 161) rfl)), (tc6 (List.mem_of_getElem? (i := 162) rfl))⟩
set_option maxRecDepth 100000 in
theorem lw_p71 : lw_okq (⟨"UnderFloorModel", "isPlace", "(I)Z"⟩, 54) := ⟨⟨by decide +kernel, by decide +kernel⟩, (tc5 (List.mem_of_getElem? (i := 103) rfl)), (tc6 (List.mem_of_getElem? (i := 165) rfl)), (tc6 (List.mem_of_getElem? (i := 166) rfl))⟩
set_option maxRecDepth 100000 in
theorem lw_p72 : lw_okq (⟨"UnderFloorModel", "isCrank", "(I)Z"⟩, 54) := ⟨⟨by decide +kernel, by decide +kernel⟩, (tc5 (List.mem_of_getElem? (i := 103) rfl)), (tc6 (List.mem_of_getElem? (i := 174) rfl)), (tc6 (List.mem_of_getElem? (i := 175) rfl))⟩
set_option maxRecDepth 100000 in
theorem lw_p73 : lw_okq (⟨"UnderFloorModel", "placeOf", "(I)I"⟩, 54) := ⟨⟨by decide +kernel, by decide +kernel⟩, (tc5 (List.mem_of_getElem? (i := 103) rfl)), (tc6 (List.mem_of_getElem? (i := 178) rfl)), (tc6 (List.mem_of_getElem? (i := 179) rfl))⟩
set_option maxRecDepth 100000 in
theorem lw_p74 : lw_okq (⟨"UnderFloorModel", "isOpen", "(I)Z"⟩, 54) := ⟨⟨by decide +kernel, by decide +kernel⟩, (tc5 (List.mem_of_getElem? (i := 103) rfl)), (tc6 (List.mem_of_getElem? (i := 190) rfl)), (tc6 (List.mem_of_getElem? (i := 191) rfl))⟩
set_option maxRecDepth 100000 in
theorem lw_p75 : lw_okq (⟨"UnderFloorModel", "spread", "(I)V"⟩, 54) := ⟨⟨by decide +kernel, by decide +kernel⟩, (tc5 (List.mem_of_getElem? (i := 103) rfl)), (tc6 (List.mem_of_getElem? (i := 194) rfl)), (tc6 (List.mem_of_getElem? (i := 195) rfl))⟩
set_option maxRecDepth 100000 in
theorem lw_p76 : lw_okq (⟨"UnderFloorModel", "reach", "(II)V"⟩, 54) := ⟨⟨by decide +kernel, by decide +kernel⟩, (tc5 (List.mem_of_getElem? (i := 103) rfl)), (tc6 (List.mem_of_getElem? (i := 198) rfl)), (tc6 (List.mem_of_getElem? (i := 199) rfl))⟩
set_option maxRecDepth 100000 in
theorem lw_p77 : lw_okq (⟨"UnderFloorModel", "isPlay", "(I)Z"⟩, 54) := ⟨⟨by decide +kernel, by decide +kernel⟩, (tc5 (List.mem_of_getElem? (i := 103) rfl)), (tc6 (List.mem_of_getElem? (i := 206) rfl)), (tc6 (List.mem_of_getElem? (i := 207) rfl))⟩
set_option maxRecDepth 100000 in
theorem lw_p78 : lw_okq (⟨"UnderFloorModel", "layTimes", "(II)V"⟩, 54) := ⟨⟨by decide +kernel, by decide +kernel⟩, (tc5 (List.mem_of_getElem? (i := 103) rfl)), (tc6 (List.mem_of_getElem? (i := 210) rfl)), (tc6 (List.mem_of_getElem? (i := 211) rfl))⟩
set_option maxRecDepth 100000 in
theorem lw_p79 : lw_okq (⟨"UnderFloorModel", "worthOf", "(I)I"⟩, 54) := ⟨⟨by decide +kernel, by decide +kernel⟩, (tc5 (List.mem_of_getElem? (i := 103) rfl)), (tc6 (List.mem_of_getElem? (i := 214) rfl)), (tc6 (List.mem_of_getElem? (i := 215) rfl))⟩
def lw_privs_5 : List (MethodName × Nat) := [(⟨"UnderFloorModel", "term", "()V"⟩, 54), (⟨"UnderFloorModel", "atom", "()V"⟩, 54), (⟨"UnderFloorModel", "plainNumber", "()I"⟩, 54), (⟨"UnderFloorModel", "compare", "()V"⟩, 54), (⟨"UnderFloorModel", "goOnAnd", "()V"⟩, 54), (⟨"UnderFloorModel", "goOnOr", "()V"⟩, 54), (⟨"UnderFloorModel", "takeCellar", "()I"⟩, 54), (⟨"UnderFloorModel", "isPlace", "(I)Z"⟩, 54), (⟨"UnderFloorModel", "isCrank", "(I)Z"⟩, 54), (⟨"UnderFloorModel", "placeOf", "(I)I"⟩, 54), (⟨"UnderFloorModel", "isOpen", "(I)Z"⟩, 54), (⟨"UnderFloorModel", "spread", "(I)V"⟩, 54), (⟨"UnderFloorModel", "reach", "(II)V"⟩, 54), (⟨"UnderFloorModel", "isPlay", "(I)Z"⟩, 54), (⟨"UnderFloorModel", "layTimes", "(II)V"⟩, 54), (⟨"UnderFloorModel", "worthOf", "(I)I"⟩, 54)]
theorem lw_r5 : ∀ q ∈ lw_privs_5, lw_okq q := List.forall_mem_cons.mpr ⟨lw_p64, List.forall_mem_cons.mpr ⟨lw_p65, List.forall_mem_cons.mpr ⟨lw_p66, List.forall_mem_cons.mpr ⟨lw_p67, List.forall_mem_cons.mpr ⟨lw_p68, List.forall_mem_cons.mpr ⟨lw_p69, List.forall_mem_cons.mpr ⟨lw_p70, List.forall_mem_cons.mpr ⟨lw_p71, List.forall_mem_cons.mpr ⟨lw_p72, List.forall_mem_cons.mpr ⟨lw_p73, List.forall_mem_cons.mpr ⟨lw_p74, List.forall_mem_cons.mpr ⟨lw_p75, List.forall_mem_cons.mpr ⟨lw_p76, List.forall_mem_cons.mpr ⟨lw_p77, List.forall_mem_cons.mpr ⟨lw_p78, List.forall_mem_cons.mpr ⟨lw_p79, fun _ h => absurd h List.not_mem_nil⟩⟩⟩⟩⟩⟩⟩⟩⟩⟩⟩⟩⟩⟩⟩⟩
set_option maxRecDepth 100000 in
theorem lw_p80 : lw_okq (⟨"UnderFloorModel", "workOut", "(III)I"⟩, 54) := ⟨⟨by decide +kernel, by decide +kernel⟩, (tc5 (List.mem_of_getElem? (i := 103) rfl)), (tc6 (List.mem_of_getElem? (i := 218) rfl)), (tc6 (List.mem_of_getElem? (i := 219) rfl))⟩
set_option maxRecDepth 100000 in
theorem lw_p81 : lw_okq (⟨"UnderFloorModel", "change", "(II)V"⟩, 54) := ⟨⟨by decide +kernel, by decide +kernel⟩, (tc5 (List.mem_of_getElem? (i := 103) rfl)), (tc7 (List.mem_of_getElem? (i := 6) rfl)), (tc7 (List.mem_of_getElem? (i := 7) rfl))⟩
set_option maxRecDepth 100000 in
theorem lw_p82 : lw_okq (⟨"UnderFloorModel", "isReady", "(I)Z"⟩, 54) := ⟨⟨by decide +kernel, by decide +kernel⟩, (tc5 (List.mem_of_getElem? (i := 103) rfl)), (tc7 (List.mem_of_getElem? (i := 18) rfl)), (tc7 (List.mem_of_getElem? (i := 19) rfl))⟩
set_option maxRecDepth 100000 in
theorem lw_p83 : lw_okq (⟨"UnderFloorModel", "lay", "(III)V"⟩, 54) := ⟨⟨by decide +kernel, by decide +kernel⟩, (tc5 (List.mem_of_getElem? (i := 103) rfl)), (tc7 (List.mem_of_getElem? (i := 22) rfl)), (tc7 (List.mem_of_getElem? (i := 23) rfl))⟩
set_option maxRecDepth 100000 in
theorem lw_p84 : lw_okq (⟨"UnderFloorModel", "isOrder", "(I)Z"⟩, 54) := ⟨⟨by decide +kernel, by decide +kernel⟩, (tc5 (List.mem_of_getElem? (i := 103) rfl)), (tc7 (List.mem_of_getElem? (i := 26) rfl)), (tc7 (List.mem_of_getElem? (i := 27) rfl))⟩
set_option maxRecDepth 100000 in
theorem lw_p85 : lw_okq (⟨"UnderFloorModel", "nth", "(II)I"⟩, 54) := ⟨⟨by decide +kernel, by decide +kernel⟩, (tc5 (List.mem_of_getElem? (i := 103) rfl)), (tc7 (List.mem_of_getElem? (i := 30) rfl)), (tc7 (List.mem_of_getElem? (i := 31) rfl))⟩
set_option maxRecDepth 100000 in
theorem lw_p86 : lw_okq (⟨"UnderFloorModel", "go", "(I)Z"⟩, 54) := ⟨⟨by decide +kernel, by decide +kernel⟩, (tc5 (List.mem_of_getElem? (i := 103) rfl)), (tc7 (List.mem_of_getElem? (i := 37) rfl)), (tc7 (List.mem_of_getElem? (i := 38) rfl))⟩
set_option maxRecDepth 100000 in
theorem lw_p87 : lw_okq (⟨"UnderFloorModel", "tellOf", "(II)I"⟩, 54) := ⟨⟨by decide +kernel, by decide +kernel⟩, (tc5 (List.mem_of_getElem? (i := 103) rfl)), (tc7 (List.mem_of_getElem? (i := 41) rfl)), (tc7 (List.mem_of_getElem? (i := 42) rfl))⟩
set_option maxRecDepth 100000 in
theorem lw_p88 : lw_okq (⟨"UnderFloorModel", "late", "(I)I"⟩, 54) := ⟨⟨by decide +kernel, by decide +kernel⟩, (tc5 (List.mem_of_getElem? (i := 103) rfl)), (tc7 (List.mem_of_getElem? (i := 45) rfl)), (tc7 (List.mem_of_getElem? (i := 46) rfl))⟩
set_option maxRecDepth 100000 in
theorem lw_p89 : lw_okq (⟨"UnderFloorModel", "all", "()I"⟩, 54) := ⟨⟨by decide +kernel, by decide +kernel⟩, (tc5 (List.mem_of_getElem? (i := 103) rfl)), (tc7 (List.mem_of_getElem? (i := 61) rfl)), (tc7 (List.mem_of_getElem? (i := 62) rfl))⟩
set_option maxRecDepth 100000 in
theorem lw_p90 : lw_okq (⟨"UnderFloorModel", "leastOf", "(II)I"⟩, 54) := ⟨⟨by decide +kernel, by decide +kernel⟩, (tc5 (List.mem_of_getElem? (i := 103) rfl)), (tc7 (List.mem_of_getElem? (i := 65) rfl)), (tc7 (List.mem_of_getElem? (i := 66) rfl))⟩
set_option maxRecDepth 100000 in
theorem lw_p91 : lw_okq (⟨"UnderFloorModel", "search", "(IIIIII)V"⟩, 54) := ⟨⟨by decide +kernel, by decide +kernel⟩, (tc5 (List.mem_of_getElem? (i := 103) rfl)), (tc7 (List.mem_of_getElem? (i := 69) rfl)), (tc7 (List.mem_of_getElem? (i := 70) rfl))⟩
set_option maxRecDepth 100000 in
theorem lw_p92 : lw_okq (⟨"UnderFloorModel", "ageOf", "(I)I"⟩, 54) := ⟨⟨by decide +kernel, by decide +kernel⟩, (tc5 (List.mem_of_getElem? (i := 103) rfl)), (tc7 (List.mem_of_getElem? (i := 85) rfl)), (tc7 (List.mem_of_getElem? (i := 86) rfl))⟩
set_option maxRecDepth 100000 in
theorem lw_p93 : lw_okq (⟨"UnderFloorModel", "leastNow", "(I)I"⟩, 54) := ⟨⟨by decide +kernel, by decide +kernel⟩, (tc5 (List.mem_of_getElem? (i := 103) rfl)), (tc7 (List.mem_of_getElem? (i := 97) rfl)), (tc7 (List.mem_of_getElem? (i := 98) rfl))⟩
set_option maxRecDepth 100000 in
theorem lw_p94 : lw_okq (⟨"UnderFloorModel", "bothNow", "(II)I"⟩, 54) := ⟨⟨by decide +kernel, by decide +kernel⟩, (tc5 (List.mem_of_getElem? (i := 103) rfl)), (tc7 (List.mem_of_getElem? (i := 109) rfl)), (tc7 (List.mem_of_getElem? (i := 110) rfl))⟩
set_option maxRecDepth 100000 in
theorem lw_p95 : lw_okq (⟨"UnderFloorModel", "book", "()I"⟩, 54) := ⟨⟨by decide +kernel, by decide +kernel⟩, (tc5 (List.mem_of_getElem? (i := 103) rfl)), (tc7 (List.mem_of_getElem? (i := 121) rfl)), (tc7 (List.mem_of_getElem? (i := 122) rfl))⟩
def lw_privs_6 : List (MethodName × Nat) := [(⟨"UnderFloorModel", "workOut", "(III)I"⟩, 54), (⟨"UnderFloorModel", "change", "(II)V"⟩, 54), (⟨"UnderFloorModel", "isReady", "(I)Z"⟩, 54), (⟨"UnderFloorModel", "lay", "(III)V"⟩, 54), (⟨"UnderFloorModel", "isOrder", "(I)Z"⟩, 54), (⟨"UnderFloorModel", "nth", "(II)I"⟩, 54), (⟨"UnderFloorModel", "go", "(I)Z"⟩, 54), (⟨"UnderFloorModel", "tellOf", "(II)I"⟩, 54), (⟨"UnderFloorModel", "late", "(I)I"⟩, 54), (⟨"UnderFloorModel", "all", "()I"⟩, 54), (⟨"UnderFloorModel", "leastOf", "(II)I"⟩, 54), (⟨"UnderFloorModel", "search", "(IIIIII)V"⟩, 54), (⟨"UnderFloorModel", "ageOf", "(I)I"⟩, 54), (⟨"UnderFloorModel", "leastNow", "(I)I"⟩, 54), (⟨"UnderFloorModel", "bothNow", "(II)I"⟩, 54), (⟨"UnderFloorModel", "book", "()I"⟩, 54)]
theorem lw_r6 : ∀ q ∈ lw_privs_6, lw_okq q := List.forall_mem_cons.mpr ⟨lw_p80, List.forall_mem_cons.mpr ⟨lw_p81, List.forall_mem_cons.mpr ⟨lw_p82, List.forall_mem_cons.mpr ⟨lw_p83, List.forall_mem_cons.mpr ⟨lw_p84, List.forall_mem_cons.mpr ⟨lw_p85, List.forall_mem_cons.mpr ⟨lw_p86, List.forall_mem_cons.mpr ⟨lw_p87, List.forall_mem_cons.mpr ⟨lw_p88, List.forall_mem_cons.mpr ⟨lw_p89, List.forall_mem_cons.mpr ⟨lw_p90, List.forall_mem_cons.mpr ⟨lw_p91, List.forall_mem_cons.mpr ⟨lw_p92, List.forall_mem_cons.mpr ⟨lw_p93, List.forall_mem_cons.mpr ⟨lw_p94, List.forall_mem_cons.mpr ⟨lw_p95, fun _ h => absurd h List.not_mem_nil⟩⟩⟩⟩⟩⟩⟩⟩⟩⟩⟩⟩⟩⟩⟩⟩
set_option maxRecDepth 100000 in
theorem lw_p96 : lw_okq (⟨"UnderFloorModel", "fitFrom", "(IIII)V"⟩, 54) := ⟨⟨by decide +kernel, by decide +kernel⟩, (tc5 (List.mem_of_getElem? (i := 103) rfl)), (tc7 (List.mem_of_getElem? (i := 133) rfl)), (tc7 (List.mem_of_getElem? (i := 134) rfl))⟩
set_option maxRecDepth 100000 in
theorem lw_p97 : lw_okq (⟨"UnderFloorModel", "fits", "(I)Z"⟩, 54) := ⟨⟨by decide +kernel, by decide +kernel⟩, (tc5 (List.mem_of_getElem? (i := 103) rfl)), (tc7 (List.mem_of_getElem? (i := 137) rfl)), (tc7 (List.mem_of_getElem? (i := 138) rfl))⟩
set_option maxRecDepth 100000 in
theorem lw_p98 : lw_okq (⟨"UnderFloorModel", "posts", "()I"⟩, 54) := ⟨⟨by decide +kernel, by decide +kernel⟩, (tc5 (List.mem_of_getElem? (i := 103) rfl)), (tc7 (List.mem_of_getElem? (i := 178) rfl)), (tc7 (List.mem_of_getElem? (i := 179) rfl))⟩
set_option maxRecDepth 100000 in
theorem lw_p99 : lw_okq (⟨"UnderFloorModel", "cranks", "()I"⟩, 54) := ⟨⟨by decide +kernel, by decide +kernel⟩, (tc5 (List.mem_of_getElem? (i := 103) rfl)), (tc7 (List.mem_of_getElem? (i := 190) rfl)), (tc7 (List.mem_of_getElem? (i := 191) rfl))⟩
def lw_privs_7 : List (MethodName × Nat) := [(⟨"UnderFloorModel", "fitFrom", "(IIII)V"⟩, 54), (⟨"UnderFloorModel", "fits", "(I)Z"⟩, 54), (⟨"UnderFloorModel", "posts", "()I"⟩, 54), (⟨"UnderFloorModel", "cranks", "()I"⟩, 54)]
theorem lw_r7 : ∀ q ∈ lw_privs_7, lw_okq q := List.forall_mem_cons.mpr ⟨lw_p96, List.forall_mem_cons.mpr ⟨lw_p97, List.forall_mem_cons.mpr ⟨lw_p98, List.forall_mem_cons.mpr ⟨lw_p99, fun _ h => absurd h List.not_mem_nil⟩⟩⟩⟩
def lw_privs : List (MethodName × Nat) := lw_privs_1 ++ (lw_privs_2 ++ (lw_privs_3 ++ (lw_privs_4 ++ (lw_privs_5 ++ (lw_privs_6 ++ (lw_privs_7))))))
def lw_tbl : List Cond := k2_sels lw_privs ++ tables_1
theorem lw_privs_ok : ∀ q ∈ lw_privs, lw_okq q := by
  show ∀ q ∈ lw_privs_1 ++ (lw_privs_2 ++ (lw_privs_3 ++ (lw_privs_4 ++ (lw_privs_5 ++ (lw_privs_6 ++ (lw_privs_7)))))), lw_okq q
  exact List.forall_mem_append.mpr ⟨lw_r1, List.forall_mem_append.mpr ⟨lw_r2, List.forall_mem_append.mpr ⟨lw_r3, List.forall_mem_append.mpr ⟨lw_r4, List.forall_mem_append.mpr ⟨lw_r5, List.forall_mem_append.mpr ⟨lw_r6, lw_r7⟩⟩⟩⟩⟩⟩
def RX0 : String := "UnderFloor$Cellar"
def TX0 : u_T := fun k => match k with
  | 0 => ("UnderFloor$Cellar", "cells", "[I", true)
  | 1 => ("UnderFloor$Cellar", "places", "[I", true)
  | 2 => ("UnderFloor$Cellar", "winds", "[I", true)
  | 3 => ("UnderFloor$Cellar", "start", "I", false)
  | 4 => ("UnderFloor$Cellar", "width", "I", false)
  | 5 => ("UnderFloor$Cellar", "crankCount", "I", false)
  | 6 => ("UnderFloor$Cellar", "posts", "I", false)
  | 7 => ("UnderFloor$Cellar", "stoop", "I", false)
  | _ => ("UnderFloor$Cellar", "night", "I", false)
def tyX0 : Nat → FieldType := fun k => match k with
  | 0 => .array .int
  | 1 => .array .int
  | 2 => .array .int
  | 3 => .int
  | 4 => .int
  | 5 => .int
  | 6 => .int
  | 7 => .int
  | _ => .int
theorem nmX0 : ∀ a, a < 9 → ∀ b, b < 9 → a ≠ b → (TX0 a).2.1 ≠ (TX0 b).2.1 := by decide +kernel
theorem tyX0_ok : ∀ k, k < 9 → parseFieldDescriptor (TX0 k).2.2.1 = some (tyX0 k) := by decide +kernel
abbrev cX0_init : ByteArray := prog_2_method_1_code
def yX0_init : MethodName := ⟨RX0, "<init>", "()V"⟩
abbrev cX0_clear : ByteArray := prog_2_method_2_code
def yX0_clear : MethodName := ⟨RX0, "clear", "()V"⟩
abbrev cX0_stands : ByteArray := prog_2_method_3_code
def yX0_stands : MethodName := ⟨RX0, "stands", "()Z"⟩
abbrev cX0_read : ByteArray := prog_2_method_4_code
def yX0_read : MethodName := ⟨RX0, "read", "(LUnderFloor$Reader;)I"⟩
abbrev cX0_readRow : ByteArray := prog_2_method_5_code
def yX0_readRow : MethodName := ⟨RX0, "readRow", "(LUnderFloor$Reader;I)V"⟩
abbrev cX0_cellOf : ByteArray := prog_2_method_6_code
def yX0_cellOf : MethodName := ⟨RX0, "cellOf", "(I)I"⟩
abbrev cX0_put : ByteArray := prog_2_method_7_code
def yX0_put : MethodName := ⟨RX0, "put", "(LUnderFloor$Reader;II)V"⟩
abbrev cX0_copy : ByteArray := prog_2_method_8_code
def yX0_copy : MethodName := ⟨RX0, "copy", "(LUnderFloor$Cellar;)V"⟩
abbrev cX0_placeOf : ByteArray := prog_2_method_9_code
def yX0_placeOf : MethodName := ⟨RX0, "placeOf", "(I)I"⟩
abbrev cX0_windOf : ByteArray := prog_2_method_10_code
def yX0_windOf : MethodName := ⟨RX0, "windOf", "(I)I"⟩
abbrev cX0_cellAt : ByteArray := prog_2_method_11_code
def yX0_cellAt : MethodName := ⟨RX0, "cellAt", "(I)I"⟩
abbrev cX0_isOpen : ByteArray := prog_2_method_12_code
def yX0_isOpen : MethodName := ⟨RX0, "isOpen", "(I)Z"⟩
abbrev cX0_tellStoop : ByteArray := prog_2_method_13_code
def yX0_tellStoop : MethodName := ⟨RX0, "tellStoop", "(I)Z"⟩
abbrev cX0_tellNight : ByteArray := prog_2_method_14_code
def yX0_tellNight : MethodName := ⟨RX0, "tellNight", "(I)Z"⟩
abbrev cX0_tellWind : ByteArray := prog_2_method_15_code
def yX0_tellWind : MethodName := ⟨RX0, "tellWind", "(II)Z"⟩
abbrev cX0_halveWind : ByteArray := prog_2_method_16_code
def yX0_halveWind : MethodName := ⟨RX0, "halveWind", "(I)Z"⟩
abbrev cX0_exchangeCranks : ByteArray := prog_2_method_17_code
def yX0_exchangeCranks : MethodName := ⟨RX0, "exchangeCranks", "(II)Z"⟩
abbrev cX0_takePost : ByteArray := prog_2_method_18_code
def yX0_takePost : MethodName := ⟨RX0, "takePost", "(I)Z"⟩
abbrev cX0_putPost : ByteArray := prog_2_method_19_code
def yX0_putPost : MethodName := ⟨RX0, "putPost", "(I)Z"⟩
def RX1 : String := "UnderFloor$Job"
def TX1 : u_T := fun k => match k with
  | 0 => ("UnderFloor$Job", "ways", "LUnderFloor$Ways;", true)
  | 1 => ("UnderFloor$Job", "cranks", "[I", true)
  | 2 => ("UnderFloor$Job", "times", "[I", true)
  | 3 => ("UnderFloor$Job", "winds", "[I", true)
  | 4 => ("UnderFloor$Job", "steps", "[I", true)
  | 5 => ("UnderFloor$Job", "size", "I", false)
  | _ => ("UnderFloor$Job", "stoop", "I", false)
def tyX1 : Nat → FieldType := fun k => match k with
  | 0 => .object "UnderFloor$Ways"
  | 1 => .array .int
  | 2 => .array .int
  | 3 => .array .int
  | 4 => .array .int
  | 5 => .int
  | _ => .int
theorem nmX1 : ∀ a, a < 7 → ∀ b, b < 7 → a ≠ b → (TX1 a).2.1 ≠ (TX1 b).2.1 := by decide +kernel
theorem tyX1_ok : ∀ k, k < 7 → parseFieldDescriptor (TX1 k).2.2.1 = some (tyX1 k) := by decide +kernel
abbrev cX1_init : ByteArray := prog_3_method_1_code
def yX1_init : MethodName := ⟨RX1, "<init>", "(LUnderFloor$Ways;)V"⟩
abbrev cX1_prepare : ByteArray := prog_3_method_2_code
def yX1_prepare : MethodName := ⟨RX1, "prepare", "(LUnderFloor$Cellar;LUnderFloor$Play;)V"⟩
abbrev cX1_standAt : ByteArray := prog_3_method_3_code
def yX1_standAt : MethodName := ⟨RX1, "standAt", "(LUnderFloor$Cellar;II)V"⟩
abbrev cX1_measure : ByteArray := prog_3_method_4_code
def yX1_measure : MethodName := ⟨RX1, "measure", "(LUnderFloor$Cellar;II)V"⟩
abbrev cX1_copy : ByteArray := prog_3_method_5_code
def yX1_copy : MethodName := ⟨RX1, "copy", "(LUnderFloor$Job;)V"⟩
abbrev cX1_allCues : ByteArray := prog_3_method_6_code
def yX1_allCues : MethodName := ⟨RX1, "allCues", "()I"⟩
abbrev cX1_stepsBetween : ByteArray := prog_3_method_7_code
def yX1_stepsBetween : MethodName := ⟨RX1, "stepsBetween", "(II)I"⟩
abbrev cX1_canBe : ByteArray := prog_3_method_8_code
def yX1_canBe : MethodName := ⟨RX1, "canBe", "()Z"⟩
abbrev cX1_comes : ByteArray := prog_3_method_9_code
def yX1_comes : MethodName := ⟨RX1, "comes", "(III)I"⟩
abbrev cX1_wound : ByteArray := prog_3_method_10_code
def yX1_wound : MethodName := ⟨RX1, "wound", "(II)I"⟩
abbrev cX1_dones : ByteArray := prog_3_method_11_code
def yX1_dones : MethodName := ⟨RX1, "dones", "(II)I"⟩
def RX2 : String := "UnderFloor$Law"
def TX2 : u_T := fun k => match k with
  | 0 => ("UnderFloor$Law", "reader", "LUnderFloor$Reader;", true)
  | 1 => ("UnderFloor$Law", "number", "I", false)
  | 2 => ("UnderFloor$Law", "place", "I", false)
  | 3 => ("UnderFloor$Law", "night", "I", false)
  | 4 => ("UnderFloor$Law", "crank", "I", false)
  | _ => ("UnderFloor$Law", "howMany", "I", false)
def tyX2 : Nat → FieldType := fun k => match k with
  | 0 => .object "UnderFloor$Reader"
  | 1 => .int
  | 2 => .int
  | 3 => .int
  | 4 => .int
  | _ => .int
theorem nmX2 : ∀ a, a < 6 → ∀ b, b < 6 → a ≠ b → (TX2 a).2.1 ≠ (TX2 b).2.1 := by decide +kernel
theorem tyX2_ok : ∀ k, k < 6 → parseFieldDescriptor (TX2 k).2.2.1 = some (tyX2 k) := by decide +kernel
abbrev cX2_init : ByteArray := prog_4_method_1_code
def yX2_init : MethodName := ⟨RX2, "<init>", "(LUnderFloor$Reader;)V"⟩
abbrev cX2_check : ByteArray := prog_4_method_2_code
def yX2_check : MethodName := ⟨RX2, "check", "()I"⟩
abbrev cX2_fillTimes : ByteArray := prog_4_method_3_code
def yX2_fillTimes : MethodName := ⟨RX2, "fillTimes", "(LUnderFloor$Play;LUnderFloor$Text;I[I)V"⟩
abbrev cX2_worth : ByteArray := prog_4_method_4_code
def yX2_worth : MethodName := ⟨RX2, "worth", "()I"⟩
abbrev cX2_startsCondition : ByteArray := prog_4_method_5_code
def yX2_startsCondition : MethodName := ⟨RX2, "startsCondition", "()Z"⟩
abbrev cX2_isComparison : ByteArray := prog_4_method_6_code
def yX2_isComparison : MethodName := ⟨RX2, "isComparison", "(I)Z"⟩
abbrev cX2_condition : ByteArray := prog_4_method_7_code
def yX2_condition : MethodName := ⟨RX2, "condition", "(I)Z"⟩
abbrev cX2_truth : ByteArray := prog_4_method_8_code
def yX2_truth : MethodName := ⟨RX2, "truth", "(I)Z"⟩
abbrev cX2_unit : ByteArray := prog_4_method_9_code
def yX2_unit : MethodName := ⟨RX2, "unit", "(I)Z"⟩
abbrev cX2_denied : ByteArray := prog_4_method_10_code
def yX2_denied : MethodName := ⟨RX2, "denied", "(I)Z"⟩
abbrev cX2_enclosed : ByteArray := prog_4_method_11_code
def yX2_enclosed : MethodName := ⟨RX2, "enclosed", "(I)Z"⟩
abbrev cX2_comparison : ByteArray := prog_4_method_12_code
def yX2_comparison : MethodName := ⟨RX2, "comparison", "(I)Z"⟩
abbrev cX2_sum : ByteArray := prog_4_method_13_code
def yX2_sum : MethodName := ⟨RX2, "sum", "(I)I"⟩
abbrev cX2_term : ByteArray := prog_4_method_14_code
def yX2_term : MethodName := ⟨RX2, "term", "(I)I"⟩
abbrev cX2_held : ByteArray := prog_4_method_15_code
def yX2_held : MethodName := ⟨RX2, "held", "(J)J"⟩
abbrev cX2_atom : ByteArray := prog_4_method_16_code
def yX2_atom : MethodName := ⟨RX2, "atom", "(I)I"⟩
abbrev cX2_letter : ByteArray := prog_4_method_17_code
def yX2_letter : MethodName := ⟨RX2, "letter", "(I)I"⟩
def RX3 : String := "UnderFloor$Play"
def TX3 : u_T := fun k => match k with
  | 0 => ("UnderFloor$Play", "letters", "[I", true)
  | 1 => ("UnderFloor$Play", "numbers", "[I", true)
  | _ => ("UnderFloor$Play", "size", "I", false)
def tyX3 : Nat → FieldType := fun k => match k with
  | 0 => .array .int
  | 1 => .array .int
  | _ => .int
theorem nmX3 : ∀ a, a < 3 → ∀ b, b < 3 → a ≠ b → (TX3 a).2.1 ≠ (TX3 b).2.1 := by decide +kernel
theorem tyX3_ok : ∀ k, k < 3 → parseFieldDescriptor (TX3 k).2.2.1 = some (tyX3 k) := by decide +kernel
abbrev cX3_init : ByteArray := prog_5_method_1_code
def yX3_init : MethodName := ⟨RX3, "<init>", "()V"⟩
abbrev cX3_read : ByteArray := prog_5_method_2_code
def yX3_read : MethodName := ⟨RX3, "read", "(LUnderFloor$Reader;)I"⟩
abbrev cX3_readCue : ByteArray := prog_5_method_3_code
def yX3_readCue : MethodName := ⟨RX3, "readCue", "(LUnderFloor$Reader;I)V"⟩
def RX4 : String := "UnderFloor$Reader"
def TX4 : u_T := fun k => match k with
  | 0 => ("UnderFloor$Reader", "text", "LUnderFloor$Text;", false)
  | 1 => ("UnderFloor$Reader", "pos", "I", false)
  | _ => ("UnderFloor$Reader", "fault", "I", false)
def tyX4 : Nat → FieldType := fun k => match k with
  | 0 => .object "UnderFloor$Text"
  | 1 => .int
  | _ => .int
theorem nmX4 : ∀ a, a < 3 → ∀ b, b < 3 → a ≠ b → (TX4 a).2.1 ≠ (TX4 b).2.1 := by decide +kernel
theorem tyX4_ok : ∀ k, k < 3 → parseFieldDescriptor (TX4 k).2.2.1 = some (tyX4 k) := by decide +kernel
abbrev cX4_init : ByteArray := prog_6_method_1_code
def yX4_init : MethodName := ⟨RX4, "<init>", "(LUnderFloor$Text;)V"⟩
abbrev cX4_open : ByteArray := prog_6_method_2_code
def yX4_open : MethodName := ⟨RX4, "open", "(LUnderFloor$Text;)V"⟩
abbrev cX4_peek : ByteArray := prog_6_method_3_code
def yX4_peek : MethodName := ⟨RX4, "peek", "()I"⟩
abbrev cX4_pass : ByteArray := prog_6_method_4_code
def yX4_pass : MethodName := ⟨RX4, "pass", "()V"⟩
abbrev cX4_take : ByteArray := prog_6_method_5_code
def yX4_take : MethodName := ⟨RX4, "take", "(I)Z"⟩
abbrev cX4_need : ByteArray := prog_6_method_6_code
def yX4_need : MethodName := ⟨RX4, "need", "(I)V"⟩
abbrev cX4_needEnd : ByteArray := prog_6_method_7_code
def yX4_needEnd : MethodName := ⟨RX4, "needEnd", "()V"⟩
abbrev cX4_refuseAt : ByteArray := prog_6_method_8_code
def yX4_refuseAt : MethodName := ⟨RX4, "refuseAt", "(I)V"⟩
abbrev cX4_number : ByteArray := prog_6_method_9_code
def yX4_number : MethodName := ⟨RX4, "number", "(I)I"⟩
abbrev cX4_isDigit : ByteArray := prog_6_method_10_code
def yX4_isDigit : MethodName := ⟨RX4, "isDigit", "(I)Z"⟩
def RX5 : String := "UnderFloor$Run"
def TX5 : u_T := fun k => match k with
  | 0 => ("UnderFloor$Run", "cues", "[I", true)
  | 1 => ("UnderFloor$Run", "comes", "[I", true)
  | 2 => ("UnderFloor$Run", "dones", "[I", true)
  | 3 => ("UnderFloor$Run", "length", "I", false)
  | 4 => ("UnderFloor$Run", "lates", "I", false)
  | 5 => ("UnderFloor$Run", "greatest", "I", false)
  | 6 => ("UnderFloor$Run", "howMany", "I", false)
  | 7 => ("UnderFloor$Run", "last", "I", false)
  | 8 => ("UnderFloor$Run", "steps", "I", false)
  | _ => ("UnderFloor$Run", "idle", "I", false)
def tyX5 : Nat → FieldType := fun k => match k with
  | 0 => .array .int
  | 1 => .array .int
  | 2 => .array .int
  | 3 => .int
  | 4 => .int
  | 5 => .int
  | 6 => .int
  | 7 => .int
  | 8 => .int
  | _ => .int
theorem nmX5 : ∀ a, a < 10 → ∀ b, b < 10 → a ≠ b → (TX5 a).2.1 ≠ (TX5 b).2.1 := by decide +kernel
theorem tyX5_ok : ∀ k, k < 10 → parseFieldDescriptor (TX5 k).2.2.1 = some (tyX5 k) := by decide +kernel
abbrev cX5_init : ByteArray := prog_7_method_1_code
def yX5_init : MethodName := ⟨RX5, "<init>", "()V"⟩
abbrev cX5_takeOrder : ByteArray := prog_7_method_2_code
def yX5_takeOrder : MethodName := ⟨RX5, "takeOrder", "(II)Z"⟩
abbrev cX5_takeBook : ByteArray := prog_7_method_3_code
def yX5_takeBook : MethodName := ⟨RX5, "takeBook", "(II)V"⟩
abbrev cX5_go : ByteArray := prog_7_method_4_code
def yX5_go : MethodName := ⟨RX5, "go", "(LUnderFloor$Job;)Z"⟩
abbrev cX5_addLate : ByteArray := prog_7_method_5_code
def yX5_addLate : MethodName := ⟨RX5, "addLate", "(I)V"⟩
abbrev cX5_crankAt : ByteArray := prog_7_method_6_code
def yX5_crankAt : MethodName := ⟨RX5, "crankAt", "(LUnderFloor$Job;I)I"⟩
def RX6 : String := "UnderFloor$Search"
def TX6 : u_T := fun k => match k with
  | 0 => ("UnderFloor$Search", "seconds", "[I", true)
  | 1 => ("UnderFloor$Search", "costs", "[I", true)
  | 2 => ("UnderFloor$Search", "handsLates", "[I", true)
  | 3 => ("UnderFloor$Search", "boysLates", "[I", true)
  | 4 => ("UnderFloor$Search", "job", "LUnderFloor$Job;", false)
  | 5 => ("UnderFloor$Search", "wish", "I", false)
  | 6 => ("UnderFloor$Search", "fixed", "I", false)
  | 7 => ("UnderFloor$Search", "least", "I", false)
  | _ => ("UnderFloor$Search", "order", "I", false)
def tyX6 : Nat → FieldType := fun k => match k with
  | 0 => .array .int
  | 1 => .array .int
  | 2 => .array .int
  | 3 => .array .int
  | 4 => .object "UnderFloor$Job"
  | 5 => .int
  | 6 => .int
  | 7 => .int
  | _ => .int
theorem nmX6 : ∀ a, a < 9 → ∀ b, b < 9 → a ≠ b → (TX6 a).2.1 ≠ (TX6 b).2.1 := by decide +kernel
theorem tyX6_ok : ∀ k, k < 9 → parseFieldDescriptor (TX6 k).2.2.1 = some (tyX6 k) := by decide +kernel
abbrev cX6_init : ByteArray := prog_8_method_1_code
def yX6_init : MethodName := ⟨RX6, "<init>", "(LUnderFloor$Job;)V"⟩
abbrev cX6_seek : ByteArray := prog_8_method_2_code
def yX6_seek : MethodName := ⟨RX6, "seek", "(LUnderFloor$Job;II)Z"⟩
abbrev cX6_forget : ByteArray := prog_8_method_3_code
def yX6_forget : MethodName := ⟨RX6, "forget", "()V"⟩
abbrev cX6_visit : ByteArray := prog_8_method_4_code
def yX6_visit : MethodName := ⟨RX6, "visit", "(IIIIII)V"⟩
abbrev cX6_follow : ByteArray := prog_8_method_5_code
def yX6_follow : MethodName := ⟨RX6, "follow", "(IIIIII)V"⟩
abbrev cX6_withLate : ByteArray := prog_8_method_6_code
def yX6_withLate : MethodName := ⟨RX6, "withLate", "(II)I"⟩
abbrev cX6_isNew : ByteArray := prog_8_method_7_code
def yX6_isNew : MethodName := ⟨RX6, "isNew", "(IIII)Z"⟩
abbrev cX6_share : ByteArray := prog_8_method_8_code
def yX6_share : MethodName := ⟨RX6, "share", "(LUnderFloor$Job;LUnderFloor$Job;)I"⟩
abbrev cX6_weigh : ByteArray := prog_8_method_9_code
def yX6_weigh : MethodName := ⟨RX6, "weigh", "(LUnderFloor$Job;[I)V"⟩
abbrev cX6_gather : ByteArray := prog_8_method_10_code
def yX6_gather : MethodName := ⟨RX6, "gather", "(IIIII[I)V"⟩
abbrev cX6_gatherBehind : ByteArray := prog_8_method_11_code
def yX6_gatherBehind : MethodName := ⟨RX6, "gatherBehind", "(IIIII[I)V"⟩
def RX7 : String := "UnderFloor$Text"
def TX7 : u_T := fun k => match k with
  | 0 => ("UnderFloor$Text", "bytes", "[I", true)
  | _ => ("UnderFloor$Text", "length", "I", false)
def tyX7 : Nat → FieldType := fun k => match k with
  | 0 => .array .int
  | _ => .int
theorem nmX7 : ∀ a, a < 2 → ∀ b, b < 2 → a ≠ b → (TX7 a).2.1 ≠ (TX7 b).2.1 := by decide +kernel
theorem tyX7_ok : ∀ k, k < 2 → parseFieldDescriptor (TX7 k).2.2.1 = some (tyX7 k) := by decide +kernel
abbrev cX7_init : ByteArray := prog_9_method_1_code
def yX7_init : MethodName := ⟨RX7, "<init>", "()V"⟩
abbrev cX7_bytesIn : ByteArray := prog_9_method_2_code
def yX7_bytesIn : MethodName := ⟨RX7, "bytesIn", "(I)I"⟩
abbrev cX7_add : ByteArray := prog_9_method_3_code
def yX7_add : MethodName := ⟨RX7, "add", "(I)V"⟩
abbrev cX7_cut : ByteArray := prog_9_method_4_code
def yX7_cut : MethodName := ⟨RX7, "cut", "(I)Z"⟩
abbrev cX7_copy : ByteArray := prog_9_method_5_code
def yX7_copy : MethodName := ⟨RX7, "copy", "(LUnderFloor$Text;)V"⟩
def RX8 : String := "UnderFloor$Thuds"
def TX8 : u_T := fun k => match k with
  | 0 => ("UnderFloor$Thuds", "seconds", "[I", true)
  | 1 => ("UnderFloor$Thuds", "cranks", "[I", true)
  | 2 => ("UnderFloor$Thuds", "size", "I", false)
  | 3 => ("UnderFloor$Thuds", "job", "LUnderFloor$Job;", false)
  | 4 => ("UnderFloor$Thuds", "wanted", "I", false)
  | 5 => ("UnderFloor$Thuds", "fits", "I", false)
  | _ => ("UnderFloor$Thuds", "found", "I", false)
def tyX8 : Nat → FieldType := fun k => match k with
  | 0 => .array .int
  | 1 => .array .int
  | 2 => .int
  | 3 => .object "UnderFloor$Job"
  | 4 => .int
  | 5 => .int
  | _ => .int
theorem nmX8 : ∀ a, a < 7 → ∀ b, b < 7 → a ≠ b → (TX8 a).2.1 ≠ (TX8 b).2.1 := by decide +kernel
theorem tyX8_ok : ∀ k, k < 7 → parseFieldDescriptor (TX8 k).2.2.1 = some (tyX8 k) := by decide +kernel
abbrev cX8_init : ByteArray := prog_10_method_1_code
def yX8_init : MethodName := ⟨RX8, "<init>", "(LUnderFloor$Job;)V"⟩
abbrev cX8_add : ByteArray := prog_10_method_2_code
def yX8_add : MethodName := ⟨RX8, "add", "(II)Z"⟩
abbrev cX8_fitting : ByteArray := prog_10_method_3_code
def yX8_fitting : MethodName := ⟨RX8, "fitting", "(LUnderFloor$Job;I)I"⟩
abbrev cX8_visit : ByteArray := prog_10_method_4_code
def yX8_visit : MethodName := ⟨RX8, "visit", "(IIIIII)V"⟩
abbrev cX8_follow : ByteArray := prog_10_method_5_code
def yX8_follow : MethodName := ⟨RX8, "follow", "(IIIIII)V"⟩
abbrev cX8_passesOver : ByteArray := prog_10_method_6_code
def yX8_passesOver : MethodName := ⟨RX8, "passesOver", "(I)Z"⟩
abbrev cX8_heardAt : ByteArray := prog_10_method_7_code
def yX8_heardAt : MethodName := ⟨RX8, "heardAt", "(III)I"⟩
abbrev cX8_isMissed : ByteArray := prog_10_method_8_code
def yX8_isMissed : MethodName := ⟨RX8, "isMissed", "(II)Z"⟩
def RX9 : String := "UnderFloor$Ways"
def TX9 : u_T := fun k => match k with
  | 0 => ("UnderFloor$Ways", "steps", "[I", true)
  | 1 => ("UnderFloor$Ways", "queue", "[I", true)
  | _ => ("UnderFloor$Ways", "queued", "I", false)
def tyX9 : Nat → FieldType := fun k => match k with
  | 0 => .array .int
  | 1 => .array .int
  | _ => .int
theorem nmX9 : ∀ a, a < 3 → ∀ b, b < 3 → a ≠ b → (TX9 a).2.1 ≠ (TX9 b).2.1 := by decide +kernel
theorem tyX9_ok : ∀ k, k < 3 → parseFieldDescriptor (TX9 k).2.2.1 = some (tyX9 k) := by decide +kernel
abbrev cX9_init : ByteArray := prog_11_method_1_code
def yX9_init : MethodName := ⟨RX9, "<init>", "()V"⟩
abbrev cX9_measure : ByteArray := prog_11_method_2_code
def yX9_measure : MethodName := ⟨RX9, "measure", "(LUnderFloor$Cellar;I)V"⟩
abbrev cX9_reach : ByteArray := prog_11_method_3_code
def yX9_reach : MethodName := ⟨RX9, "reach", "(LUnderFloor$Cellar;II)V"⟩
abbrev cX9_stepsTo : ByteArray := prog_11_method_4_code
def yX9_stepsTo : MethodName := ⟨RX9, "stepsTo", "(I)I"⟩
def RX10 : String := "UnderFloor"
def TX10 : u_T := fun k => match k with
  | 0 => ("UnderFloor", "tape", "LUnderFloor$Text;", true)
  | 1 => ("UnderFloor", "reader", "LUnderFloor$Reader;", true)
  | 2 => ("UnderFloor", "law", "LUnderFloor$Law;", true)
  | 3 => ("UnderFloor", "cellar", "LUnderFloor$Cellar;", true)
  | 4 => ("UnderFloor", "kept", "LUnderFloor$Cellar;", true)
  | 5 => ("UnderFloor", "trial", "LUnderFloor$Cellar;", true)
  | 6 => ("UnderFloor", "plays", "[LUnderFloor$Play;", true)
  | 7 => ("UnderFloor", "draft", "LUnderFloor$Play;", true)
  | 8 => ("UnderFloor", "laws", "[LUnderFloor$Text;", true)
  | 9 => ("UnderFloor", "ways", "LUnderFloor$Ways;", true)
  | 10 => ("UnderFloor", "job", "LUnderFloor$Job;", true)
  | 11 => ("UnderFloor", "boysJob", "LUnderFloor$Job;", true)
  | 12 => ("UnderFloor", "run", "LUnderFloor$Run;", true)
  | 13 => ("UnderFloor", "search", "LUnderFloor$Search;", true)
  | 14 => ("UnderFloor", "thuds", "LUnderFloor$Thuds;", true)
  | 15 => ("UnderFloor", "playCount", "I", false)
  | 16 => ("UnderFloor", "lawCount", "I", false)
  | _ => ("UnderFloor", "lawHeld", "I", false)
def tyX10 : Nat → FieldType := fun k => match k with
  | 0 => .object "UnderFloor$Text"
  | 1 => .object "UnderFloor$Reader"
  | 2 => .object "UnderFloor$Law"
  | 3 => .object "UnderFloor$Cellar"
  | 4 => .object "UnderFloor$Cellar"
  | 5 => .object "UnderFloor$Cellar"
  | 6 => .array (.object "UnderFloor$Play")
  | 7 => .object "UnderFloor$Play"
  | 8 => .array (.object "UnderFloor$Text")
  | 9 => .object "UnderFloor$Ways"
  | 10 => .object "UnderFloor$Job"
  | 11 => .object "UnderFloor$Job"
  | 12 => .object "UnderFloor$Run"
  | 13 => .object "UnderFloor$Search"
  | 14 => .object "UnderFloor$Thuds"
  | 15 => .int
  | 16 => .int
  | _ => .int
theorem nmX10 : ∀ a, a < 18 → ∀ b, b < 18 → a ≠ b → (TX10 a).2.1 ≠ (TX10 b).2.1 := by decide +kernel
theorem tyX10_ok : ∀ k, k < 18 → parseFieldDescriptor (TX10 k).2.2.1 = some (tyX10 k) := by decide +kernel
abbrev cX10_init : ByteArray := prog_1_method_1_code
def yX10_init : MethodName := ⟨RX10, "<init>", "()V"⟩
abbrev cX10_feed : ByteArray := prog_1_method_2_code
def yX10_feed : MethodName := ⟨RX10, "feed", "(IIIII)I"⟩
abbrev cX10_end : ByteArray := prog_1_method_3_code
def yX10_end : MethodName := ⟨RX10, "end", "(I)Z"⟩
abbrev cX10_fault : ByteArray := prog_1_method_4_code
def yX10_fault : MethodName := ⟨RX10, "fault", "(I)I"⟩
abbrev cX10_text : ByteArray := prog_1_method_5_code
def yX10_text : MethodName := ⟨RX10, "text", "(I)I"⟩
abbrev cX10_isSort : ByteArray := prog_1_method_6_code
def yX10_isSort : MethodName := ⟨RX10, "isSort", "(I)Z"⟩
abbrev cX10_faultOfTape : ByteArray := prog_1_method_7_code
def yX10_faultOfTape : MethodName := ⟨RX10, "faultOfTape", "(I)I"⟩
abbrev cX10_takeCellar : ByteArray := prog_1_method_8_code
def yX10_takeCellar : MethodName := ⟨RX10, "takeCellar", "()I"⟩
abbrev cX10_takePlay : ByteArray := prog_1_method_9_code
def yX10_takePlay : MethodName := ⟨RX10, "takePlay", "()I"⟩
abbrev cX10_takeLaw : ByteArray := prog_1_method_10_code
def yX10_takeLaw : MethodName := ⟨RX10, "takeLaw", "()I"⟩
abbrev cX10_crank : ByteArray := prog_1_method_11_code
def yX10_crank : MethodName := ⟨RX10, "crank", "(I)I"⟩
abbrev cX10_at : ByteArray := prog_1_method_12_code
def yX10_at : MethodName := ⟨RX10, "at", "(I)I"⟩
abbrev cX10_way : ByteArray := prog_1_method_13_code
def yX10_way : MethodName := ⟨RX10, "way", "(II)I"⟩
abbrev cX10_set : ByteArray := prog_1_method_14_code
def yX10_set : MethodName := ⟨RX10, "set", "(II)Z"⟩
abbrev cX10_wind : ByteArray := prog_1_method_15_code
def yX10_wind : MethodName := ⟨RX10, "wind", "(II)Z"⟩
abbrev cX10_swap : ByteArray := prog_1_method_16_code
def yX10_swap : MethodName := ⟨RX10, "swap", "(II)Z"⟩
abbrev cX10_knock : ByteArray := prog_1_method_17_code
def yX10_knock : MethodName := ⟨RX10, "knock", "(I)Z"⟩
abbrev cX10_image : ByteArray := prog_1_method_18_code
def yX10_image : MethodName := ⟨RX10, "image", "()I"⟩
abbrev cX10_back : ByteArray := prog_1_method_19_code
def yX10_back : MethodName := ⟨RX10, "back", "()I"⟩
abbrev cX10_out : ByteArray := prog_1_method_20_code
def yX10_out : MethodName := ⟨RX10, "out", "(I)I"⟩
abbrev cX10_dead : ByteArray := prog_1_method_21_code
def yX10_dead : MethodName := ⟨RX10, "dead", "()I"⟩
abbrev cX10_count : ByteArray := prog_1_method_22_code
def yX10_count : MethodName := ⟨RX10, "count", "(I)I"⟩
abbrev cX10_cue : ByteArray := prog_1_method_23_code
def yX10_cue : MethodName := ⟨RX10, "cue", "(III)I"⟩
abbrev cX10_order : ByteArray := prog_1_method_24_code
def yX10_order : MethodName := ⟨RX10, "order", "(III)I"⟩
abbrev cX10_done : ByteArray := prog_1_method_25_code
def yX10_done : MethodName := ⟨RX10, "done", "(IIII)I"⟩
abbrev cX10_where : ByteArray := prog_1_method_26_code
def yX10_where : MethodName := ⟨RX10, "where", "(III)I"⟩
abbrev cX10_walk : ByteArray := prog_1_method_27_code
def yX10_walk : MethodName := ⟨RX10, "walk", "(III)I"⟩
abbrev cX10_isPlay : ByteArray := prog_1_method_28_code
def yX10_isPlay : MethodName := ⟨RX10, "isPlay", "(I)Z"⟩
abbrev cX10_isHalf : ByteArray := prog_1_method_29_code
def yX10_isHalf : MethodName := ⟨RX10, "isHalf", "(I)Z"⟩
abbrev cX10_lawThatHolds : ByteArray := prog_1_method_30_code
def yX10_lawThatHolds : MethodName := ⟨RX10, "lawThatHolds", "()LUnderFloor$Text;"⟩
abbrev cX10_lay : ByteArray := prog_1_method_31_code
def yX10_lay : MethodName := ⟨RX10, "lay", "(I)Z"⟩
abbrev cX10_runs : ByteArray := prog_1_method_32_code
def yX10_runs : MethodName := ⟨RX10, "runs", "(II)Z"⟩
abbrev cX10_latesByBook : ByteArray := prog_1_method_33_code
def yX10_latesByBook : MethodName := ⟨RX10, "latesByBook", "(I)I"⟩
abbrev cX10_best : ByteArray := prog_1_method_34_code
def yX10_best : MethodName := ⟨RX10, "best", "(III)I"⟩
abbrev cX10_mend : ByteArray := prog_1_method_35_code
def yX10_mend : MethodName := ⟨RX10, "mend", "(III)I"⟩
abbrev cX10_told : ByteArray := prog_1_method_36_code
def yX10_told : MethodName := ⟨RX10, "told", "(III)I"⟩
abbrev cX10_leastLates : ByteArray := prog_1_method_37_code
def yX10_leastLates : MethodName := ⟨RX10, "leastLates", "()I"⟩
abbrev cX10_met : ByteArray := prog_1_method_38_code
def yX10_met : MethodName := ⟨RX10, "met", "(II)I"⟩
abbrev cX10_isMet : ByteArray := prog_1_method_39_code
def yX10_isMet : MethodName := ⟨RX10, "isMet", "(I)Z"⟩
abbrev cX10_knot : ByteArray := prog_1_method_40_code
def yX10_knot : MethodName := ⟨RX10, "knot", "(I)I"⟩
abbrev cX10_age : ByteArray := prog_1_method_41_code
def yX10_age : MethodName := ⟨RX10, "age", "(I)I"⟩
abbrev cX10_ageOfJob : ByteArray := prog_1_method_42_code
def yX10_ageOfJob : MethodName := ⟨RX10, "ageOfJob", "()I"⟩
abbrev cX10_first : ByteArray := prog_1_method_43_code
def yX10_first : MethodName := ⟨RX10, "first", "()I"⟩
abbrev cX10_post : ByteArray := prog_1_method_44_code
def yX10_post : MethodName := ⟨RX10, "post", "(II)I"⟩
abbrev cX10_rope : ByteArray := prog_1_method_45_code
def yX10_rope : MethodName := ⟨RX10, "rope", "(II)I"⟩
abbrev cX10_exchange : ByteArray := prog_1_method_46_code
def yX10_exchange : MethodName := ⟨RX10, "exchange", "(III)I"⟩
abbrev cX10_pillar : ByteArray := prog_1_method_47_code
def yX10_pillar : MethodName := ⟨RX10, "pillar", "(II)I"⟩
abbrev cX10_leastInTrial : ByteArray := prog_1_method_48_code
def yX10_leastInTrial : MethodName := ⟨RX10, "leastInTrial", "(I)I"⟩
abbrev cX10_leastTogether : ByteArray := prog_1_method_49_code
def yX10_leastTogether : MethodName := ⟨RX10, "leastTogether", "(II)I"⟩
abbrev cX10_urgent : ByteArray := prog_1_method_50_code
def yX10_urgent : MethodName := ⟨RX10, "urgent", "(I)I"⟩
abbrev cX10_skip : ByteArray := prog_1_method_51_code
def yX10_skip : MethodName := ⟨RX10, "skip", "(III)I"⟩
abbrev cX10_nights : ByteArray := prog_1_method_52_code
def yX10_nights : MethodName := ⟨RX10, "nights", "(III)I"⟩
abbrev cX10_slack : ByteArray := prog_1_method_53_code
def yX10_slack : MethodName := ⟨RX10, "slack", "(II)I"⟩
abbrev cX10_thud : ByteArray := prog_1_method_54_code
def yX10_thud : MethodName := ⟨RX10, "thud", "(II)I"⟩
abbrev cX10_fit : ByteArray := prog_1_method_55_code
def yX10_fit : MethodName := ⟨RX10, "fit", "(II)I"⟩
abbrev cX10_boy : ByteArray := prog_1_method_56_code
def yX10_boy : MethodName := ⟨RX10, "boy", "(IIII)I"⟩
def RX11 : String := "UnderFloorModel"
def TX11 : u_T := fun k => match k with
  | 0 => ("UnderFloorModel", "thrown", "I", false)
  | 1 => ("UnderFloorModel", "tape", "[I", true)
  | 2 => ("UnderFloorModel", "size", "I", false)
  | 3 => ("UnderFloorModel", "at", "I", false)
  | 4 => ("UnderFloorModel", "wrong", "I", false)
  | 5 => ("UnderFloorModel", "deep", "I", false)
  | 6 => ("UnderFloorModel", "code", "[I", true)
  | 7 => ("UnderFloorModel", "value", "[I", true)
  | 8 => ("UnderFloorModel", "codes", "[I", true)
  | 9 => ("UnderFloorModel", "clauses", "[I", true)
  | 10 => ("UnderFloorModel", "testFrom", "[I", true)
  | 11 => ("UnderFloorModel", "sumFrom", "[I", true)
  | 12 => ("UnderFloorModel", "sumTo", "[I", true)
  | 13 => ("UnderFloorModel", "laws", "I", false)
  | 14 => ("UnderFloorModel", "text", "I", false)
  | 15 => ("UnderFloorModel", "letters", "[I", true)
  | 16 => ("UnderFloorModel", "stack", "[I", true)
  | 17 => ("UnderFloorModel", "readAt", "[I", true)
  | 18 => ("UnderFloorModel", "readRows", "I", false)
  | 19 => ("UnderFloorModel", "readWide", "I", false)
  | 20 => ("UnderFloorModel", "readCranks", "I", false)
  | 21 => ("UnderFloorModel", "readStart", "Z", false)
  | 22 => ("UnderFloorModel", "now", "[I", true)
  | 23 => ("UnderFloorModel", "rows", "I", false)
  | 24 => ("UnderFloorModel", "wide", "I", false)
  | 25 => ("UnderFloorModel", "cueCrank", "[I", true)
  | 26 => ("UnderFloorModel", "cueNumber", "[I", true)
  | 27 => ("UnderFloorModel", "cueMany", "[I", true)
  | 28 => ("UnderFloorModel", "plays", "I", false)
  | 29 => ("UnderFloorModel", "winds", "[I", true)
  | 30 => ("UnderFloorModel", "stoop", "I", false)
  | 31 => ("UnderFloorModel", "night", "I", false)
  | 32 => ("UnderFloorModel", "holding", "I", false)
  | 33 => ("UnderFloorModel", "steps", "[I", true)
  | 34 => ("UnderFloorModel", "times", "[I", true)
  | 35 => ("UnderFloorModel", "between", "[I", true)
  | 36 => ("UnderFloorModel", "windOf", "[I", true)
  | 37 => ("UnderFloorModel", "many", "I", false)
  | 38 => ("UnderFloorModel", "pace", "I", false)
  | 39 => ("UnderFloorModel", "comes", "[I", true)
  | 40 => ("UnderFloorModel", "dones", "[I", true)
  | 41 => ("UnderFloorModel", "bestOrder", "I", false)
  | 42 => ("UnderFloorModel", "bestValue", "I", false)
  | 43 => ("UnderFloorModel", "thudAt", "[I", true)
  | 44 => ("UnderFloorModel", "thudCrank", "[I", true)
  | 45 => ("UnderFloorModel", "thuds", "I", false)
  | 46 => ("UnderFloorModel", "fitMany", "I", false)
  | 47 => ("UnderFloorModel", "fitFound", "I", false)
  | 48 => ("UnderFloorModel", "hands", "[I", true)
  | 49 => ("UnderFloorModel", "imageAt", "[I", true)
  | 50 => ("UnderFloorModel", "imageWinds", "[I", true)
  | 51 => ("UnderFloorModel", "imageStoop", "I", false)
  | 52 => ("UnderFloorModel", "imageNight", "I", false)
  | _ => ("UnderFloorModel", "hasImage", "Z", false)
def tyX11 : Nat → FieldType := fun k => match k with
  | 0 => .int
  | 1 => .array .int
  | 2 => .int
  | 3 => .int
  | 4 => .int
  | 5 => .int
  | 6 => .array .int
  | 7 => .array .int
  | 8 => .array .int
  | 9 => .array .int
  | 10 => .array .int
  | 11 => .array .int
  | 12 => .array .int
  | 13 => .int
  | 14 => .int
  | 15 => .array .int
  | 16 => .array .int
  | 17 => .array .int
  | 18 => .int
  | 19 => .int
  | 20 => .int
  | 21 => .boolean
  | 22 => .array .int
  | 23 => .int
  | 24 => .int
  | 25 => .array .int
  | 26 => .array .int
  | 27 => .array .int
  | 28 => .int
  | 29 => .array .int
  | 30 => .int
  | 31 => .int
  | 32 => .int
  | 33 => .array .int
  | 34 => .array .int
  | 35 => .array .int
  | 36 => .array .int
  | 37 => .int
  | 38 => .int
  | 39 => .array .int
  | 40 => .array .int
  | 41 => .int
  | 42 => .int
  | 43 => .array .int
  | 44 => .array .int
  | 45 => .int
  | 46 => .int
  | 47 => .int
  | 48 => .array .int
  | 49 => .array .int
  | 50 => .array .int
  | 51 => .int
  | 52 => .int
  | _ => .boolean
theorem nmX11 : ∀ a, a < 54 → ∀ b, b < 54 → a ≠ b → (TX11 a).2.1 ≠ (TX11 b).2.1 := by decide +kernel
theorem tyX11_ok : ∀ k, k < 54 → parseFieldDescriptor (TX11 k).2.2.1 = some (tyX11 k) := by decide +kernel
abbrev cX11_in : ByteArray := prog_13_method_1_code
def yX11_in : MethodName := ⟨RX11, "in", "(III)Z"⟩
abbrev cX11_has : ByteArray := prog_13_method_2_code
def yX11_has : MethodName := ⟨RX11, "has", "(II)Z"⟩
abbrev cX11_init : ByteArray := prog_13_method_3_code
def yX11_init : MethodName := ⟨RX11, "<init>", "()V"⟩
abbrev cX11_byteOf : ByteArray := prog_13_method_5_code
def yX11_byteOf : MethodName := ⟨RX11, "byteOf", "(IIIIII)I"⟩
abbrev cX11_feed : ByteArray := prog_13_method_6_code
def yX11_feed : MethodName := ⟨RX11, "feed", "(IIIII)I"⟩
abbrev cX11_end : ByteArray := prog_13_method_7_code
def yX11_end : MethodName := ⟨RX11, "end", "(I)Z"⟩
abbrev cX11_here : ByteArray := prog_13_method_8_code
def yX11_here : MethodName := ⟨RX11, "here", "()I"⟩
abbrev cX11_look : ByteArray := prog_13_method_9_code
def yX11_look : MethodName := ⟨RX11, "look", "()I"⟩
abbrev cX11_bad : ByteArray := prog_13_method_10_code
def yX11_bad : MethodName := ⟨RX11, "bad", "()V"⟩
abbrev cX11_isDigit : ByteArray := prog_13_method_11_code
def yX11_isDigit : MethodName := ⟨RX11, "isDigit", "(I)Z"⟩
abbrev cX11_put : ByteArray := prog_13_method_12_code
def yX11_put : MethodName := ⟨RX11, "put", "(II)V"⟩
abbrev cX11_letterOf : ByteArray := prog_13_method_13_code
def yX11_letterOf : MethodName := ⟨RX11, "letterOf", "(I)I"⟩
abbrev cX11_opens : ByteArray := prog_13_method_14_code
def yX11_opens : MethodName := ⟨RX11, "opens", "()V"⟩
abbrev cX11_closes : ByteArray := prog_13_method_15_code
def yX11_closes : MethodName := ⟨RX11, "closes", "(I)V"⟩
abbrev cX11_plainNumber : ByteArray := prog_13_method_16_code
def yX11_plainNumber : MethodName := ⟨RX11, "plainNumber", "()I"⟩
abbrev cX11_atom : ByteArray := prog_13_method_17_code
def yX11_atom : MethodName := ⟨RX11, "atom", "()V"⟩
abbrev cX11_term : ByteArray := prog_13_method_18_code
def yX11_term : MethodName := ⟨RX11, "term", "()V"⟩
abbrev cX11_sum : ByteArray := prog_13_method_19_code
def yX11_sum : MethodName := ⟨RX11, "sum", "()V"⟩
abbrev cX11_isSign : ByteArray := prog_13_method_20_code
def yX11_isSign : MethodName := ⟨RX11, "isSign", "(I)Z"⟩
abbrev cX11_compare : ByteArray := prog_13_method_21_code
def yX11_compare : MethodName := ⟨RX11, "compare", "()V"⟩
abbrev cX11_unit : ByteArray := prog_13_method_22_code
def yX11_unit : MethodName := ⟨RX11, "unit", "()V"⟩
abbrev cX11_goOnAnd : ByteArray := prog_13_method_23_code
def yX11_goOnAnd : MethodName := ⟨RX11, "goOnAnd", "()V"⟩
abbrev cX11_goOnOr : ByteArray := prog_13_method_24_code
def yX11_goOnOr : MethodName := ⟨RX11, "goOnOr", "()V"⟩
abbrev cX11_condition : ByteArray := prog_13_method_25_code
def yX11_condition : MethodName := ⟨RX11, "condition", "()V"⟩
abbrev cX11_clause : ByteArray := prog_13_method_26_code
def yX11_clause : MethodName := ⟨RX11, "clause", "()V"⟩
abbrev cX11_open : ByteArray := prog_13_method_27_code
def yX11_open : MethodName := ⟨RX11, "open", "(I)V"⟩
abbrev cX11_atEnd : ByteArray := prog_13_method_28_code
def yX11_atEnd : MethodName := ⟨RX11, "atEnd", "()I"⟩
abbrev cX11_readLaw : ByteArray := prog_13_method_29_code
def yX11_readLaw : MethodName := ⟨RX11, "readLaw", "(I)I"⟩
abbrev cX11_bounded : ByteArray := prog_13_method_30_code
def yX11_bounded : MethodName := ⟨RX11, "bounded", "(J)I"⟩
abbrev cX11_worked : ByteArray := prog_13_method_31_code
def yX11_worked : MethodName := ⟨RX11, "worked", "(IJJ)I"⟩
abbrev cX11_workOut : ByteArray := prog_13_method_32_code
def yX11_workOut : MethodName := ⟨RX11, "workOut", "(III)I"⟩
abbrev cX11_worthOf : ByteArray := prog_13_method_33_code
def yX11_worthOf : MethodName := ⟨RX11, "worthOf", "(I)I"⟩
abbrev cX11_signOf : ByteArray := prog_13_method_34_code
def yX11_signOf : MethodName := ⟨RX11, "signOf", "(I)I"⟩
abbrev cX11_rowText : ByteArray := prog_13_method_35_code
def yX11_rowText : MethodName := ⟨RX11, "rowText", "()V"⟩
abbrev cX11_readCellar : ByteArray := prog_13_method_36_code
def yX11_readCellar : MethodName := ⟨RX11, "readCellar", "()I"⟩
abbrev cX11_readPlay : ByteArray := prog_13_method_37_code
def yX11_readPlay : MethodName := ⟨RX11, "readPlay", "(I)I"⟩
abbrev cX11_cueText : ByteArray := prog_13_method_38_code
def yX11_cueText : MethodName := ⟨RX11, "cueText", "(I)V"⟩
abbrev cX11_fault : ByteArray := prog_13_method_39_code
def yX11_fault : MethodName := ⟨RX11, "fault", "(I)I"⟩
abbrev cX11_takeCellar : ByteArray := prog_13_method_40_code
def yX11_takeCellar : MethodName := ⟨RX11, "takeCellar", "()I"⟩
abbrev cX11_text : ByteArray := prog_13_method_41_code
def yX11_text : MethodName := ⟨RX11, "text", "(I)I"⟩
abbrev cX11_isPlace : ByteArray := prog_13_method_42_code
def yX11_isPlace : MethodName := ⟨RX11, "isPlace", "(I)Z"⟩
abbrev cX11_placeOf : ByteArray := prog_13_method_43_code
def yX11_placeOf : MethodName := ⟨RX11, "placeOf", "(I)I"⟩
abbrev cX11_isCrank : ByteArray := prog_13_method_44_code
def yX11_isCrank : MethodName := ⟨RX11, "isCrank", "(I)Z"⟩
abbrev cX11_crank : ByteArray := prog_13_method_45_code
def yX11_crank : MethodName := ⟨RX11, "crank", "(I)I"⟩
abbrev cX11_at : ByteArray := prog_13_method_46_code
def yX11_at : MethodName := ⟨RX11, "at", "(I)I"⟩
abbrev cX11_spread : ByteArray := prog_13_method_47_code
def yX11_spread : MethodName := ⟨RX11, "spread", "(I)V"⟩
abbrev cX11_reach : ByteArray := prog_13_method_48_code
def yX11_reach : MethodName := ⟨RX11, "reach", "(II)V"⟩
abbrev cX11_isOpen : ByteArray := prog_13_method_49_code
def yX11_isOpen : MethodName := ⟨RX11, "isOpen", "(I)Z"⟩
abbrev cX11_way : ByteArray := prog_13_method_50_code
def yX11_way : MethodName := ⟨RX11, "way", "(II)I"⟩
abbrev cX11_isPlay : ByteArray := prog_13_method_51_code
def yX11_isPlay : MethodName := ⟨RX11, "isPlay", "(I)Z"⟩
abbrev cX11_layTimes : ByteArray := prog_13_method_52_code
def yX11_layTimes : MethodName := ⟨RX11, "layTimes", "(II)V"⟩
abbrev cX11_cue : ByteArray := prog_13_method_53_code
def yX11_cue : MethodName := ⟨RX11, "cue", "(III)I"⟩
abbrev cX11_set : ByteArray := prog_13_method_54_code
def yX11_set : MethodName := ⟨RX11, "set", "(II)Z"⟩
abbrev cX11_wind : ByteArray := prog_13_method_55_code
def yX11_wind : MethodName := ⟨RX11, "wind", "(II)Z"⟩
abbrev cX11_change : ByteArray := prog_13_method_56_code
def yX11_change : MethodName := ⟨RX11, "change", "(II)V"⟩
abbrev cX11_swap : ByteArray := prog_13_method_57_code
def yX11_swap : MethodName := ⟨RX11, "swap", "(II)Z"⟩
abbrev cX11_knock : ByteArray := prog_13_method_58_code
def yX11_knock : MethodName := ⟨RX11, "knock", "(I)Z"⟩
abbrev cX11_lay : ByteArray := prog_13_method_59_code
def yX11_lay : MethodName := ⟨RX11, "lay", "(III)V"⟩
abbrev cX11_isReady : ByteArray := prog_13_method_60_code
def yX11_isReady : MethodName := ⟨RX11, "isReady", "(I)Z"⟩
abbrev cX11_ten : ByteArray := prog_13_method_61_code
def yX11_ten : MethodName := ⟨RX11, "ten", "(I)I"⟩
abbrev cX11_nth : ByteArray := prog_13_method_62_code
def yX11_nth : MethodName := ⟨RX11, "nth", "(II)I"⟩
abbrev cX11_isOrder : ByteArray := prog_13_method_63_code
def yX11_isOrder : MethodName := ⟨RX11, "isOrder", "(I)Z"⟩
abbrev cX11_go : ByteArray := prog_13_method_64_code
def yX11_go : MethodName := ⟨RX11, "go", "(I)Z"⟩
abbrev cX11_late : ByteArray := prog_13_method_65_code
def yX11_late : MethodName := ⟨RX11, "late", "(I)I"⟩
abbrev cX11_tellOf : ByteArray := prog_13_method_66_code
def yX11_tellOf : MethodName := ⟨RX11, "tellOf", "(II)I"⟩
abbrev cX11_order : ByteArray := prog_13_method_67_code
def yX11_order : MethodName := ⟨RX11, "order", "(III)I"⟩
abbrev cX11_done : ByteArray := prog_13_method_68_code
def yX11_done : MethodName := ⟨RX11, "done", "(IIII)I"⟩
abbrev cX11_where : ByteArray := prog_13_method_69_code
def yX11_where : MethodName := ⟨RX11, "where", "(III)I"⟩
abbrev cX11_search : ByteArray := prog_13_method_70_code
def yX11_search : MethodName := ⟨RX11, "search", "(IIIIII)V"⟩
abbrev cX11_leastOf : ByteArray := prog_13_method_71_code
def yX11_leastOf : MethodName := ⟨RX11, "leastOf", "(II)I"⟩
abbrev cX11_all : ByteArray := prog_13_method_72_code
def yX11_all : MethodName := ⟨RX11, "all", "()I"⟩
abbrev cX11_best : ByteArray := prog_13_method_73_code
def yX11_best : MethodName := ⟨RX11, "best", "(III)I"⟩
abbrev cX11_met : ByteArray := prog_13_method_74_code
def yX11_met : MethodName := ⟨RX11, "met", "(II)I"⟩
abbrev cX11_knot : ByteArray := prog_13_method_75_code
def yX11_knot : MethodName := ⟨RX11, "knot", "(I)I"⟩
abbrev cX11_ageOf : ByteArray := prog_13_method_76_code
def yX11_ageOf : MethodName := ⟨RX11, "ageOf", "(I)I"⟩
abbrev cX11_age : ByteArray := prog_13_method_77_code
def yX11_age : MethodName := ⟨RX11, "age", "(I)I"⟩
abbrev cX11_first : ByteArray := prog_13_method_78_code
def yX11_first : MethodName := ⟨RX11, "first", "()I"⟩
abbrev cX11_leastNow : ByteArray := prog_13_method_79_code
def yX11_leastNow : MethodName := ⟨RX11, "leastNow", "(I)I"⟩
abbrev cX11_post : ByteArray := prog_13_method_80_code
def yX11_post : MethodName := ⟨RX11, "post", "(II)I"⟩
abbrev cX11_rope : ByteArray := prog_13_method_81_code
def yX11_rope : MethodName := ⟨RX11, "rope", "(II)I"⟩
abbrev cX11_bothNow : ByteArray := prog_13_method_82_code
def yX11_bothNow : MethodName := ⟨RX11, "bothNow", "(II)I"⟩
abbrev cX11_exchange : ByteArray := prog_13_method_83_code
def yX11_exchange : MethodName := ⟨RX11, "exchange", "(III)I"⟩
abbrev cX11_skip : ByteArray := prog_13_method_84_code
def yX11_skip : MethodName := ⟨RX11, "skip", "(III)I"⟩
abbrev cX11_book : ByteArray := prog_13_method_85_code
def yX11_book : MethodName := ⟨RX11, "book", "()I"⟩
abbrev cX11_nights : ByteArray := prog_13_method_86_code
def yX11_nights : MethodName := ⟨RX11, "nights", "(III)I"⟩
abbrev cX11_thud : ByteArray := prog_13_method_87_code
def yX11_thud : MethodName := ⟨RX11, "thud", "(II)I"⟩
abbrev cX11_fits : ByteArray := prog_13_method_88_code
def yX11_fits : MethodName := ⟨RX11, "fits", "(I)Z"⟩
abbrev cX11_fitFrom : ByteArray := prog_13_method_89_code
def yX11_fitFrom : MethodName := ⟨RX11, "fitFrom", "(IIII)V"⟩
abbrev cX11_fit : ByteArray := prog_13_method_90_code
def yX11_fit : MethodName := ⟨RX11, "fit", "(II)I"⟩
abbrev cX11_boy : ByteArray := prog_13_method_91_code
def yX11_boy : MethodName := ⟨RX11, "boy", "(IIII)I"⟩
abbrev cX11_out : ByteArray := prog_13_method_92_code
def yX11_out : MethodName := ⟨RX11, "out", "(I)I"⟩
abbrev cX11_walk : ByteArray := prog_13_method_93_code
def yX11_walk : MethodName := ⟨RX11, "walk", "(III)I"⟩
abbrev cX11_mend : ByteArray := prog_13_method_94_code
def yX11_mend : MethodName := ⟨RX11, "mend", "(III)I"⟩
abbrev cX11_slack : ByteArray := prog_13_method_95_code
def yX11_slack : MethodName := ⟨RX11, "slack", "(II)I"⟩
abbrev cX11_urgent : ByteArray := prog_13_method_96_code
def yX11_urgent : MethodName := ⟨RX11, "urgent", "(I)I"⟩
abbrev cX11_dead : ByteArray := prog_13_method_97_code
def yX11_dead : MethodName := ⟨RX11, "dead", "()I"⟩
abbrev cX11_pillar : ByteArray := prog_13_method_98_code
def yX11_pillar : MethodName := ⟨RX11, "pillar", "(II)I"⟩
abbrev cX11_posts : ByteArray := prog_13_method_99_code
def yX11_posts : MethodName := ⟨RX11, "posts", "()I"⟩
abbrev cX11_image : ByteArray := prog_13_method_100_code
def yX11_image : MethodName := ⟨RX11, "image", "()I"⟩
abbrev cX11_back : ByteArray := prog_13_method_101_code
def yX11_back : MethodName := ⟨RX11, "back", "()I"⟩
abbrev cX11_cranks : ByteArray := prog_13_method_102_code
def yX11_cranks : MethodName := ⟨RX11, "cranks", "()I"⟩
abbrev cX11_count : ByteArray := prog_13_method_103_code
def yX11_count : MethodName := ⟨RX11, "count", "(I)I"⟩
def RJ6 : String := "java/lang/Integer"
abbrev cJ6_bitCount_0f7a4 : ByteArray := prog_16_method_49_code
def yJ6_bitCount_0f7a4 : MethodName := ⟨RJ6, "bitCount", "(I)I"⟩
def RJ9 : String := "java/lang/Math"
abbrev cJ9_max_7cf53 : ByteArray := prog_17_method_65_code
def yJ9_max_7cf53 : MethodName := ⟨RJ9, "max", "(II)I"⟩
abbrev cJ9_max_f86c9 : ByteArray := prog_17_method_66_code
def yJ9_max_f86c9 : MethodName := ⟨RJ9, "max", "(JJ)J"⟩
abbrev cJ9_min_7cf53 : ByteArray := prog_17_method_69_code
def yJ9_min_7cf53 : MethodName := ⟨RJ9, "min", "(II)I"⟩
abbrev cJ9_min_f86c9 : ByteArray := prog_17_method_70_code
def yJ9_min_f86c9 : MethodName := ⟨RJ9, "min", "(JJ)J"⟩
def RJ0 : String := "java/lang/String"
def RJ10 : String := "java/lang/System"
def RL : String := "UnderFloorLaw"
abbrev cL_crank : ByteArray := method_3_code
def yL_crank : MethodName := ⟨RL, "crank", "(LUnderFloor;I[J)I"⟩
abbrev cL_law : ByteArray := code
def yL_law : MethodName := ⟨RL, "law", "([I)Z"⟩
abbrev vwCl : List vw_C := [(RX0, TX0, 9), (RX1, TX1, 7), (RX2, TX2, 6), (RX3, TX3, 3), (RX4, TX4, 3), (RX5, TX5, 10), (RX6, TX6, 9), (RX7, TX7, 2), (RX8, TX8, 7), (RX9, TX9, 3), (RX10, TX10, 18), (RX11, TX11, 54)]
