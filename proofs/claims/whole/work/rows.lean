section
-- ===== PART A: goes FIRST, ahead of the names: the tables' words, and 'selects' of the private methods out of them =====
/-- a private method of a class that the tables say can be made, by its rows of tables_1 -/
def lw_okq (q : MethodName × Nat) : Prop := (q.1.cls ≠ "java/lang/invoke/MethodHandle" ∧ q.1.cls ≠ "java/lang/invoke/VarHandle") ∧ Cond.instantiable q.1.cls q.2 ∈ tables_1 ∧ Cond.privateMethod q.1 ∈ tables_1 ∧ Cond.instanceMethod q.1 ∈ tables_1
theorem lw_p0 : lw_okq (⟨"UnderFloor", "faultOfTape", "(I)I"⟩, 18) := ⟨⟨by decide +kernel, by decide +kernel⟩, List.mem_of_getElem? (i := 21) (by decide +kernel), List.mem_of_getElem? (i := 409) (by decide +kernel), List.mem_of_getElem? (i := 410) (by decide +kernel)⟩
theorem lw_p1 : lw_okq (⟨"UnderFloor$Cellar", "readRow", "(LUnderFloor$Reader;I)V"⟩, 9) := ⟨⟨by decide +kernel, by decide +kernel⟩, List.mem_of_getElem? (i := 93) (by decide +kernel), List.mem_of_getElem? (i := 421) (by decide +kernel), List.mem_of_getElem? (i := 422) (by decide +kernel)⟩
theorem lw_p2 : lw_okq (⟨"UnderFloor$Cellar", "put", "(LUnderFloor$Reader;II)V"⟩, 9) := ⟨⟨by decide +kernel, by decide +kernel⟩, List.mem_of_getElem? (i := 93) (by decide +kernel), List.mem_of_getElem? (i := 432) (by decide +kernel), List.mem_of_getElem? (i := 433) (by decide +kernel)⟩
theorem lw_p3 : lw_okq (⟨"UnderFloor$Play", "readCue", "(LUnderFloor$Reader;I)V"⟩, 3) := ⟨⟨by decide +kernel, by decide +kernel⟩, List.mem_of_getElem? (i := 139) (by decide +kernel), List.mem_of_getElem? (i := 462) (by decide +kernel), List.mem_of_getElem? (i := 463) (by decide +kernel)⟩
theorem lw_p4 : lw_okq (⟨"UnderFloor$Law", "worth", "()I"⟩, 6) := ⟨⟨by decide +kernel, by decide +kernel⟩, List.mem_of_getElem? (i := 68) (by decide +kernel), List.mem_of_getElem? (i := 482) (by decide +kernel), List.mem_of_getElem? (i := 483) (by decide +kernel)⟩
theorem lw_p5 : lw_okq (⟨"UnderFloor$Law", "startsCondition", "()Z"⟩, 6) := ⟨⟨by decide +kernel, by decide +kernel⟩, List.mem_of_getElem? (i := 68) (by decide +kernel), List.mem_of_getElem? (i := 490) (by decide +kernel), List.mem_of_getElem? (i := 491) (by decide +kernel)⟩
theorem lw_p6 : lw_okq (⟨"UnderFloor$Law", "sum", "(I)I"⟩, 6) := ⟨⟨by decide +kernel, by decide +kernel⟩, List.mem_of_getElem? (i := 68) (by decide +kernel), List.mem_of_getElem? (i := 495) (by decide +kernel), List.mem_of_getElem? (i := 496) (by decide +kernel)⟩
theorem lw_p7 : lw_okq (⟨"UnderFloor$Law", "term", "(I)I"⟩, 6) := ⟨⟨by decide +kernel, by decide +kernel⟩, List.mem_of_getElem? (i := 68) (by decide +kernel), List.mem_of_getElem? (i := 499) (by decide +kernel), List.mem_of_getElem? (i := 500) (by decide +kernel)⟩
theorem lw_p8 : lw_okq (⟨"UnderFloor$Law", "atom", "(I)I"⟩, 6) := ⟨⟨by decide +kernel, by decide +kernel⟩, List.mem_of_getElem? (i := 68) (by decide +kernel), List.mem_of_getElem? (i := 503) (by decide +kernel), List.mem_of_getElem? (i := 504) (by decide +kernel)⟩
theorem lw_p9 : lw_okq (⟨"UnderFloor$Law", "letter", "(I)I"⟩, 6) := ⟨⟨by decide +kernel, by decide +kernel⟩, List.mem_of_getElem? (i := 68) (by decide +kernel), List.mem_of_getElem? (i := 510) (by decide +kernel), List.mem_of_getElem? (i := 511) (by decide +kernel)⟩
theorem lw_p10 : lw_okq (⟨"UnderFloor$Law", "condition", "(I)Z"⟩, 6) := ⟨⟨by decide +kernel, by decide +kernel⟩, List.mem_of_getElem? (i := 68) (by decide +kernel), List.mem_of_getElem? (i := 530) (by decide +kernel), List.mem_of_getElem? (i := 531) (by decide +kernel)⟩
theorem lw_p11 : lw_okq (⟨"UnderFloor$Law", "truth", "(I)Z"⟩, 6) := ⟨⟨by decide +kernel, by decide +kernel⟩, List.mem_of_getElem? (i := 68) (by decide +kernel), List.mem_of_getElem? (i := 534) (by decide +kernel), List.mem_of_getElem? (i := 535) (by decide +kernel)⟩
theorem lw_p12 : lw_okq (⟨"UnderFloor$Law", "unit", "(I)Z"⟩, 6) := ⟨⟨by decide +kernel, by decide +kernel⟩, List.mem_of_getElem? (i := 68) (by decide +kernel), List.mem_of_getElem? (i := 538) (by decide +kernel), List.mem_of_getElem? (i := 539) (by decide +kernel)⟩
theorem lw_p13 : lw_okq (⟨"UnderFloor$Law", "comparison", "(I)Z"⟩, 6) := ⟨⟨by decide +kernel, by decide +kernel⟩, List.mem_of_getElem? (i := 68) (by decide +kernel), List.mem_of_getElem? (i := 542) (by decide +kernel), List.mem_of_getElem? (i := 543) (by decide +kernel)⟩
theorem lw_p14 : lw_okq (⟨"UnderFloor$Law", "denied", "(I)Z"⟩, 6) := ⟨⟨by decide +kernel, by decide +kernel⟩, List.mem_of_getElem? (i := 68) (by decide +kernel), List.mem_of_getElem? (i := 546) (by decide +kernel), List.mem_of_getElem? (i := 547) (by decide +kernel)⟩
theorem lw_p15 : lw_okq (⟨"UnderFloor$Law", "enclosed", "(I)Z"⟩, 6) := ⟨⟨by decide +kernel, by decide +kernel⟩, List.mem_of_getElem? (i := 68) (by decide +kernel), List.mem_of_getElem? (i := 550) (by decide +kernel), List.mem_of_getElem? (i := 551) (by decide +kernel)⟩
def lw_privs_1 : List (MethodName × Nat) := [(⟨"UnderFloor", "faultOfTape", "(I)I"⟩, 18), (⟨"UnderFloor$Cellar", "readRow", "(LUnderFloor$Reader;I)V"⟩, 9), (⟨"UnderFloor$Cellar", "put", "(LUnderFloor$Reader;II)V"⟩, 9), (⟨"UnderFloor$Play", "readCue", "(LUnderFloor$Reader;I)V"⟩, 3), (⟨"UnderFloor$Law", "worth", "()I"⟩, 6), (⟨"UnderFloor$Law", "startsCondition", "()Z"⟩, 6), (⟨"UnderFloor$Law", "sum", "(I)I"⟩, 6), (⟨"UnderFloor$Law", "term", "(I)I"⟩, 6), (⟨"UnderFloor$Law", "atom", "(I)I"⟩, 6), (⟨"UnderFloor$Law", "letter", "(I)I"⟩, 6), (⟨"UnderFloor$Law", "condition", "(I)Z"⟩, 6), (⟨"UnderFloor$Law", "truth", "(I)Z"⟩, 6), (⟨"UnderFloor$Law", "unit", "(I)Z"⟩, 6), (⟨"UnderFloor$Law", "comparison", "(I)Z"⟩, 6), (⟨"UnderFloor$Law", "denied", "(I)Z"⟩, 6), (⟨"UnderFloor$Law", "enclosed", "(I)Z"⟩, 6)]
theorem lw_r1 : ∀ q ∈ lw_privs_1, lw_okq q := List.forall_mem_cons.mpr ⟨lw_p0, List.forall_mem_cons.mpr ⟨lw_p1, List.forall_mem_cons.mpr ⟨lw_p2, List.forall_mem_cons.mpr ⟨lw_p3, List.forall_mem_cons.mpr ⟨lw_p4, List.forall_mem_cons.mpr ⟨lw_p5, List.forall_mem_cons.mpr ⟨lw_p6, List.forall_mem_cons.mpr ⟨lw_p7, List.forall_mem_cons.mpr ⟨lw_p8, List.forall_mem_cons.mpr ⟨lw_p9, List.forall_mem_cons.mpr ⟨lw_p10, List.forall_mem_cons.mpr ⟨lw_p11, List.forall_mem_cons.mpr ⟨lw_p12, List.forall_mem_cons.mpr ⟨lw_p13, List.forall_mem_cons.mpr ⟨lw_p14, List.forall_mem_cons.mpr ⟨lw_p15, fun _ h => absurd h List.not_mem_nil⟩⟩⟩⟩⟩⟩⟩⟩⟩⟩⟩⟩⟩⟩⟩⟩
theorem lw_p16 : lw_okq (⟨"UnderFloor", "takeCellar", "()I"⟩, 18) := ⟨⟨by decide +kernel, by decide +kernel⟩, List.mem_of_getElem? (i := 21) (by decide +kernel), List.mem_of_getElem? (i := 559) (by decide +kernel), List.mem_of_getElem? (i := 560) (by decide +kernel)⟩
theorem lw_p17 : lw_okq (⟨"UnderFloor", "takePlay", "()I"⟩, 18) := ⟨⟨by decide +kernel, by decide +kernel⟩, List.mem_of_getElem? (i := 21) (by decide +kernel), List.mem_of_getElem? (i := 564) (by decide +kernel), List.mem_of_getElem? (i := 565) (by decide +kernel)⟩
theorem lw_p18 : lw_okq (⟨"UnderFloor", "takeLaw", "()I"⟩, 18) := ⟨⟨by decide +kernel, by decide +kernel⟩, List.mem_of_getElem? (i := 21) (by decide +kernel), List.mem_of_getElem? (i := 568) (by decide +kernel), List.mem_of_getElem? (i := 569) (by decide +kernel)⟩
theorem lw_p19 : lw_okq (⟨"UnderFloor$Ways", "reach", "(LUnderFloor$Cellar;II)V"⟩, 3) := ⟨⟨by decide +kernel, by decide +kernel⟩, List.mem_of_getElem? (i := 164) (by decide +kernel), List.mem_of_getElem? (i := 595) (by decide +kernel), List.mem_of_getElem? (i := 596) (by decide +kernel)⟩
theorem lw_p20 : lw_okq (⟨"UnderFloor", "isPlay", "(I)Z"⟩, 18) := ⟨⟨by decide +kernel, by decide +kernel⟩, List.mem_of_getElem? (i := 21) (by decide +kernel), List.mem_of_getElem? (i := 682) (by decide +kernel), List.mem_of_getElem? (i := 683) (by decide +kernel)⟩
theorem lw_p21 : lw_okq (⟨"UnderFloor", "lawThatHolds", "()LUnderFloor$Text;"⟩, 18) := ⟨⟨by decide +kernel, by decide +kernel⟩, List.mem_of_getElem? (i := 21) (by decide +kernel), List.mem_of_getElem? (i := 686) (by decide +kernel), List.mem_of_getElem? (i := 687) (by decide +kernel)⟩
theorem lw_p22 : lw_okq (⟨"UnderFloor", "runs", "(II)Z"⟩, 18) := ⟨⟨by decide +kernel, by decide +kernel⟩, List.mem_of_getElem? (i := 21) (by decide +kernel), List.mem_of_getElem? (i := 705) (by decide +kernel), List.mem_of_getElem? (i := 706) (by decide +kernel)⟩
theorem lw_p23 : lw_okq (⟨"UnderFloor", "lay", "(I)Z"⟩, 18) := ⟨⟨by decide +kernel, by decide +kernel⟩, List.mem_of_getElem? (i := 21) (by decide +kernel), List.mem_of_getElem? (i := 709) (by decide +kernel), List.mem_of_getElem? (i := 710) (by decide +kernel)⟩
theorem lw_p24 : lw_okq (⟨"UnderFloor$Job", "measure", "(LUnderFloor$Cellar;II)V"⟩, 7) := ⟨⟨by decide +kernel, by decide +kernel⟩, List.mem_of_getElem? (i := 180) (by decide +kernel), List.mem_of_getElem? (i := 721) (by decide +kernel), List.mem_of_getElem? (i := 722) (by decide +kernel)⟩
theorem lw_p25 : lw_okq (⟨"UnderFloor$Run", "addLate", "(I)V"⟩, 10) := ⟨⟨by decide +kernel, by decide +kernel⟩, List.mem_of_getElem? (i := 218) (by decide +kernel), List.mem_of_getElem? (i := 755) (by decide +kernel), List.mem_of_getElem? (i := 756) (by decide +kernel)⟩
theorem lw_p26 : lw_okq (⟨"UnderFloor", "told", "(III)I"⟩, 18) := ⟨⟨by decide +kernel, by decide +kernel⟩, List.mem_of_getElem? (i := 21) (by decide +kernel), List.mem_of_getElem? (i := 783) (by decide +kernel), List.mem_of_getElem? (i := 784) (by decide +kernel)⟩
theorem lw_p27 : lw_okq (⟨"UnderFloor$Search", "forget", "()V"⟩, 9) := ⟨⟨by decide +kernel, by decide +kernel⟩, List.mem_of_getElem? (i := 263) (by decide +kernel), List.mem_of_getElem? (i := 796) (by decide +kernel), List.mem_of_getElem? (i := 797) (by decide +kernel)⟩
theorem lw_p28 : lw_okq (⟨"UnderFloor$Search", "visit", "(IIIIII)V"⟩, 9) := ⟨⟨by decide +kernel, by decide +kernel⟩, List.mem_of_getElem? (i := 263) (by decide +kernel), List.mem_of_getElem? (i := 804) (by decide +kernel), List.mem_of_getElem? (i := 805) (by decide +kernel)⟩
theorem lw_p29 : lw_okq (⟨"UnderFloor$Search", "follow", "(IIIIII)V"⟩, 9) := ⟨⟨by decide +kernel, by decide +kernel⟩, List.mem_of_getElem? (i := 263) (by decide +kernel), List.mem_of_getElem? (i := 809) (by decide +kernel), List.mem_of_getElem? (i := 810) (by decide +kernel)⟩
theorem lw_p30 : lw_okq (⟨"UnderFloor$Search", "withLate", "(II)I"⟩, 9) := ⟨⟨by decide +kernel, by decide +kernel⟩, List.mem_of_getElem? (i := 263) (by decide +kernel), List.mem_of_getElem? (i := 814) (by decide +kernel), List.mem_of_getElem? (i := 815) (by decide +kernel)⟩
theorem lw_p31 : lw_okq (⟨"UnderFloor$Search", "isNew", "(IIII)Z"⟩, 9) := ⟨⟨by decide +kernel, by decide +kernel⟩, List.mem_of_getElem? (i := 263) (by decide +kernel), List.mem_of_getElem? (i := 819) (by decide +kernel), List.mem_of_getElem? (i := 820) (by decide +kernel)⟩
def lw_privs_2 : List (MethodName × Nat) := [(⟨"UnderFloor", "takeCellar", "()I"⟩, 18), (⟨"UnderFloor", "takePlay", "()I"⟩, 18), (⟨"UnderFloor", "takeLaw", "()I"⟩, 18), (⟨"UnderFloor$Ways", "reach", "(LUnderFloor$Cellar;II)V"⟩, 3), (⟨"UnderFloor", "isPlay", "(I)Z"⟩, 18), (⟨"UnderFloor", "lawThatHolds", "()LUnderFloor$Text;"⟩, 18), (⟨"UnderFloor", "runs", "(II)Z"⟩, 18), (⟨"UnderFloor", "lay", "(I)Z"⟩, 18), (⟨"UnderFloor$Job", "measure", "(LUnderFloor$Cellar;II)V"⟩, 7), (⟨"UnderFloor$Run", "addLate", "(I)V"⟩, 10), (⟨"UnderFloor", "told", "(III)I"⟩, 18), (⟨"UnderFloor$Search", "forget", "()V"⟩, 9), (⟨"UnderFloor$Search", "visit", "(IIIIII)V"⟩, 9), (⟨"UnderFloor$Search", "follow", "(IIIIII)V"⟩, 9), (⟨"UnderFloor$Search", "withLate", "(II)I"⟩, 9), (⟨"UnderFloor$Search", "isNew", "(IIII)Z"⟩, 9)]
theorem lw_r2 : ∀ q ∈ lw_privs_2, lw_okq q := List.forall_mem_cons.mpr ⟨lw_p16, List.forall_mem_cons.mpr ⟨lw_p17, List.forall_mem_cons.mpr ⟨lw_p18, List.forall_mem_cons.mpr ⟨lw_p19, List.forall_mem_cons.mpr ⟨lw_p20, List.forall_mem_cons.mpr ⟨lw_p21, List.forall_mem_cons.mpr ⟨lw_p22, List.forall_mem_cons.mpr ⟨lw_p23, List.forall_mem_cons.mpr ⟨lw_p24, List.forall_mem_cons.mpr ⟨lw_p25, List.forall_mem_cons.mpr ⟨lw_p26, List.forall_mem_cons.mpr ⟨lw_p27, List.forall_mem_cons.mpr ⟨lw_p28, List.forall_mem_cons.mpr ⟨lw_p29, List.forall_mem_cons.mpr ⟨lw_p30, List.forall_mem_cons.mpr ⟨lw_p31, fun _ h => absurd h List.not_mem_nil⟩⟩⟩⟩⟩⟩⟩⟩⟩⟩⟩⟩⟩⟩⟩⟩
theorem lw_p32 : lw_okq (⟨"UnderFloor", "isMet", "(I)Z"⟩, 18) := ⟨⟨by decide +kernel, by decide +kernel⟩, List.mem_of_getElem? (i := 21) (by decide +kernel), List.mem_of_getElem? (i := 832) (by decide +kernel), List.mem_of_getElem? (i := 833) (by decide +kernel)⟩
theorem lw_p33 : lw_okq (⟨"UnderFloor", "latesByBook", "(I)I"⟩, 18) := ⟨⟨by decide +kernel, by decide +kernel⟩, List.mem_of_getElem? (i := 21) (by decide +kernel), List.mem_of_getElem? (i := 836) (by decide +kernel), List.mem_of_getElem? (i := 837) (by decide +kernel)⟩
theorem lw_p34 : lw_okq (⟨"UnderFloor", "ageOfJob", "()I"⟩, 18) := ⟨⟨by decide +kernel, by decide +kernel⟩, List.mem_of_getElem? (i := 21) (by decide +kernel), List.mem_of_getElem? (i := 858) (by decide +kernel), List.mem_of_getElem? (i := 859) (by decide +kernel)⟩
theorem lw_p35 : lw_okq (⟨"UnderFloor", "leastInTrial", "(I)I"⟩, 18) := ⟨⟨by decide +kernel, by decide +kernel⟩, List.mem_of_getElem? (i := 21) (by decide +kernel), List.mem_of_getElem? (i := 870) (by decide +kernel), List.mem_of_getElem? (i := 871) (by decide +kernel)⟩
theorem lw_p36 : lw_okq (⟨"UnderFloor", "leastLates", "()I"⟩, 18) := ⟨⟨by decide +kernel, by decide +kernel⟩, List.mem_of_getElem? (i := 21) (by decide +kernel), List.mem_of_getElem? (i := 874) (by decide +kernel), List.mem_of_getElem? (i := 875) (by decide +kernel)⟩
theorem lw_p37 : lw_okq (⟨"UnderFloor", "leastTogether", "(II)I"⟩, 18) := ⟨⟨by decide +kernel, by decide +kernel⟩, List.mem_of_getElem? (i := 21) (by decide +kernel), List.mem_of_getElem? (i := 892) (by decide +kernel), List.mem_of_getElem? (i := 893) (by decide +kernel)⟩
theorem lw_p38 : lw_okq (⟨"UnderFloor$Thuds", "visit", "(IIIIII)V"⟩, 7) := ⟨⟨by decide +kernel, by decide +kernel⟩, List.mem_of_getElem? (i := 299) (by decide +kernel), List.mem_of_getElem? (i := 937) (by decide +kernel), List.mem_of_getElem? (i := 938) (by decide +kernel)⟩
theorem lw_p39 : lw_okq (⟨"UnderFloor$Thuds", "passesOver", "(I)Z"⟩, 7) := ⟨⟨by decide +kernel, by decide +kernel⟩, List.mem_of_getElem? (i := 299) (by decide +kernel), List.mem_of_getElem? (i := 941) (by decide +kernel), List.mem_of_getElem? (i := 942) (by decide +kernel)⟩
theorem lw_p40 : lw_okq (⟨"UnderFloor$Thuds", "follow", "(IIIIII)V"⟩, 7) := ⟨⟨by decide +kernel, by decide +kernel⟩, List.mem_of_getElem? (i := 299) (by decide +kernel), List.mem_of_getElem? (i := 946) (by decide +kernel), List.mem_of_getElem? (i := 947) (by decide +kernel)⟩
theorem lw_p41 : lw_okq (⟨"UnderFloor$Thuds", "heardAt", "(III)I"⟩, 7) := ⟨⟨by decide +kernel, by decide +kernel⟩, List.mem_of_getElem? (i := 299) (by decide +kernel), List.mem_of_getElem? (i := 951) (by decide +kernel), List.mem_of_getElem? (i := 952) (by decide +kernel)⟩
theorem lw_p42 : lw_okq (⟨"UnderFloor$Thuds", "isMissed", "(II)Z"⟩, 7) := ⟨⟨by decide +kernel, by decide +kernel⟩, List.mem_of_getElem? (i := 299) (by decide +kernel), List.mem_of_getElem? (i := 955) (by decide +kernel), List.mem_of_getElem? (i := 956) (by decide +kernel)⟩
theorem lw_p43 : lw_okq (⟨"UnderFloor$Search", "weigh", "(LUnderFloor$Job;[I)V"⟩, 9) := ⟨⟨by decide +kernel, by decide +kernel⟩, List.mem_of_getElem? (i := 263) (by decide +kernel), List.mem_of_getElem? (i := 976) (by decide +kernel), List.mem_of_getElem? (i := 977) (by decide +kernel)⟩
theorem lw_p44 : lw_okq (⟨"UnderFloor$Search", "gather", "(IIIII[I)V"⟩, 9) := ⟨⟨by decide +kernel, by decide +kernel⟩, List.mem_of_getElem? (i := 263) (by decide +kernel), List.mem_of_getElem? (i := 980) (by decide +kernel), List.mem_of_getElem? (i := 981) (by decide +kernel)⟩
theorem lw_p45 : lw_okq (⟨"UnderFloor$Search", "gatherBehind", "(IIIII[I)V"⟩, 9) := ⟨⟨by decide +kernel, by decide +kernel⟩, List.mem_of_getElem? (i := 263) (by decide +kernel), List.mem_of_getElem? (i := 985) (by decide +kernel), List.mem_of_getElem? (i := 986) (by decide +kernel)⟩
theorem lw_p46 : lw_okq (⟨"java/lang/Throwable", "fillInStackTrace", "(I)Ljava/lang/Throwable;"⟩, 6) := ⟨⟨by decide +kernel, by decide +kernel⟩, List.mem_of_getElem? (i := 1033) (by decide +kernel), List.mem_of_getElem? (i := 1031) (by decide +kernel), List.mem_of_getElem? (i := 1032) (by decide +kernel)⟩
theorem lw_p47 : lw_okq (⟨"UnderFloorModel", "readCellar", "()I"⟩, 54) := ⟨⟨by decide +kernel, by decide +kernel⟩, List.mem_of_getElem? (i := 1063) (by decide +kernel), List.mem_of_getElem? (i := 1251) (by decide +kernel), List.mem_of_getElem? (i := 1252) (by decide +kernel)⟩
def lw_privs_3 : List (MethodName × Nat) := [(⟨"UnderFloor", "isMet", "(I)Z"⟩, 18), (⟨"UnderFloor", "latesByBook", "(I)I"⟩, 18), (⟨"UnderFloor", "ageOfJob", "()I"⟩, 18), (⟨"UnderFloor", "leastInTrial", "(I)I"⟩, 18), (⟨"UnderFloor", "leastLates", "()I"⟩, 18), (⟨"UnderFloor", "leastTogether", "(II)I"⟩, 18), (⟨"UnderFloor$Thuds", "visit", "(IIIIII)V"⟩, 7), (⟨"UnderFloor$Thuds", "passesOver", "(I)Z"⟩, 7), (⟨"UnderFloor$Thuds", "follow", "(IIIIII)V"⟩, 7), (⟨"UnderFloor$Thuds", "heardAt", "(III)I"⟩, 7), (⟨"UnderFloor$Thuds", "isMissed", "(II)Z"⟩, 7), (⟨"UnderFloor$Search", "weigh", "(LUnderFloor$Job;[I)V"⟩, 9), (⟨"UnderFloor$Search", "gather", "(IIIII[I)V"⟩, 9), (⟨"UnderFloor$Search", "gatherBehind", "(IIIII[I)V"⟩, 9), (⟨"java/lang/Throwable", "fillInStackTrace", "(I)Ljava/lang/Throwable;"⟩, 6), (⟨"UnderFloorModel", "readCellar", "()I"⟩, 54)]
theorem lw_r3 : ∀ q ∈ lw_privs_3, lw_okq q := List.forall_mem_cons.mpr ⟨lw_p32, List.forall_mem_cons.mpr ⟨lw_p33, List.forall_mem_cons.mpr ⟨lw_p34, List.forall_mem_cons.mpr ⟨lw_p35, List.forall_mem_cons.mpr ⟨lw_p36, List.forall_mem_cons.mpr ⟨lw_p37, List.forall_mem_cons.mpr ⟨lw_p38, List.forall_mem_cons.mpr ⟨lw_p39, List.forall_mem_cons.mpr ⟨lw_p40, List.forall_mem_cons.mpr ⟨lw_p41, List.forall_mem_cons.mpr ⟨lw_p42, List.forall_mem_cons.mpr ⟨lw_p43, List.forall_mem_cons.mpr ⟨lw_p44, List.forall_mem_cons.mpr ⟨lw_p45, List.forall_mem_cons.mpr ⟨lw_p46, List.forall_mem_cons.mpr ⟨lw_p47, fun _ h => absurd h List.not_mem_nil⟩⟩⟩⟩⟩⟩⟩⟩⟩⟩⟩⟩⟩⟩⟩⟩
theorem lw_p48 : lw_okq (⟨"UnderFloorModel", "rowText", "()V"⟩, 54) := ⟨⟨by decide +kernel, by decide +kernel⟩, List.mem_of_getElem? (i := 1063) (by decide +kernel), List.mem_of_getElem? (i := 1255) (by decide +kernel), List.mem_of_getElem? (i := 1256) (by decide +kernel)⟩
theorem lw_p49 : lw_okq (⟨"UnderFloorModel", "look", "()I"⟩, 54) := ⟨⟨by decide +kernel, by decide +kernel⟩, List.mem_of_getElem? (i := 1063) (by decide +kernel), List.mem_of_getElem? (i := 1259) (by decide +kernel), List.mem_of_getElem? (i := 1260) (by decide +kernel)⟩
theorem lw_p50 : lw_okq (⟨"UnderFloorModel", "here", "()I"⟩, 54) := ⟨⟨by decide +kernel, by decide +kernel⟩, List.mem_of_getElem? (i := 1063) (by decide +kernel), List.mem_of_getElem? (i := 1263) (by decide +kernel), List.mem_of_getElem? (i := 1264) (by decide +kernel)⟩
theorem lw_p51 : lw_okq (⟨"UnderFloorModel", "bad", "()V"⟩, 54) := ⟨⟨by decide +kernel, by decide +kernel⟩, List.mem_of_getElem? (i := 1063) (by decide +kernel), List.mem_of_getElem? (i := 1276) (by decide +kernel), List.mem_of_getElem? (i := 1277) (by decide +kernel)⟩
theorem lw_p52 : lw_okq (⟨"UnderFloorModel", "readPlay", "(I)I"⟩, 54) := ⟨⟨by decide +kernel, by decide +kernel⟩, List.mem_of_getElem? (i := 1063) (by decide +kernel), List.mem_of_getElem? (i := 1280) (by decide +kernel), List.mem_of_getElem? (i := 1281) (by decide +kernel)⟩
theorem lw_p53 : lw_okq (⟨"UnderFloorModel", "cueText", "(I)V"⟩, 54) := ⟨⟨by decide +kernel, by decide +kernel⟩, List.mem_of_getElem? (i := 1063) (by decide +kernel), List.mem_of_getElem? (i := 1284) (by decide +kernel), List.mem_of_getElem? (i := 1285) (by decide +kernel)⟩
theorem lw_p54 : lw_okq (⟨"UnderFloorModel", "atEnd", "()I"⟩, 54) := ⟨⟨by decide +kernel, by decide +kernel⟩, List.mem_of_getElem? (i := 1063) (by decide +kernel), List.mem_of_getElem? (i := 1291) (by decide +kernel), List.mem_of_getElem? (i := 1292) (by decide +kernel)⟩
theorem lw_p55 : lw_okq (⟨"UnderFloorModel", "readLaw", "(I)I"⟩, 54) := ⟨⟨by decide +kernel, by decide +kernel⟩, List.mem_of_getElem? (i := 1063) (by decide +kernel), List.mem_of_getElem? (i := 1295) (by decide +kernel), List.mem_of_getElem? (i := 1296) (by decide +kernel)⟩
theorem lw_p56 : lw_okq (⟨"UnderFloorModel", "open", "(I)V"⟩, 54) := ⟨⟨by decide +kernel, by decide +kernel⟩, List.mem_of_getElem? (i := 1063) (by decide +kernel), List.mem_of_getElem? (i := 1299) (by decide +kernel), List.mem_of_getElem? (i := 1300) (by decide +kernel)⟩
theorem lw_p57 : lw_okq (⟨"UnderFloorModel", "clause", "()V"⟩, 54) := ⟨⟨by decide +kernel, by decide +kernel⟩, List.mem_of_getElem? (i := 1063) (by decide +kernel), List.mem_of_getElem? (i := 1303) (by decide +kernel), List.mem_of_getElem? (i := 1304) (by decide +kernel)⟩
theorem lw_p58 : lw_okq (⟨"UnderFloorModel", "condition", "()V"⟩, 54) := ⟨⟨by decide +kernel, by decide +kernel⟩, List.mem_of_getElem? (i := 1063) (by decide +kernel), List.mem_of_getElem? (i := 1307) (by decide +kernel), List.mem_of_getElem? (i := 1308) (by decide +kernel)⟩
theorem lw_p59 : lw_okq (⟨"UnderFloorModel", "unit", "()V"⟩, 54) := ⟨⟨by decide +kernel, by decide +kernel⟩, List.mem_of_getElem? (i := 1063) (by decide +kernel), List.mem_of_getElem? (i := 1311) (by decide +kernel), List.mem_of_getElem? (i := 1312) (by decide +kernel)⟩
theorem lw_p60 : lw_okq (⟨"UnderFloorModel", "opens", "()V"⟩, 54) := ⟨⟨by decide +kernel, by decide +kernel⟩, List.mem_of_getElem? (i := 1063) (by decide +kernel), List.mem_of_getElem? (i := 1315) (by decide +kernel), List.mem_of_getElem? (i := 1316) (by decide +kernel)⟩
theorem lw_p61 : lw_okq (⟨"UnderFloorModel", "put", "(II)V"⟩, 54) := ⟨⟨by decide +kernel, by decide +kernel⟩, List.mem_of_getElem? (i := 1063) (by decide +kernel), List.mem_of_getElem? (i := 1319) (by decide +kernel), List.mem_of_getElem? (i := 1320) (by decide +kernel)⟩
theorem lw_p62 : lw_okq (⟨"UnderFloorModel", "closes", "(I)V"⟩, 54) := ⟨⟨by decide +kernel, by decide +kernel⟩, List.mem_of_getElem? (i := 1063) (by decide +kernel), List.mem_of_getElem? (i := 1323) (by decide +kernel), List.mem_of_getElem? (i := 1324) (by decide +kernel)⟩
theorem lw_p63 : lw_okq (⟨"UnderFloorModel", "sum", "()V"⟩, 54) := ⟨⟨by decide +kernel, by decide +kernel⟩, List.mem_of_getElem? (i := 1063) (by decide +kernel), List.mem_of_getElem? (i := 1327) (by decide +kernel), List.mem_of_getElem? (i := 1328) (by decide +kernel)⟩
def lw_privs_4 : List (MethodName × Nat) := [(⟨"UnderFloorModel", "rowText", "()V"⟩, 54), (⟨"UnderFloorModel", "look", "()I"⟩, 54), (⟨"UnderFloorModel", "here", "()I"⟩, 54), (⟨"UnderFloorModel", "bad", "()V"⟩, 54), (⟨"UnderFloorModel", "readPlay", "(I)I"⟩, 54), (⟨"UnderFloorModel", "cueText", "(I)V"⟩, 54), (⟨"UnderFloorModel", "atEnd", "()I"⟩, 54), (⟨"UnderFloorModel", "readLaw", "(I)I"⟩, 54), (⟨"UnderFloorModel", "open", "(I)V"⟩, 54), (⟨"UnderFloorModel", "clause", "()V"⟩, 54), (⟨"UnderFloorModel", "condition", "()V"⟩, 54), (⟨"UnderFloorModel", "unit", "()V"⟩, 54), (⟨"UnderFloorModel", "opens", "()V"⟩, 54), (⟨"UnderFloorModel", "put", "(II)V"⟩, 54), (⟨"UnderFloorModel", "closes", "(I)V"⟩, 54), (⟨"UnderFloorModel", "sum", "()V"⟩, 54)]
theorem lw_r4 : ∀ q ∈ lw_privs_4, lw_okq q := List.forall_mem_cons.mpr ⟨lw_p48, List.forall_mem_cons.mpr ⟨lw_p49, List.forall_mem_cons.mpr ⟨lw_p50, List.forall_mem_cons.mpr ⟨lw_p51, List.forall_mem_cons.mpr ⟨lw_p52, List.forall_mem_cons.mpr ⟨lw_p53, List.forall_mem_cons.mpr ⟨lw_p54, List.forall_mem_cons.mpr ⟨lw_p55, List.forall_mem_cons.mpr ⟨lw_p56, List.forall_mem_cons.mpr ⟨lw_p57, List.forall_mem_cons.mpr ⟨lw_p58, List.forall_mem_cons.mpr ⟨lw_p59, List.forall_mem_cons.mpr ⟨lw_p60, List.forall_mem_cons.mpr ⟨lw_p61, List.forall_mem_cons.mpr ⟨lw_p62, List.forall_mem_cons.mpr ⟨lw_p63, fun _ h => absurd h List.not_mem_nil⟩⟩⟩⟩⟩⟩⟩⟩⟩⟩⟩⟩⟩⟩⟩⟩
theorem lw_p64 : lw_okq (⟨"UnderFloorModel", "term", "()V"⟩, 54) := ⟨⟨by decide +kernel, by decide +kernel⟩, List.mem_of_getElem? (i := 1063) (by decide +kernel), List.mem_of_getElem? (i := 1331) (by decide +kernel), List.mem_of_getElem? (i := 1332) (by decide +kernel)⟩
theorem lw_p65 : lw_okq (⟨"UnderFloorModel", "atom", "()V"⟩, 54) := ⟨⟨by decide +kernel, by decide +kernel⟩, List.mem_of_getElem? (i := 1063) (by decide +kernel), List.mem_of_getElem? (i := 1335) (by decide +kernel), List.mem_of_getElem? (i := 1336) (by decide +kernel)⟩
theorem lw_p66 : lw_okq (⟨"UnderFloorModel", "plainNumber", "()I"⟩, 54) := ⟨⟨by decide +kernel, by decide +kernel⟩, List.mem_of_getElem? (i := 1063) (by decide +kernel), List.mem_of_getElem? (i := 1339) (by decide +kernel), List.mem_of_getElem? (i := 1340) (by decide +kernel)⟩
theorem lw_p67 : lw_okq (⟨"UnderFloorModel", "compare", "()V"⟩, 54) := ⟨⟨by decide +kernel, by decide +kernel⟩, List.mem_of_getElem? (i := 1063) (by decide +kernel), List.mem_of_getElem? (i := 1346) (by decide +kernel), List.mem_of_getElem? (i := 1347) (by decide +kernel)⟩
theorem lw_p68 : lw_okq (⟨"UnderFloorModel", "goOnAnd", "()V"⟩, 54) := ⟨⟨by decide +kernel, by decide +kernel⟩, List.mem_of_getElem? (i := 1063) (by decide +kernel), List.mem_of_getElem? (i := 1353) (by decide +kernel), List.mem_of_getElem? (i := 1354) (by decide +kernel)⟩
theorem lw_p69 : lw_okq (⟨"UnderFloorModel", "goOnOr", "()V"⟩, 54) := ⟨⟨by decide +kernel, by decide +kernel⟩, List.mem_of_getElem? (i := 1063) (by decide +kernel), List.mem_of_getElem? (i := 1357) (by decide +kernel), List.mem_of_getElem? (i := 1358) (by decide +kernel)⟩
theorem lw_p70 : lw_okq (⟨"UnderFloorModel", "takeCellar", "()I"⟩, 54) := ⟨⟨by decide +kernel, by decide +kernel⟩, List.mem_of_getElem? (i := 1063) (by decide +kernel), List.mem_of_getElem? (i := 1365) (by decide +kernel), List.mem_of_getElem? (i := 1366) (by decide +kernel)⟩
theorem lw_p71 : lw_okq (⟨"UnderFloorModel", "isPlace", "(I)Z"⟩, 54) := ⟨⟨by decide +kernel, by decide +kernel⟩, List.mem_of_getElem? (i := 1063) (by decide +kernel), List.mem_of_getElem? (i := 1369) (by decide +kernel), List.mem_of_getElem? (i := 1370) (by decide +kernel)⟩
theorem lw_p72 : lw_okq (⟨"UnderFloorModel", "isCrank", "(I)Z"⟩, 54) := ⟨⟨by decide +kernel, by decide +kernel⟩, List.mem_of_getElem? (i := 1063) (by decide +kernel), List.mem_of_getElem? (i := 1378) (by decide +kernel), List.mem_of_getElem? (i := 1379) (by decide +kernel)⟩
theorem lw_p73 : lw_okq (⟨"UnderFloorModel", "placeOf", "(I)I"⟩, 54) := ⟨⟨by decide +kernel, by decide +kernel⟩, List.mem_of_getElem? (i := 1063) (by decide +kernel), List.mem_of_getElem? (i := 1382) (by decide +kernel), List.mem_of_getElem? (i := 1383) (by decide +kernel)⟩
theorem lw_p74 : lw_okq (⟨"UnderFloorModel", "isOpen", "(I)Z"⟩, 54) := ⟨⟨by decide +kernel, by decide +kernel⟩, List.mem_of_getElem? (i := 1063) (by decide +kernel), List.mem_of_getElem? (i := 1394) (by decide +kernel), List.mem_of_getElem? (i := 1395) (by decide +kernel)⟩
theorem lw_p75 : lw_okq (⟨"UnderFloorModel", "spread", "(I)V"⟩, 54) := ⟨⟨by decide +kernel, by decide +kernel⟩, List.mem_of_getElem? (i := 1063) (by decide +kernel), List.mem_of_getElem? (i := 1398) (by decide +kernel), List.mem_of_getElem? (i := 1399) (by decide +kernel)⟩
theorem lw_p76 : lw_okq (⟨"UnderFloorModel", "reach", "(II)V"⟩, 54) := ⟨⟨by decide +kernel, by decide +kernel⟩, List.mem_of_getElem? (i := 1063) (by decide +kernel), List.mem_of_getElem? (i := 1402) (by decide +kernel), List.mem_of_getElem? (i := 1403) (by decide +kernel)⟩
theorem lw_p77 : lw_okq (⟨"UnderFloorModel", "isPlay", "(I)Z"⟩, 54) := ⟨⟨by decide +kernel, by decide +kernel⟩, List.mem_of_getElem? (i := 1063) (by decide +kernel), List.mem_of_getElem? (i := 1410) (by decide +kernel), List.mem_of_getElem? (i := 1411) (by decide +kernel)⟩
theorem lw_p78 : lw_okq (⟨"UnderFloorModel", "layTimes", "(II)V"⟩, 54) := ⟨⟨by decide +kernel, by decide +kernel⟩, List.mem_of_getElem? (i := 1063) (by decide +kernel), List.mem_of_getElem? (i := 1414) (by decide +kernel), List.mem_of_getElem? (i := 1415) (by decide +kernel)⟩
theorem lw_p79 : lw_okq (⟨"UnderFloorModel", "worthOf", "(I)I"⟩, 54) := ⟨⟨by decide +kernel, by decide +kernel⟩, List.mem_of_getElem? (i := 1063) (by decide +kernel), List.mem_of_getElem? (i := 1418) (by decide +kernel), List.mem_of_getElem? (i := 1419) (by decide +kernel)⟩
def lw_privs_5 : List (MethodName × Nat) := [(⟨"UnderFloorModel", "term", "()V"⟩, 54), (⟨"UnderFloorModel", "atom", "()V"⟩, 54), (⟨"UnderFloorModel", "plainNumber", "()I"⟩, 54), (⟨"UnderFloorModel", "compare", "()V"⟩, 54), (⟨"UnderFloorModel", "goOnAnd", "()V"⟩, 54), (⟨"UnderFloorModel", "goOnOr", "()V"⟩, 54), (⟨"UnderFloorModel", "takeCellar", "()I"⟩, 54), (⟨"UnderFloorModel", "isPlace", "(I)Z"⟩, 54), (⟨"UnderFloorModel", "isCrank", "(I)Z"⟩, 54), (⟨"UnderFloorModel", "placeOf", "(I)I"⟩, 54), (⟨"UnderFloorModel", "isOpen", "(I)Z"⟩, 54), (⟨"UnderFloorModel", "spread", "(I)V"⟩, 54), (⟨"UnderFloorModel", "reach", "(II)V"⟩, 54), (⟨"UnderFloorModel", "isPlay", "(I)Z"⟩, 54), (⟨"UnderFloorModel", "layTimes", "(II)V"⟩, 54), (⟨"UnderFloorModel", "worthOf", "(I)I"⟩, 54)]
theorem lw_r5 : ∀ q ∈ lw_privs_5, lw_okq q := List.forall_mem_cons.mpr ⟨lw_p64, List.forall_mem_cons.mpr ⟨lw_p65, List.forall_mem_cons.mpr ⟨lw_p66, List.forall_mem_cons.mpr ⟨lw_p67, List.forall_mem_cons.mpr ⟨lw_p68, List.forall_mem_cons.mpr ⟨lw_p69, List.forall_mem_cons.mpr ⟨lw_p70, List.forall_mem_cons.mpr ⟨lw_p71, List.forall_mem_cons.mpr ⟨lw_p72, List.forall_mem_cons.mpr ⟨lw_p73, List.forall_mem_cons.mpr ⟨lw_p74, List.forall_mem_cons.mpr ⟨lw_p75, List.forall_mem_cons.mpr ⟨lw_p76, List.forall_mem_cons.mpr ⟨lw_p77, List.forall_mem_cons.mpr ⟨lw_p78, List.forall_mem_cons.mpr ⟨lw_p79, fun _ h => absurd h List.not_mem_nil⟩⟩⟩⟩⟩⟩⟩⟩⟩⟩⟩⟩⟩⟩⟩⟩
theorem lw_p80 : lw_okq (⟨"UnderFloorModel", "workOut", "(III)I"⟩, 54) := ⟨⟨by decide +kernel, by decide +kernel⟩, List.mem_of_getElem? (i := 1063) (by decide +kernel), List.mem_of_getElem? (i := 1422) (by decide +kernel), List.mem_of_getElem? (i := 1423) (by decide +kernel)⟩
theorem lw_p81 : lw_okq (⟨"UnderFloorModel", "change", "(II)V"⟩, 54) := ⟨⟨by decide +kernel, by decide +kernel⟩, List.mem_of_getElem? (i := 1063) (by decide +kernel), List.mem_of_getElem? (i := 1450) (by decide +kernel), List.mem_of_getElem? (i := 1451) (by decide +kernel)⟩
theorem lw_p82 : lw_okq (⟨"UnderFloorModel", "isReady", "(I)Z"⟩, 54) := ⟨⟨by decide +kernel, by decide +kernel⟩, List.mem_of_getElem? (i := 1063) (by decide +kernel), List.mem_of_getElem? (i := 1462) (by decide +kernel), List.mem_of_getElem? (i := 1463) (by decide +kernel)⟩
theorem lw_p83 : lw_okq (⟨"UnderFloorModel", "lay", "(III)V"⟩, 54) := ⟨⟨by decide +kernel, by decide +kernel⟩, List.mem_of_getElem? (i := 1063) (by decide +kernel), List.mem_of_getElem? (i := 1466) (by decide +kernel), List.mem_of_getElem? (i := 1467) (by decide +kernel)⟩
theorem lw_p84 : lw_okq (⟨"UnderFloorModel", "isOrder", "(I)Z"⟩, 54) := ⟨⟨by decide +kernel, by decide +kernel⟩, List.mem_of_getElem? (i := 1063) (by decide +kernel), List.mem_of_getElem? (i := 1470) (by decide +kernel), List.mem_of_getElem? (i := 1471) (by decide +kernel)⟩
theorem lw_p85 : lw_okq (⟨"UnderFloorModel", "nth", "(II)I"⟩, 54) := ⟨⟨by decide +kernel, by decide +kernel⟩, List.mem_of_getElem? (i := 1063) (by decide +kernel), List.mem_of_getElem? (i := 1474) (by decide +kernel), List.mem_of_getElem? (i := 1475) (by decide +kernel)⟩
theorem lw_p86 : lw_okq (⟨"UnderFloorModel", "go", "(I)Z"⟩, 54) := ⟨⟨by decide +kernel, by decide +kernel⟩, List.mem_of_getElem? (i := 1063) (by decide +kernel), List.mem_of_getElem? (i := 1481) (by decide +kernel), List.mem_of_getElem? (i := 1482) (by decide +kernel)⟩
theorem lw_p87 : lw_okq (⟨"UnderFloorModel", "tellOf", "(II)I"⟩, 54) := ⟨⟨by decide +kernel, by decide +kernel⟩, List.mem_of_getElem? (i := 1063) (by decide +kernel), List.mem_of_getElem? (i := 1485) (by decide +kernel), List.mem_of_getElem? (i := 1486) (by decide +kernel)⟩
theorem lw_p88 : lw_okq (⟨"UnderFloorModel", "late", "(I)I"⟩, 54) := ⟨⟨by decide +kernel, by decide +kernel⟩, List.mem_of_getElem? (i := 1063) (by decide +kernel), List.mem_of_getElem? (i := 1489) (by decide +kernel), List.mem_of_getElem? (i := 1490) (by decide +kernel)⟩
theorem lw_p89 : lw_okq (⟨"UnderFloorModel", "all", "()I"⟩, 54) := ⟨⟨by decide +kernel, by decide +kernel⟩, List.mem_of_getElem? (i := 1063) (by decide +kernel), List.mem_of_getElem? (i := 1505) (by decide +kernel), List.mem_of_getElem? (i := 1506) (by decide +kernel)⟩
theorem lw_p90 : lw_okq (⟨"UnderFloorModel", "leastOf", "(II)I"⟩, 54) := ⟨⟨by decide +kernel, by decide +kernel⟩, List.mem_of_getElem? (i := 1063) (by decide +kernel), List.mem_of_getElem? (i := 1509) (by decide +kernel), List.mem_of_getElem? (i := 1510) (by decide +kernel)⟩
theorem lw_p91 : lw_okq (⟨"UnderFloorModel", "search", "(IIIIII)V"⟩, 54) := ⟨⟨by decide +kernel, by decide +kernel⟩, List.mem_of_getElem? (i := 1063) (by decide +kernel), List.mem_of_getElem? (i := 1513) (by decide +kernel), List.mem_of_getElem? (i := 1514) (by decide +kernel)⟩
theorem lw_p92 : lw_okq (⟨"UnderFloorModel", "ageOf", "(I)I"⟩, 54) := ⟨⟨by decide +kernel, by decide +kernel⟩, List.mem_of_getElem? (i := 1063) (by decide +kernel), List.mem_of_getElem? (i := 1529) (by decide +kernel), List.mem_of_getElem? (i := 1530) (by decide +kernel)⟩
theorem lw_p93 : lw_okq (⟨"UnderFloorModel", "leastNow", "(I)I"⟩, 54) := ⟨⟨by decide +kernel, by decide +kernel⟩, List.mem_of_getElem? (i := 1063) (by decide +kernel), List.mem_of_getElem? (i := 1541) (by decide +kernel), List.mem_of_getElem? (i := 1542) (by decide +kernel)⟩
theorem lw_p94 : lw_okq (⟨"UnderFloorModel", "bothNow", "(II)I"⟩, 54) := ⟨⟨by decide +kernel, by decide +kernel⟩, List.mem_of_getElem? (i := 1063) (by decide +kernel), List.mem_of_getElem? (i := 1553) (by decide +kernel), List.mem_of_getElem? (i := 1554) (by decide +kernel)⟩
theorem lw_p95 : lw_okq (⟨"UnderFloorModel", "book", "()I"⟩, 54) := ⟨⟨by decide +kernel, by decide +kernel⟩, List.mem_of_getElem? (i := 1063) (by decide +kernel), List.mem_of_getElem? (i := 1565) (by decide +kernel), List.mem_of_getElem? (i := 1566) (by decide +kernel)⟩
def lw_privs_6 : List (MethodName × Nat) := [(⟨"UnderFloorModel", "workOut", "(III)I"⟩, 54), (⟨"UnderFloorModel", "change", "(II)V"⟩, 54), (⟨"UnderFloorModel", "isReady", "(I)Z"⟩, 54), (⟨"UnderFloorModel", "lay", "(III)V"⟩, 54), (⟨"UnderFloorModel", "isOrder", "(I)Z"⟩, 54), (⟨"UnderFloorModel", "nth", "(II)I"⟩, 54), (⟨"UnderFloorModel", "go", "(I)Z"⟩, 54), (⟨"UnderFloorModel", "tellOf", "(II)I"⟩, 54), (⟨"UnderFloorModel", "late", "(I)I"⟩, 54), (⟨"UnderFloorModel", "all", "()I"⟩, 54), (⟨"UnderFloorModel", "leastOf", "(II)I"⟩, 54), (⟨"UnderFloorModel", "search", "(IIIIII)V"⟩, 54), (⟨"UnderFloorModel", "ageOf", "(I)I"⟩, 54), (⟨"UnderFloorModel", "leastNow", "(I)I"⟩, 54), (⟨"UnderFloorModel", "bothNow", "(II)I"⟩, 54), (⟨"UnderFloorModel", "book", "()I"⟩, 54)]
theorem lw_r6 : ∀ q ∈ lw_privs_6, lw_okq q := List.forall_mem_cons.mpr ⟨lw_p80, List.forall_mem_cons.mpr ⟨lw_p81, List.forall_mem_cons.mpr ⟨lw_p82, List.forall_mem_cons.mpr ⟨lw_p83, List.forall_mem_cons.mpr ⟨lw_p84, List.forall_mem_cons.mpr ⟨lw_p85, List.forall_mem_cons.mpr ⟨lw_p86, List.forall_mem_cons.mpr ⟨lw_p87, List.forall_mem_cons.mpr ⟨lw_p88, List.forall_mem_cons.mpr ⟨lw_p89, List.forall_mem_cons.mpr ⟨lw_p90, List.forall_mem_cons.mpr ⟨lw_p91, List.forall_mem_cons.mpr ⟨lw_p92, List.forall_mem_cons.mpr ⟨lw_p93, List.forall_mem_cons.mpr ⟨lw_p94, List.forall_mem_cons.mpr ⟨lw_p95, fun _ h => absurd h List.not_mem_nil⟩⟩⟩⟩⟩⟩⟩⟩⟩⟩⟩⟩⟩⟩⟩⟩
theorem lw_p96 : lw_okq (⟨"UnderFloorModel", "fitFrom", "(IIII)V"⟩, 54) := ⟨⟨by decide +kernel, by decide +kernel⟩, List.mem_of_getElem? (i := 1063) (by decide +kernel), List.mem_of_getElem? (i := 1577) (by decide +kernel), List.mem_of_getElem? (i := 1578) (by decide +kernel)⟩
theorem lw_p97 : lw_okq (⟨"UnderFloorModel", "fits", "(I)Z"⟩, 54) := ⟨⟨by decide +kernel, by decide +kernel⟩, List.mem_of_getElem? (i := 1063) (by decide +kernel), List.mem_of_getElem? (i := 1581) (by decide +kernel), List.mem_of_getElem? (i := 1582) (by decide +kernel)⟩
theorem lw_p98 : lw_okq (⟨"UnderFloorModel", "posts", "()I"⟩, 54) := ⟨⟨by decide +kernel, by decide +kernel⟩, List.mem_of_getElem? (i := 1063) (by decide +kernel), List.mem_of_getElem? (i := 1622) (by decide +kernel), List.mem_of_getElem? (i := 1623) (by decide +kernel)⟩
theorem lw_p99 : lw_okq (⟨"UnderFloorModel", "cranks", "()I"⟩, 54) := ⟨⟨by decide +kernel, by decide +kernel⟩, List.mem_of_getElem? (i := 1063) (by decide +kernel), List.mem_of_getElem? (i := 1634) (by decide +kernel), List.mem_of_getElem? (i := 1635) (by decide +kernel)⟩
def lw_privs_7 : List (MethodName × Nat) := [(⟨"UnderFloorModel", "fitFrom", "(IIII)V"⟩, 54), (⟨"UnderFloorModel", "fits", "(I)Z"⟩, 54), (⟨"UnderFloorModel", "posts", "()I"⟩, 54), (⟨"UnderFloorModel", "cranks", "()I"⟩, 54)]
theorem lw_r7 : ∀ q ∈ lw_privs_7, lw_okq q := List.forall_mem_cons.mpr ⟨lw_p96, List.forall_mem_cons.mpr ⟨lw_p97, List.forall_mem_cons.mpr ⟨lw_p98, List.forall_mem_cons.mpr ⟨lw_p99, fun _ h => absurd h List.not_mem_nil⟩⟩⟩⟩
def lw_privs : List (MethodName × Nat) := lw_privs_1 ++ (lw_privs_2 ++ (lw_privs_3 ++ (lw_privs_4 ++ (lw_privs_5 ++ (lw_privs_6 ++ (lw_privs_7))))))
def lw_tbl : List Cond := k2_sels lw_privs ++ tables_1
theorem lw_privs_ok : ∀ q ∈ lw_privs, lw_okq q := by
  show ∀ q ∈ lw_privs_1 ++ (lw_privs_2 ++ (lw_privs_3 ++ (lw_privs_4 ++ (lw_privs_5 ++ (lw_privs_6 ++ (lw_privs_7)))))), lw_okq q
  exact List.forall_mem_append.mpr ⟨lw_r1, List.forall_mem_append.mpr ⟨lw_r2, List.forall_mem_append.mpr ⟨lw_r3, List.forall_mem_append.mpr ⟨lw_r4, List.forall_mem_append.mpr ⟨lw_r5, List.forall_mem_append.mpr ⟨lw_r6, lw_r7⟩⟩⟩⟩⟩⟩
def RX0 : String := "UnderFloor$Cellar"
def TX0 : u_T := fun k => match k with
  | 0 => ("UnderFloor$Cellar", "cells", "[I", true)
  | 1 => ("UnderFloor$Cellar", "places", "[I", true)
  | 2 => ("UnderFloor$Cellar", "winds", "[I", true)
  | 3 => ("UnderFloor$Cellar", "start", "I", false)
  | 4 => ("UnderFloor$Cellar", "width", "I", false)
  | 5 => ("UnderFloor$Cellar", "crankCount", "I", false)
  | 6 => ("UnderFloor$Cellar", "posts", "I", false)
  | 7 => ("UnderFloor$Cellar", "stoop", "I", false)
  | _ => ("UnderFloor$Cellar", "night", "I", false)
def tyX0 : Nat → FieldType := fun k => match k with
  | 0 => .array .int
  | 1 => .array .int
  | 2 => .array .int
  | 3 => .int
  | 4 => .int
  | 5 => .int
  | 6 => .int
  | 7 => .int
  | _ => .int
theorem nmX0 : ∀ a, a < 9 → ∀ b, b < 9 → a ≠ b → (TX0 a).2.1 ≠ (TX0 b).2.1 := by decide +kernel
theorem tyX0_ok : ∀ k, k < 9 → parseFieldDescriptor (TX0 k).2.2.1 = some (tyX0 k) := by decide +kernel
abbrev cX0_init : ByteArray := prog_2_method_1_code
def yX0_init : MethodName := ⟨RX0, "<init>", "()V"⟩
abbrev cX0_clear : ByteArray := prog_2_method_2_code
def yX0_clear : MethodName := ⟨RX0, "clear", "()V"⟩
abbrev cX0_stands : ByteArray := prog_2_method_3_code
def yX0_stands : MethodName := ⟨RX0, "stands", "()Z"⟩
abbrev cX0_read : ByteArray := prog_2_method_4_code
def yX0_read : MethodName := ⟨RX0, "read", "(LUnderFloor$Reader;)I"⟩
abbrev cX0_readRow : ByteArray := prog_2_method_5_code
def yX0_readRow : MethodName := ⟨RX0, "readRow", "(LUnderFloor$Reader;I)V"⟩
abbrev cX0_cellOf : ByteArray := prog_2_method_6_code
def yX0_cellOf : MethodName := ⟨RX0, "cellOf", "(I)I"⟩
abbrev cX0_put : ByteArray := prog_2_method_7_code
def yX0_put : MethodName := ⟨RX0, "put", "(LUnderFloor$Reader;II)V"⟩
abbrev cX0_copy : ByteArray := prog_2_method_8_code
def yX0_copy : MethodName := ⟨RX0, "copy", "(LUnderFloor$Cellar;)V"⟩
abbrev cX0_placeOf : ByteArray := prog_2_method_9_code
def yX0_placeOf : MethodName := ⟨RX0, "placeOf", "(I)I"⟩
abbrev cX0_windOf : ByteArray := prog_2_method_10_code
def yX0_windOf : MethodName := ⟨RX0, "windOf", "(I)I"⟩
abbrev cX0_cellAt : ByteArray := prog_2_method_11_code
def yX0_cellAt : MethodName := ⟨RX0, "cellAt", "(I)I"⟩
abbrev cX0_isOpen : ByteArray := prog_2_method_12_code
def yX0_isOpen : MethodName := ⟨RX0, "isOpen", "(I)Z"⟩
abbrev cX0_tellStoop : ByteArray := prog_2_method_13_code
def yX0_tellStoop : MethodName := ⟨RX0, "tellStoop", "(I)Z"⟩
abbrev cX0_tellNight : ByteArray := prog_2_method_14_code
def yX0_tellNight : MethodName := ⟨RX0, "tellNight", "(I)Z"⟩
abbrev cX0_tellWind : ByteArray := prog_2_method_15_code
def yX0_tellWind : MethodName := ⟨RX0, "tellWind", "(II)Z"⟩
abbrev cX0_halveWind : ByteArray := prog_2_method_16_code
def yX0_halveWind : MethodName := ⟨RX0, "halveWind", "(I)Z"⟩
abbrev cX0_exchangeCranks : ByteArray := prog_2_method_17_code
def yX0_exchangeCranks : MethodName := ⟨RX0, "exchangeCranks", "(II)Z"⟩
abbrev cX0_takePost : ByteArray := prog_2_method_18_code
def yX0_takePost : MethodName := ⟨RX0, "takePost", "(I)Z"⟩
abbrev cX0_putPost : ByteArray := prog_2_method_19_code
def yX0_putPost : MethodName := ⟨RX0, "putPost", "(I)Z"⟩
def RX1 : String := "UnderFloor$Job"
def TX1 : u_T := fun k => match k with
  | 0 => ("UnderFloor$Job", "ways", "LUnderFloor$Ways;", true)
  | 1 => ("UnderFloor$Job", "cranks", "[I", true)
  | 2 => ("UnderFloor$Job", "times", "[I", true)
  | 3 => ("UnderFloor$Job", "winds", "[I", true)
  | 4 => ("UnderFloor$Job", "steps", "[I", true)
  | 5 => ("UnderFloor$Job", "size", "I", false)
  | _ => ("UnderFloor$Job", "stoop", "I", false)
def tyX1 : Nat → FieldType := fun k => match k with
  | 0 => .object "UnderFloor$Ways"
  | 1 => .array .int
  | 2 => .array .int
  | 3 => .array .int
  | 4 => .array .int
  | 5 => .int
  | _ => .int
theorem nmX1 : ∀ a, a < 7 → ∀ b, b < 7 → a ≠ b → (TX1 a).2.1 ≠ (TX1 b).2.1 := by decide +kernel
theorem tyX1_ok : ∀ k, k < 7 → parseFieldDescriptor (TX1 k).2.2.1 = some (tyX1 k) := by decide +kernel
abbrev cX1_init : ByteArray := prog_3_method_1_code
def yX1_init : MethodName := ⟨RX1, "<init>", "(LUnderFloor$Ways;)V"⟩
abbrev cX1_prepare : ByteArray := prog_3_method_2_code
def yX1_prepare : MethodName := ⟨RX1, "prepare", "(LUnderFloor$Cellar;LUnderFloor$Play;)V"⟩
abbrev cX1_standAt : ByteArray := prog_3_method_3_code
def yX1_standAt : MethodName := ⟨RX1, "standAt", "(LUnderFloor$Cellar;II)V"⟩
abbrev cX1_measure : ByteArray := prog_3_method_4_code
def yX1_measure : MethodName := ⟨RX1, "measure", "(LUnderFloor$Cellar;II)V"⟩
abbrev cX1_copy : ByteArray := prog_3_method_5_code
def yX1_copy : MethodName := ⟨RX1, "copy", "(LUnderFloor$Job;)V"⟩
abbrev cX1_allCues : ByteArray := prog_3_method_6_code
def yX1_allCues : MethodName := ⟨RX1, "allCues", "()I"⟩
abbrev cX1_stepsBetween : ByteArray := prog_3_method_7_code
def yX1_stepsBetween : MethodName := ⟨RX1, "stepsBetween", "(II)I"⟩
abbrev cX1_canBe : ByteArray := prog_3_method_8_code
def yX1_canBe : MethodName := ⟨RX1, "canBe", "()Z"⟩
abbrev cX1_comes : ByteArray := prog_3_method_9_code
def yX1_comes : MethodName := ⟨RX1, "comes", "(III)I"⟩
abbrev cX1_wound : ByteArray := prog_3_method_10_code
def yX1_wound : MethodName := ⟨RX1, "wound", "(II)I"⟩
abbrev cX1_dones : ByteArray := prog_3_method_11_code
def yX1_dones : MethodName := ⟨RX1, "dones", "(II)I"⟩
def RX2 : String := "UnderFloor$Law"
def TX2 : u_T := fun k => match k with
  | 0 => ("UnderFloor$Law", "reader", "LUnderFloor$Reader;", true)
  | 1 => ("UnderFloor$Law", "number", "I", false)
  | 2 => ("UnderFloor$Law", "place", "I", false)
  | 3 => ("UnderFloor$Law", "night", "I", false)
  | 4 => ("UnderFloor$Law", "crank", "I", false)
  | _ => ("UnderFloor$Law", "howMany", "I", false)
def tyX2 : Nat → FieldType := fun k => match k with
  | 0 => .object "UnderFloor$Reader"
  | 1 => .int
  | 2 => .int
  | 3 => .int
  | 4 => .int
  | _ => .int
theorem nmX2 : ∀ a, a < 6 → ∀ b, b < 6 → a ≠ b → (TX2 a).2.1 ≠ (TX2 b).2.1 := by decide +kernel
theorem tyX2_ok : ∀ k, k < 6 → parseFieldDescriptor (TX2 k).2.2.1 = some (tyX2 k) := by decide +kernel
abbrev cX2_init : ByteArray := prog_4_method_1_code
def yX2_init : MethodName := ⟨RX2, "<init>", "(LUnderFloor$Reader;)V"⟩
abbrev cX2_check : ByteArray := prog_4_method_2_code
def yX2_check : MethodName := ⟨RX2, "check", "()I"⟩
abbrev cX2_fillTimes : ByteArray := prog_4_method_3_code
def yX2_fillTimes : MethodName := ⟨RX2, "fillTimes", "(LUnderFloor$Play;LUnderFloor$Text;I[I)V"⟩
abbrev cX2_worth : ByteArray := prog_4_method_4_code
def yX2_worth : MethodName := ⟨RX2, "worth", "()I"⟩
abbrev cX2_startsCondition : ByteArray := prog_4_method_5_code
def yX2_startsCondition : MethodName := ⟨RX2, "startsCondition", "()Z"⟩
abbrev cX2_isComparison : ByteArray := prog_4_method_6_code
def yX2_isComparison : MethodName := ⟨RX2, "isComparison", "(I)Z"⟩
abbrev cX2_condition : ByteArray := prog_4_method_7_code
def yX2_condition : MethodName := ⟨RX2, "condition", "(I)Z"⟩
abbrev cX2_truth : ByteArray := prog_4_method_8_code
def yX2_truth : MethodName := ⟨RX2, "truth", "(I)Z"⟩
abbrev cX2_unit : ByteArray := prog_4_method_9_code
def yX2_unit : MethodName := ⟨RX2, "unit", "(I)Z"⟩
abbrev cX2_denied : ByteArray := prog_4_method_10_code
def yX2_denied : MethodName := ⟨RX2, "denied", "(I)Z"⟩
abbrev cX2_enclosed : ByteArray := prog_4_method_11_code
def yX2_enclosed : MethodName := ⟨RX2, "enclosed", "(I)Z"⟩
abbrev cX2_comparison : ByteArray := prog_4_method_12_code
def yX2_comparison : MethodName := ⟨RX2, "comparison", "(I)Z"⟩
abbrev cX2_sum : ByteArray := prog_4_method_13_code
def yX2_sum : MethodName := ⟨RX2, "sum", "(I)I"⟩
abbrev cX2_term : ByteArray := prog_4_method_14_code
def yX2_term : MethodName := ⟨RX2, "term", "(I)I"⟩
abbrev cX2_held : ByteArray := prog_4_method_15_code
def yX2_held : MethodName := ⟨RX2, "held", "(J)J"⟩
abbrev cX2_atom : ByteArray := prog_4_method_16_code
def yX2_atom : MethodName := ⟨RX2, "atom", "(I)I"⟩
abbrev cX2_letter : ByteArray := prog_4_method_17_code
def yX2_letter : MethodName := ⟨RX2, "letter", "(I)I"⟩
def RX3 : String := "UnderFloor$Play"
def TX3 : u_T := fun k => match k with
  | 0 => ("UnderFloor$Play", "letters", "[I", true)
  | 1 => ("UnderFloor$Play", "numbers", "[I", true)
  | _ => ("UnderFloor$Play", "size", "I", false)
def tyX3 : Nat → FieldType := fun k => match k with
  | 0 => .array .int
  | 1 => .array .int
  | _ => .int
theorem nmX3 : ∀ a, a < 3 → ∀ b, b < 3 → a ≠ b → (TX3 a).2.1 ≠ (TX3 b).2.1 := by decide +kernel
theorem tyX3_ok : ∀ k, k < 3 → parseFieldDescriptor (TX3 k).2.2.1 = some (tyX3 k) := by decide +kernel
abbrev cX3_init : ByteArray := prog_5_method_1_code
def yX3_init : MethodName := ⟨RX3, "<init>", "()V"⟩
abbrev cX3_read : ByteArray := prog_5_method_2_code
def yX3_read : MethodName := ⟨RX3, "read", "(LUnderFloor$Reader;)I"⟩
abbrev cX3_readCue : ByteArray := prog_5_method_3_code
def yX3_readCue : MethodName := ⟨RX3, "readCue", "(LUnderFloor$Reader;I)V"⟩
def RX4 : String := "UnderFloor$Reader"
def TX4 : u_T := fun k => match k with
  | 0 => ("UnderFloor$Reader", "text", "LUnderFloor$Text;", false)
  | 1 => ("UnderFloor$Reader", "pos", "I", false)
  | _ => ("UnderFloor$Reader", "fault", "I", false)
def tyX4 : Nat → FieldType := fun k => match k with
  | 0 => .object "UnderFloor$Text"
  | 1 => .int
  | _ => .int
theorem nmX4 : ∀ a, a < 3 → ∀ b, b < 3 → a ≠ b → (TX4 a).2.1 ≠ (TX4 b).2.1 := by decide +kernel
theorem tyX4_ok : ∀ k, k < 3 → parseFieldDescriptor (TX4 k).2.2.1 = some (tyX4 k) := by decide +kernel
abbrev cX4_init : ByteArray := prog_6_method_1_code
def yX4_init : MethodName := ⟨RX4, "<init>", "(LUnderFloor$Text;)V"⟩
abbrev cX4_open : ByteArray := prog_6_method_2_code
def yX4_open : MethodName := ⟨RX4, "open", "(LUnderFloor$Text;)V"⟩
abbrev cX4_peek : ByteArray := prog_6_method_3_code
def yX4_peek : MethodName := ⟨RX4, "peek", "()I"⟩
abbrev cX4_pass : ByteArray := prog_6_method_4_code
def yX4_pass : MethodName := ⟨RX4, "pass", "()V"⟩
abbrev cX4_take : ByteArray := prog_6_method_5_code
def yX4_take : MethodName := ⟨RX4, "take", "(I)Z"⟩
abbrev cX4_need : ByteArray := prog_6_method_6_code
def yX4_need : MethodName := ⟨RX4, "need", "(I)V"⟩
abbrev cX4_needEnd : ByteArray := prog_6_method_7_code
def yX4_needEnd : MethodName := ⟨RX4, "needEnd", "()V"⟩
abbrev cX4_refuseAt : ByteArray := prog_6_method_8_code
def yX4_refuseAt : MethodName := ⟨RX4, "refuseAt", "(I)V"⟩
abbrev cX4_number : ByteArray := prog_6_method_9_code
def yX4_number : MethodName := ⟨RX4, "number", "(I)I"⟩
abbrev cX4_isDigit : ByteArray := prog_6_method_10_code
def yX4_isDigit : MethodName := ⟨RX4, "isDigit", "(I)Z"⟩
def RX5 : String := "UnderFloor$Run"
def TX5 : u_T := fun k => match k with
  | 0 => ("UnderFloor$Run", "cues", "[I", true)
  | 1 => ("UnderFloor$Run", "comes", "[I", true)
  | 2 => ("UnderFloor$Run", "dones", "[I", true)
  | 3 => ("UnderFloor$Run", "length", "I", false)
  | 4 => ("UnderFloor$Run", "lates", "I", false)
  | 5 => ("UnderFloor$Run", "greatest", "I", false)
  | 6 => ("UnderFloor$Run", "howMany", "I", false)
  | 7 => ("UnderFloor$Run", "last", "I", false)
  | 8 => ("UnderFloor$Run", "steps", "I", false)
  | _ => ("UnderFloor$Run", "idle", "I", false)
def tyX5 : Nat → FieldType := fun k => match k with
  | 0 => .array .int
  | 1 => .array .int
  | 2 => .array .int
  | 3 => .int
  | 4 => .int
  | 5 => .int
  | 6 => .int
  | 7 => .int
  | 8 => .int
  | _ => .int
theorem nmX5 : ∀ a, a < 10 → ∀ b, b < 10 → a ≠ b → (TX5 a).2.1 ≠ (TX5 b).2.1 := by decide +kernel
theorem tyX5_ok : ∀ k, k < 10 → parseFieldDescriptor (TX5 k).2.2.1 = some (tyX5 k) := by decide +kernel
abbrev cX5_init : ByteArray := prog_7_method_1_code
def yX5_init : MethodName := ⟨RX5, "<init>", "()V"⟩
abbrev cX5_takeOrder : ByteArray := prog_7_method_2_code
def yX5_takeOrder : MethodName := ⟨RX5, "takeOrder", "(II)Z"⟩
abbrev cX5_takeBook : ByteArray := prog_7_method_3_code
def yX5_takeBook : MethodName := ⟨RX5, "takeBook", "(II)V"⟩
abbrev cX5_go : ByteArray := prog_7_method_4_code
def yX5_go : MethodName := ⟨RX5, "go", "(LUnderFloor$Job;)Z"⟩
abbrev cX5_addLate : ByteArray := prog_7_method_5_code
def yX5_addLate : MethodName := ⟨RX5, "addLate", "(I)V"⟩
abbrev cX5_crankAt : ByteArray := prog_7_method_6_code
def yX5_crankAt : MethodName := ⟨RX5, "crankAt", "(LUnderFloor$Job;I)I"⟩
def RX6 : String := "UnderFloor$Search"
def TX6 : u_T := fun k => match k with
  | 0 => ("UnderFloor$Search", "seconds", "[I", true)
  | 1 => ("UnderFloor$Search", "costs", "[I", true)
  | 2 => ("UnderFloor$Search", "handsLates", "[I", true)
  | 3 => ("UnderFloor$Search", "boysLates", "[I", true)
  | 4 => ("UnderFloor$Search", "job", "LUnderFloor$Job;", false)
  | 5 => ("UnderFloor$Search", "wish", "I", false)
  | 6 => ("UnderFloor$Search", "fixed", "I", false)
  | 7 => ("UnderFloor$Search", "least", "I", false)
  | _ => ("UnderFloor$Search", "order", "I", false)
def tyX6 : Nat → FieldType := fun k => match k with
  | 0 => .array .int
  | 1 => .array .int
  | 2 => .array .int
  | 3 => .array .int
  | 4 => .object "UnderFloor$Job"
  | 5 => .int
  | 6 => .int
  | 7 => .int
  | _ => .int
theorem nmX6 : ∀ a, a < 9 → ∀ b, b < 9 → a ≠ b → (TX6 a).2.1 ≠ (TX6 b).2.1 := by decide +kernel
theorem tyX6_ok : ∀ k, k < 9 → parseFieldDescriptor (TX6 k).2.2.1 = some (tyX6 k) := by decide +kernel
abbrev cX6_init : ByteArray := prog_8_method_1_code
def yX6_init : MethodName := ⟨RX6, "<init>", "(LUnderFloor$Job;)V"⟩
abbrev cX6_seek : ByteArray := prog_8_method_2_code
def yX6_seek : MethodName := ⟨RX6, "seek", "(LUnderFloor$Job;II)Z"⟩
abbrev cX6_forget : ByteArray := prog_8_method_3_code
def yX6_forget : MethodName := ⟨RX6, "forget", "()V"⟩
abbrev cX6_visit : ByteArray := prog_8_method_4_code
def yX6_visit : MethodName := ⟨RX6, "visit", "(IIIIII)V"⟩
abbrev cX6_follow : ByteArray := prog_8_method_5_code
def yX6_follow : MethodName := ⟨RX6, "follow", "(IIIIII)V"⟩
abbrev cX6_withLate : ByteArray := prog_8_method_6_code
def yX6_withLate : MethodName := ⟨RX6, "withLate", "(II)I"⟩
abbrev cX6_isNew : ByteArray := prog_8_method_7_code
def yX6_isNew : MethodName := ⟨RX6, "isNew", "(IIII)Z"⟩
abbrev cX6_share : ByteArray := prog_8_method_8_code
def yX6_share : MethodName := ⟨RX6, "share", "(LUnderFloor$Job;LUnderFloor$Job;)I"⟩
abbrev cX6_weigh : ByteArray := prog_8_method_9_code
def yX6_weigh : MethodName := ⟨RX6, "weigh", "(LUnderFloor$Job;[I)V"⟩
abbrev cX6_gather : ByteArray := prog_8_method_10_code
def yX6_gather : MethodName := ⟨RX6, "gather", "(IIIII[I)V"⟩
abbrev cX6_gatherBehind : ByteArray := prog_8_method_11_code
def yX6_gatherBehind : MethodName := ⟨RX6, "gatherBehind", "(IIIII[I)V"⟩
def RX7 : String := "UnderFloor$Text"
def TX7 : u_T := fun k => match k with
  | 0 => ("UnderFloor$Text", "bytes", "[I", true)
  | _ => ("UnderFloor$Text", "length", "I", false)
def tyX7 : Nat → FieldType := fun k => match k with
  | 0 => .array .int
  | _ => .int
theorem nmX7 : ∀ a, a < 2 → ∀ b, b < 2 → a ≠ b → (TX7 a).2.1 ≠ (TX7 b).2.1 := by decide +kernel
theorem tyX7_ok : ∀ k, k < 2 → parseFieldDescriptor (TX7 k).2.2.1 = some (tyX7 k) := by decide +kernel
abbrev cX7_init : ByteArray := prog_9_method_1_code
def yX7_init : MethodName := ⟨RX7, "<init>", "()V"⟩
abbrev cX7_bytesIn : ByteArray := prog_9_method_2_code
def yX7_bytesIn : MethodName := ⟨RX7, "bytesIn", "(I)I"⟩
abbrev cX7_add : ByteArray := prog_9_method_3_code
def yX7_add : MethodName := ⟨RX7, "add", "(I)V"⟩
abbrev cX7_cut : ByteArray := prog_9_method_4_code
def yX7_cut : MethodName := ⟨RX7, "cut", "(I)Z"⟩
abbrev cX7_copy : ByteArray := prog_9_method_5_code
def yX7_copy : MethodName := ⟨RX7, "copy", "(LUnderFloor$Text;)V"⟩
def RX8 : String := "UnderFloor$Thuds"
def TX8 : u_T := fun k => match k with
  | 0 => ("UnderFloor$Thuds", "seconds", "[I", true)
  | 1 => ("UnderFloor$Thuds", "cranks", "[I", true)
  | 2 => ("UnderFloor$Thuds", "size", "I", false)
  | 3 => ("UnderFloor$Thuds", "job", "LUnderFloor$Job;", false)
  | 4 => ("UnderFloor$Thuds", "wanted", "I", false)
  | 5 => ("UnderFloor$Thuds", "fits", "I", false)
  | _ => ("UnderFloor$Thuds", "found", "I", false)
def tyX8 : Nat → FieldType := fun k => match k with
  | 0 => .array .int
  | 1 => .array .int
  | 2 => .int
  | 3 => .object "UnderFloor$Job"
  | 4 => .int
  | 5 => .int
  | _ => .int
theorem nmX8 : ∀ a, a < 7 → ∀ b, b < 7 → a ≠ b → (TX8 a).2.1 ≠ (TX8 b).2.1 := by decide +kernel
theorem tyX8_ok : ∀ k, k < 7 → parseFieldDescriptor (TX8 k).2.2.1 = some (tyX8 k) := by decide +kernel
abbrev cX8_init : ByteArray := prog_10_method_1_code
def yX8_init : MethodName := ⟨RX8, "<init>", "(LUnderFloor$Job;)V"⟩
abbrev cX8_add : ByteArray := prog_10_method_2_code
def yX8_add : MethodName := ⟨RX8, "add", "(II)Z"⟩
abbrev cX8_fitting : ByteArray := prog_10_method_3_code
def yX8_fitting : MethodName := ⟨RX8, "fitting", "(LUnderFloor$Job;I)I"⟩
abbrev cX8_visit : ByteArray := prog_10_method_4_code
def yX8_visit : MethodName := ⟨RX8, "visit", "(IIIIII)V"⟩
abbrev cX8_follow : ByteArray := prog_10_method_5_code
def yX8_follow : MethodName := ⟨RX8, "follow", "(IIIIII)V"⟩
abbrev cX8_passesOver : ByteArray := prog_10_method_6_code
def yX8_passesOver : MethodName := ⟨RX8, "passesOver", "(I)Z"⟩
abbrev cX8_heardAt : ByteArray := prog_10_method_7_code
def yX8_heardAt : MethodName := ⟨RX8, "heardAt", "(III)I"⟩
abbrev cX8_isMissed : ByteArray := prog_10_method_8_code
def yX8_isMissed : MethodName := ⟨RX8, "isMissed", "(II)Z"⟩
def RX9 : String := "UnderFloor$Ways"
def TX9 : u_T := fun k => match k with
  | 0 => ("UnderFloor$Ways", "steps", "[I", true)
  | 1 => ("UnderFloor$Ways", "queue", "[I", true)
  | _ => ("UnderFloor$Ways", "queued", "I", false)
def tyX9 : Nat → FieldType := fun k => match k with
  | 0 => .array .int
  | 1 => .array .int
  | _ => .int
theorem nmX9 : ∀ a, a < 3 → ∀ b, b < 3 → a ≠ b → (TX9 a).2.1 ≠ (TX9 b).2.1 := by decide +kernel
theorem tyX9_ok : ∀ k, k < 3 → parseFieldDescriptor (TX9 k).2.2.1 = some (tyX9 k) := by decide +kernel
abbrev cX9_init : ByteArray := prog_11_method_1_code
def yX9_init : MethodName := ⟨RX9, "<init>", "()V"⟩
abbrev cX9_measure : ByteArray := prog_11_method_2_code
def yX9_measure : MethodName := ⟨RX9, "measure", "(LUnderFloor$Cellar;I)V"⟩
abbrev cX9_reach : ByteArray := prog_11_method_3_code
def yX9_reach : MethodName := ⟨RX9, "reach", "(LUnderFloor$Cellar;II)V"⟩
abbrev cX9_stepsTo : ByteArray := prog_11_method_4_code
def yX9_stepsTo : MethodName := ⟨RX9, "stepsTo", "(I)I"⟩
def RX10 : String := "UnderFloor"
def TX10 : u_T := fun k => match k with
  | 0 => ("UnderFloor", "tape", "LUnderFloor$Text;", true)
  | 1 => ("UnderFloor", "reader", "LUnderFloor$Reader;", true)
  | 2 => ("UnderFloor", "law", "LUnderFloor$Law;", true)
  | 3 => ("UnderFloor", "cellar", "LUnderFloor$Cellar;", true)
  | 4 => ("UnderFloor", "kept", "LUnderFloor$Cellar;", true)
  | 5 => ("UnderFloor", "trial", "LUnderFloor$Cellar;", true)
  | 6 => ("UnderFloor", "plays", "[LUnderFloor$Play;", true)
  | 7 => ("UnderFloor", "draft", "LUnderFloor$Play;", true)
  | 8 => ("UnderFloor", "laws", "[LUnderFloor$Text;", true)
  | 9 => ("UnderFloor", "ways", "LUnderFloor$Ways;", true)
  | 10 => ("UnderFloor", "job", "LUnderFloor$Job;", true)
  | 11 => ("UnderFloor", "boysJob", "LUnderFloor$Job;", true)
  | 12 => ("UnderFloor", "run", "LUnderFloor$Run;", true)
  | 13 => ("UnderFloor", "search", "LUnderFloor$Search;", true)
  | 14 => ("UnderFloor", "thuds", "LUnderFloor$Thuds;", true)
  | 15 => ("UnderFloor", "playCount", "I", false)
  | 16 => ("UnderFloor", "lawCount", "I", false)
  | _ => ("UnderFloor", "lawHeld", "I", false)
def tyX10 : Nat → FieldType := fun k => match k with
  | 0 => .object "UnderFloor$Text"
  | 1 => .object "UnderFloor$Reader"
  | 2 => .object "UnderFloor$Law"
  | 3 => .object "UnderFloor$Cellar"
  | 4 => .object "UnderFloor$Cellar"
  | 5 => .object "UnderFloor$Cellar"
  | 6 => .array (.object "UnderFloor$Play")
  | 7 => .object "UnderFloor$Play"
  | 8 => .array (.object "UnderFloor$Text")
  | 9 => .object "UnderFloor$Ways"
  | 10 => .object "UnderFloor$Job"
  | 11 => .object "UnderFloor$Job"
  | 12 => .object "UnderFloor$Run"
  | 13 => .object "UnderFloor$Search"
  | 14 => .object "UnderFloor$Thuds"
  | 15 => .int
  | 16 => .int
  | _ => .int
theorem nmX10 : ∀ a, a < 18 → ∀ b, b < 18 → a ≠ b → (TX10 a).2.1 ≠ (TX10 b).2.1 := by decide +kernel
theorem tyX10_ok : ∀ k, k < 18 → parseFieldDescriptor (TX10 k).2.2.1 = some (tyX10 k) := by decide +kernel
abbrev cX10_init : ByteArray := prog_1_method_1_code
def yX10_init : MethodName := ⟨RX10, "<init>", "()V"⟩
abbrev cX10_feed : ByteArray := prog_1_method_2_code
def yX10_feed : MethodName := ⟨RX10, "feed", "(IIIII)I"⟩
abbrev cX10_end : ByteArray := prog_1_method_3_code
def yX10_end : MethodName := ⟨RX10, "end", "(I)Z"⟩
abbrev cX10_fault : ByteArray := prog_1_method_4_code
def yX10_fault : MethodName := ⟨RX10, "fault", "(I)I"⟩
abbrev cX10_text : ByteArray := prog_1_method_5_code
def yX10_text : MethodName := ⟨RX10, "text", "(I)I"⟩
abbrev cX10_isSort : ByteArray := prog_1_method_6_code
def yX10_isSort : MethodName := ⟨RX10, "isSort", "(I)Z"⟩
abbrev cX10_faultOfTape : ByteArray := prog_1_method_7_code
def yX10_faultOfTape : MethodName := ⟨RX10, "faultOfTape", "(I)I"⟩
abbrev cX10_takeCellar : ByteArray := prog_1_method_8_code
def yX10_takeCellar : MethodName := ⟨RX10, "takeCellar", "()I"⟩
abbrev cX10_takePlay : ByteArray := prog_1_method_9_code
def yX10_takePlay : MethodName := ⟨RX10, "takePlay", "()I"⟩
abbrev cX10_takeLaw : ByteArray := prog_1_method_10_code
def yX10_takeLaw : MethodName := ⟨RX10, "takeLaw", "()I"⟩
abbrev cX10_crank : ByteArray := prog_1_method_11_code
def yX10_crank : MethodName := ⟨RX10, "crank", "(I)I"⟩
abbrev cX10_at : ByteArray := prog_1_method_12_code
def yX10_at : MethodName := ⟨RX10, "at", "(I)I"⟩
abbrev cX10_way : ByteArray := prog_1_method_13_code
def yX10_way : MethodName := ⟨RX10, "way", "(II)I"⟩
abbrev cX10_set : ByteArray := prog_1_method_14_code
def yX10_set : MethodName := ⟨RX10, "set", "(II)Z"⟩
abbrev cX10_wind : ByteArray := prog_1_method_15_code
def yX10_wind : MethodName := ⟨RX10, "wind", "(II)Z"⟩
abbrev cX10_swap : ByteArray := prog_1_method_16_code
def yX10_swap : MethodName := ⟨RX10, "swap", "(II)Z"⟩
abbrev cX10_knock : ByteArray := prog_1_method_17_code
def yX10_knock : MethodName := ⟨RX10, "knock", "(I)Z"⟩
abbrev cX10_image : ByteArray := prog_1_method_18_code
def yX10_image : MethodName := ⟨RX10, "image", "()I"⟩
abbrev cX10_back : ByteArray := prog_1_method_19_code
def yX10_back : MethodName := ⟨RX10, "back", "()I"⟩
abbrev cX10_out : ByteArray := prog_1_method_20_code
def yX10_out : MethodName := ⟨RX10, "out", "(I)I"⟩
abbrev cX10_dead : ByteArray := prog_1_method_21_code
def yX10_dead : MethodName := ⟨RX10, "dead", "()I"⟩
abbrev cX10_count : ByteArray := prog_1_method_22_code
def yX10_count : MethodName := ⟨RX10, "count", "(I)I"⟩
abbrev cX10_cue : ByteArray := prog_1_method_23_code
def yX10_cue : MethodName := ⟨RX10, "cue", "(III)I"⟩
abbrev cX10_order : ByteArray := prog_1_method_24_code
def yX10_order : MethodName := ⟨RX10, "order", "(III)I"⟩
abbrev cX10_done : ByteArray := prog_1_method_25_code
def yX10_done : MethodName := ⟨RX10, "done", "(IIII)I"⟩
abbrev cX10_where : ByteArray := prog_1_method_26_code
def yX10_where : MethodName := ⟨RX10, "where", "(III)I"⟩
abbrev cX10_walk : ByteArray := prog_1_method_27_code
def yX10_walk : MethodName := ⟨RX10, "walk", "(III)I"⟩
abbrev cX10_isPlay : ByteArray := prog_1_method_28_code
def yX10_isPlay : MethodName := ⟨RX10, "isPlay", "(I)Z"⟩
abbrev cX10_isHalf : ByteArray := prog_1_method_29_code
def yX10_isHalf : MethodName := ⟨RX10, "isHalf", "(I)Z"⟩
abbrev cX10_lawThatHolds : ByteArray := prog_1_method_30_code
def yX10_lawThatHolds : MethodName := ⟨RX10, "lawThatHolds", "()LUnderFloor$Text;"⟩
abbrev cX10_lay : ByteArray := prog_1_method_31_code
def yX10_lay : MethodName := ⟨RX10, "lay", "(I)Z"⟩
abbrev cX10_runs : ByteArray := prog_1_method_32_code
def yX10_runs : MethodName := ⟨RX10, "runs", "(II)Z"⟩
abbrev cX10_latesByBook : ByteArray := prog_1_method_33_code
def yX10_latesByBook : MethodName := ⟨RX10, "latesByBook", "(I)I"⟩
abbrev cX10_best : ByteArray := prog_1_method_34_code
def yX10_best : MethodName := ⟨RX10, "best", "(III)I"⟩
abbrev cX10_mend : ByteArray := prog_1_method_35_code
def yX10_mend : MethodName := ⟨RX10, "mend", "(III)I"⟩
abbrev cX10_told : ByteArray := prog_1_method_36_code
def yX10_told : MethodName := ⟨RX10, "told", "(III)I"⟩
abbrev cX10_leastLates : ByteArray := prog_1_method_37_code
def yX10_leastLates : MethodName := ⟨RX10, "leastLates", "()I"⟩
abbrev cX10_met : ByteArray := prog_1_method_38_code
def yX10_met : MethodName := ⟨RX10, "met", "(II)I"⟩
abbrev cX10_isMet : ByteArray := prog_1_method_39_code
def yX10_isMet : MethodName := ⟨RX10, "isMet", "(I)Z"⟩
abbrev cX10_knot : ByteArray := prog_1_method_40_code
def yX10_knot : MethodName := ⟨RX10, "knot", "(I)I"⟩
abbrev cX10_age : ByteArray := prog_1_method_41_code
def yX10_age : MethodName := ⟨RX10, "age", "(I)I"⟩
abbrev cX10_ageOfJob : ByteArray := prog_1_method_42_code
def yX10_ageOfJob : MethodName := ⟨RX10, "ageOfJob", "()I"⟩
abbrev cX10_first : ByteArray := prog_1_method_43_code
def yX10_first : MethodName := ⟨RX10, "first", "()I"⟩
abbrev cX10_post : ByteArray := prog_1_method_44_code
def yX10_post : MethodName := ⟨RX10, "post", "(II)I"⟩
abbrev cX10_rope : ByteArray := prog_1_method_45_code
def yX10_rope : MethodName := ⟨RX10, "rope", "(II)I"⟩
abbrev cX10_exchange : ByteArray := prog_1_method_46_code
def yX10_exchange : MethodName := ⟨RX10, "exchange", "(III)I"⟩
abbrev cX10_pillar : ByteArray := prog_1_method_47_code
def yX10_pillar : MethodName := ⟨RX10, "pillar", "(II)I"⟩
abbrev cX10_leastInTrial : ByteArray := prog_1_method_48_code
def yX10_leastInTrial : MethodName := ⟨RX10, "leastInTrial", "(I)I"⟩
abbrev cX10_leastTogether : ByteArray := prog_1_method_49_code
def yX10_leastTogether : MethodName := ⟨RX10, "leastTogether", "(II)I"⟩
abbrev cX10_urgent : ByteArray := prog_1_method_50_code
def yX10_urgent : MethodName := ⟨RX10, "urgent", "(I)I"⟩
abbrev cX10_skip : ByteArray := prog_1_method_51_code
def yX10_skip : MethodName := ⟨RX10, "skip", "(III)I"⟩
abbrev cX10_nights : ByteArray := prog_1_method_52_code
def yX10_nights : MethodName := ⟨RX10, "nights", "(III)I"⟩
abbrev cX10_slack : ByteArray := prog_1_method_53_code
def yX10_slack : MethodName := ⟨RX10, "slack", "(II)I"⟩
abbrev cX10_thud : ByteArray := prog_1_method_54_code
def yX10_thud : MethodName := ⟨RX10, "thud", "(II)I"⟩
abbrev cX10_fit : ByteArray := prog_1_method_55_code
def yX10_fit : MethodName := ⟨RX10, "fit", "(II)I"⟩
abbrev cX10_boy : ByteArray := prog_1_method_56_code
def yX10_boy : MethodName := ⟨RX10, "boy", "(IIII)I"⟩
def RX11 : String := "UnderFloorModel"
def TX11 : u_T := fun k => match k with
  | 0 => ("UnderFloorModel", "thrown", "I", false)
  | 1 => ("UnderFloorModel", "tape", "[I", true)
  | 2 => ("UnderFloorModel", "size", "I", false)
  | 3 => ("UnderFloorModel", "at", "I", false)
  | 4 => ("UnderFloorModel", "wrong", "I", false)
  | 5 => ("UnderFloorModel", "deep", "I", false)
  | 6 => ("UnderFloorModel", "code", "[I", true)
  | 7 => ("UnderFloorModel", "value", "[I", true)
  | 8 => ("UnderFloorModel", "codes", "[I", true)
  | 9 => ("UnderFloorModel", "clauses", "[I", true)
  | 10 => ("UnderFloorModel", "testFrom", "[I", true)
  | 11 => ("UnderFloorModel", "sumFrom", "[I", true)
  | 12 => ("UnderFloorModel", "sumTo", "[I", true)
  | 13 => ("UnderFloorModel", "laws", "I", false)
  | 14 => ("UnderFloorModel", "text", "I", false)
  | 15 => ("UnderFloorModel", "letters", "[I", true)
  | 16 => ("UnderFloorModel", "stack", "[I", true)
  | 17 => ("UnderFloorModel", "readAt", "[I", true)
  | 18 => ("UnderFloorModel", "readRows", "I", false)
  | 19 => ("UnderFloorModel", "readWide", "I", false)
  | 20 => ("UnderFloorModel", "readCranks", "I", false)
  | 21 => ("UnderFloorModel", "readStart", "Z", false)
  | 22 => ("UnderFloorModel", "now", "[I", true)
  | 23 => ("UnderFloorModel", "rows", "I", false)
  | 24 => ("UnderFloorModel", "wide", "I", false)
  | 25 => ("UnderFloorModel", "cueCrank", "[I", true)
  | 26 => ("UnderFloorModel", "cueNumber", "[I", true)
  | 27 => ("UnderFloorModel", "cueMany", "[I", true)
  | 28 => ("UnderFloorModel", "plays", "I", false)
  | 29 => ("UnderFloorModel", "winds", "[I", true)
  | 30 => ("UnderFloorModel", "stoop", "I", false)
  | 31 => ("UnderFloorModel", "night", "I", false)
  | 32 => ("UnderFloorModel", "holding", "I", false)
  | 33 => ("UnderFloorModel", "steps", "[I", true)
  | 34 => ("UnderFloorModel", "times", "[I", true)
  | 35 => ("UnderFloorModel", "between", "[I", true)
  | 36 => ("UnderFloorModel", "windOf", "[I", true)
  | 37 => ("UnderFloorModel", "many", "I", false)
  | 38 => ("UnderFloorModel", "pace", "I", false)
  | 39 => ("UnderFloorModel", "comes", "[I", true)
  | 40 => ("UnderFloorModel", "dones", "[I", true)
  | 41 => ("UnderFloorModel", "bestOrder", "I", false)
  | 42 => ("UnderFloorModel", "bestValue", "I", false)
  | 43 => ("UnderFloorModel", "thudAt", "[I", true)
  | 44 => ("UnderFloorModel", "thudCrank", "[I", true)
  | 45 => ("UnderFloorModel", "thuds", "I", false)
  | 46 => ("UnderFloorModel", "fitMany", "I", false)
  | 47 => ("UnderFloorModel", "fitFound", "I", false)
  | 48 => ("UnderFloorModel", "hands", "[I", true)
  | 49 => ("UnderFloorModel", "imageAt", "[I", true)
  | 50 => ("UnderFloorModel", "imageWinds", "[I", true)
  | 51 => ("UnderFloorModel", "imageStoop", "I", false)
  | 52 => ("UnderFloorModel", "imageNight", "I", false)
  | _ => ("UnderFloorModel", "hasImage", "Z", false)
def tyX11 : Nat → FieldType := fun k => match k with
  | 0 => .int
  | 1 => .array .int
  | 2 => .int
  | 3 => .int
  | 4 => .int
  | 5 => .int
  | 6 => .array .int
  | 7 => .array .int
  | 8 => .array .int
  | 9 => .array .int
  | 10 => .array .int
  | 11 => .array .int
  | 12 => .array .int
  | 13 => .int
  | 14 => .int
  | 15 => .array .int
  | 16 => .array .int
  | 17 => .array .int
  | 18 => .int
  | 19 => .int
  | 20 => .int
  | 21 => .boolean
  | 22 => .array .int
  | 23 => .int
  | 24 => .int
  | 25 => .array .int
  | 26 => .array .int
  | 27 => .array .int
  | 28 => .int
  | 29 => .array .int
  | 30 => .int
  | 31 => .int
  | 32 => .int
  | 33 => .array .int
  | 34 => .array .int
  | 35 => .array .int
  | 36 => .array .int
  | 37 => .int
  | 38 => .int
  | 39 => .array .int
  | 40 => .array .int
  | 41 => .int
  | 42 => .int
  | 43 => .array .int
  | 44 => .array .int
  | 45 => .int
  | 46 => .int
  | 47 => .int
  | 48 => .array .int
  | 49 => .array .int
  | 50 => .array .int
  | 51 => .int
  | 52 => .int
  | _ => .boolean
theorem nmX11 : ∀ a, a < 54 → ∀ b, b < 54 → a ≠ b → (TX11 a).2.1 ≠ (TX11 b).2.1 := by decide +kernel
theorem tyX11_ok : ∀ k, k < 54 → parseFieldDescriptor (TX11 k).2.2.1 = some (tyX11 k) := by decide +kernel
abbrev cX11_in : ByteArray := prog_13_method_1_code
def yX11_in : MethodName := ⟨RX11, "in", "(III)Z"⟩
abbrev cX11_has : ByteArray := prog_13_method_2_code
def yX11_has : MethodName := ⟨RX11, "has", "(II)Z"⟩
abbrev cX11_init : ByteArray := prog_13_method_3_code
def yX11_init : MethodName := ⟨RX11, "<init>", "()V"⟩
abbrev cX11_thrown : ByteArray := prog_13_method_4_code
def yX11_thrown : MethodName := ⟨RX11, "thrown", "()I"⟩
abbrev cX11_byteOf : ByteArray := prog_13_method_5_code
def yX11_byteOf : MethodName := ⟨RX11, "byteOf", "(IIIIII)I"⟩
abbrev cX11_feed : ByteArray := prog_13_method_6_code
def yX11_feed : MethodName := ⟨RX11, "feed", "(IIIII)I"⟩
abbrev cX11_end : ByteArray := prog_13_method_7_code
def yX11_end : MethodName := ⟨RX11, "end", "(I)Z"⟩
abbrev cX11_here : ByteArray := prog_13_method_8_code
def yX11_here : MethodName := ⟨RX11, "here", "()I"⟩
abbrev cX11_look : ByteArray := prog_13_method_9_code
def yX11_look : MethodName := ⟨RX11, "look", "()I"⟩
abbrev cX11_bad : ByteArray := prog_13_method_10_code
def yX11_bad : MethodName := ⟨RX11, "bad", "()V"⟩
abbrev cX11_isDigit : ByteArray := prog_13_method_11_code
def yX11_isDigit : MethodName := ⟨RX11, "isDigit", "(I)Z"⟩
abbrev cX11_put : ByteArray := prog_13_method_12_code
def yX11_put : MethodName := ⟨RX11, "put", "(II)V"⟩
abbrev cX11_letterOf : ByteArray := prog_13_method_13_code
def yX11_letterOf : MethodName := ⟨RX11, "letterOf", "(I)I"⟩
abbrev cX11_opens : ByteArray := prog_13_method_14_code
def yX11_opens : MethodName := ⟨RX11, "opens", "()V"⟩
abbrev cX11_closes : ByteArray := prog_13_method_15_code
def yX11_closes : MethodName := ⟨RX11, "closes", "(I)V"⟩
abbrev cX11_plainNumber : ByteArray := prog_13_method_16_code
def yX11_plainNumber : MethodName := ⟨RX11, "plainNumber", "()I"⟩
abbrev cX11_atom : ByteArray := prog_13_method_17_code
def yX11_atom : MethodName := ⟨RX11, "atom", "()V"⟩
abbrev cX11_term : ByteArray := prog_13_method_18_code
def yX11_term : MethodName := ⟨RX11, "term", "()V"⟩
abbrev cX11_sum : ByteArray := prog_13_method_19_code
def yX11_sum : MethodName := ⟨RX11, "sum", "()V"⟩
abbrev cX11_isSign : ByteArray := prog_13_method_20_code
def yX11_isSign : MethodName := ⟨RX11, "isSign", "(I)Z"⟩
abbrev cX11_compare : ByteArray := prog_13_method_21_code
def yX11_compare : MethodName := ⟨RX11, "compare", "()V"⟩
abbrev cX11_unit : ByteArray := prog_13_method_22_code
def yX11_unit : MethodName := ⟨RX11, "unit", "()V"⟩
abbrev cX11_goOnAnd : ByteArray := prog_13_method_23_code
def yX11_goOnAnd : MethodName := ⟨RX11, "goOnAnd", "()V"⟩
abbrev cX11_goOnOr : ByteArray := prog_13_method_24_code
def yX11_goOnOr : MethodName := ⟨RX11, "goOnOr", "()V"⟩
abbrev cX11_condition : ByteArray := prog_13_method_25_code
def yX11_condition : MethodName := ⟨RX11, "condition", "()V"⟩
abbrev cX11_clause : ByteArray := prog_13_method_26_code
def yX11_clause : MethodName := ⟨RX11, "clause", "()V"⟩
abbrev cX11_open : ByteArray := prog_13_method_27_code
def yX11_open : MethodName := ⟨RX11, "open", "(I)V"⟩
abbrev cX11_atEnd : ByteArray := prog_13_method_28_code
def yX11_atEnd : MethodName := ⟨RX11, "atEnd", "()I"⟩
abbrev cX11_readLaw : ByteArray := prog_13_method_29_code
def yX11_readLaw : MethodName := ⟨RX11, "readLaw", "(I)I"⟩
abbrev cX11_bounded : ByteArray := prog_13_method_30_code
def yX11_bounded : MethodName := ⟨RX11, "bounded", "(J)I"⟩
abbrev cX11_worked : ByteArray := prog_13_method_31_code
def yX11_worked : MethodName := ⟨RX11, "worked", "(IJJ)I"⟩
abbrev cX11_workOut : ByteArray := prog_13_method_32_code
def yX11_workOut : MethodName := ⟨RX11, "workOut", "(III)I"⟩
abbrev cX11_worthOf : ByteArray := prog_13_method_33_code
def yX11_worthOf : MethodName := ⟨RX11, "worthOf", "(I)I"⟩
abbrev cX11_signOf : ByteArray := prog_13_method_34_code
def yX11_signOf : MethodName := ⟨RX11, "signOf", "(I)I"⟩
abbrev cX11_rowText : ByteArray := prog_13_method_35_code
def yX11_rowText : MethodName := ⟨RX11, "rowText", "()V"⟩
abbrev cX11_readCellar : ByteArray := prog_13_method_36_code
def yX11_readCellar : MethodName := ⟨RX11, "readCellar", "()I"⟩
abbrev cX11_readPlay : ByteArray := prog_13_method_37_code
def yX11_readPlay : MethodName := ⟨RX11, "readPlay", "(I)I"⟩
abbrev cX11_cueText : ByteArray := prog_13_method_38_code
def yX11_cueText : MethodName := ⟨RX11, "cueText", "(I)V"⟩
abbrev cX11_fault : ByteArray := prog_13_method_39_code
def yX11_fault : MethodName := ⟨RX11, "fault", "(I)I"⟩
abbrev cX11_takeCellar : ByteArray := prog_13_method_40_code
def yX11_takeCellar : MethodName := ⟨RX11, "takeCellar", "()I"⟩
abbrev cX11_text : ByteArray := prog_13_method_41_code
def yX11_text : MethodName := ⟨RX11, "text", "(I)I"⟩
abbrev cX11_isPlace : ByteArray := prog_13_method_42_code
def yX11_isPlace : MethodName := ⟨RX11, "isPlace", "(I)Z"⟩
abbrev cX11_placeOf : ByteArray := prog_13_method_43_code
def yX11_placeOf : MethodName := ⟨RX11, "placeOf", "(I)I"⟩
abbrev cX11_isCrank : ByteArray := prog_13_method_44_code
def yX11_isCrank : MethodName := ⟨RX11, "isCrank", "(I)Z"⟩
abbrev cX11_crank : ByteArray := prog_13_method_45_code
def yX11_crank : MethodName := ⟨RX11, "crank", "(I)I"⟩
abbrev cX11_at : ByteArray := prog_13_method_46_code
def yX11_at : MethodName := ⟨RX11, "at", "(I)I"⟩
abbrev cX11_spread : ByteArray := prog_13_method_47_code
def yX11_spread : MethodName := ⟨RX11, "spread", "(I)V"⟩
abbrev cX11_reach : ByteArray := prog_13_method_48_code
def yX11_reach : MethodName := ⟨RX11, "reach", "(II)V"⟩
abbrev cX11_isOpen : ByteArray := prog_13_method_49_code
def yX11_isOpen : MethodName := ⟨RX11, "isOpen", "(I)Z"⟩
abbrev cX11_way : ByteArray := prog_13_method_50_code
def yX11_way : MethodName := ⟨RX11, "way", "(II)I"⟩
abbrev cX11_isPlay : ByteArray := prog_13_method_51_code
def yX11_isPlay : MethodName := ⟨RX11, "isPlay", "(I)Z"⟩
abbrev cX11_layTimes : ByteArray := prog_13_method_52_code
def yX11_layTimes : MethodName := ⟨RX11, "layTimes", "(II)V"⟩
abbrev cX11_cue : ByteArray := prog_13_method_53_code
def yX11_cue : MethodName := ⟨RX11, "cue", "(III)I"⟩
abbrev cX11_set : ByteArray := prog_13_method_54_code
def yX11_set : MethodName := ⟨RX11, "set", "(II)Z"⟩
abbrev cX11_wind : ByteArray := prog_13_method_55_code
def yX11_wind : MethodName := ⟨RX11, "wind", "(II)Z"⟩
abbrev cX11_change : ByteArray := prog_13_method_56_code
def yX11_change : MethodName := ⟨RX11, "change", "(II)V"⟩
abbrev cX11_swap : ByteArray := prog_13_method_57_code
def yX11_swap : MethodName := ⟨RX11, "swap", "(II)Z"⟩
abbrev cX11_knock : ByteArray := prog_13_method_58_code
def yX11_knock : MethodName := ⟨RX11, "knock", "(I)Z"⟩
abbrev cX11_lay : ByteArray := prog_13_method_59_code
def yX11_lay : MethodName := ⟨RX11, "lay", "(III)V"⟩
abbrev cX11_isReady : ByteArray := prog_13_method_60_code
def yX11_isReady : MethodName := ⟨RX11, "isReady", "(I)Z"⟩
abbrev cX11_ten : ByteArray := prog_13_method_61_code
def yX11_ten : MethodName := ⟨RX11, "ten", "(I)I"⟩
abbrev cX11_nth : ByteArray := prog_13_method_62_code
def yX11_nth : MethodName := ⟨RX11, "nth", "(II)I"⟩
abbrev cX11_isOrder : ByteArray := prog_13_method_63_code
def yX11_isOrder : MethodName := ⟨RX11, "isOrder", "(I)Z"⟩
abbrev cX11_go : ByteArray := prog_13_method_64_code
def yX11_go : MethodName := ⟨RX11, "go", "(I)Z"⟩
abbrev cX11_late : ByteArray := prog_13_method_65_code
def yX11_late : MethodName := ⟨RX11, "late", "(I)I"⟩
abbrev cX11_tellOf : ByteArray := prog_13_method_66_code
def yX11_tellOf : MethodName := ⟨RX11, "tellOf", "(II)I"⟩
abbrev cX11_order : ByteArray := prog_13_method_67_code
def yX11_order : MethodName := ⟨RX11, "order", "(III)I"⟩
abbrev cX11_done : ByteArray := prog_13_method_68_code
def yX11_done : MethodName := ⟨RX11, "done", "(IIII)I"⟩
abbrev cX11_where : ByteArray := prog_13_method_69_code
def yX11_where : MethodName := ⟨RX11, "where", "(III)I"⟩
abbrev cX11_search : ByteArray := prog_13_method_70_code
def yX11_search : MethodName := ⟨RX11, "search", "(IIIIII)V"⟩
abbrev cX11_leastOf : ByteArray := prog_13_method_71_code
def yX11_leastOf : MethodName := ⟨RX11, "leastOf", "(II)I"⟩
abbrev cX11_all : ByteArray := prog_13_method_72_code
def yX11_all : MethodName := ⟨RX11, "all", "()I"⟩
abbrev cX11_best : ByteArray := prog_13_method_73_code
def yX11_best : MethodName := ⟨RX11, "best", "(III)I"⟩
abbrev cX11_met : ByteArray := prog_13_method_74_code
def yX11_met : MethodName := ⟨RX11, "met", "(II)I"⟩
abbrev cX11_knot : ByteArray := prog_13_method_75_code
def yX11_knot : MethodName := ⟨RX11, "knot", "(I)I"⟩
abbrev cX11_ageOf : ByteArray := prog_13_method_76_code
def yX11_ageOf : MethodName := ⟨RX11, "ageOf", "(I)I"⟩
abbrev cX11_age : ByteArray := prog_13_method_77_code
def yX11_age : MethodName := ⟨RX11, "age", "(I)I"⟩
abbrev cX11_first : ByteArray := prog_13_method_78_code
def yX11_first : MethodName := ⟨RX11, "first", "()I"⟩
abbrev cX11_leastNow : ByteArray := prog_13_method_79_code
def yX11_leastNow : MethodName := ⟨RX11, "leastNow", "(I)I"⟩
abbrev cX11_post : ByteArray := prog_13_method_80_code
def yX11_post : MethodName := ⟨RX11, "post", "(II)I"⟩
abbrev cX11_rope : ByteArray := prog_13_method_81_code
def yX11_rope : MethodName := ⟨RX11, "rope", "(II)I"⟩
abbrev cX11_bothNow : ByteArray := prog_13_method_82_code
def yX11_bothNow : MethodName := ⟨RX11, "bothNow", "(II)I"⟩
abbrev cX11_exchange : ByteArray := prog_13_method_83_code
def yX11_exchange : MethodName := ⟨RX11, "exchange", "(III)I"⟩
abbrev cX11_skip : ByteArray := prog_13_method_84_code
def yX11_skip : MethodName := ⟨RX11, "skip", "(III)I"⟩
abbrev cX11_book : ByteArray := prog_13_method_85_code
def yX11_book : MethodName := ⟨RX11, "book", "()I"⟩
abbrev cX11_nights : ByteArray := prog_13_method_86_code
def yX11_nights : MethodName := ⟨RX11, "nights", "(III)I"⟩
abbrev cX11_thud : ByteArray := prog_13_method_87_code
def yX11_thud : MethodName := ⟨RX11, "thud", "(II)I"⟩
abbrev cX11_fits : ByteArray := prog_13_method_88_code
def yX11_fits : MethodName := ⟨RX11, "fits", "(I)Z"⟩
abbrev cX11_fitFrom : ByteArray := prog_13_method_89_code
def yX11_fitFrom : MethodName := ⟨RX11, "fitFrom", "(IIII)V"⟩
abbrev cX11_fit : ByteArray := prog_13_method_90_code
def yX11_fit : MethodName := ⟨RX11, "fit", "(II)I"⟩
abbrev cX11_boy : ByteArray := prog_13_method_91_code
def yX11_boy : MethodName := ⟨RX11, "boy", "(IIII)I"⟩
abbrev cX11_out : ByteArray := prog_13_method_92_code
def yX11_out : MethodName := ⟨RX11, "out", "(I)I"⟩
abbrev cX11_walk : ByteArray := prog_13_method_93_code
def yX11_walk : MethodName := ⟨RX11, "walk", "(III)I"⟩
abbrev cX11_mend : ByteArray := prog_13_method_94_code
def yX11_mend : MethodName := ⟨RX11, "mend", "(III)I"⟩
abbrev cX11_slack : ByteArray := prog_13_method_95_code
def yX11_slack : MethodName := ⟨RX11, "slack", "(II)I"⟩
abbrev cX11_urgent : ByteArray := prog_13_method_96_code
def yX11_urgent : MethodName := ⟨RX11, "urgent", "(I)I"⟩
abbrev cX11_dead : ByteArray := prog_13_method_97_code
def yX11_dead : MethodName := ⟨RX11, "dead", "()I"⟩
abbrev cX11_pillar : ByteArray := prog_13_method_98_code
def yX11_pillar : MethodName := ⟨RX11, "pillar", "(II)I"⟩
abbrev cX11_posts : ByteArray := prog_13_method_99_code
def yX11_posts : MethodName := ⟨RX11, "posts", "()I"⟩
abbrev cX11_image : ByteArray := prog_13_method_100_code
def yX11_image : MethodName := ⟨RX11, "image", "()I"⟩
abbrev cX11_back : ByteArray := prog_13_method_101_code
def yX11_back : MethodName := ⟨RX11, "back", "()I"⟩
abbrev cX11_cranks : ByteArray := prog_13_method_102_code
def yX11_cranks : MethodName := ⟨RX11, "cranks", "()I"⟩
abbrev cX11_count : ByteArray := prog_13_method_103_code
def yX11_count : MethodName := ⟨RX11, "count", "(I)I"⟩
def RJ6 : String := "java/lang/Integer"
abbrev cJ6_bitCount_0f7a4 : ByteArray := prog_16_method_49_code
def yJ6_bitCount_0f7a4 : MethodName := ⟨RJ6, "bitCount", "(I)I"⟩
def RJ9 : String := "java/lang/Math"
abbrev cJ9_max_7cf53 : ByteArray := prog_17_method_65_code
def yJ9_max_7cf53 : MethodName := ⟨RJ9, "max", "(II)I"⟩
abbrev cJ9_max_f86c9 : ByteArray := prog_17_method_66_code
def yJ9_max_f86c9 : MethodName := ⟨RJ9, "max", "(JJ)J"⟩
abbrev cJ9_min_7cf53 : ByteArray := prog_17_method_69_code
def yJ9_min_7cf53 : MethodName := ⟨RJ9, "min", "(II)I"⟩
abbrev cJ9_min_f86c9 : ByteArray := prog_17_method_70_code
def yJ9_min_f86c9 : MethodName := ⟨RJ9, "min", "(JJ)J"⟩
def RJ0 : String := "java/lang/String"
def RJ10 : String := "java/lang/System"
def RL : String := "UnderFloorLaw"
abbrev cL_crank : ByteArray := method_3_code
def yL_crank : MethodName := ⟨RL, "crank", "(LUnderFloor;I[J)I"⟩
abbrev cL_law : ByteArray := code
def yL_law : MethodName := ⟨RL, "law", "([I)Z"⟩
abbrev vwCl : List vw_C := [(RX0, TX0, 9), (RX1, TX1, 7), (RX2, TX2, 6), (RX3, TX3, 3), (RX4, TX4, 3), (RX5, TX5, 10), (RX6, TX6, 9), (RX7, TX7, 2), (RX8, TX8, 7), (RX9, TX9, 3), (RX10, TX10, 18), (RX11, TX11, 54)]
end
section
/-! THE PURE LEVEL: numbers are Int, a memory is a function, a method is a function to Option -/
abbrev AV : Type := Int ⊕ (Int ⊕ Option Nat)
abbrev vI (a : Int) : AV := .inl a
abbrev vL (a : Int) : AV := .inr (.inl a)
abbrev vR (t : Nat) : AV := .inr (.inr (some t))
abbrev vN : AV := .inr (.inr none)
/-- a reference that may be null: -1, or the cell's number -/
def vC (c : Int) : AV := if c = -1 then vN else vR c.toNat
abbrev Mm : Type := Nat → Nat → Int
abbrev Rs : Type := Option (Int × Mm)
def wI (x : Int) : Int := x.bmod 4294967296
def wL (x : Int) : Int := x.bmod 18446744073709551616
def iA (a b : Int) : Int := wI (a + b)
def iS (a b : Int) : Int := wI (a - b)
def iM (a b : Int) : Int := wI (a * b)
def iD (a b : Int) : Int := wI (a.tdiv b)
def iR (a b : Int) : Int := wI (a - iD a b * b)
def bA (a b : Int) : Int := (Int32.ofInt a &&& Int32.ofInt b).toInt
def bO (a b : Int) : Int := (Int32.ofInt a ||| Int32.ofInt b).toInt
def bX (a b : Int) : Int := (Int32.ofInt a ^^^ Int32.ofInt b).toInt
def bL (a b : Int) : Int := (Int32.ofInt a <<< (Int32.ofInt b &&& 31)).toInt
def bR (a b : Int) : Int := (Int32.ofInt a >>> (Int32.ofInt b &&& 31)).toInt
def bU (a b : Int) : Int := ((Int32.ofInt a).toUInt32 >>> ((Int32.ofInt b).toUInt32 &&& Int32.toUInt32 31)).toInt32.toInt
def lA (a b : Int) : Int := wL (a + b)
def lS (a b : Int) : Int := wL (a - b)
def lM (a b : Int) : Int := wL (a * b)
def lD (a b : Int) : Int := wL (a.tdiv b)
def lC (a b : Int) : Int := if b < a then 1 else if a = b then 0 else -1
def mX (a b : Int) : Int := if b < a then a else b
def mN (a b : Int) : Int := if b < a then b else a
def rI (a : Int) : Prop := -2147483648 ≤ a ∧ a ≤ 2147483647
def rL (a : Int) : Prop := -9223372036854775808 ≤ a ∧ a ≤ 9223372036854775807
def cV (ad : Nat → Nat) : AV → Value
  | .inl a => .int (Int32.ofInt a)
  | .inr (.inl a) => .long (Int64.ofInt a)
  | .inr (.inr (some t)) => .ref (ad t)
  | .inr (.inr none) => .null
def oV : AV → Prop
  | .inl a => rI a
  | .inr (.inl a) => rL a
  | .inr (.inr _) => True
def oM (μ : Mm) : Prop := ∀ i j, rI (μ i j)
def sM (μ : Mm) (a j : Nat) (v : Int) : Mm := fun i k => if i = a ∧ k = j then v else μ i k
/-- the cells of both systems: (0, n) n ints; (1, n) n plays; (2, n) n texts; (10 + class, fields) an object -/
def kL : List (Nat × Nat) := [(20, 18), (17, 2), (0, 160), (14, 3), (12, 6), (10, 9), (0, 60), (0, 8), (0, 8), (10, 9), (0, 60), (0, 8), (0, 8), (10, 9), (0, 60), (0, 8), (0, 8), (1, 5), (13, 3), (0, 8), (0, 8), (13, 3), (0, 8), (0, 8), (13, 3), (0, 8), (0, 8), (13, 3), (0, 8), (0, 8), (13, 3), (0, 8), (0, 8), (13, 3), (0, 8), (0, 8), (2, 4), (17, 2), (0, 160), (17, 2), (0, 160), (17, 2), (0, 160), (17, 2), (0, 160), (19, 3), (0, 60), (0, 60), (11, 7), (0, 8), (0, 8), (0, 8), (0, 72), (11, 7), (0, 8), (0, 8), (0, 8), (0, 72), (15, 10), (0, 8), (0, 8), (0, 8), (16, 9), (0, 2048), (0, 2048), (0, 256), (0, 256), (18, 7), (0, 10), (0, 10), (21, 54), (0, 160), (0, 1700), (0, 1700), (0, 5), (0, 5), (0, 450), (0, 450), (0, 450), (0, 5), (0, 80), (0, 60), (0, 60), (0, 48), (0, 48), (0, 6), (0, 8), (0, 60), (0, 8), (0, 72), (0, 8), (0, 8), (0, 8), (0, 10), (0, 10), (0, 256), (0, 60), (0, 8)]
def nC : Nat := 98
def kD (k : Nat) : Nat × Nat := kL.getD k (99, 0)
def aN (k : Nat) : Nat := (kD k).2
/-- what a field is: (0, _) a number; (1, o) the cell o behind its object; (2, t) the cell t; (3, _) a cell's number -/
def rF (ci j : Nat) : Nat × Nat := (([[(1, 1), (1, 2), (1, 3), (0, 0), (0, 0), (0, 0), (0, 0), (0, 0), (0, 0)], [(2, 45), (1, 1), (1, 2), (1, 3), (1, 4), (0, 0), (0, 0)], [(2, 3), (0, 0), (0, 0), (0, 0), (0, 0), (0, 0)], [(1, 1), (1, 2), (0, 0)], [(3, 0), (0, 0), (0, 0)], [(1, 1), (1, 2), (1, 3), (0, 0), (0, 0), (0, 0), (0, 0), (0, 0), (0, 0), (0, 0)], [(1, 1), (1, 2), (1, 3), (1, 4), (3, 0), (0, 0), (0, 0), (0, 0), (0, 0)], [(1, 1), (0, 0)], [(1, 1), (1, 2), (0, 0), (3, 0), (0, 0), (0, 0), (0, 0)], [(1, 1), (1, 2), (0, 0)], [(1, 1), (1, 3), (1, 4), (1, 5), (1, 9), (1, 13), (1, 17), (1, 33), (1, 36), (1, 45), (1, 48), (1, 53), (1, 58), (1, 62), (1, 67), (0, 0), (0, 0), (0, 0)], [(0, 0), (1, 1), (0, 0), (0, 0), (0, 0), (0, 0), (1, 2), (1, 3), (1, 4), (1, 5), (1, 6), (1, 7), (1, 8), (0, 0), (0, 0), (1, 9), (1, 10), (1, 11), (0, 0), (0, 0), (0, 0), (0, 0), (1, 12), (0, 0), (0, 0), (1, 13), (1, 14), (1, 15), (0, 0), (1, 16), (0, 0), (0, 0), (0, 0), (1, 17), (1, 18), (1, 19), (1, 20), (0, 0), (0, 0), (1, 21), (1, 22), (0, 0), (0, 0), (1, 23), (1, 24), (0, 0), (0, 0), (0, 0), (1, 25), (1, 26), (1, 27), (0, 0), (0, 0), (0, 0)]] : List (List (Nat × Nat))).getD ci []).getD j (0, 0)
/-- the cells that an array of references holds -/
def aE (a j : Nat) : Nat := if a = 17 then 18 + 3 * j else 37 + 2 * j
def fV (μ : Mm) (k j : Nat) : AV := match rF ((kD k).1 - 10) j with
  | (0, _) => vI (μ k j)
  | (1, o) => vR (k + o)
  | (2, t) => vR t
  | _ => vR (μ k j).toNat
def eN (D : ClassId × ClassId × ClassId) (ad : Nat → Nat) (μ : Mm) (k : Nat) : va_E := match kD k with
  | (0, n) => .inl (D.1, n, .inl (fun j => Int32.ofInt (μ k j)))
  | (1, n) => .inl (D.2.1, n, .inr (.inr (.inr (.inr (fun j => some (ad (aE k j)))))))
  | (2, n) => .inl (D.2.2, n, .inr (.inr (.inr (.inr (fun j => some (ad (aE k j)))))))
  | (c, n) => .inr (c - 10, (List.range n).map (fun j => cV ad (fV μ k j)))
def wO (D : ClassId × ClassId × ClassId) (ad : Nat → Nat) (μ : Mm) : va_W := (List.range nC).map (fun k => (ad k, eN D ad μ k))
abbrev tyS (D : ClassId × ClassId × ClassId) : List (ClassId × FieldType) := [(D.1, .int), (D.2.1, .object RX3), (D.2.2, .object RX7)]
/-! combinators of the pure functions -/
def bd (x : Rs) (f : Int → Mm → Rs) : Rs := match x with
  | none => none
  | some q => f q.1 q.2
def lt_ (x : Int) (f : Int → Rs) : Rs := f x
def sF (μ : Mm) (a j : Nat) (v : Int) (f : Mm → Rs) : Rs := f (sM μ a j v)
def sZ (μ : Mm) (a j : Nat) (v : Int) (f : Mm → Rs) : Rs := if v = 0 ∨ v = 1 then f (sM μ a j v) else none
def ldA (μ : Mm) (a : Nat) (i : Int) (f : Int → Rs) : Rs := if 0 ≤ i ∧ i < aN a then f (μ a i.toNat) else none
def stA (μ : Mm) (a : Nat) (i v : Int) (f : Mm → Rs) : Rs := if 0 ≤ i ∧ i < aN a then f (sM μ a i.toNat v) else none
def aL (a : Nat) (i : Int) (f : Nat → Rs) : Rs := if 0 ≤ i ∧ i < aN a then f (aE a i.toNat) else none
def mR (μ : Mm) (a j : Nat) (k : Nat × Nat) (f : Nat → Rs) : Rs := if kD (μ a j).toNat = k then f (μ a j).toNat else none
def dZ (b : Int) (f : Rs) : Rs := if b = 0 then none else f
def nN (c : Int) (f : Nat → Rs) : Rs := if 0 ≤ c then f c.toNat else none
def kC (c : Int) (k : Nat × Nat) (f : Nat → Rs) : Rs := if kD c.toNat = k then f c.toNat else none
def rZ (v : Int) (μ : Mm) : Rs := if v = 0 ∨ v = 1 then some (v, μ) else none
/-- System.arraycopy of n numbers from a at 0 to b at 0 -/
def cA_ (μ : Mm) (a b : Nat) (n : Int) : Mm := fun i k => if i = b ∧ (k : Int) < n then μ a k else μ i k
def cpA (μ : Mm) (a b : Nat) (n : Int) (f : Mm → Rs) : Rs := if 0 ≤ n ∧ n ≤ aN a ∧ n ≤ aN b then f (cA_ μ a b n) else none
def FU : Nat := 1000000
def RD : Nat := 12
theorem bd_i {x : Rs} {f : Int → Mm → Rs} {q : Int × Mm} (h : bd x f = some q) : ∃ r μ, x = some (r, μ) ∧ f r μ = some q := by
  cases x with
  | none => cases h
  | some y => exact ⟨y.1, y.2, rfl, h⟩
theorem ldA_i {μ : Mm} {a : Nat} {i : Int} {f : Int → Rs} {q : Int × Mm} (h : ldA μ a i f = some q) : (0 ≤ i ∧ i < aN a) ∧ f (μ a i.toNat) = some q := by
  unfold ldA at h
  by_cases c : 0 ≤ i ∧ i < aN a
  · rw [if_pos c] at h; exact ⟨c, h⟩
  · rw [if_neg c] at h; cases h
theorem stA_i {μ : Mm} {a : Nat} {i v : Int} {f : Mm → Rs} {q : Int × Mm} (h : stA μ a i v f = some q) : (0 ≤ i ∧ i < aN a) ∧ f (sM μ a i.toNat v) = some q := by
  unfold stA at h
  by_cases c : 0 ≤ i ∧ i < aN a
  · rw [if_pos c] at h; exact ⟨c, h⟩
  · rw [if_neg c] at h; cases h
theorem aL_i {a : Nat} {i : Int} {f : Nat → Rs} {q : Int × Mm} (h : aL a i f = some q) : (0 ≤ i ∧ i < aN a) ∧ f (aE a i.toNat) = some q := by
  unfold aL at h
  by_cases c : 0 ≤ i ∧ i < aN a
  · rw [if_pos c] at h; exact ⟨c, h⟩
  · rw [if_neg c] at h; cases h
theorem mR_i {μ : Mm} {a j : Nat} {k : Nat × Nat} {f : Nat → Rs} {q : Int × Mm} (h : mR μ a j k f = some q) : kD (μ a j).toNat = k ∧ f (μ a j).toNat = some q := by
  unfold mR at h
  by_cases c : kD (μ a j).toNat = k
  · rw [if_pos c] at h; exact ⟨c, h⟩
  · rw [if_neg c] at h; cases h
theorem dZ_i {b : Int} {f : Rs} {q : Int × Mm} (h : dZ b f = some q) : b ≠ 0 ∧ f = some q := by
  unfold dZ at h
  by_cases c : b = 0
  · rw [if_pos c] at h; cases h
  · rw [if_neg c] at h; exact ⟨c, h⟩
theorem nN_i {c : Int} {f : Nat → Rs} {q : Int × Mm} (h : nN c f = some q) : 0 ≤ c ∧ f c.toNat = some q := by
  unfold nN at h
  by_cases e : 0 ≤ c
  · rw [if_pos e] at h; exact ⟨e, h⟩
  · rw [if_neg e] at h; cases h
theorem sZ_i {μ : Mm} {a j : Nat} {v : Int} {f : Mm → Rs} {q : Int × Mm} (h : sZ μ a j v f = some q) : (v = 0 ∨ v = 1) ∧ f (sM μ a j v) = some q := by
  unfold sZ at h
  by_cases c : v = 0 ∨ v = 1
  · rw [if_pos c] at h; exact ⟨c, h⟩
  · rw [if_neg c] at h; cases h
theorem rZ_i {v : Int} {μ : Mm} {q : Int × Mm} (h : rZ v μ = some q) : (v = 0 ∨ v = 1) ∧ some (v, μ) = some q := by
  unfold rZ at h
  by_cases c : v = 0 ∨ v = 1
  · rw [if_pos c] at h; exact ⟨c, h⟩
  · rw [if_neg c] at h; cases h
theorem lt_i {x : Int} {f : Int → Rs} {q : Int × Mm} (h : lt_ x f = some q) : f x = some q := h
theorem sF_i {μ : Mm} {a j : Nat} {v : Int} {f : Mm → Rs} {q : Int × Mm} (h : sF μ a j v f = some q) : f (sM μ a j v) = some q := h
theorem kC_i {c : Int} {k : Nat × Nat} {f : Nat → Rs} {q : Int × Mm} (h : kC c k f = some q) : kD c.toNat = k ∧ f c.toNat = some q := by
  unfold kC at h
  by_cases e : kD c.toNat = k
  · rw [if_pos e] at h; exact ⟨e, h⟩
  · rw [if_neg e] at h; cases h
theorem cpA_i {μ : Mm} {a b : Nat} {n : Int} {f : Mm → Rs} {q : Int × Mm} (h : cpA μ a b n f = some q) : (0 ≤ n ∧ n ≤ aN a ∧ n ≤ aN b) ∧ f (cA_ μ a b n) = some q := by
  unfold cpA at h
  by_cases c : 0 ≤ n ∧ n ≤ aN a ∧ n ≤ aN b
  · rw [if_pos c] at h; exact ⟨c, h⟩
  · rw [if_neg c] at h; cases h
theorem ifT {c : Prop} {_ : Decidable c} {α : Type} {x y z : α} (hc : c) (h : (if c then x else y) = z) : x = z := by rwa [if_pos hc] at h
theorem ifF {c : Prop} {_ : Decidable c} {α : Type} {x y z : α} (hc : ¬ c) (h : (if c then x else y) = z) : y = z := by rwa [if_neg hc] at h
/-! numbers of the machine against Int -/
theorem rI_32 {a : Int} (h : rI a) : (Int32.ofInt a).toInt = a := Int32.toInt_ofInt_of_le (by unfold rI at h; omega) (by unfold rI at h; omega)
theorem rL_64 {a : Int} (h : rL a) : (Int64.ofInt a).toInt = a := Int64.toInt_ofInt_of_le (by unfold rL at h; omega) (by unfold rL at h; omega)
theorem rI_of (x : Int32) : rI x.toInt := by
  have h1 := x.le_toInt
  have h2 := x.toInt_lt
  unfold rI; omega
theorem rL_of (x : Int64) : rL x.toInt := by
  have h1 := x.le_toInt
  have h2 := x.toInt_lt
  unfold rL; omega
theorem rI_wI (x : Int) : rI (wI x) := by
  have h1 := Int.le_bmod (x := x) (m := 4294967296) (by decide)
  have h2 := Int.bmod_lt (x := x) (m := 4294967296) (by decide)
  unfold rI wI; omega
theorem rL_wL (x : Int) : rL (wL x) := by
  have h1 := Int.le_bmod (x := x) (m := 18446744073709551616) (by decide)
  have h2 := Int.bmod_lt (x := x) (m := 18446744073709551616) (by decide)
  unfold rL wL; omega
theorem wI_id {x : Int} (h1 : -2147483648 ≤ x) (h2 : x ≤ 2147483647) : wI x = x := Int.bmod_eq_of_le (by omega) (by omega)
theorem wL_id {x : Int} (h : rL x) : wL x = x := Int.bmod_eq_of_le (by unfold rL at h; omega) (by unfold rL at h; omega)
theorem o32 (x : Int) : Int32.ofInt (wI x) = Int32.ofInt x := Int32.toInt.inj (by rw [Int32.toInt_ofInt, Int32.toInt_ofInt]; exact Int.bmod_bmod)
theorem o64 (x : Int) : Int64.ofInt (wL x) = Int64.ofInt x := Int64.toInt.inj (by rw [Int64.toInt_ofInt, Int64.toInt_ofInt]; exact Int.bmod_bmod)
theorem o32_add (a b : Int) : Int32.ofInt a + Int32.ofInt b = Int32.ofInt (iA a b) := by rw [iA, o32, Int32.ofInt_add]
theorem o32_sub (a b : Int) : Int32.ofInt a - Int32.ofInt b = Int32.ofInt (iS a b) := by rw [iS, o32, Int32.ofInt_sub]
theorem o32_mul (a b : Int) : Int32.ofInt a * Int32.ofInt b = Int32.ofInt (iM a b) := by rw [iM, o32, Int32.ofInt_mul]
theorem o32_div {a b : Int} (ha : rI a) (hb : rI b) : Int32.ofInt a / Int32.ofInt b = Int32.ofInt (iD a b) := by
  apply Int32.toInt.inj
  rw [iD, o32, Int32.toInt_div, rI_32 ha, rI_32 hb, Int32.toInt_ofInt]
theorem o32_rem {a b : Int} (ha : rI a) (hb : rI b) : Int32.ofInt a - Int32.ofInt a / Int32.ofInt b * Int32.ofInt b = Int32.ofInt (iR a b) := by
  rw [o32_div ha hb, iR, o32, Int32.ofInt_sub, Int32.ofInt_mul]
theorem o64_add (a b : Int) : Int64.ofInt a + Int64.ofInt b = Int64.ofInt (lA a b) := by rw [lA, o64, Int64.ofInt_add]
theorem o64_sub (a b : Int) : Int64.ofInt a - Int64.ofInt b = Int64.ofInt (lS a b) := by rw [lS, o64, Int64.ofInt_sub]
theorem o64_mul (a b : Int) : Int64.ofInt a * Int64.ofInt b = Int64.ofInt (lM a b) := by rw [lM, o64, Int64.ofInt_mul]
theorem o64_div {a b : Int} (ha : rL a) (hb : rL b) : Int64.ofInt a / Int64.ofInt b = Int64.ofInt (lD a b) := by
  apply Int64.toInt.inj
  rw [lD, o64, Int64.toInt_div, rL_64 ha, rL_64 hb, Int64.toInt_ofInt]
theorem o32_self (x : Int32) : Int32.ofInt x.toInt = x := Int32.ofInt_toInt x
theorem o32_lt {a b : Int} (ha : rI a) (hb : rI b) : Int32.ofInt a < Int32.ofInt b ↔ a < b := by rw [Int32.lt_iff_toInt_lt, rI_32 ha, rI_32 hb]
theorem o32_le {a b : Int} (ha : rI a) (hb : rI b) : Int32.ofInt a ≤ Int32.ofInt b ↔ a ≤ b := by rw [Int32.le_iff_toInt_le, rI_32 ha, rI_32 hb]
theorem o32_eq {a b : Int} (ha : rI a) (hb : rI b) : Int32.ofInt a = Int32.ofInt b ↔ a = b := by rw [← Int32.toInt_inj, rI_32 ha, rI_32 hb]
theorem o64_lt {a b : Int} (ha : rL a) (hb : rL b) : Int64.ofInt a < Int64.ofInt b ↔ a < b := by rw [Int64.lt_iff_toInt_lt, rL_64 ha, rL_64 hb]
theorem o64_eq {a b : Int} (ha : rL a) (hb : rL b) : Int64.ofInt a = Int64.ofInt b ↔ a = b := by rw [← Int64.toInt_inj, rL_64 ha, rL_64 hb]
theorem rI_0 : rI 0 := by unfold rI; omega
theorem o32_0 : (0 : Int32) = Int32.ofInt 0 := rfl
theorem o32_lcmp {a b : Int} (ha : rL a) (hb : rL b) : lg_cmp (Int64.ofInt a) (Int64.ofInt b) = Int32.ofInt (lC a b) := by
  unfold lg_cmp lC
  by_cases h1 : b < a
  · rw [if_pos h1, if_pos ((o64_lt hb ha).mpr h1)]; rfl
  · rw [if_neg h1, if_neg (fun h => h1 ((o64_lt hb ha).mp h))]
    by_cases h2 : a = b
    · rw [if_pos h2, if_pos ((o64_eq ha hb).mpr h2)]; rfl
    · rw [if_neg h2, if_neg (fun h => h2 ((o64_eq ha hb).mp h))]; rfl
theorem o32_i2l {a : Int} (ha : rI a) : (Int32.ofInt a).toInt64 = Int64.ofInt a := by
  apply Int64.toInt.inj
  rw [Int32.toInt_toInt64, rI_32 ha, rL_64 (by unfold rI at ha; unfold rL; omega)]
theorem o64_l2i (a : Int) : (Int64.ofInt a).toInt32 = Int32.ofInt (wI a) := by rw [o32, Int64.toInt32_ofInt]
theorem rI_rL {a : Int} (ha : rI a) : rL a := by unfold rI at ha; unfold rL; omega
/-- an index -/
theorem o32_nat {i : Int} (h : rI i) (h0 : 0 ≤ i) : (Int32.ofInt i).toNatClampNeg = i.toNat := by
  show (Int32.ofInt i).toInt.toNat = i.toNat
  rw [rI_32 h]
theorem o32_in {i : Int} {n : Nat} (h : rI i) (h0 : 0 ≤ i ∧ i < n) : vp_in (Int32.ofInt i) n := by
  rw [vp_in_iff, rI_32 h]; exact h0
/-! the layout -/
theorem kD_lt {k : Nat} (h : (kD k).1 ≠ 99) : k < nC := by
  apply Classical.byContradiction
  intro q
  apply h
  unfold kD
  rw [List.getD_eq_getElem?_getD, List.getElem?_eq_none (by show kL.length ≤ k; exact Nat.not_lt.mp q)]
  rfl
theorem kD_e {k c n : Nat} (h : kD k = (c, n)) (hc : c ≠ 99) : k < nC := kD_lt (by rw [h]; exact hc)
theorem wO_len (D : ClassId × ClassId × ClassId) (ad : Nat → Nat) (μ : Mm) : (wO D ad μ).length = nC := by simp [wO]
theorem wO_at (D : ClassId × ClassId × ClassId) (ad : Nat → Nat) (μ : Mm) {k : Nat} (h : k < nC) : (wO D ad μ)[k]? = some (ad k, eN D ad μ k) := by
  simp [wO, h]
theorem wO_get {D : ClassId × ClassId × ClassId} {ad : Nat → Nat} {μ : Mm} {k : Nat} {q : Nat × va_E} (h : (wO D ad μ)[k]? = some q) : k < nC ∧ q = (ad k, eN D ad μ k) := by
  have hl := (List.getElem?_eq_some_iff.mp h).1
  rw [wO_len] at hl
  rw [wO_at D ad μ hl] at h
  exact ⟨hl, (Option.some.inj h).symm⟩
theorem wO_set {D : ClassId × ClassId × ClassId} {ad : Nat → Nat} {μ μ' : Mm} {k : Nat} {e : va_E} (hk : k < nC) (he : eN D ad μ' k = e) (ho : ∀ j, j ≠ k → eN D ad μ' j = eN D ad μ j) : (wO D ad μ).set k (ad k, e) = wO D ad μ' := by
  apply List.ext_getElem?
  intro i
  by_cases hi : i < nC
  · rw [wO_at D ad μ' hi]
    by_cases hik : i = k
    · subst hik
      rw [List.getElem?_set_self (by rw [wO_len]; exact hi), he]
    · rw [List.getElem?_set_ne (Ne.symm hik), wO_at D ad μ hi, ho i hik]
  · rw [List.getElem?_eq_none (by rw [List.length_set, wO_len]; omega), List.getElem?_eq_none (by rw [wO_len]; omega)]
theorem sM_ne {μ : Mm} {a j : Nat} {v : Int} {i : Nat} (h : i ≠ a) : sM μ a j v i = μ i := by
  funext k; simp [sM, h]
theorem eN_congr {D : ClassId × ClassId × ClassId} {ad : Nat → Nat} {μ μ' : Mm} {k : Nat} (h : μ' k = μ k) : eN D ad μ' k = eN D ad μ k := by
  unfold eN fV
  rw [h]
theorem oM_s {μ : Mm} (h : oM μ) {a j : Nat} {v : Int} (hv : rI v) : oM (sM μ a j v) := by
  intro i k
  unfold sM
  by_cases c : i = a ∧ k = j
  · rw [if_pos c]; exact hv
  · rw [if_neg c]; exact h i k
/-- the cells are apart -/
def aP (ad : Nat → Nat) : Prop := ∀ i j, i < nC → j < nC → ad i = ad j → i = j
def aA (ad : Nat → Nat) (sz : Nat) : Nat → Prop := fun q => (∃ k, k < nC ∧ ad k = q) ∨ sz ≤ q
theorem vD_of {D : ClassId × ClassId × ClassId} {ad : Nat → Nat} {μ : Mm} {A : Nat → Prop} (h : aP ad) (hA : ∀ k, k < nC → A (ad k)) : va_D A (wO D ad μ) := by
  refine ⟨fun i j p q hi hj hpq => ?_, fun k q hk => ?_⟩
  · obtain ⟨h1, rfl⟩ := wO_get hi
    obtain ⟨h2, rfl⟩ := wO_get hj
    exact h i j h1 h2 hpq
  · obtain ⟨h1, rfl⟩ := wO_get hk
    exact hA k h1
theorem aA_eq {D : ClassId × ClassId × ClassId} {ad : Nat → Nat} {μ : Mm} {sz : Nat} {q : Nat} : va_A (wO D ad μ) sz q ↔ aA ad sz q := by
  constructor
  · rintro (⟨k, e, h⟩ | h)
    · obtain ⟨h1, h2⟩ := wO_get h
      exact Or.inl ⟨k, h1, by cases h2; rfl⟩
    · exact Or.inr h
  · rintro (⟨k, h1, h2⟩ | h)
    · exact Or.inl ⟨k, eN D ad μ k, by rw [wO_at D ad μ h1, h2]⟩
    · exact Or.inr h
theorem aA_k {ad : Nat → Nat} {sz k : Nat} (h : k < nC) : aA ad sz (ad k) := Or.inl ⟨k, h, rfl⟩
end
section
/-! THE JUDGEMENT: a method's frame over the two systems' cells, in the words of the pure level -/
abbrev Mth : Type := MethodName × ByteArray × Nat × Option FieldType
def tG : List Cond := lw_tbl.filter goodWord
theorem tG_of {w : Cond} (h : w ∈ lw_tbl) (h2 : goodWord w = true) : w ∈ tG := List.mem_filter.mpr ⟨h, h2⟩
def isN : Cond → Bool
  | .fieldLinkNest _ _ _ _ _ _ => true
  | .methodLinkNest _ _ _ _ => true
  | _ => false
def nS (s : State) : Prop := ∀ w ∈ lw_tbl, isN w = true → va_Nw w s
def wM (M : Mth) : List Cond := .code M.1 M.2.1 M.2.2.1 M.2.2.2 :: tG
theorem nS_warm {s U : State} (hW : s.WarmedH U.vm) (h : nS s) : nS U := by
  intro w hw hn
  have h1 := h w hw hn
  cases w <;> first | (cases hn; done) | exact va_Nw.warmF hW h1 | exact va_Nw.warmM hW h1
theorem nS_same {s U : State} (hv : s.vm = U.vm) (h : nS s) : nS U := by
  intro w hw hn
  have h1 := h w hw hn
  cases w <;> first | (cases hn; done) | exact va_Nw.same rfl hv h1
def rmD (d : Nat) : Room := { frames := d, cells := 0, slots := 0, locals := 100 * d }
def rV (ad : Nat → Nat) (rt : Option FieldType) (r : Int) : Option Value := match rt with
  | none => none
  | some .long => some (.long (Int64.ofInt r))
  | some (.object _) => some (cV ad (vC r))
  | some _ => some (.int (Int32.ofInt r))
def rK (rt : Option FieldType) (r : Int) : Prop := match rt with
  | none => True
  | some .long => rL r
  | some (.object _) => True
  | some _ => rI r
/-- the heap holds the memory μ -/
def hO (dC : Nat → ClassId) (dI : Nat → Nat → Nat) (D : ClassId × ClassId × ClassId) (ad : Nat → Nat) (μ : Mm) (H : Heap) : Prop := va_P (dC, dI) vwCl (wO D ad μ) H ∧ oM μ
def qC (dC : Nat → ClassId) (dI : Nat → Nat → Nat) (D : ClassId × ClassId × ClassId) (ad : Nat → Nat) (A : Nat → Prop) (rt : Option FieldType) (r : Int) (μ' : Mm) : Array Value → State → Outcome → State → Prop :=
  fun _ st oc t => (oc = .returned (rV ad rt r) ∧ rK rt r ∧ hO dC dI D ad μ' t.heap) ∧ va_F A st t
def pC (dC : Nat → ClassId) (dI : Nat → Nat → Nat) (D : ClassId × ClassId × ClassId) (ad : Nat → Nat) (sz : Nat) (av : List AV) (μ : Mm) : Array Value → State → Prop :=
  va_Pc (av.map (cV ad)) (fun U => U.heap.size = sz ∧ hO dC dI D ad μ U.heap ∧ va_K (dC, dI) vwCl (tyS D) U ∧ nS U ∧ (∀ v ∈ av, oV v))
/-- A CALL: the method M, given the values av and the memory μ, returns r and leaves μ' -/
def CC (d : Nat) (M : Mth) (av : List AV) (μ : Mm) (r : Int) (μ' : Mm) : Prop :=
  ∀ (l : Launch) (dC : Nat → ClassId) (dI : Nat → Nat → Nat) (D : ClassId × ClassId × ClassId) (ad : Nat → Nat) (sz : Nat), aP ad →
    Met l M.1 (wM M) (rmD d) (pC dC dI D ad sz av μ) (qC dC dI D ad (aA ad sz) M.2.2.2 r μ') 0 0 (aA ad sz)
/-- the locals that are known -/
def lR (ad : Nat → Nat) (ls : List (Option AV)) (ls' : Array Slot) : Prop := ls'.size = ls.length ∧ lv_wf ls' ∧ ∀ (i : Nat) (v : AV), ls[i]? = some (some v) → ls'[i]? = some (.val (cV ad v)) ∧ oV v
def Cx (M : Mth) (p : Program) (s : State) (m : MethodId) (args : Array Value) (meth : Method) (c : Code) (dC : Nat → ClassId) (dI : Nat → Nat → Nat) (D : ClassId × ClassId × ClassId) (ad : Nat → Nat) : Prop :=
  p.tables.exec = Jvm.exec ∧ c.code = M.2.1 ∧ c.maxLocals = M.2.2.1 ∧ meth.sig.returnType = M.2.2.2 ∧ s.vm.findClass M.1.cls = some m.cls ∧ (∀ w ∈ tG, w.before args s = true) ∧ meth.locks = false ∧ va_K (dC, dI) vwCl (tyS D) s ∧ aP ad ∧ nS s
def VV (d : Nat) (M : Mth) (pc : Nat) (ls : List (Option AV)) (st : List AV) (μ : Mm) (r : Int) (μ' : Mm) : Prop :=
  ∀ (p : Program) (l : Launch) (e : Env) (s : State) (m : MethodId) (args : Array Value) (below : List Frame) (meth : Method) (c : Code) (H : Heap) (locs : List Loc) (dC : Nat → ClassId) (dI : Nat → Nat → Nat) (D : ClassId × ClassId × ClassId) (ad : Nat → Nat) (ls' : Array Slot),
    Cx M p s m args meth c dC dI D ad → hO dC dI D ad μ H → va_S (aA ad s.heap.size) s.heap H locs → ls.length = M.2.2.1 → lR ad ls ls' → (∀ v ∈ st, oV v) →
      W p l e (rmD d) s m args below meth c H locs 0 0 (MQ below (qC dC dI D ad (aA ad s.heap.size) M.2.2.2 r μ') args s 0 0 (aA ad s.heap.size)) (F0 m pc ls' (st.map (cV ad)))
section VR
variable {d : Nat} {M : Mth} {pc q : Nat} {ls : List (Option AV)} {st : List AV} {μ : Mm} {r : Int} {μ' : Mm}
/-- one row of the kit that changes the stack alone -/
theorem VV_pure {st2 : List AV} (hok : (∀ v ∈ st, oV v) → ∀ v ∈ st2, oV v)
    (k0 : ∀ (p : Program) (l : Launch) (e : Env) (R : Room) (s : State) (m : MethodId) (args : Array Value) (below : List Frame) (meth : Method) (c : Code) (H : Heap) (locs : List Loc) (Q : State → Prop) (ad : Nat → Nat) (ls' : Array Slot), p.tables.exec = Jvm.exec → c.code = M.2.1 → (∀ v ∈ st, oV v) →
      W p l e R s m args below meth c H locs 0 0 Q (F0 m q ls' (st2.map (cV ad))) → W p l e R s m args below meth c H locs 0 0 Q (F0 m pc ls' (st.map (cV ad))))
    (k : VV d M q ls st2 μ r μ') : VV d M pc ls st μ r μ' := by
  intro p l e s m args below meth c H locs dC dI D ad ls' C hH hS hn hl hs
  exact k0 _ _ _ _ _ _ _ _ _ _ _ _ _ _ _ C.1 C.2.1 hs (k p l e s m args below meth c H locs dC dI D ad ls' C hH hS hn hl (hok hs))
theorem ok_c {v : AV} {l : List AV} (h1 : oV v) (h2 : ∀ w ∈ l, oV w) : ∀ w ∈ v :: l, oV w := fun w hw => (List.mem_cons.mp hw).elim (fun e => e ▸ h1) (h2 w)
theorem ok_h {v : AV} {l : List AV} (h : ∀ w ∈ v :: l, oV w) : oV v := h v List.mem_cons_self
theorem ok_t {v : AV} {l : List AV} (h : ∀ w ∈ v :: l, oV w) : ∀ w ∈ l, oV w := fun w hw => h w (List.mem_cons_of_mem _ hw)
theorem V_iconst {n : Int} (hd : decode M.2.1 pc = .ok (.iconst n, 1)) (hr : (decide (-2147483648 ≤ n) && decide (n ≤ 2147483647)) = true) (hq : pc + 1 = q) (k : VV d M q ls (vI n :: st) μ r μ') : VV d M pc ls st μ r μ' := by
  subst hq
  refine VV_pure (st2 := vI n :: st) (fun h => ok_c (by simpa [oV, rI] using hr) h) (fun p l e R s m args below meth c H locs Q ad ls' hx hb h kk => ?_) k
  exact lv_iconst hx hb hd rfl kk
theorem V_bipush {n : Int} (hd : decode M.2.1 pc = .ok (.bipush n, 2)) (hr : (decide (-2147483648 ≤ n) && decide (n ≤ 2147483647)) = true) (hv : (Int8.ofInt n).toInt32 = Int32.ofInt n) (hq : pc + 2 = q) (k : VV d M q ls (vI n :: st) μ r μ') : VV d M pc ls st μ r μ' := by
  subst hq
  refine VV_pure (st2 := vI n :: st) (fun h => ok_c (by simpa [oV, rI] using hr) h) (fun p l e R s m args below meth c H locs Q ad ls' hx hb h kk => ?_) k
  exact lv_bipush hx hb hd hv kk
theorem V_sipush {n : Int} (hd : decode M.2.1 pc = .ok (.sipush n, 3)) (hr : (decide (-2147483648 ≤ n) && decide (n ≤ 2147483647)) = true) (hv : (Int16.ofInt n).toInt32 = Int32.ofInt n) (hq : pc + 3 = q) (k : VV d M q ls (vI n :: st) μ r μ') : VV d M pc ls st μ r μ' := by
  subst hq
  refine VV_pure (st2 := vI n :: st) (fun h => ok_c (by simpa [oV, rI] using hr) h) (fun p l e R s m args below meth c H locs Q ad ls' hx hb h kk => ?_) k
  exact lv_sipush hx hb hd hv kk
theorem V_lconst {n : Fin 2} (hd : decode M.2.1 pc = .ok (.lconst n, 1)) (hq : pc + 1 = q) (k : VV d M q ls (vL ((n : Nat) : Int) :: st) μ r μ') : VV d M pc ls st μ r μ' := by
  subst hq
  refine VV_pure (st2 := vL ((n : Nat) : Int) :: st) (fun h => ok_c (by simp only [oV, rL]; have := n.isLt; omega) h) (fun p l e R s m args below meth c H locs Q ad ls' hx hb h kk => ?_) k
  exact lv_lconst hx hb hd (Int64.ofInt_eq_ofNat).symm kk
theorem V_2 {op : Instr} {f : Int → Int → Int} {a b : Int} (hd : decode M.2.1 pc = .ok (op, 1))
    (hr : ∀ a b, rI a → rI b → rI (f a b))
    (k0 : ∀ (a b : Int), rI a → rI b → ∀ (p : Program) (l : Launch) (e : Env) (R : Room) (s : State) (m : MethodId) (args : Array Value) (below : List Frame) (meth : Method) (c : Code) (H : Heap) (locs : List Loc) (Q : State → Prop) (ls' : Array Slot) (rest : List Value), p.tables.exec = Jvm.exec → c.code = M.2.1 →
      W p l e R s m args below meth c H locs 0 0 Q (F0 m (pc + 1) ls' (.int (Int32.ofInt (f a b)) :: rest)) → W p l e R s m args below meth c H locs 0 0 Q (F0 m pc ls' (.int (Int32.ofInt b) :: .int (Int32.ofInt a) :: rest)))
    (hq : pc + 1 = q) (k : VV d M q ls (vI (f a b) :: st) μ r μ') : VV d M pc ls (vI b :: vI a :: st) μ r μ' := by
  subst hq
  refine VV_pure (st2 := vI (f a b) :: st) (fun h => ok_c (hr a b (ok_h (ok_t h)) (ok_h h)) (ok_t (ok_t h))) (fun p l e R s m args below meth c H locs Q ad ls' hx hb h kk => ?_) k
  exact k0 a b (ok_h (ok_t h)) (ok_h h) p l e R s m args below meth c H locs Q ls' _ hx hb kk
theorem V_iadd {a b : Int} (hd : decode M.2.1 pc = .ok (.iadd, 1)) (hq : pc + 1 = q) (k : VV d M q ls (vI (iA a b) :: st) μ r μ') : VV d M pc ls (vI b :: vI a :: st) μ r μ' :=
  V_2 (f := iA) hd (fun _ _ _ _ => rI_wI _) (fun a b _ _ p l e R s m args below meth c H locs Q ls' rest hx hb kk => lv_iadd hx hb hd (by rw [o32_add]; exact kk)) hq k
theorem V_isub {a b : Int} (hd : decode M.2.1 pc = .ok (.isub, 1)) (hq : pc + 1 = q) (k : VV d M q ls (vI (iS a b) :: st) μ r μ') : VV d M pc ls (vI b :: vI a :: st) μ r μ' :=
  V_2 (f := iS) hd (fun _ _ _ _ => rI_wI _) (fun a b _ _ p l e R s m args below meth c H locs Q ls' rest hx hb kk => lv_isub hx hb hd (by rw [o32_sub]; exact kk)) hq k
theorem V_imul {a b : Int} (hd : decode M.2.1 pc = .ok (.imul, 1)) (hq : pc + 1 = q) (k : VV d M q ls (vI (iM a b) :: st) μ r μ') : VV d M pc ls (vI b :: vI a :: st) μ r μ' :=
  V_2 (f := iM) hd (fun _ _ _ _ => rI_wI _) (fun a b _ _ p l e R s m args below meth c H locs Q ls' rest hx hb kk => lv_imul hx hb hd (by rw [o32_mul]; exact kk)) hq k
theorem V_iand {a b : Int} (hd : decode M.2.1 pc = .ok (.iand, 1)) (hq : pc + 1 = q) (k : VV d M q ls (vI (bA a b) :: st) μ r μ') : VV d M pc ls (vI b :: vI a :: st) μ r μ' :=
  V_2 (f := bA) hd (fun _ _ _ _ => rI_of _) (fun a b _ _ p l e R s m args below meth c H locs Q ls' rest hx hb kk => lv_iand hx hb hd (by rw [bA, o32_self] at kk; exact kk)) hq k
theorem V_ior {a b : Int} (hd : decode M.2.1 pc = .ok (.ior, 1)) (hq : pc + 1 = q) (k : VV d M q ls (vI (bO a b) :: st) μ r μ') : VV d M pc ls (vI b :: vI a :: st) μ r μ' :=
  V_2 (f := bO) hd (fun _ _ _ _ => rI_of _) (fun a b _ _ p l e R s m args below meth c H locs Q ls' rest hx hb kk => lv_ior hx hb hd (by rw [bO, o32_self] at kk; exact kk)) hq k
theorem V_ixor {a b : Int} (hd : decode M.2.1 pc = .ok (.ixor, 1)) (hq : pc + 1 = q) (k : VV d M q ls (vI (bX a b) :: st) μ r μ') : VV d M pc ls (vI b :: vI a :: st) μ r μ' :=
  V_2 (f := bX) hd (fun _ _ _ _ => rI_of _) (fun a b _ _ p l e R s m args below meth c H locs Q ls' rest hx hb kk => lv_ixor hx hb hd (by rw [bX, o32_self] at kk; exact kk)) hq k
theorem V_ishl {a b : Int} (hd : decode M.2.1 pc = .ok (.ishl, 1)) (hq : pc + 1 = q) (k : VV d M q ls (vI (bL a b) :: st) μ r μ') : VV d M pc ls (vI b :: vI a :: st) μ r μ' :=
  V_2 (f := bL) hd (fun _ _ _ _ => rI_of _) (fun a b _ _ p l e R s m args below meth c H locs Q ls' rest hx hb kk => lv_ishl hx hb hd (by rw [bL, o32_self] at kk; exact kk)) hq k
theorem V_ishr {a b : Int} (hd : decode M.2.1 pc = .ok (.ishr, 1)) (hq : pc + 1 = q) (k : VV d M q ls (vI (bR a b) :: st) μ r μ') : VV d M pc ls (vI b :: vI a :: st) μ r μ' :=
  V_2 (f := bR) hd (fun _ _ _ _ => rI_of _) (fun a b _ _ p l e R s m args below meth c H locs Q ls' rest hx hb kk => lv_ishr hx hb hd (by rw [bR, o32_self] at kk; exact kk)) hq k
theorem V_iushr {a b : Int} (hd : decode M.2.1 pc = .ok (.iushr, 1)) (hq : pc + 1 = q) (k : VV d M q ls (vI (bU a b) :: st) μ r μ') : VV d M pc ls (vI b :: vI a :: st) μ r μ' :=
  V_2 (f := bU) hd (fun _ _ _ _ => rI_of _) (fun a b _ _ p l e R s m args below meth c H locs Q ls' rest hx hb kk => lv_iushr hx hb hd (o32_self _).symm kk) hq k
theorem V_idiv {a b : Int} (hd : decode M.2.1 pc = .ok (.idiv, 1)) (hb0 : b ≠ 0) (hq : pc + 1 = q) (k : VV d M q ls (vI (iD a b) :: st) μ r μ') : VV d M pc ls (vI b :: vI a :: st) μ r μ' := by
  subst hq
  refine VV_pure (st2 := vI (iD a b) :: st) (fun h => ok_c (rI_wI _) (ok_t (ok_t h))) (fun p l e R s m args below meth c H locs Q ad ls' hx hb h kk => ?_) k
  have ha : rI a := ok_h (ok_t h)
  have hb1 : rI b := ok_h h
  exact lv_idiv hx hb hd (fun z => hb0 ((o32_eq hb1 rI_0).mp z)) (by rw [o32_div ha hb1]; exact kk)
theorem V_irem {a b : Int} (hd : decode M.2.1 pc = .ok (.irem, 1)) (hb0 : b ≠ 0) (hq : pc + 1 = q) (k : VV d M q ls (vI (iR a b) :: st) μ r μ') : VV d M pc ls (vI b :: vI a :: st) μ r μ' := by
  subst hq
  refine VV_pure (st2 := vI (iR a b) :: st) (fun h => ok_c (rI_wI _) (ok_t (ok_t h))) (fun p l e R s m args below meth c H locs Q ad ls' hx hb h kk => ?_) k
  have ha : rI a := ok_h (ok_t h)
  have hb1 : rI b := ok_h h
  exact lv_irem hx hb hd (fun z => hb0 ((o32_eq hb1 rI_0).mp z)) (by rw [o32_rem ha hb1]; exact kk)
theorem V_ladd {a b : Int} (hd : decode M.2.1 pc = .ok (.ladd, 1)) (hq : pc + 1 = q) (k : VV d M q ls (vL (lA a b) :: st) μ r μ') : VV d M pc ls (vL b :: vL a :: st) μ r μ' := by
  subst hq
  refine VV_pure (st2 := vL (lA a b) :: st) (fun h => ok_c (rL_wL _) (ok_t (ok_t h))) (fun p l e R s m args below meth c H locs Q ad ls' hx hb h kk => ?_) k
  exact lv_ladd hx hb hd (by rw [o64_add]; exact kk)
theorem V_lsub {a b : Int} (hd : decode M.2.1 pc = .ok (.lsub, 1)) (hq : pc + 1 = q) (k : VV d M q ls (vL (lS a b) :: st) μ r μ') : VV d M pc ls (vL b :: vL a :: st) μ r μ' := by
  subst hq
  refine VV_pure (st2 := vL (lS a b) :: st) (fun h => ok_c (rL_wL _) (ok_t (ok_t h))) (fun p l e R s m args below meth c H locs Q ad ls' hx hb h kk => ?_) k
  exact lv_lsub hx hb hd (by rw [o64_sub]; exact kk)
theorem V_lmul {a b : Int} (hd : decode M.2.1 pc = .ok (.lmul, 1)) (hq : pc + 1 = q) (k : VV d M q ls (vL (lM a b) :: st) μ r μ') : VV d M pc ls (vL b :: vL a :: st) μ r μ' := by
  subst hq
  refine VV_pure (st2 := vL (lM a b) :: st) (fun h => ok_c (rL_wL _) (ok_t (ok_t h))) (fun p l e R s m args below meth c H locs Q ad ls' hx hb h kk => ?_) k
  exact lv_lmul hx hb hd (by rw [o64_mul]; exact kk)
theorem V_ldiv {a b : Int} (hd : decode M.2.1 pc = .ok (.ldiv, 1)) (hb0 : b ≠ 0) (hq : pc + 1 = q) (k : VV d M q ls (vL (lD a b) :: st) μ r μ') : VV d M pc ls (vL b :: vL a :: st) μ r μ' := by
  subst hq
  refine VV_pure (st2 := vL (lD a b) :: st) (fun h => ok_c (rL_wL _) (ok_t (ok_t h))) (fun p l e R s m args below meth c H locs Q ad ls' hx hb h kk => ?_) k
  have ha : rL a := ok_h (ok_t h)
  have hb1 : rL b := ok_h h
  exact lv_ldiv hx hb hd (fun z => hb0 ((o64_eq hb1 (rI_rL rI_0)).mp z)) (by rw [o64_div ha hb1]; exact kk)
theorem V_lcmp {a b : Int} (hd : decode M.2.1 pc = .ok (.lcmp, 1)) (hq : pc + 1 = q) (k : VV d M q ls (vI (lC a b) :: st) μ r μ') : VV d M pc ls (vL b :: vL a :: st) μ r μ' := by
  subst hq
  refine VV_pure (st2 := vI (lC a b) :: st) (fun h => ok_c (by simp only [oV, rI, lC]; split <;> (try split) <;> omega) (ok_t (ok_t h))) (fun p l e R s m args below meth c H locs Q ad ls' hx hb h kk => ?_) k
  exact W.lcmp hx hb hd (by rw [o32_lcmp (ok_h (ok_t h)) (ok_h h)]; exact kk)
theorem V_i2l {a : Int} (hd : decode M.2.1 pc = .ok (.i2l, 1)) (hq : pc + 1 = q) (k : VV d M q ls (vL a :: st) μ r μ') : VV d M pc ls (vI a :: st) μ r μ' := by
  subst hq
  refine VV_pure (st2 := vL a :: st) (fun h => ok_c (rI_rL (ok_h h)) (ok_t h)) (fun p l e R s m args below meth c H locs Q ad ls' hx hb h kk => ?_) k
  exact lv_i2l hx hb hd (o32_i2l (ok_h h)) kk
theorem V_l2i {a : Int} (hd : decode M.2.1 pc = .ok (.l2i, 1)) (hq : pc + 1 = q) (k : VV d M q ls (vI (wI a) :: st) μ r μ') : VV d M pc ls (vL a :: st) μ r μ' := by
  subst hq
  refine VV_pure (st2 := vI (wI a) :: st) (fun h => ok_c (rI_wI _) (ok_t h)) (fun p l e R s m args below meth c H locs Q ad ls' hx hb h kk => ?_) k
  exact lv_l2i hx hb hd (o64_l2i a) kk
def c1 : AV → Prop
  | .inr (.inl _) => False
  | _ => True
theorem c1_cat {v : AV} (h : c1 v) (ad : Nat → Nat) : (cV ad v).category = 1 := by
  match v, h with
  | .inl _, _ => rfl
  | .inr (.inr (some _)), _ => rfl
  | .inr (.inr none), _ => rfl
theorem V_dup {v : AV} (hd : decode M.2.1 pc = .ok (.dup, 1)) (hv : c1 v) (hq : pc + 1 = q) (k : VV d M q ls (v :: v :: st) μ r μ') : VV d M pc ls (v :: st) μ r μ' := by
  subst hq
  refine VV_pure (fun h => ok_c (ok_h h) h) (fun p l e R s m args below meth c H locs Q ad ls' hx hb h kk => ?_) k
  exact lv_dup hx hb hd (c1_cat hv ad) kk
theorem V_pop {v : AV} (hd : decode M.2.1 pc = .ok (.pop, 1)) (hv : c1 v) (hq : pc + 1 = q) (k : VV d M q ls st μ r μ') : VV d M pc ls (v :: st) μ r μ' := by
  subst hq
  refine VV_pure (st2 := st) (fun h => ok_t h) (fun p l e R s m args below meth c H locs Q ad ls' hx hb h kk => ?_) k
  exact lv_pop hx hb hd (c1_cat hv ad) kk
theorem V_dup2 {v w : AV} (hd : decode M.2.1 pc = .ok (.dup2, 1)) (hv : c1 v) (hw : c1 w) (hq : pc + 1 = q) (k : VV d M q ls (v :: w :: v :: w :: st) μ r μ') : VV d M pc ls (v :: w :: st) μ r μ' := by
  subst hq
  refine VV_pure (fun h => ok_c (ok_h h) (ok_c (ok_h (ok_t h)) h)) (fun p l e R s m args below meth c H locs Q ad ls' hx hb h kk => ?_) k
  exact lv_dup2_11 hx hb hd (c1_cat hv ad) (c1_cat hw ad) kk
theorem V_null (hd : decode M.2.1 pc = .ok (.aconst_null, 1)) (hq : pc + 1 = q) (k : VV d M q ls (vN :: st) μ r μ') : VV d M pc ls st μ r μ' := by
  subst hq
  refine VV_pure (st2 := vN :: st) (fun h => ok_c trivial h) (fun p l e R s m args below meth c H locs Q ad ls' hx hb h kk => ?_) k
  exact lv_null hx hb hd kk
theorem V_goto {off : Int} (hd : decode M.2.1 pc = .ok (.goto off, 3)) (ht : (pc : Int) + off = (q : Int)) (k : VV d M q ls st μ r μ') : VV d M pc ls st μ r μ' :=
  VV_pure (fun h => h) (fun p l e R s m args below meth c H locs Q ad ls' hx hb h kk => lv_goto hx hb hd ht kk) k
theorem V_ldc {i : Nat} {n : Int} (hd : decode M.2.1 pc = .ok (.ldc i, 2)) (hr : rI n) (hw : Cond.constant M.1.cls i (Int32.ofInt n) ∈ tG) (hq : pc + 2 = q) (k : VV d M q ls (vI n :: st) μ r μ') : VV d M pc ls st μ r μ' := by
  subst hq
  intro p l e s m args below meth c H locs dC dI D ad ls' C hH hS hn hl hs
  obtain ⟨hx, hb, hml, hrt, hown, hts, hlk, hK, hP, hN⟩ := id C
  exact lv_ldc hx hb hown (hts _ hw) hd (k p l e s m args below meth c H locs dC dI D ad ls' C hH hS hn hl (ok_c hr hs))
theorem V_ldcw {i : Nat} {n : Int} (hd : decode M.2.1 pc = .ok (.ldc_w i, 3)) (hr : rI n) (hw : Cond.constant M.1.cls i (Int32.ofInt n) ∈ tG) (hq : pc + 3 = q) (k : VV d M q ls (vI n :: st) μ r μ') : VV d M pc ls st μ r μ' := by
  subst hq
  intro p l e s m args below meth c H locs dC dI D ad ls' C hH hS hn hl hs
  obtain ⟨hx, hb, hml, hrt, hown, hts, hlk, hK, hP, hN⟩ := id C
  exact lv_ldcw hx hb hown (hts _ hw) hd (k p l e s m args below meth c H locs dC dI D ad ls' C hH hS hn hl (ok_c hr hs))
theorem V_ldc2 {i : Nat} {n : Int} (hd : decode M.2.1 pc = .ok (.ldc2_w i, 3)) (hr : rL n) (hw : Cond.constantLong M.1.cls i (Int64.ofInt n) ∈ tG) (hq : pc + 3 = q) (k : VV d M q ls (vL n :: st) μ r μ') : VV d M pc ls st μ r μ' := by
  subst hq
  intro p l e s m args below meth c H locs dC dI D ad ls' C hH hS hn hl hs
  obtain ⟨hx, hb, hml, hrt, hown, hts, hlk, hK, hP, hN⟩ := id C
  exact lv_ldc2 hx hb hown (hts _ hw) hd (k p l e s m args below meth c H locs dC dI D ad ls' C hH hS hn hl (ok_c hr hs))
/-! branches -/
theorem V_br {st2 : List AV} {P : Prop} {q2 : Nat} (hok : (∀ v ∈ st, oV v) → ∀ v ∈ st2, oV v)
    (k0 : ∀ (p : Program) (l : Launch) (e : Env) (R : Room) (s : State) (m : MethodId) (args : Array Value) (below : List Frame) (meth : Method) (c : Code) (H : Heap) (locs : List Loc) (Q : State → Prop) (ad : Nat → Nat) (ls' : Array Slot), p.tables.exec = Jvm.exec → c.code = M.2.1 → (∀ v ∈ st, oV v) →
      (P → W p l e R s m args below meth c H locs 0 0 Q (F0 m q ls' (st2.map (cV ad)))) → (¬ P → W p l e R s m args below meth c H locs 0 0 Q (F0 m q2 ls' (st2.map (cV ad)))) → W p l e R s m args below meth c H locs 0 0 Q (F0 m pc ls' (st.map (cV ad))))
    (kt : P → VV d M q ls st2 μ r μ') (kf : ¬ P → VV d M q2 ls st2 μ r μ') : VV d M pc ls st μ r μ' := by
  intro p l e s m args below meth c H locs dC dI D ad ls' C hH hS hn hl hs
  exact k0 _ _ _ _ _ _ _ _ _ _ _ _ _ _ _ C.1 C.2.1 hs (fun h => kt h p l e s m args below meth c H locs dC dI D ad ls' C hH hS hn hl (hok hs)) (fun h => kf h p l e s m args below meth c H locs dC dI D ad ls' C hH hS hn hl (hok hs))
theorem V_ifeq {a : Int} {off : Int} (hd : decode M.2.1 pc = .ok (.ifCond .eq off, 3)) (ht : (pc : Int) + off = (q : Int)) {q2 : Nat} (hq : pc + 3 = q2) (kt : a = 0 → VV d M q ls st μ r μ') (kf : ¬ a = 0 → VV d M q2 ls st μ r μ') : VV d M pc ls (vI a :: st) μ r μ' := by
  subst hq
  refine V_br (st2 := st) (fun h => ok_t h) (fun p l e R s m args below meth c H locs Q ad ls' hx hb h k1 k2 => ?_) kt kf
  exact lv_if_eq hx hb hd ht (fun z => k1 ((o32_eq (ok_h h) rI_0).mp z)) (fun z => k2 (fun w => z ((o32_eq (ok_h h) rI_0).mpr w)))
theorem V_ifne {a : Int} {off : Int} (hd : decode M.2.1 pc = .ok (.ifCond .ne off, 3)) (ht : (pc : Int) + off = (q : Int)) {q2 : Nat} (hq : pc + 3 = q2) (kt : ¬ a = 0 → VV d M q ls st μ r μ') (kf : a = 0 → VV d M q2 ls st μ r μ') : VV d M pc ls (vI a :: st) μ r μ' := by
  subst hq
  refine V_br (st2 := st) (fun h => ok_t h) (fun p l e R s m args below meth c H locs Q ad ls' hx hb h k1 k2 => ?_) kf kt
  exact lv_if_ne hx hb hd ht (fun z => k2 (fun w => z ((o32_eq (ok_h h) rI_0).mpr w))) (fun z => k1 ((o32_eq (ok_h h) rI_0).mp z))
theorem V_iflt {a : Int} {off : Int} (hd : decode M.2.1 pc = .ok (.ifCond .lt off, 3)) (ht : (pc : Int) + off = (q : Int)) {q2 : Nat} (hq : pc + 3 = q2) (kt : a < 0 → VV d M q ls st μ r μ') (kf : ¬ a < 0 → VV d M q2 ls st μ r μ') : VV d M pc ls (vI a :: st) μ r μ' := by
  subst hq
  refine V_br (st2 := st) (fun h => ok_t h) (fun p l e R s m args below meth c H locs Q ad ls' hx hb h k1 k2 => ?_) kt kf
  exact lv_if_lt hx hb hd ht (fun z => k1 ((o32_lt (ok_h h) rI_0).mp z)) (fun z => k2 (fun w => z ((o32_lt (ok_h h) rI_0).mpr w)))
theorem V_ifge {a : Int} {off : Int} (hd : decode M.2.1 pc = .ok (.ifCond .ge off, 3)) (ht : (pc : Int) + off = (q : Int)) {q2 : Nat} (hq : pc + 3 = q2) (kt : 0 ≤ a → VV d M q ls st μ r μ') (kf : ¬ 0 ≤ a → VV d M q2 ls st μ r μ') : VV d M pc ls (vI a :: st) μ r μ' := by
  subst hq
  refine V_br (st2 := st) (fun h => ok_t h) (fun p l e R s m args below meth c H locs Q ad ls' hx hb h k1 k2 => ?_) kt kf
  exact lv_if_ge hx hb hd ht (fun z => k1 ((o32_le rI_0 (ok_h h)).mp z)) (fun z => k2 (fun w => z ((o32_le rI_0 (ok_h h)).mpr w)))
theorem V_ifgt {a : Int} {off : Int} (hd : decode M.2.1 pc = .ok (.ifCond .gt off, 3)) (ht : (pc : Int) + off = (q : Int)) {q2 : Nat} (hq : pc + 3 = q2) (kt : 0 < a → VV d M q ls st μ r μ') (kf : ¬ 0 < a → VV d M q2 ls st μ r μ') : VV d M pc ls (vI a :: st) μ r μ' := by
  subst hq
  refine V_br (st2 := st) (fun h => ok_t h) (fun p l e R s m args below meth c H locs Q ad ls' hx hb h k1 k2 => ?_) kt kf
  exact lv_if_gt hx hb hd ht (fun z => k1 ((o32_lt rI_0 (ok_h h)).mp z)) (fun z => k2 (fun w => z ((o32_lt rI_0 (ok_h h)).mpr w)))
theorem V_ifle {a : Int} {off : Int} (hd : decode M.2.1 pc = .ok (.ifCond .le off, 3)) (ht : (pc : Int) + off = (q : Int)) {q2 : Nat} (hq : pc + 3 = q2) (kt : a ≤ 0 → VV d M q ls st μ r μ') (kf : ¬ a ≤ 0 → VV d M q2 ls st μ r μ') : VV d M pc ls (vI a :: st) μ r μ' := by
  subst hq
  refine V_br (st2 := st) (fun h => ok_t h) (fun p l e R s m args below meth c H locs Q ad ls' hx hb h k1 k2 => ?_) kt kf
  exact lv_if_le hx hb hd ht (fun z => k1 ((o32_le (ok_h h) rI_0).mp z)) (fun z => k2 (fun w => z ((o32_le (ok_h h) rI_0).mpr w)))
theorem V_icmpeq {a b : Int} {off : Int} (hd : decode M.2.1 pc = .ok (.if_icmp .eq off, 3)) (ht : (pc : Int) + off = (q : Int)) {q2 : Nat} (hq : pc + 3 = q2) (kt : a = b → VV d M q ls st μ r μ') (kf : ¬ a = b → VV d M q2 ls st μ r μ') : VV d M pc ls (vI b :: vI a :: st) μ r μ' := by
  subst hq
  refine V_br (st2 := st) (fun h => ok_t (ok_t h)) (fun p l e R s m args below meth c H locs Q ad ls' hx hb h k1 k2 => ?_) kt kf
  exact lv_icmp_eq hx hb hd ht (fun z => k1 ((o32_eq (ok_h (ok_t h)) (ok_h h)).mp z)) (fun z => k2 (fun w => z ((o32_eq (ok_h (ok_t h)) (ok_h h)).mpr w)))
theorem V_icmpne {a b : Int} {off : Int} (hd : decode M.2.1 pc = .ok (.if_icmp .ne off, 3)) (ht : (pc : Int) + off = (q : Int)) {q2 : Nat} (hq : pc + 3 = q2) (kt : ¬ a = b → VV d M q ls st μ r μ') (kf : a = b → VV d M q2 ls st μ r μ') : VV d M pc ls (vI b :: vI a :: st) μ r μ' := by
  subst hq
  refine V_br (st2 := st) (fun h => ok_t (ok_t h)) (fun p l e R s m args below meth c H locs Q ad ls' hx hb h k1 k2 => ?_) kf kt
  exact lv_icmp_ne hx hb hd ht (fun z => k2 (fun w => z ((o32_eq (ok_h (ok_t h)) (ok_h h)).mpr w))) (fun z => k1 ((o32_eq (ok_h (ok_t h)) (ok_h h)).mp z))
theorem V_icmplt {a b : Int} {off : Int} (hd : decode M.2.1 pc = .ok (.if_icmp .lt off, 3)) (ht : (pc : Int) + off = (q : Int)) {q2 : Nat} (hq : pc + 3 = q2) (kt : a < b → VV d M q ls st μ r μ') (kf : ¬ a < b → VV d M q2 ls st μ r μ') : VV d M pc ls (vI b :: vI a :: st) μ r μ' := by
  subst hq
  refine V_br (st2 := st) (fun h => ok_t (ok_t h)) (fun p l e R s m args below meth c H locs Q ad ls' hx hb h k1 k2 => ?_) kt kf
  exact lv_icmp_lt hx hb hd ht (fun z => k1 ((o32_lt (ok_h (ok_t h)) (ok_h h)).mp z)) (fun z => k2 (fun w => z ((o32_lt (ok_h (ok_t h)) (ok_h h)).mpr w)))
theorem V_icmpge {a b : Int} {off : Int} (hd : decode M.2.1 pc = .ok (.if_icmp .ge off, 3)) (ht : (pc : Int) + off = (q : Int)) {q2 : Nat} (hq : pc + 3 = q2) (kt : b ≤ a → VV d M q ls st μ r μ') (kf : ¬ b ≤ a → VV d M q2 ls st μ r μ') : VV d M pc ls (vI b :: vI a :: st) μ r μ' := by
  subst hq
  refine V_br (st2 := st) (fun h => ok_t (ok_t h)) (fun p l e R s m args below meth c H locs Q ad ls' hx hb h k1 k2 => ?_) kt kf
  exact lv_icmp_ge hx hb hd ht (fun z => k1 ((o32_le (ok_h h) (ok_h (ok_t h))).mp z)) (fun z => k2 (fun w => z ((o32_le (ok_h h) (ok_h (ok_t h))).mpr w)))
theorem V_icmpgt {a b : Int} {off : Int} (hd : decode M.2.1 pc = .ok (.if_icmp .gt off, 3)) (ht : (pc : Int) + off = (q : Int)) {q2 : Nat} (hq : pc + 3 = q2) (kt : b < a → VV d M q ls st μ r μ') (kf : ¬ b < a → VV d M q2 ls st μ r μ') : VV d M pc ls (vI b :: vI a :: st) μ r μ' := by
  subst hq
  refine V_br (st2 := st) (fun h => ok_t (ok_t h)) (fun p l e R s m args below meth c H locs Q ad ls' hx hb h k1 k2 => ?_) kt kf
  exact lv_icmp_gt hx hb hd ht (fun z => k1 ((o32_lt (ok_h h) (ok_h (ok_t h))).mp z)) (fun z => k2 (fun w => z ((o32_lt (ok_h h) (ok_h (ok_t h))).mpr w)))
theorem V_icmple {a b : Int} {off : Int} (hd : decode M.2.1 pc = .ok (.if_icmp .le off, 3)) (ht : (pc : Int) + off = (q : Int)) {q2 : Nat} (hq : pc + 3 = q2) (kt : a ≤ b → VV d M q ls st μ r μ') (kf : ¬ a ≤ b → VV d M q2 ls st μ r μ') : VV d M pc ls (vI b :: vI a :: st) μ r μ' := by
  subst hq
  refine V_br (st2 := st) (fun h => ok_t (ok_t h)) (fun p l e R s m args below meth c H locs Q ad ls' hx hb h k1 k2 => ?_) kt kf
  exact lv_icmp_le hx hb hd ht (fun z => k1 ((o32_le (ok_h (ok_t h)) (ok_h h)).mp z)) (fun z => k2 (fun w => z ((o32_le (ok_h (ok_t h)) (ok_h h)).mpr w)))
end VR
end
section
/-! locals -/
section VL
variable {d : Nat} {M : Mth} {pc q : Nat} {ls : List (Option AV)} {st : List AV} {μ : Mm} {r : Int} {μ' : Mm}
theorem VV_load {v : AV} {i : Nat} (hi : ls[i]? = some (some v))
    (k0 : ∀ (p : Program) (l : Launch) (e : Env) (R : Room) (s : State) (m : MethodId) (args : Array Value) (below : List Frame) (meth : Method) (c : Code) (H : Heap) (locs : List Loc) (Q : State → Prop) (ad : Nat → Nat) (ls' : Array Slot), p.tables.exec = Jvm.exec → c.code = M.2.1 → ls'[i]? = some (.val (cV ad v)) →
      W p l e R s m args below meth c H locs 0 0 Q (F0 m q ls' (cV ad v :: st.map (cV ad))) → W p l e R s m args below meth c H locs 0 0 Q (F0 m pc ls' (st.map (cV ad))))
    (k : VV d M q ls (v :: st) μ r μ') : VV d M pc ls st μ r μ' := by
  intro p l e s m args below meth c H locs dC dI D ad ls' C hH hS hn hl hs
  exact k0 _ _ _ _ _ _ _ _ _ _ _ _ _ _ _ C.1 C.2.1 (hl.2.2 i v hi).1 (k p l e s m args below meth c H locs dC dI D ad ls' C hH hS hn hl (ok_c (hl.2.2 i v hi).2 hs))
theorem V_iload_n {k : Fin 4} {i : Nat} {a : Int} (hd : decode M.2.1 pc = .ok (.iload_n k, 1)) (he : (k : Nat) = i) (hi : ls[i]? = some (some (vI a))) (hq : pc + 1 = q) (kk : VV d M q ls (vI a :: st) μ r μ') : VV d M pc ls st μ r μ' := by
  subst hq
  exact VV_load hi (fun p l e R s m args below meth c H locs Q ad ls' hx hb hg k2 => lv_iload_n hx hb hd he hg k2) kk
theorem V_iload {i : Nat} {a : Int} (hd : decode M.2.1 pc = .ok (.iload i, 2)) (hi : ls[i]? = some (some (vI a))) (hq : pc + 2 = q) (kk : VV d M q ls (vI a :: st) μ r μ') : VV d M pc ls st μ r μ' := by
  subst hq
  exact VV_load hi (fun p l e R s m args below meth c H locs Q ad ls' hx hb hg k2 => lv_iload hx hb hd hg k2) kk
theorem V_lload_n {k : Fin 4} {i : Nat} {a : Int} (hd : decode M.2.1 pc = .ok (.lload_n k, 1)) (he : (k : Nat) = i) (hi : ls[i]? = some (some (vL a))) (hq : pc + 1 = q) (kk : VV d M q ls (vL a :: st) μ r μ') : VV d M pc ls st μ r μ' := by
  subst hq
  exact VV_load hi (fun p l e R s m args below meth c H locs Q ad ls' hx hb hg k2 => lv_lload_n hx hb hd he hg k2) kk
theorem V_lload {i : Nat} {a : Int} (hd : decode M.2.1 pc = .ok (.lload i, 2)) (hi : ls[i]? = some (some (vL a))) (hq : pc + 2 = q) (kk : VV d M q ls (vL a :: st) μ r μ') : VV d M pc ls st μ r μ' := by
  subst hq
  exact VV_load hi (fun p l e R s m args below meth c H locs Q ad ls' hx hb hg k2 => lv_lload hx hb hd hg k2) kk
theorem V_aload_n {k : Fin 4} {i : Nat} {a : Nat} (hd : decode M.2.1 pc = .ok (.aload_n k, 1)) (he : (k : Nat) = i) (hi : ls[i]? = some (some (vR a))) (hq : pc + 1 = q) (kk : VV d M q ls (vR a :: st) μ r μ') : VV d M pc ls st μ r μ' := by
  subst hq
  exact VV_load hi (fun p l e R s m args below meth c H locs Q ad ls' hx hb hg k2 => lv_aload_n hx hb hd he hg k2) kk
theorem V_aload {i : Nat} {a : Nat} (hd : decode M.2.1 pc = .ok (.aload i, 2)) (hi : ls[i]? = some (some (vR a))) (hq : pc + 2 = q) (kk : VV d M q ls (vR a :: st) μ r μ') : VV d M pc ls st μ r μ' := by
  subst hq
  exact VV_load hi (fun p l e R s m args below meth c H locs Q ad ls' hx hb hg k2 => lv_aload hx hb hd hg k2) kk
theorem vC_n {c : Int} (h : c = -1) : vC c = vN := if_pos h
theorem vC_r {c : Int} (h : ¬ c = -1) : vC c = vR c.toNat := if_neg h
/-- a reference that may be null -/
theorem V_aloadC_n {k : Fin 4} {i : Nat} {a : Int} (hd : decode M.2.1 pc = .ok (.aload_n k, 1)) (he : (k : Nat) = i) (hi : ls[i]? = some (some (vC a))) (hq : pc + 1 = q) (kk : VV d M q ls (vC a :: st) μ r μ') : VV d M pc ls st μ r μ' := by
  subst hq
  refine VV_load hi (fun p l e R s m args below meth c H locs Q ad ls' hx hb hg k2 => ?_) kk
  by_cases h : a = -1
  · rw [vC_n h] at hg k2; exact lv_aload_nN hx hb hd he hg k2
  · rw [vC_r h] at hg k2; exact lv_aload_n hx hb hd he hg k2
theorem V_aloadC {i : Nat} {a : Int} (hd : decode M.2.1 pc = .ok (.aload i, 2)) (hi : ls[i]? = some (some (vC a))) (hq : pc + 2 = q) (kk : VV d M q ls (vC a :: st) μ r μ') : VV d M pc ls st μ r μ' := by
  subst hq
  refine VV_load hi (fun p l e R s m args below meth c H locs Q ad ls' hx hb hg k2 => ?_) kk
  by_cases h : a = -1
  · rw [vC_n h] at hg k2; exact lv_aloadN hx hb hd hg k2
  · rw [vC_r h] at hg k2; exact lv_aload hx hb hd hg k2
theorem V_ifnull {a : Int} {off : Int} (hd : decode M.2.1 pc = .ok (.ifnull off, 3)) (ht : (pc : Int) + off = (q : Int)) {q2 : Nat} (hq : pc + 3 = q2) (kt : a = -1 → VV d M q ls st μ r μ') (kf : ¬ a = -1 → VV d M q2 ls st μ r μ') : VV d M pc ls (vC a :: st) μ r μ' := by
  subst hq
  refine V_br (st2 := st) (fun h => ok_t h) (fun p l e R s m args below meth c H locs Q ad ls' hx hb h k1 k2 => ?_) kt kf
  by_cases h : a = -1
  · rw [List.map_cons, vC_n h]; exact lv_ifnullN hx hb hd ht (k1 h)
  · rw [List.map_cons, vC_r h]; exact lv_ifnull hx hb hd (k2 h)
theorem VV_eq {ls2 : List (Option AV)} {st2 : List AV} (h1 : ls = ls2) (h2 : st = st2) (k : VV d M pc ls2 st2 μ r μ') : VV d M pc ls st μ r μ' := by subst h1; subst h2; exact k
/-- no long just ahead of i -/
def nL_ (ls : List (Option AV)) (i : Nat) : Prop := match i with
  | 0 => True
  | j + 1 => match ls[j]? with
    | some (some (.inr (.inl _))) => False
    | _ => True
/-- the listed locals -/
def pL (ad : Nat → Nat) (ls : List (Option AV)) : List (Nat × Value) := (List.range ls.length).filterMap (fun i => match ls[i]? with
  | some (some v) => some (i, cV ad v)
  | _ => none)
theorem pL_mem {ad : Nat → Nat} {ls : List (Option AV)} {i : Nat} {w : Value} : (i, w) ∈ pL ad ls ↔ ∃ v, ls[i]? = some (some v) ∧ w = cV ad v := by
  constructor
  · intro h
    obtain ⟨j, hj, he⟩ := List.mem_filterMap.mp h
    cases hv : ls[j]? with
    | none => rw [hv] at he; cases he
    | some o =>
      cases o with
      | none => rw [hv] at he; cases he
      | some v =>
        rw [hv] at he
        cases he
        exact ⟨v, hv, rfl⟩
  · rintro ⟨v, hv, rfl⟩
    refine List.mem_filterMap.mpr ⟨i, List.mem_range.mpr (List.getElem?_eq_some_iff.mp hv).1, ?_⟩
    rw [hv]
theorem lR_has {ad : Nat → Nat} {ls : List (Option AV)} {ls' : Array Slot} (h : lR ad ls ls') : lv_has ls' ls.length (pL ad ls) := by
  refine ⟨h.1, h.2.1, fun q hq => ?_⟩
  obtain ⟨v, h1, h2⟩ := pL_mem.mp (show (q.1, q.2) ∈ pL ad ls from hq)
  rw [h2]
  exact (h.2.2 q.1 v h1).1
theorem lR_set {ad : Nat → Nat} {ls : List (Option AV)} {ls' ls2 : Array Slot} {i : Nat} {v : AV} (h : lR ad ls ls') (hv : oV v) (hi : i < ls.length) (hn : nL_ ls i)
    (h2 : lv_has ls2 ls.length ((i, cV ad v) :: (pL ad ls).filter (fun q => !(q.1 == i) && !(q.1 + 1 == i && q.2.category == 2)))) : lR ad (ls.set i (some v)) ls2 := by
  refine ⟨by rw [List.length_set]; exact h2.1, h2.2.1, fun j w hj => ?_⟩
  by_cases hji : j = i
  · subst hji
    rw [List.getElem?_set_self hi] at hj
    cases hj
    exact ⟨h2.2.2 (j, cV ad v) List.mem_cons_self, hv⟩
  · rw [List.getElem?_set_ne (Ne.symm hji)] at hj
    refine ⟨h2.2.2 (j, cV ad w) (List.mem_cons_of_mem _ (List.mem_filter.mpr ⟨pL_mem.mpr ⟨w, hj, rfl⟩, ?_⟩)), (h.2.2 j w hj).2⟩
    have e1 : (j == i) = false := by simpa using hji
    rw [Bool.and_eq_true]
    refine ⟨by rw [e1]; rfl, ?_⟩
    by_cases hj1 : j + 1 = i
    · subst hj1
      unfold nL_ at hn
      simp only [hj] at hn
      rcases w with a | a | _ | _
      · simp [cV, Value.category]
      · exact hn.elim
      · simp [cV, Value.category]
      · simp [cV, Value.category]
    · have e2 : (j + 1 == i) = false := by simpa using hj1
      show (!(j + 1 == i && _)) = true
      rw [e2]; rfl
theorem VV_store {v : AV} {i : Nat} (hi : i < M.2.2.1) (hn : nL_ ls i)
    (k0 : ∀ (p : Program) (l : Launch) (e : Env) (R : Room) (s : State) (m : MethodId) (args : Array Value) (below : List Frame) (meth : Method) (c : Code) (H : Heap) (locs : List Loc) (Q : State → Prop) (ad : Nat → Nat) (ls' : Array Slot) (nL : Nat) (lv : List (Nat × Value)), p.tables.exec = Jvm.exec → c.code = M.2.1 → lv_has ls' nL lv → i < nL →
      (∀ ls2 : Array Slot, lv_has ls2 nL ((i, cV ad v) :: lv.filter (fun q => !(q.1 == i) && !(q.1 + 1 == i && q.2.category == 2))) → W p l e R s m args below meth c H locs 0 0 Q (F0 m q ls2 (st.map (cV ad)))) → W p l e R s m args below meth c H locs 0 0 Q (F0 m pc ls' (cV ad v :: st.map (cV ad))))
    (k : VV d M q (ls.set i (some v)) st μ r μ') : VV d M pc ls (v :: st) μ r μ' := by
  intro p l e s m args below meth c H locs dC dI D ad ls' C hH hS hn' hl hs
  refine k0 _ _ _ _ _ _ _ _ _ _ _ _ _ ad ls' ls.length (pL ad ls) C.1 C.2.1 (lR_has hl) (by rw [hn']; exact hi) (fun ls2 h2 => ?_)
  exact k p l e s m args below meth c H locs dC dI D ad ls2 C hH hS (by rw [List.length_set]; exact hn') (lR_set hl (ok_h hs) (by rw [hn']; exact hi) hn h2) (ok_t hs)
theorem V_istore_n {k : Fin 4} {i : Nat} {a : Int} (hd : decode M.2.1 pc = .ok (.istore_n k, 1)) (he : (k : Nat) = i) (hi : i < M.2.2.1) (hn : nL_ ls i) (hq : pc + 1 = q) (kk : VV d M q (ls.set i (some (vI a))) st μ r μ') : VV d M pc ls (vI a :: st) μ r μ' := by
  subst hq
  exact VV_store hi hn (fun p l e R s m args below meth c H locs Q ad ls' nL lv hx hb h1 h2 k2 => lv_istore_n hx hb hd he h1 h2 rfl k2) kk
theorem V_istore {i : Nat} {a : Int} (hd : decode M.2.1 pc = .ok (.istore i, 2)) (hi : i < M.2.2.1) (hn : nL_ ls i) (hq : pc + 2 = q) (kk : VV d M q (ls.set i (some (vI a))) st μ r μ') : VV d M pc ls (vI a :: st) μ r μ' := by
  subst hq
  exact VV_store hi hn (fun p l e R s m args below meth c H locs Q ad ls' nL lv hx hb h1 h2 k2 => lv_istore hx hb hd h1 h2 rfl k2) kk
theorem V_astore_n {k : Fin 4} {i : Nat} {a : Nat} (hd : decode M.2.1 pc = .ok (.astore_n k, 1)) (he : (k : Nat) = i) (hi : i < M.2.2.1) (hn : nL_ ls i) (hq : pc + 1 = q) (kk : VV d M q (ls.set i (some (vR a))) st μ r μ') : VV d M pc ls (vR a :: st) μ r μ' := by
  subst hq
  exact VV_store hi hn (fun p l e R s m args below meth c H locs Q ad ls' nL lv hx hb h1 h2 k2 => lv_astore_n hx hb hd he h1 h2 rfl k2) kk
theorem V_astore {i : Nat} {a : Nat} (hd : decode M.2.1 pc = .ok (.astore i, 2)) (hi : i < M.2.2.1) (hn : nL_ ls i) (hq : pc + 2 = q) (kk : VV d M q (ls.set i (some (vR a))) st μ r μ') : VV d M pc ls (vR a :: st) μ r μ' := by
  subst hq
  exact VV_store hi hn (fun p l e R s m args below meth c H locs Q ad ls' nL lv hx hb h1 h2 k2 => lv_astore hx hb hd h1 h2 rfl k2) kk
theorem V_iinc {i : Nat} {n a : Int} (hd : decode M.2.1 pc = .ok (.iinc i n, 3)) (hg : ls[i]? = some (some (vI a))) (hi : i < M.2.2.1) (hn : nL_ ls i) (hq : pc + 3 = q) (kk : VV d M q (ls.set i (some (vI (iA a n)))) st μ r μ') : VV d M pc ls st μ r μ' := by
  subst hq
  intro p l e s m args below meth c H locs dC dI D ad ls' C hH hS hn' hl hs
  obtain ⟨k, hk⟩ := List.getElem?_of_mem (pL_mem.mpr ⟨_, hg, rfl⟩ : (i, cV ad (vI a)) ∈ pL ad ls)
  refine lv_iinc C.1 C.2.1 hd (lR_has hl) hk (v := Int32.ofInt (iA a n)) (o32_add a n) (by rw [hn']; exact hi) rfl (fun ls2 h2 => ?_)
  exact kk p l e s m args below meth c H locs dC dI D ad ls2 C hH hS (by rw [List.length_set]; exact hn') (lR_set hl (rI_wI _) (by rw [hn']; exact hi) hn h2) hs
/-- a long -/
theorem lR_set2 {ad : Nat → Nat} {ls : List (Option AV)} {ls' ls2 : Array Slot} {i : Nat} {a : Int} (h : lR ad ls ls') (hv : rL a) (hi : i + 1 < ls.length) (hn : nL_ ls i)
    (h2 : lv_has ls2 ls.length ((i, cV ad (vL a)) :: (pL ad ls).filter (fun q => !(q.1 == i) && (!(q.1 == i + 1) && !(q.1 + 1 == i && q.2.category == 2))))) : lR ad ((ls.set i (some (vL a))).set (i + 1) none) ls2 := by
  refine ⟨by rw [List.length_set, List.length_set]; exact h2.1, h2.2.1, fun j w hj => ?_⟩
  by_cases hji1 : j = i + 1
  · subst hji1
    rw [List.getElem?_set_self (by rw [List.length_set]; exact hi)] at hj
    cases hj
  rw [List.getElem?_set_ne (Ne.symm hji1)] at hj
  by_cases hji : j = i
  · subst hji
    rw [List.getElem?_set_self (by omega)] at hj
    cases hj
    exact ⟨h2.2.2 (j, cV ad (vL a)) List.mem_cons_self, hv⟩
  · rw [List.getElem?_set_ne (Ne.symm hji)] at hj
    refine ⟨h2.2.2 (j, cV ad w) (List.mem_cons_of_mem _ (List.mem_filter.mpr ⟨pL_mem.mpr ⟨w, hj, rfl⟩, ?_⟩)), (h.2.2 j w hj).2⟩
    have e1 : (j == i) = false := by simpa using hji
    have e3 : (j == i + 1) = false := by simpa using hji1
    rw [Bool.and_eq_true, Bool.and_eq_true]
    refine ⟨by rw [e1]; rfl, by rw [e3]; rfl, ?_⟩
    by_cases hj1 : j + 1 = i
    · subst hj1
      unfold nL_ at hn
      simp only [hj] at hn
      rcases w with a | a | _ | _
      · simp [cV, Value.category]
      · exact hn.elim
      · simp [cV, Value.category]
      · simp [cV, Value.category]
    · have e2 : (j + 1 == i) = false := by simpa using hj1
      show (!(j + 1 == i && _)) = true
      rw [e2]; rfl
theorem V_lstore_n {k : Fin 4} {i : Nat} {a : Int} (hd : decode M.2.1 pc = .ok (.lstore_n k, 1)) (he : (k : Nat) = i) (hi : i + 1 < M.2.2.1) (hn : nL_ ls i) (hq : pc + 1 = q) (kk : VV d M q ((ls.set i (some (vL a))).set (i + 1) none) st μ r μ') : VV d M pc ls (vL a :: st) μ r μ' := by
  subst hq
  intro p l e s m args below meth c H locs dC dI D ad ls' C hH hS hn' hl hs
  refine lv_lstore_n C.1 C.2.1 hd he (lR_has hl) (by rw [hn']; exact hi) rfl (fun ls2 h2 => ?_)
  exact kk p l e s m args below meth c H locs dC dI D ad ls2 C hH hS (by rw [List.length_set, List.length_set]; exact hn') (lR_set2 hl (ok_h hs) (by rw [hn']; exact hi) hn h2) (ok_t hs)
theorem V_lstore {i : Nat} {a : Int} (hd : decode M.2.1 pc = .ok (.lstore i, 2)) (hi : i + 1 < M.2.2.1) (hn : nL_ ls i) (hq : pc + 2 = q) (kk : VV d M q ((ls.set i (some (vL a))).set (i + 1) none) st μ r μ') : VV d M pc ls (vL a :: st) μ r μ' := by
  subst hq
  intro p l e s m args below meth c H locs dC dI D ad ls' C hH hS hn' hl hs
  refine lv_lstore C.1 C.2.1 hd (lR_has hl) (by rw [hn']; exact hi) rfl (fun ls2 h2 => ?_)
  exact kk p l e s m args below meth c H locs dC dI D ad ls2 C hH hS (by rw [List.length_set, List.length_set]; exact hn') (lR_set2 hl (ok_h hs) (by rw [hn']; exact hi) hn h2) (ok_t hs)
/-- fewer locals known -/
def sb_ : List (Option AV) → List (Option AV) → Prop
  | [], [] => True
  | none :: a, _ :: b => sb_ a b
  | some v :: a, w :: b => w = some v ∧ sb_ a b
  | _, _ => False
theorem sb_ok : ∀ {a b : List (Option AV)}, sb_ a b → a.length = b.length ∧ ∀ (i : Nat) (v : AV), a[i]? = some (some v) → b[i]? = some (some v)
  | [], [], _ => ⟨rfl, fun i v h => by simp at h⟩
  | none :: a, _ :: b, h => by
    obtain ⟨h1, h2⟩ := sb_ok (a := a) (b := b) h
    refine ⟨by simp [h1], fun i v hi => ?_⟩
    cases i with
    | zero => simp at hi
    | succ i => simpa using h2 i v (by simpa using hi)
  | some x :: a, w :: b, h => by
    obtain ⟨h0, h⟩ := h
    obtain ⟨h1, h2⟩ := sb_ok (a := a) (b := b) h
    refine ⟨by simp [h1], fun i v hi => ?_⟩
    cases i with
    | zero => simp at hi; subst hi; simp [h0]
    | succ i => simpa using h2 i v (by simpa using hi)
  | [], _ :: _, h => h.elim
  | some _ :: _, [], h => h.elim
  | none :: _, [], h => h.elim
theorem V_weak {ls2 : List (Option AV)} (k : VV d M pc ls2 st μ r μ') (h : sb_ ls2 ls) : VV d M pc ls st μ r μ' := by
  obtain ⟨h1, h2⟩ := sb_ok h
  intro p l e s m args below meth c H locs dC dI D ad ls' C hH hS hn hl hs
  exact k p l e s m args below meth c H locs dC dI D ad ls' C hH hS (h1.trans hn) ⟨hl.1.trans h1.symm, hl.2.1, fun i v hi => hl.2.2 i v (h2 i v hi)⟩ hs
end VL
end
section
/-! fields and arrays -/
def clF (ci : Nat) (C : String) (T : u_T) (N : Nat) (ty : Nat → FieldType) : Prop := vwCl[ci]? = some (C, T, N) ∧ (∀ w ∈ u_ws C T N, w ∈ tG) ∧ (∀ k, k < N → parseFieldDescriptor (T k).2.2.1 = some (ty k)) ∧ ∀ a, a < N → ∀ b, b < N → a ≠ b → (T a).2.1 ≠ (T b).2.1
theorem clF_in {C : String} {T : u_T} {N : Nat} (h : (u_ws C T N).all (fun w => decide (w ∈ lw_tbl) && goodWord w) = true) : ∀ w ∈ u_ws C T N, w ∈ tG := by
  intro w hw
  have h1 := List.all_eq_true.mp h w hw
  rw [Bool.and_eq_true, decide_eq_true_eq] at h1
  exact tG_of h1.1 h1.2
/-- the instruction's pool entry idx of the class own is the field j of the class ci -/
def fL (own : String) (idx ci j : Nat) (ty : FieldType) (fin : Bool) : Prop := ∃ (C : String) (T : u_T) (N : Nat) (tys : Nat → FieldType), clF ci C T N tys ∧ j < N ∧ tys j = ty ∧ (T j).2.2.2 = fin ∧
  (Cond.fieldLink own idx (T j).1 (T j).2.1 (T j).2.2.1 ∈ tG ∨ ∃ host, Cond.fieldLinkNest own idx (T j).1 (T j).2.1 (T j).2.2.1 host ∈ lw_tbl)
theorem fV_I {μ : Mm} {k ci n j x : Nat} (hk : kD k = (ci + 10, n)) (hf : rF ci j = (0, x)) : fV μ k j = vI (μ k j) := by
  unfold fV; rw [hk]; simp only [Nat.add_sub_cancel]; rw [hf]; rfl
theorem fV_O {μ : Mm} {k ci n j o : Nat} (hk : kD k = (ci + 10, n)) (hf : rF ci j = (1, o)) : fV μ k j = vR (k + o) := by
  unfold fV; rw [hk]; simp only [Nat.add_sub_cancel]; rw [hf]; rfl
theorem fV_C {μ : Mm} {k ci n j o : Nat} (hk : kD k = (ci + 10, n)) (hf : rF ci j = (2, o)) : fV μ k j = vR o := by
  unfold fV; rw [hk]; simp only [Nat.add_sub_cancel]; rw [hf]; rfl
theorem fV_M {μ : Mm} {k ci n j o : Nat} (hk : kD k = (ci + 10, n)) (hf : rF ci j = (3, o)) : fV μ k j = vR (μ k j).toNat := by
  unfold fV; rw [hk]; simp only [Nat.add_sub_cancel]; rw [hf]; rfl
theorem eN_o {D : ClassId × ClassId × ClassId} {ad : Nat → Nat} {μ : Mm} {k ci n : Nat} (hk : kD k = (ci + 10, n)) : eN D ad μ k = .inr (ci, (List.range n).map (fun j => cV ad (fV μ k j))) := by
  unfold eN; rw [hk]; rfl
theorem eN_i {D : ClassId × ClassId × ClassId} {ad : Nat → Nat} {μ : Mm} {k n : Nat} (hk : kD k = (0, n)) : eN D ad μ k = .inl (D.1, n, .inl (fun j => Int32.ofInt (μ k j))) := by
  unfold eN; rw [hk]; rfl
theorem eN_p {D : ClassId × ClassId × ClassId} {ad : Nat → Nat} {μ : Mm} {k n : Nat} (hk : kD k = (1, n)) : eN D ad μ k = .inl (D.2.1, n, .inr (.inr (.inr (.inr (fun j => some (ad (aE k j))))))) := by
  unfold eN; rw [hk]; rfl
theorem eN_t {D : ClassId × ClassId × ClassId} {ad : Nat → Nat} {μ : Mm} {k n : Nat} (hk : kD k = (2, n)) : eN D ad μ k = .inl (D.2.2, n, .inr (.inr (.inr (.inr (fun j => some (ad (aE k j))))))) := by
  unfold eN; rw [hk]; rfl
theorem kD_o {k ci n : Nat} (hk : kD k = (ci + 10, n)) (h : ci < 80) : k < nC := kD_e hk (by omega)
theorem clF_lt {ci : Nat} {C : String} {T : u_T} {N : Nat} {ty : Nat → FieldType} (h : clF ci C T N ty) : ci < 80 := by
  have h1 := (List.getElem?_eq_some_iff.mp h.1).1
  have h2 : vwCl.length = 12 := rfl
  omega
theorem aN_lt (k : Nat) : aN k < 100000 := by
  by_cases h : k < nC
  · exact (by decide +kernel : ∀ j, j < nC → aN j < 100000) k h
  · unfold aN kD
    rw [List.getD_eq_getElem?_getD, List.getElem?_eq_none (by show kL.length ≤ k; exact Nat.not_lt.mp h)]
    exact Nat.le_of_ble_eq_true rfl
section VF
variable {d : Nat} {M : Mth} {pc q : Nat} {ls : List (Option AV)} {st : List AV} {μ : Mm} {r : Int} {μ' : Mm}
theorem VV_get {idx ci j n a : Nat} {ty : FieldType} {fin : Bool} {v : AV} (hL : fL M.1.cls idx ci j ty fin) (hk : kD a = (ci + 10, n)) (hj : j < n) (hv : fV μ a j = v) (hok : oM μ → oV v) (hd : decode M.2.1 pc = .ok (.getfield idx, 3)) (hq : pc + 3 = q) (k : VV d M q ls (v :: st) μ r μ') : VV d M pc ls (vR a :: st) μ r μ' := by
  subst hq
  intro p l e s m args below meth c H locs dC dI D ad ls' C hH hS hn hl hs
  obtain ⟨hx, hb, hml, hrt, hown, hts, hlk, hK, hP, hN⟩ := id C
  obtain ⟨CC, T, N, tys, ⟨h1, h2, h3, h4⟩, h5, -, -, h6⟩ := hL
  have hc : ci < 80 := clF_lt ⟨h1, h2, h3, h4⟩
  have he : (wO D ad μ)[a]? = some (ad a, .inr (ci, (List.range n).map (fun j => cV ad (fV μ a j)))) := by rw [wO_at D ad μ (kD_o hk hc), eN_o hk]
  have hv2 : ((List.range n).map (fun j => cV ad (fV μ a j)))[j]? = some (cV ad v) := by simp [hj, hv]
  have kk := k p l e s m args below meth c H locs dC dI D ad ls' C hH hS hn hl (ok_c (hok hH.2) (ok_t hs))
  rcases h6 with h6 | ⟨host, h6⟩
  · exact va_get (D := (dC, dI)) (ci := ci) (v := cV ad v) (C := CC) (T := T) (N := N) hx hb hts h2 hown hK hH.1 a he h1 j h5 (hts _ h6) (fun _ h9 => h9) hv2 hd kk
  · exact va_getN (D := (dC, dI)) (ci := ci) (v := cV ad v) (C := CC) (T := T) (N := N) hx hb hts h2 hown hK hH.1 a he h1 j h5 (va_Nw.use rfl (hN _ h6 rfl)) (fun _ h9 => h9) hv2 hd kk
theorem V_getI {idx ci j n a x : Nat} {ty : FieldType} {fin : Bool} (hL : fL M.1.cls idx ci j ty fin) (hk : kD a = (ci + 10, n)) (hj : Nat.blt j n = true) (hf : rF ci j = (0, x)) (hd : decode M.2.1 pc = .ok (.getfield idx, 3)) (hq : pc + 3 = q) (k : VV d M q ls (vI (μ a j) :: st) μ r μ') : VV d M pc ls (vR a :: st) μ r μ' :=
  VV_get hL hk (Nat.le_of_ble_eq_true hj) (fV_I hk hf) (fun h => h a j) hd hq k
theorem V_getO {idx ci j n a o t : Nat} {ty : FieldType} {fin : Bool} (hL : fL M.1.cls idx ci j ty fin) (hk : kD a = (ci + 10, n)) (hj : Nat.blt j n = true) (hf : rF ci j = (1, o)) (ht : a + o = t) (hd : decode M.2.1 pc = .ok (.getfield idx, 3)) (hq : pc + 3 = q) (k : VV d M q ls (vR t :: st) μ r μ') : VV d M pc ls (vR a :: st) μ r μ' := by
  subst ht
  exact VV_get hL hk (Nat.le_of_ble_eq_true hj) (fV_O hk hf) (fun _ => trivial) hd hq k
theorem V_getC {idx ci j n a t : Nat} {ty : FieldType} {fin : Bool} (hL : fL M.1.cls idx ci j ty fin) (hk : kD a = (ci + 10, n)) (hj : Nat.blt j n = true) (hf : rF ci j = (2, t)) (hd : decode M.2.1 pc = .ok (.getfield idx, 3)) (hq : pc + 3 = q) (k : VV d M q ls (vR t :: st) μ r μ') : VV d M pc ls (vR a :: st) μ r μ' :=
  VV_get hL hk (Nat.le_of_ble_eq_true hj) (fV_C hk hf) (fun _ => trivial) hd hq k
theorem V_getM {idx ci j n a o : Nat} {ty : FieldType} {fin : Bool} (hL : fL M.1.cls idx ci j ty fin) (hk : kD a = (ci + 10, n)) (hj : Nat.blt j n = true) (hf : rF ci j = (3, o)) (hd : decode M.2.1 pc = .ok (.getfield idx, 3)) (hq : pc + 3 = q) (k : VV d M q ls (vR (μ a j).toNat :: st) μ r μ') : VV d M pc ls (vR a :: st) μ r μ' :=
  VV_get hL hk (Nat.le_of_ble_eq_true hj) (fV_M hk hf) (fun _ => trivial) hd hq k
theorem fs_set {n j : Nat} {f g : Nat → Value} {v : Value} (hj : j < n) (h1 : g j = v) (h2 : ∀ i, i ≠ j → g i = f i) : ((List.range n).map f).set j v = (List.range n).map g := by
  apply List.ext_getElem?
  intro i
  by_cases hi : i < n
  · by_cases hij : i = j
    · subst hij
      rw [List.getElem?_set_self (by simp [hi])]
      simp [hi, h1]
    · rw [List.getElem?_set_ne (Ne.symm hij)]
      simp [hi, h2 i hij]
  · rw [List.getElem?_eq_none (by simp; omega), List.getElem?_eq_none (by simp; omega)]
theorem wO_putF {D : ClassId × ClassId × ClassId} {ad : Nat → Nat} {ci n j a : Nat} {z : Int} {v : AV} (hk : kD a = (ci + 10, n)) (hc : ci < 80) (hj : j < n) (hv : fV (sM μ a j z) a j = v) :
    (wO D ad μ).set a (ad a, .inr (ci, ((List.range n).map (fun j => cV ad (fV μ a j))).set j (cV ad v))) = wO D ad (sM μ a j z) := by
  refine wO_set (kD_o hk hc) ?_ (fun i hi => eN_congr (sM_ne hi))
  rw [eN_o hk]
  congr 2
  symm
  refine fs_set hj (by rw [hv]) (fun i hi => ?_)
  show cV ad (fV (sM μ a j z) a i) = cV ad (fV μ a i)
  have : (sM μ a j z) a i = μ a i := by simp [sM, hi]
  unfold fV
  rw [this]
theorem VV_put {idx ci j n a : Nat} {ty : FieldType} {v : AV} {z : Int} (hL : fL M.1.cls idx ci j ty false) (hk : kD a = (ci + 10, n)) (hj : j < n) (hv : fV (sM μ a j z) a j = v) (hz : oV v → rI z) (hnar : ∀ ad : Nat → Nat, narrow ty (cV ad v) = cV ad v) (hfit : ∀ ad : Nat → Nat, fits ty (cV ad v) = true) (hd : decode M.2.1 pc = .ok (.putfield idx, 3)) (hq : pc + 3 = q) (k : VV d M q ls st (sM μ a j z) r μ') : VV d M pc ls (v :: vR a :: st) μ r μ' := by
  subst hq
  intro p l e s m args below meth c H locs dC dI D ad ls' C hH hS hn hl hs
  obtain ⟨hx, hb, hml, hrt, hown, hts, hlk, hK, hP, hN⟩ := id C
  obtain ⟨CC, T, N, tys, hcl, h5, hty, hfin, h6⟩ := hL
  obtain ⟨h1, h2, h3, h4⟩ := id hcl
  have hc : ci < 80 := clF_lt hcl
  have he : (wO D ad μ)[a]? = some (ad a, .inr (ci, (List.range n).map (fun j => cV ad (fV μ a j)))) := by rw [wO_at D ad μ (kD_o hk hc), eN_o hk]
  have hDd : va_D (aA ad s.heap.size) (wO D ad μ) := vD_of hP (fun k hk => aA_k hk)
  have hpd : parseFieldDescriptor (T j).2.2.1 = some ty := by rw [h3 j h5, hty]
  have hl2 : j < ((List.range n).map (fun j => cV ad (fV μ a j))).length := by simp [hj]
  have kk : ∀ (H1 : Heap) (locs1 : List Loc), va_P (dC, dI) vwCl ((wO D ad μ).set a (ad a, .inr (ci, ((List.range n).map (fun j => cV ad (fV μ a j))).set j (cV ad v)))) H1 → va_D (aA ad s.heap.size) ((wO D ad μ).set a (ad a, .inr (ci, ((List.range n).map (fun j => cV ad (fV μ a j))).set j (cV ad v)))) → va_S (aA ad s.heap.size) s.heap H1 locs1 → W p l e (rmD d) s m args below meth c H1 locs1 0 0 (MQ below (qC dC dI D ad (aA ad s.heap.size) M.2.2.2 r μ') args s 0 0 (aA ad s.heap.size)) (F0 m (pc + 3) ls' (st.map (cV ad))) := by
    intro H1 locs1 hP1 _ hS1
    rw [wO_putF hk hc hj hv] at hP1
    exact k p l e s m args below meth c H1 locs1 dC dI D ad ls' C ⟨hP1, oM_s hH.2 (hz (ok_h hs))⟩ hS1 hn hl (ok_t (ok_t hs))
  rcases h6 with h6 | ⟨host, h6⟩
  · exact va_put (D := (dC, dI)) (ci := ci) (v := cV ad v) (C := CC) (T := T) (N := N) hx hb hts h2 tys h3 h4 hown hK hH.1 hDd hS a he h1 j h5 (hts _ h6) (fun _ h9 => h9) hfin hpd (hnar ad) (hfit ad) hl2 hd kk
  · exact va_putN (D := (dC, dI)) (ci := ci) (v := cV ad v) (C := CC) (T := T) (N := N) hx hb hts h2 tys h3 h4 hown hK hH.1 hDd hS a he h1 j h5 (va_Nw.use rfl (hN _ h6 rfl)) (fun _ h9 => h9) hfin hpd (hnar ad) (hfit ad) hl2 hd kk
theorem V_putI {idx ci j n a x : Nat} {z : Int} (hL : fL M.1.cls idx ci j .int false) (hk : kD a = (ci + 10, n)) (hj : Nat.blt j n = true) (hf : rF ci j = (0, x)) (hd : decode M.2.1 pc = .ok (.putfield idx, 3)) (hq : pc + 3 = q) (k : VV d M q ls st (sM μ a j z) r μ') : VV d M pc ls (vI z :: vR a :: st) μ r μ' :=
  VV_put hL hk (Nat.le_of_ble_eq_true hj) (by rw [fV_I hk hf]; simp [sM]) (fun h => h) (fun _ => rfl) (fun _ => rfl) hd hq k
theorem V_putZ {idx ci j n a x : Nat} {z : Int} (hL : fL M.1.cls idx ci j .boolean false) (hk : kD a = (ci + 10, n)) (hj : Nat.blt j n = true) (hf : rF ci j = (0, x)) (hz : z = 0 ∨ z = 1) (hd : decode M.2.1 pc = .ok (.putfield idx, 3)) (hq : pc + 3 = q) (k : VV d M q ls st (sM μ a j z) r μ') : VV d M pc ls (vI z :: vR a :: st) μ r μ' :=
  VV_put hL hk (Nat.le_of_ble_eq_true hj) (by rw [fV_I hk hf]; simp [sM]) (fun h => h) (fun _ => by rcases hz with rfl | rfl <;> rfl) (fun _ => by rcases hz with rfl | rfl <;> rfl) hd hq k
theorem V_putM {idx ci j n a t x : Nat} {C : String} (hL : fL M.1.cls idx ci j (.object C) false) (hk : kD a = (ci + 10, n)) (hj : Nat.blt j n = true) (hf : rF ci j = (3, x)) (ht : t < nC) (hd : decode M.2.1 pc = .ok (.putfield idx, 3)) (hq : pc + 3 = q) (k : VV d M q ls st (sM μ a j (t : Int)) r μ') : VV d M pc ls (vR t :: vR a :: st) μ r μ' :=
  VV_put hL hk (Nat.le_of_ble_eq_true hj) (by rw [fV_M hk hf]; simp [sM]) (fun _ => by have : nC = 98 := rfl; unfold rI; omega) (fun _ => rfl) (fun _ => rfl) hd hq k
theorem V_iaload {a n : Nat} {i : Int} (hk : kD a = (0, n)) (hi : 0 ≤ i ∧ i < aN a) (hd : decode M.2.1 pc = .ok (.iaload, 1)) (hq : pc + 1 = q) (k : VV d M q ls (vI (μ a i.toNat) :: st) μ r μ') : VV d M pc ls (vI i :: vR a :: st) μ r μ' := by
  subst hq
  intro p l e s m args below meth c H locs dC dI D ad ls' C hH hS hn hl hs
  obtain ⟨hx, hb, hml, hrt, hown, hts, hlk, hK, hP, hN⟩ := id C
  have hri : rI i := ok_h hs
  have hn2 : aN a = n := by unfold aN; rw [hk]
  have he : (wO D ad μ)[a]? = some (ad a, .inl (D.1, n, .inl (fun j => Int32.ofInt (μ a j)))) := by rw [wO_at D ad μ (kD_e hk (by decide)), eN_i hk]
  have kk := k p l e s m args below meth c H locs dC dI D ad ls' C hH hS hn hl (ok_c (v := vI (μ a i.toNat)) (hH.2 a i.toNat) (ok_t (ok_t hs)))
  refine va_iald hx hb hK hH.1 a 0 he rfl (o32_in hri (by rw [← hn2]; exact hi)) hd ?_
  rw [o32_nat hri hi.1]
  exact kk
theorem V_iastore {a n : Nat} {i z : Int} (hk : kD a = (0, n)) (hi : 0 ≤ i ∧ i < aN a) (hd : decode M.2.1 pc = .ok (.iastore, 1)) (hq : pc + 1 = q) (k : VV d M q ls st (sM μ a i.toNat z) r μ') : VV d M pc ls (vI z :: vI i :: vR a :: st) μ r μ' := by
  subst hq
  intro p l e s m args below meth c H locs dC dI D ad ls' C hH hS hn hl hs
  obtain ⟨hx, hb, hml, hrt, hown, hts, hlk, hK, hP, hN⟩ := id C
  have hri : rI i := ok_h (ok_t hs)
  have hn2 : aN a = n := by unfold aN; rw [hk]
  have ha : a < nC := kD_e hk (by decide)
  have he : (wO D ad μ)[a]? = some (ad a, .inl (D.1, n, .inl (fun j => Int32.ofInt (μ a j)))) := by rw [wO_at D ad μ ha, eN_i hk]
  have hDd : va_D (aA ad s.heap.size) (wO D ad μ) := vD_of hP (fun k hk => aA_k hk)
  refine va_iast hx hb hK hH.1 hDd hS a 0 he rfl (o32_in hri (by rw [← hn2]; exact hi)) hd (fun H1 locs1 hP1 _ hS1 => ?_)
  rw [o32_nat hri hi.1] at hP1
  have e1 : (wO D ad μ).set a (ad a, .inl (D.1, n, .inl (upd (fun j => Int32.ofInt (μ a j)) i.toNat (Int32.ofInt z)))) = wO D ad (sM μ a i.toNat z) := by
    refine wO_set ha ?_ (fun j hj => eN_congr (sM_ne hj))
    rw [eN_i hk]
    congr 3
    congr 1
    funext j
    by_cases h : j = i.toNat
    · simp [upd, sM, h]
    · simp [upd, sM, h]
  rw [e1] at hP1
  exact k p l e s m args below meth c H1 locs1 dC dI D ad ls' C ⟨hP1, oM_s hH.2 (ok_h hs)⟩ hS1 hn hl (ok_t (ok_t (ok_t hs)))
theorem V_alen {a n : Nat} (hk : kD a = (0, n)) (hd : decode M.2.1 pc = .ok (.arraylength, 1)) (hq : pc + 1 = q) (k : VV d M q ls (vI (aN a : Nat) :: st) μ r μ') : VV d M pc ls (vR a :: st) μ r μ' := by
  subst hq
  intro p l e s m args below meth c H locs dC dI D ad ls' C hH hS hn hl hs
  obtain ⟨hx, hb, hml, hrt, hown, hts, hlk, hK, hP, hN⟩ := id C
  have hn2 : aN a = n := by unfold aN; rw [hk]
  have hs2 : n < 100000 := by rw [← hn2]; exact aN_lt a
  have he : (wO D ad μ)[a]? = some (ad a, .inl (D.1, n, .inl (fun j => Int32.ofInt (μ a j)))) := by rw [wO_at D ad μ (kD_e hk (by decide)), eN_i hk]
  have kk := k p l e s m args below meth c H locs dC dI D ad ls' C hH hS hn hl (ok_c (v := vI ((aN a : Nat) : Int)) (by show rI _; rw [hn2]; unfold rI; omega) (ok_t hs))
  exact va_alen hx hb hK hH.1 a 0 he (ty := .int) rfl (v := Int32.ofInt ((aN a : Nat) : Int)) (by rw [hn2]; exact (Int32.ofInt_eq_ofNat).symm) hd kk
theorem V_alenP {a n c2 : Nat} (hk : kD a = (c2, n)) (hc : c2 = 1 ∨ c2 = 2) (hd : decode M.2.1 pc = .ok (.arraylength, 1)) (hq : pc + 1 = q) (k : VV d M q ls (vI (aN a : Nat) :: st) μ r μ') : VV d M pc ls (vR a :: st) μ r μ' := by
  subst hq
  intro p l e s m args below meth c H locs dC dI D ad ls' C hH hS hn hl hs
  obtain ⟨hx, hb, hml, hrt, hown, hts, hlk, hK, hP, hN⟩ := id C
  have hn2 : aN a = n := by unfold aN; rw [hk]
  have hs2 : n < 100000 := by rw [← hn2]; exact aN_lt a
  have kk := k p l e s m args below meth c H locs dC dI D ad ls' C hH hS hn hl (ok_c (v := vI ((aN a : Nat) : Int)) (by show rI _; rw [hn2]; unfold rI; omega) (ok_t hs))
  rcases hc with rfl | rfl
  · have he : (wO D ad μ)[a]? = some (ad a, .inl (D.2.1, n, .inr (.inr (.inr (.inr (fun j => some (ad (aE a j)))))))) := by rw [wO_at D ad μ (kD_e hk (by decide)), eN_p hk]
    exact va_alen hx hb hK hH.1 a 1 he (ty := .object RX3) rfl (v := Int32.ofInt ((aN a : Nat) : Int)) (by rw [hn2]; exact (Int32.ofInt_eq_ofNat).symm) hd kk
  · have he : (wO D ad μ)[a]? = some (ad a, .inl (D.2.2, n, .inr (.inr (.inr (.inr (fun j => some (ad (aE a j)))))))) := by rw [wO_at D ad μ (kD_e hk (by decide)), eN_t hk]
    exact va_alen hx hb hK hH.1 a 2 he (ty := .object RX7) rfl (v := Int32.ofInt ((aN a : Nat) : Int)) (by rw [hn2]; exact (Int32.ofInt_eq_ofNat).symm) hd kk
theorem V_aaload {a n c2 : Nat} {i : Int} (hk : kD a = (c2, n)) (hc : c2 = 1 ∨ c2 = 2) (hi : 0 ≤ i ∧ i < aN a) (hd : decode M.2.1 pc = .ok (.aaload, 1)) (hq : pc + 1 = q) (k : VV d M q ls (vR (aE a i.toNat) :: st) μ r μ') : VV d M pc ls (vI i :: vR a :: st) μ r μ' := by
  subst hq
  intro p l e s m args below meth c H locs dC dI D ad ls' C hH hS hn hl hs
  obtain ⟨hx, hb, hml, hrt, hown, hts, hlk, hK, hP, hN⟩ := id C
  have hri : rI i := ok_h hs
  have hn2 : aN a = n := by unfold aN; rw [hk]
  have kk := k p l e s m args below meth c H locs dC dI D ad ls' C hH hS hn hl (ok_c (v := vR (aE a i.toNat)) trivial (ok_t (ok_t hs)))
  have hin : vp_in (Int32.ofInt i) n := o32_in hri (by rw [← hn2]; exact hi)
  rcases hc with rfl | rfl
  · have he : (wO D ad μ)[a]? = some (ad a, .inl (D.2.1, n, .inr (.inr (.inr (.inr (fun j => some (ad (aE a j)))))))) := by rw [wO_at D ad μ (kD_e hk (by decide)), eN_p hk]
    refine va_aldq hx hb hK hH.1 a 1 he rfl hin hd ?_
    rw [o32_nat hri hi.1]
    exact kk
  · have he : (wO D ad μ)[a]? = some (ad a, .inl (D.2.2, n, .inr (.inr (.inr (.inr (fun j => some (ad (aE a j)))))))) := by rw [wO_at D ad μ (kD_e hk (by decide)), eN_t hk]
    refine va_aldq hx hb hK hH.1 a 2 he rfl hin hd ?_
    rw [o32_nat hri hi.1]
    exact kk
end VF
/-! calls -/
section WC
variable {p : Program} {l : Launch} {e : Env} {R : Room} {s : State} {m : MethodId} {args : Array Value} {below : List Frame} {meth : Method} {c : Code} {H : Heap} {locs : List Loc} {cells slots : Nat} {Q : State → Prop}
variable {pc : Nat} {ls : Array Slot} {rest st0 : List Value} {a : Array Value} {A0 : Nat → Prop} {H0 : Heap}
variable {dC : Nat → ClassId} {dI : Nat → Nat → Nat} {D : ClassId × ClassId × ClassId} {ad : Nat → Nat}
theorem w_call {rt : Option FieldType} {r : Int} {μ' : Mm} {A1 : Nat → Prop} (hr : va_Run p l e R s m args below meth c H locs cells slots 0 0 (F0 m pc ls st0) rest (qC dC dI D ad A1 rt r μ' a) A1) (hS : va_S A0 H0 H locs) (hA : ∀ q, A1 q → A0 q)
    (kk : ∀ (H1 : Heap) (locs1 : List Loc), rK rt r → hO dC dI D ad μ' H1 → H.size ≤ H1.size → (∀ q : Nat, q < H.size → ¬ A1 q → H1[q]? = H[q]?) → va_S A0 H0 H1 locs1 → W p l e R s m args below meth c H1 locs1 cells slots Q (F0 m (pc + 3) ls ((rV ad rt r).toList ++ rest))) : W p l e R s m args below meth c H locs cells slots Q (F0 m pc ls st0) := by
  intro T hT X
  obtain ⟨v, st₀, t, T', L, h0, X', hL, e1, e2, ⟨⟨hv, hp, hb⟩, hz, hk⟩, st⟩ := hr T hT X
  cases hv
  rw [h0] at hz hk
  obtain ⟨t2, a1, b1⟩ := kk T'.heap (locs ++ L) hp (by rw [e1]; exact hb) (by rw [e1]; exact hz) (fun q h1 h2 => by rw [e1]; exact hk q h1 h2)
    ⟨Nat.le_trans hS.1 (by rw [e1]; exact hz), fun q h1 h2 => by rw [e1, hk q (Nat.lt_of_lt_of_le h1 hS.1) (fun z => h2 (hA q z))]; exact hS.2.1 q h1 h2, fun q hq => by
      rcases List.mem_append.mp hq with h | h
      · exact hS.2.2 q h
      · exact hA _ (hL q h)⟩ T' rfl X'
  exact ⟨t2, st t2 a1, b1⟩
end WC
/-- the call's words -/
def mV (own : String) (idx : Nat) (M : Mth) (n : Nat) : Prop := Cond.methodLink own idx M.1 ∈ tG ∧ Cond.instanceMethod M.1 ∈ tG ∧ Cond.selects M.1.cls M.1 M.1 ∈ tG ∧ Cond.initialized M.1.cls ∈ tG ∧ Cond.code M.1 M.2.1 M.2.2.1 M.2.2.2 ∈ tG ∧
  (M.1.cls ≠ "java/lang/invoke/MethodHandle" ∧ M.1.cls ≠ "java/lang/invoke/VarHandle" ∧ (parseMethodDescriptor M.1.desc).map (fun d => d.parameters.length) = some n) ∧ M.2.2.1 ≤ 60
def mS (own : String) (idx : Nat) (M : Mth) (n : Nat) : Prop := Cond.methodLink own idx M.1 ∈ tG ∧ Cond.static M.1 ∈ tG ∧ Cond.initialized own ∈ tG ∧ Cond.initialized M.1.cls ∈ tG ∧ Cond.code M.1 M.2.1 M.2.2.1 M.2.2.2 ∈ tG ∧
  (M.1.cls ≠ "java/lang/invoke/MethodHandle" ∧ M.1.cls ≠ "java/lang/invoke/VarHandle" ∧ (parseMethodDescriptor M.1.desc).map (fun d => d.parameters.length) = some n) ∧ M.2.2.1 ≤ 60
theorem tG_good {w : Cond} (h : w ∈ tG) : (w.onTables && w.keeps) = true ∨ ∃ ty, w = .arrayClass ty := good_of_word (List.mem_filter.mp h).2
theorem gI_of {M : Mth} (h : Cond.code M.1 M.2.1 M.2.2.1 M.2.2.2 ∈ tG) : GoodIn tG (wM M) := by
  intro w hw
  rcases List.mem_cons.mp hw with rfl | hw
  · exact ⟨h, tG_good h⟩
  · exact ⟨hw, tG_good hw⟩
theorem pC_blind {dC : Nat → ClassId} {dI : Nat → Nat → Nat} {D : ClassId × ClassId × ClassId} {ad : Nat → Nat} {sz : Nat} {av : List AV} {μ : Mm} : FrameBlind (pC dC dI D ad sz av μ) := by
  intro a U g mk q
  obtain ⟨q0, q1, q2, q3, q4, q5⟩ := q
  exact ⟨q0, q1, q2, va_K.moved (u := U) (U := U.calling g mk a) (Vm.Alike.refl U.vm) q3, nS_same (s := U) (U := U.calling g mk a) rfl q4, q5⟩
theorem cB_of {R : Room} {s : State} {args : Array Value} {own : String} {idx n d : Nat} {M : Mth} (hts : ∀ w ∈ tG, w.before args s = true) (h1 : Cond.methodLink own idx M.1 ∈ tG) (h4 : Cond.initialized M.1.cls ∈ tG) (h5 : Cond.code M.1 M.2.1 M.2.2.1 M.2.2.2 ∈ tG) (h6 : M.1.cls ≠ "java/lang/invoke/MethodHandle" ∧ M.1.cls ≠ "java/lang/invoke/VarHandle" ∧ (parseMethodDescriptor M.1.desc).map (fun d => d.parameters.length) = some n) (h7 : M.2.2.1 ≤ 60) (hR : d + 1 ≤ R.frames ∧ 100 * (d + 1) ≤ R.locals) :
    CallB R s args own idx M.1 M.2.1 M.2.2.1 M.2.2.2 (wM M) (rmD d) 0 0 n :=
  callB_of (ws' := tG) n hts (gI_of h5) rfl rfl rfl (hts _ h4) (hts _ h1) h6 ⟨hR.1, by show 8 + (M.2.2.1 + 11) + 100 * d ≤ R.locals; omega⟩
/-- words of a value -/
def wd : AV → Nat
  | .inr (.inl _) => 2
  | _ => 1
theorem wd_cat (ad : Nat → Nat) (v : AV) : (cV ad v).category = wd v := by
  match v with
  | .inl _ => rfl
  | .inr (.inl _) => rfl
  | .inr (.inr (some _)) => rfl
  | .inr (.inr none) => rfl
theorem wd_sum (ad : Nat → Nat) (st : List AV) : ((st.map (cV ad)).map fun v => v.category).sum = (st.map wd).sum := by
  induction st with
  | nil => rfl
  | cons v l ih => simp only [List.map_cons, List.sum_cons, ih, wd_cat]
section WC2
variable {p : Program} {l : Launch} {e : Env} {R : Room} {s : State} {m : MethodId} {args : Array Value} {below : List Frame} {meth : Method} {c : Code} {H : Heap} {locs : List Loc} {cells slots : Nat} {Q : State → Prop}
variable {pc nL : Nat} {ls : Array Slot} {rest : List Value} {A0 : Nat → Prop} {H0 : Heap} {cc : ByteArray} {own : String}
variable {dC : Nat → ClassId} {dI : Nat → Nat → Nat} {D : ClassId × ClassId × ClassId} {ad : Nat → Nat}
theorem rcv {a : Nat} {ci n : Nat} {q : vw_C} {μ : Mm} (hK : va_K (dC, dI) vwCl (tyS D) s) (hH : hO dC dI D ad μ H) (hk : kD a = (ci + 10, n)) (hc : vwCl[ci]? = some q) : ∃ cell : Cell, H[ad a]? = some cell ∧ cell.vm.isStatics = false ∧ s.vm.findClass q.1 = some cell.cls := by
  have hc2 : ci < 80 := by
    have h1 := (List.getElem?_eq_some_iff.mp hc).1
    have h2 : vwCl.length = 12 := rfl
    omega
  refine va_recv hK hH.1 hc (q0 := a) (a := ad a) (fs := (List.range n).map (fun j => cV ad (fV μ a j))) ?_
  rw [wO_at D ad μ (kD_o hk hc2), eN_o hk]
theorem w_callV {d idx n : Nat} {M : Mth} {b ci nf : Nat} {As : List AV} {μ μ' : Mm} {r : Int} (S : CallFix p m c cc nL s args tG own) (hM : CC d M (vR b :: As) μ r μ') (hm : mV own idx M n) (hkb : kD b = (ci + 10, nf)) (hci : (vwCl[ci]?).map (fun q => q.1) = some M.1.cls) (hl : As.length = n)
    (hH : hO dC dI D ad μ H) (hK : va_K (dC, dI) vwCl (tyS D) s) (hP : aP ad) (hN : nS s) (hok : ∀ v ∈ vR b :: As, oV v) (hsz : ls.size = nL) (hw : (rest.map fun v => v.category).sum ≤ 8) (hR : d + 1 ≤ R.frames ∧ 100 * (d + 1) ≤ R.locals) (hcs : cells ≤ R.cells ∧ slots ≤ R.slots)
    (hS : va_S A0 H0 H locs) (hA : ∀ q, aA ad H.size q → A0 q) (hd : decode cc pc = .ok (.invokevirtual idx, 3))
    (kk : ∀ (H1 : Heap) (locs1 : List Loc), rK M.2.2.2 r → hO dC dI D ad μ' H1 → H.size ≤ H1.size → (∀ q : Nat, q < H.size → ¬ aA ad H.size q → H1[q]? = H[q]?) → va_S A0 H0 H1 locs1 → W p l e R s m args below meth c H1 locs1 cells slots Q (F0 m (pc + 3) ls ((rV ad M.2.2.2 r).toList ++ rest))) :
    W p l e R s m args below meth c H locs cells slots Q (F0 m pc ls ((As.map (cV ad)).reverse ++ .ref (ad b) :: rest)) := by
  obtain ⟨h1, h2, h3, h4, h5, h6, h7⟩ := hm
  have hts := S.2.2.2.2
  obtain ⟨q, hq⟩ : ∃ q, vwCl[ci]? = some q := by
    cases h : vwCl[ci]? with
    | none => rw [h] at hci; cases hci
    | some q => exact ⟨q, rfl⟩
  rw [hq] at hci
  have hqc : q.1 = M.1.cls := Option.some.inj hci
  refine w_call (va_runV (As := As.map (cV ad)) (rest := rest) (C := M.1.cls) (b := ad b) S (hM l dC dI D ad H.size hP) ⟨cB_of hts h1 h4 h5 h6 h7 hR, hts _ h2, hts _ h3⟩
    ⟨pC_blind, by rw [← hqc]; exact rcv hK hH hkb hq, fun U hU hW => ⟨rfl, by rw [hU], by rw [hU]; exact hH, va_K.moved hW.alike hK, nS_warm hW hN, hok⟩⟩ rfl (by rw [List.length_map]; exact hl) hsz rfl (by show 2 * 0 + _ ≤ 8; omega) hd hcs) hS hA kk
theorem w_callS {d idx n : Nat} {M : Mth} {As : List AV} {μ μ' : Mm} {r : Int} (S : CallFix p m c cc nL s args tG own) (hM : CC d M As μ r μ') (hm : mS own idx M n) (hl : As.length = n)
    (hH : hO dC dI D ad μ H) (hK : va_K (dC, dI) vwCl (tyS D) s) (hP : aP ad) (hN : nS s) (hok : ∀ v ∈ As, oV v) (hsz : ls.size = nL) (hw : (rest.map fun v => v.category).sum ≤ 8) (hR : d + 1 ≤ R.frames ∧ 100 * (d + 1) ≤ R.locals) (hcs : cells ≤ R.cells ∧ slots ≤ R.slots)
    (hS : va_S A0 H0 H locs) (hA : ∀ q, aA ad H.size q → A0 q) (hd : decode cc pc = .ok (.invokestatic idx, 3))
    (kk : ∀ (H1 : Heap) (locs1 : List Loc), rK M.2.2.2 r → hO dC dI D ad μ' H1 → H.size ≤ H1.size → (∀ q : Nat, q < H.size → ¬ aA ad H.size q → H1[q]? = H[q]?) → va_S A0 H0 H1 locs1 → W p l e R s m args below meth c H1 locs1 cells slots Q (F0 m (pc + 3) ls ((rV ad M.2.2.2 r).toList ++ rest))) :
    W p l e R s m args below meth c H locs cells slots Q (F0 m pc ls ((As.map (cV ad)).reverse ++ rest)) := by
  obtain ⟨h1, h2, h3, h4, h5, h6, h7⟩ := hm
  have hts := S.2.2.2.2
  refine w_call (va_runS (As := As.map (cV ad)) (rest := rest) S (hM l dC dI D ad H.size hP) ⟨cB_of hts h1 h4 h5 h6 h7 hR, hts _ h2⟩
    ⟨pC_blind, fun U hU hW => ⟨rfl, by rw [hU], by rw [hU]; exact hH, va_K.moved hW.alike hK, nS_warm hW hN, hok⟩⟩ rfl (by rw [List.length_map]; exact hl) hsz rfl (by show 2 * 0 + _ ≤ 8; omega) hd hcs) hS hA kk
end WC2
/-- what a call's answer is on the stack -/
def rT (rt : Option FieldType) (r : Int) : List AV := match rt with
  | none => []
  | some .long => [vL r]
  | some (.object _) => [vC r]
  | some _ => [vI r]
theorem rT_V (ad : Nat → Nat) (rt : Option FieldType) (r : Int) : (rV ad rt r).toList = (rT rt r).map (cV ad) := by
  cases rt with
  | none => rfl
  | some t => cases t <;> rfl
theorem oV_vC (r : Int) : oV (vC r) := by
  unfold vC
  by_cases h : r = -1
  · rw [if_pos h]; trivial
  · rw [if_neg h]; trivial
theorem rT_ok {rt : Option FieldType} {r : Int} (h : rK rt r) : ∀ v ∈ rT rt r, oV v := by
  cases rt with
  | none => intro v hv; cases hv
  | some t => cases t <;> (intro v hv; rw [List.mem_singleton.mp hv]; first | exact h | exact oV_vC r)
section VC_
variable {d : Nat} {M : Mth} {pc q : Nat} {ls : List (Option AV)} {st st0 : List AV} {μ : Mm} {r : Int} {μ' : Mm}
theorem ok_rev {As st : List AV} (h : ∀ v ∈ As.reverse ++ st, oV v) : (∀ v ∈ As, oV v) ∧ ∀ v ∈ st, oV v := ⟨fun v hv => h v (List.mem_append_left _ (List.mem_reverse.mpr hv)), fun v hv => h v (List.mem_append_right _ hv)⟩
theorem V_callV {d1 idx n b ci nf : Nat} {M1 : Mth} {As : List AV} {r1 : Int} {μ1 : Mm} (hM : CC d1 M1 (vR b :: As) μ r1 μ1) (hd1 : d1 + 1 ≤ d) (hm : mV M.1.cls idx M1 n) (hkb : kD b = (ci + 10, nf)) (hci : (vwCl[ci]?).map (fun q => q.1) = some M1.1.cls) (hl : As.length = n) (hst : st0 = As.reverse ++ vR b :: st) (hw : Nat.ble (st.map wd).sum 8 = true)
    (hd : decode M.2.1 pc = .ok (.invokevirtual idx, 3)) (hq : pc + 3 = q) (k : VV d M q ls (rT M1.2.2.2 r1 ++ st) μ1 r μ') : VV d M pc ls st0 μ r μ' := by
  subst hq; subst hst
  intro p l e s m args below meth c H locs dC dI D ad ls' C hH hS hn hl' hs
  obtain ⟨hx, hb, hml, hrt, hown, hts, hlk, hK, hP, hN⟩ := id C
  obtain ⟨hs1, hs2⟩ := ok_rev hs
  have e1 : (As.reverse ++ vR b :: st).map (cV ad) = (As.map (cV ad)).reverse ++ .ref (ad b) :: st.map (cV ad) := by
    rw [List.map_append, List.map_reverse]; rfl
  rw [e1]
  refine w_callV ⟨hx, hb, hml, hown, hts⟩ hM hm hkb hci hl hH hK hP hN (ok_c trivial hs1) (hl'.1.trans hn) (by rw [wd_sum]; exact Nat.le_of_ble_eq_true hw) ⟨hd1, by show 100 * (d1 + 1) ≤ 100 * d; omega⟩ ⟨Nat.le_refl 0, Nat.le_refl 0⟩ hS (fun q hq => ?_) hd (fun H1 locs1 hr1 hH1 _ _ hS1 => ?_)
  · rcases hq with h | h
    · exact Or.inl h
    · exact Or.inr (Nat.le_trans hS.1 h)
  · rw [rT_V, ← List.map_append]
    exact k p l e s m args below meth c H1 locs1 dC dI D ad ls' C hH1 hS1 hn hl' (fun v hv => (List.mem_append.mp hv).elim (rT_ok hr1 v) (ok_t hs2 v))
theorem V_callS {d1 idx n : Nat} {M1 : Mth} {As : List AV} {r1 : Int} {μ1 : Mm} (hM : CC d1 M1 As μ r1 μ1) (hd1 : d1 + 1 ≤ d) (hm : mS M.1.cls idx M1 n) (hl : As.length = n) (hst : st0 = As.reverse ++ st) (hw : Nat.ble (st.map wd).sum 8 = true)
    (hd : decode M.2.1 pc = .ok (.invokestatic idx, 3)) (hq : pc + 3 = q) (k : VV d M q ls (rT M1.2.2.2 r1 ++ st) μ1 r μ') : VV d M pc ls st0 μ r μ' := by
  subst hq; subst hst
  intro p l e s m args below meth c H locs dC dI D ad ls' C hH hS hn hl' hs
  obtain ⟨hx, hb, hml, hrt, hown, hts, hlk, hK, hP, hN⟩ := id C
  obtain ⟨hs1, hs2⟩ := ok_rev hs
  have e1 : (As.reverse ++ st).map (cV ad) = (As.map (cV ad)).reverse ++ st.map (cV ad) := by
    rw [List.map_append, List.map_reverse]
  rw [e1]
  refine w_callS ⟨hx, hb, hml, hown, hts⟩ hM hm hl hH hK hP hN hs1 (hl'.1.trans hn) (by rw [wd_sum]; exact Nat.le_of_ble_eq_true hw) ⟨hd1, by show 100 * (d1 + 1) ≤ 100 * d; omega⟩ ⟨Nat.le_refl 0, Nat.le_refl 0⟩ hS (fun q hq => ?_) hd (fun H1 locs1 hr1 hH1 _ _ hS1 => ?_)
  · rcases hq with h | h
    · exact Or.inl h
    · exact Or.inr (Nat.le_trans hS.1 h)
  · rw [rT_V, ← List.map_append]
    exact k p l e s m args below meth c H1 locs1 dC dI D ad ls' C hH1 hS1 hn hl' (fun v hv => (List.mem_append.mp hv).elim (rT_ok hr1 v) (hs2 v))
/-! returns -/
theorem V_ret {v : AV} {r0 : Int} (hrt : rT M.2.2.2 r0 = [v]) (h : some (r0, μ) = some (r, μ')) (hrk : oV v → rK M.2.2.2 r0)
    (k0 : ∀ (p : Program) (l : Launch) (e : Env) (R : Room) (s : State) (m : MethodId) (args : Array Value) (below : List Frame) (meth : Method) (c : Code) (H : Heap) (locs : List Loc) (Qc : Array Value → State → Outcome → State → Prop) (free : Addr → Prop) (ad : Nat → Nat) (ls' : Array Slot), p.tables.exec = Jvm.exec → c.code = M.2.1 → meth.sig.returnType = M.2.2.2 → meth.locks = false →
      (∀ t : State, t.heap = H → s.WarmedH t.vm → Qc args s (.returned (some (cV ad v))) t) → (∀ q ∈ locs, free q.base) → W p l e R s m args below meth c H locs 0 0 (MQ below Qc args s 0 0 free) (F0 m pc ls' [cV ad v])) : VV d M pc ls [v] μ r μ' := by
  cases h
  intro p l e s m args below meth c H locs dC dI D ad ls' C hH hS hn hl hs
  obtain ⟨hx, hb, hml, hr2, hown, hts, hlk, hK, hP, hN⟩ := id C
  refine k0 p l e _ s m args below meth c H locs _ _ ad ls' hx hb hr2 hlk (fun t ht hW => ⟨⟨?_, hrk (ok_h hs), by rw [ht]; exact hH⟩, hS.F ht⟩) hS.2.2
  have e1 : (rV ad M.2.2.2 r).toList = [cV ad v] := by rw [rT_V, hrt]; rfl
  cases h2 : rV ad M.2.2.2 r with
  | none => rw [h2] at e1; cases e1
  | some w => rw [h2] at e1; cases e1; rfl
theorem V_iret {v : Int} (hrt : M.2.2.2 = some .int) (h : some (v, μ) = some (r, μ')) (hd : decode M.2.1 pc = .ok (.ireturn, 1)) : VV d M pc ls [vI v] μ r μ' :=
  V_ret (r0 := v) (by rw [hrt]; rfl) h (fun h => by rw [hrt]; exact h) (fun p l e R s m args below meth c H locs Qc free ad ls' hx hb hr hlk hq hf => W.iret hx hb (hr.trans hrt) hq hf hd hlk)
theorem V_zret {v : Int} (hrt : M.2.2.2 = some .boolean) (hv : v = 0 ∨ v = 1) (h : some (v, μ) = some (r, μ')) (hd : decode M.2.1 pc = .ok (.ireturn, 1)) : VV d M pc ls [vI v] μ r μ' :=
  V_ret (r0 := v) (by rw [hrt]; rfl) h (fun h => by rw [hrt]; exact h) (fun p l e R s m args below meth c H locs Qc free ad ls' hx hb hr hlk hq hf => W.zret hx hb (hr.trans hrt) (by rcases hv with rfl | rfl <;> rfl) hq hf hd hlk)
theorem V_lret {v : Int} (hrt : M.2.2.2 = some .long) (h : some (v, μ) = some (r, μ')) (hd : decode M.2.1 pc = .ok (.lreturn, 1)) : VV d M pc ls [vL v] μ r μ' :=
  V_ret (r0 := v) (by rw [hrt]; rfl) h (fun h => by rw [hrt]; exact h) (fun p l e R s m args below meth c H locs Qc free ad ls' hx hb hr hlk hq hf => W.lret hx hb (hr.trans hrt) hq hf hd hlk)
theorem vC_nat (t : Nat) : vC (t : Int) = vR t := by
  rw [vC_r (by omega)]; rfl
theorem V_aret {t : Nat} {C : String} (hrt : M.2.2.2 = some (.object C)) (h : some ((t : Int), μ) = some (r, μ')) (hd : decode M.2.1 pc = .ok (.areturn, 1)) : VV d M pc ls [vR t] μ r μ' :=
  V_ret (r0 := (t : Int)) (by rw [hrt]; show [vC (t : Int)] = [vR t]; rw [vC_nat]) h (fun h => by rw [hrt]; exact h) (fun p l e R s m args below meth c H locs Qc free ad ls' hx hb hr hlk hq hf => W.aret (rt := .object C) (v := .ref (ad t)) hx hb (hr.trans hrt) (Or.inl ⟨_, rfl⟩) (Or.inr ⟨_, rfl⟩) hq hf hd hlk)
theorem V_aretN {C : String} (hrt : M.2.2.2 = some (.object C)) (h : some ((-1 : Int), μ) = some (r, μ')) (hd : decode M.2.1 pc = .ok (.areturn, 1)) : VV d M pc ls [vN] μ r μ' :=
  V_ret (r0 := -1) (by rw [hrt]; show [vC (-1)] = [vN]; rw [vC_n rfl]) h (fun h => by rw [hrt]; exact h) (fun p l e R s m args below meth c H locs Qc free ad ls' hx hb hr hlk hq hf => W.aret (rt := .object C) (v := .null) hx hb (hr.trans hrt) (Or.inl ⟨_, rfl⟩) (Or.inl rfl) hq hf hd hlk)
theorem V_vret {r0 : Int} (hrt : M.2.2.2 = none) (h : some (r0, μ) = some (r, μ')) (hd : decode M.2.1 pc = .ok (.return_, 1)) : VV d M pc ls [] μ r μ' := by
  cases h
  intro p l e s m args below meth c H locs dC dI D ad ls' C hH hS hn hl hs
  obtain ⟨hx, hb, hml, hr2, hown, hts, hlk, hK, hP, hN⟩ := id C
  exact W.vret hx hb (hr2.trans hrt) (fun t ht hW => ⟨⟨by rw [hrt]; rfl, by rw [hrt]; trivial, by rw [ht]; exact hH⟩, hS.F ht⟩) hS.2.2 hd hlk
/-! switches -/
theorem V_tsIn {dflt lo hi off : Int} {offs : Array Int} {len : Nat} {x k : Int} (hx0 : x = k) (hd : decode M.2.1 pc = .ok (.tableswitch dflt lo hi offs, len)) (h1 : decide (lo ≤ k) = true) (h2 : decide (k ≤ hi) = true) (ho : offs[(k - lo).toNat]? = some off) (ht : (pc : Int) + off = (q : Int)) (kk : VV d M q ls st μ r μ') : VV d M pc ls (vI x :: st) μ r μ' := by
  subst hx0
  refine VV_pure (st2 := st) (fun h => ok_t h) (fun p l e R s m args below meth c H locs Q ad ls' hx hb h k2 => ?_) kk
  have h1' := of_decide_eq_true h1
  have h2' := of_decide_eq_true h2
  exact lv_tableIn hx hb hd (by rw [rI_32 (ok_h h)]; omega) (by rw [rI_32 (ok_h h)]; omega) (by rw [rI_32 (ok_h h)]; exact ho) ht k2
theorem V_tsOut {dflt lo hi : Int} {offs : Array Int} {len : Nat} {x : Int} (hd : decode M.2.1 pc = .ok (.tableswitch dflt lo hi offs, len)) (h : x < lo ∨ hi < x) (ht : (pc : Int) + dflt = (q : Int)) (kk : VV d M q ls st μ r μ') : VV d M pc ls (vI x :: st) μ r μ' := by
  refine VV_pure (st2 := st) (fun h => ok_t h) (fun p l e R s m args below meth c H locs Q ad ls' hx hb h3 k2 => ?_) kk
  exact lv_tableOut hx hb hd (by rw [rI_32 (ok_h h3)]; exact h) ht k2
theorem V_ls {dflt off : Int} {ps : Array (Int × Int)} {len : Nat} {x : Int} (hd : decode M.2.1 pc = .ok (.lookupswitch dflt ps, len)) (hp : (ps.toList.zip (ps.toList.drop 1)).all (fun (a, next) => a.1 < next.1) = true) (ho : Op.lookupswitch.offset ps.toList dflt x = off) (ht : (pc : Int) + off = (q : Int)) (kk : VV d M q ls st μ r μ') : VV d M pc ls (vI x :: st) μ r μ' := by
  refine VV_pure (st2 := st) (fun h => ok_t h) (fun p l e R s m args below meth c H locs Q ad ls' hx hb h3 k2 => ?_) kk
  exact lv_lookup hx hb hd hp (by rw [rI_32 (ok_h h3)]; exact ho) ht k2
def mW (y : MethodName) (cc : ByteArray) (nl : Nat) (ty : FieldType) (own : String) (idx : Nat) : Prop := Cond.methodLink own idx y ∈ tG ∧ Cond.static y ∈ tG ∧ Cond.initialized "java/lang/Math" ∈ tG ∧ Cond.code y cc nl (some ty) ∈ tG
theorem V_mmax {a b : Int} {idx : Nat} (hm : mW Lib.Math.max.name Lib.Math.max.code 2 .int M.1.cls idx) (hd1 : 1 ≤ d) (hw : Nat.ble (st.map wd).sum 8 = true) (hd : decode M.2.1 pc = .ok (.invokestatic idx, 3)) (hq : pc + 3 = q) (k : VV d M q ls (vI (mX a b) :: st) μ r μ') : VV d M pc ls (vI b :: vI a :: st) μ r μ' := by
  subst hq
  intro p l e s m args below meth c H locs dC dI D ad ls' C hH hS hn' hl hs
  obtain ⟨hx, hb, hml, hrt, hown, hts, hlk, hK, hP, hN⟩ := id C
  obtain ⟨h1, h2, h3, h4⟩ := hm
  have ha := ok_h (ok_t hs)
  have hb1 := ok_h hs
  have h9 : (st.map wd).sum ≤ 8 := Nat.le_of_ble_eq_true hw
  refine va_mmax hx hb (by rw [hml, hl.1, hn']) hown (hts _ h1) (hts _ h2) (hts _ h3) (hts _ h4) (by show 1 ≤ d; exact hd1) (by rw [wd_sum]; show _ ≤ 100 * d; omega) (Nat.le_refl 0) (Nat.le_refl 0) hd ?_
  have ee : (if Int32.ofInt a < Int32.ofInt b then Int32.ofInt b else Int32.ofInt a) = Int32.ofInt (mX a b) := by
    unfold mX
    by_cases h : a < b
    · rw [if_pos ((o32_lt ha hb1).mpr h), if_neg (show ¬ b < a by omega)]
    · rw [if_neg (fun z => h ((o32_lt ha hb1).mp z))]
      by_cases h2 : b < a
      · rw [if_pos h2]
      · rw [if_neg h2, show a = b by omega]
  rw [ee]
  exact k p l e s m args below meth c H locs dC dI D ad ls' C hH hS hn' hl (ok_c (v := vI (mX a b)) (by unfold mX; split; exact ha; exact hb1) (ok_t (ok_t hs)))
theorem V_mmin {a b : Int} {idx : Nat} (hm : mW Lib.Math.min.name Lib.Math.min.code 2 .int M.1.cls idx) (hd1 : 1 ≤ d) (hw : Nat.ble (st.map wd).sum 8 = true) (hd : decode M.2.1 pc = .ok (.invokestatic idx, 3)) (hq : pc + 3 = q) (k : VV d M q ls (vI (mN a b) :: st) μ r μ') : VV d M pc ls (vI b :: vI a :: st) μ r μ' := by
  subst hq
  intro p l e s m args below meth c H locs dC dI D ad ls' C hH hS hn' hl hs
  obtain ⟨hx, hb, hml, hrt, hown, hts, hlk, hK, hP, hN⟩ := id C
  obtain ⟨h1, h2, h3, h4⟩ := hm
  have ha := ok_h (ok_t hs)
  have hb1 := ok_h hs
  have h9 : (st.map wd).sum ≤ 8 := Nat.le_of_ble_eq_true hw
  refine va_mmin hx hb (by rw [hml, hl.1, hn']) hown (hts _ h1) (hts _ h2) (hts _ h3) (hts _ h4) (by show 1 ≤ d; exact hd1) (by rw [wd_sum]; show _ ≤ 100 * d; omega) (Nat.le_refl 0) (Nat.le_refl 0) hd ?_
  have ee : (if Int32.ofInt b < Int32.ofInt a then Int32.ofInt b else Int32.ofInt a) = Int32.ofInt (mN a b) := by
    unfold mN
    by_cases h : b < a
    · rw [if_pos h, if_pos ((o32_lt hb1 ha).mpr h)]
    · rw [if_neg h, if_neg (fun z => h ((o32_lt hb1 ha).mp z))]
  rw [ee]
  exact k p l e s m args below meth c H locs dC dI D ad ls' C hH hS hn' hl (ok_c (v := vI (mN a b)) (by unfold mN; split; exact hb1; exact ha) (ok_t (ok_t hs)))
theorem V_lmax {a b : Int} {idx : Nat} (hm : mW Lib.MathLoose.max_long.x Lib.MathLoose.max_long.code 4 .long M.1.cls idx) (hd1 : 1 ≤ d) (hw : Nat.ble (st.map wd).sum 8 = true) (hd : decode M.2.1 pc = .ok (.invokestatic idx, 3)) (hq : pc + 3 = q) (k : VV d M q ls (vL (mX a b) :: st) μ r μ') : VV d M pc ls (vL b :: vL a :: st) μ r μ' := by
  subst hq
  intro p l e s m args below meth c H locs dC dI D ad ls' C hH hS hn' hl hs
  obtain ⟨hx, hb, hml, hrt, hown, hts, hlk, hK, hP, hN⟩ := id C
  obtain ⟨h1, h2, h3, h4⟩ := hm
  have ha : rL a := ok_h (ok_t hs)
  have hb1 : rL b := ok_h hs
  have h9 : (st.map wd).sum ≤ 8 := Nat.le_of_ble_eq_true hw
  refine va_mmax_long hx hb (by rw [hml, hl.1, hn']) hown (hts _ h1) (hts _ h2) (hts _ h3) (hts _ h4) (by show 1 ≤ d; exact hd1) (by rw [wd_sum]; show _ ≤ 100 * d; omega) (Nat.le_refl 0) (Nat.le_refl 0) hd ?_
  have ee : (if Int64.ofInt b < Int64.ofInt a then Int64.ofInt a else Int64.ofInt b) = Int64.ofInt (mX a b) := by
    unfold mX
    by_cases h : b < a
    · rw [if_pos h, if_pos ((o64_lt hb1 ha).mpr h)]
    · rw [if_neg h, if_neg (fun z => h ((o64_lt hb1 ha).mp z))]
  rw [ee]
  exact k p l e s m args below meth c H locs dC dI D ad ls' C hH hS hn' hl (ok_c (v := vL (mX a b)) (by unfold mX; split; exact ha; exact hb1) (ok_t (ok_t hs)))
theorem V_lmin {a b : Int} {idx : Nat} (hm : mW Lib.MathLoose.min_long.x Lib.MathLoose.min_long.code 4 .long M.1.cls idx) (hd1 : 1 ≤ d) (hw : Nat.ble (st.map wd).sum 8 = true) (hd : decode M.2.1 pc = .ok (.invokestatic idx, 3)) (hq : pc + 3 = q) (k : VV d M q ls (vL (mN a b) :: st) μ r μ') : VV d M pc ls (vL b :: vL a :: st) μ r μ' := by
  subst hq
  intro p l e s m args below meth c H locs dC dI D ad ls' C hH hS hn' hl hs
  obtain ⟨hx, hb, hml, hrt, hown, hts, hlk, hK, hP, hN⟩ := id C
  obtain ⟨h1, h2, h3, h4⟩ := hm
  have ha : rL a := ok_h (ok_t hs)
  have hb1 : rL b := ok_h hs
  have h9 : (st.map wd).sum ≤ 8 := Nat.le_of_ble_eq_true hw
  refine va_mmin_long hx hb (by rw [hml, hl.1, hn']) hown (hts _ h1) (hts _ h2) (hts _ h3) (hts _ h4) (by show 1 ≤ d; exact hd1) (by rw [wd_sum]; show _ ≤ 100 * d; omega) (Nat.le_refl 0) (Nat.le_refl 0) hd ?_
  have ee : (if Int64.ofInt b < Int64.ofInt a then Int64.ofInt b else Int64.ofInt a) = Int64.ofInt (mN a b) := by
    unfold mN
    by_cases h : b < a
    · rw [if_pos h, if_pos ((o64_lt hb1 ha).mpr h)]
    · rw [if_neg h, if_neg (fun z => h ((o64_lt hb1 ha).mp z))]
  rw [ee]
  exact k p l e s m args below meth c H locs dC dI D ad ls' C hH hS hn' hl (ok_c (v := vL (mN a b)) (by unfold mN; split; exact hb1; exact ha) (ok_t (ok_t hs)))
theorem VV_top {v w : AV} (h : v = w) (k : VV d M pc ls (w :: st) μ r μ') : VV d M pc ls (v :: st) μ r μ' := by rw [h]; exact k
theorem V_ts1 {dflt lo hi off : Int} {offs : Array Int} {len : Nat} {x : Int} (k : Int) (hd : decode M.2.1 pc = .ok (.tableswitch dflt lo hi offs, len)) (h1 : decide (lo ≤ k) = true) (h2 : decide (k ≤ hi) = true) (ho : offs[(k - lo).toNat]? = some off) (ht : (pc : Int) + off = (q : Int)) (kt : x = k → VV d M q ls st μ r μ') (kf : ¬ x = k → VV d M pc ls (vI x :: st) μ r μ') : VV d M pc ls (vI x :: st) μ r μ' := by
  by_cases h : x = k
  · exact V_tsIn h hd h1 h2 ho ht (kt h)
  · exact kf h
theorem V_ls1 {dflt off : Int} {ps : Array (Int × Int)} {len : Nat} {x : Int} (k : Int) (hd : decode M.2.1 pc = .ok (.lookupswitch dflt ps, len)) (hp : (ps.toList.zip (ps.toList.drop 1)).all (fun (a, next) => a.1 < next.1) = true) (ho : Op.lookupswitch.offset ps.toList dflt k = off) (ht : (pc : Int) + off = (q : Int)) (kt : x = k → VV d M q ls st μ r μ') (kf : ¬ x = k → VV d M pc ls (vI x :: st) μ r μ') : VV d M pc ls (vI x :: st) μ r μ' := by
  by_cases h : x = k
  · exact V_ls hd hp (by rw [h]; exact ho) ht (kt h)
  · exact kf h
theorem V_cV1 {d1 idx n b ci nf : Nat} {M1 : Mth} {As : List AV} {r1 : Int} {μ1 : Mm} (v : AV) (hM : CC d1 M1 (vR b :: As) μ r1 μ1) (hd1 : d1 + 1 ≤ d) (hm : mV M.1.cls idx M1 n) (hkb : kD b = (ci + 10, nf)) (hci : (vwCl[ci]?).map (fun q => q.1) = some M1.1.cls) (hl : As.length = n) (hr : rT M1.2.2.2 r1 = [v]) (hst : st0 = As.reverse ++ vR b :: st) (hw : Nat.ble (st.map wd).sum 8 = true)
    (hd : decode M.2.1 pc = .ok (.invokevirtual idx, 3)) (hq : pc + 3 = q) (k : VV d M q ls (v :: st) μ1 r μ') : VV d M pc ls st0 μ r μ' :=
  V_callV hM hd1 hm hkb hci hl hst hw hd hq (by rw [hr]; exact k)
theorem V_cV0 {d1 idx n b ci nf : Nat} {M1 : Mth} {As : List AV} {r1 : Int} {μ1 : Mm} (hM : CC d1 M1 (vR b :: As) μ r1 μ1) (hd1 : d1 + 1 ≤ d) (hm : mV M.1.cls idx M1 n) (hkb : kD b = (ci + 10, nf)) (hci : (vwCl[ci]?).map (fun q => q.1) = some M1.1.cls) (hl : As.length = n) (hr : rT M1.2.2.2 r1 = []) (hst : st0 = As.reverse ++ vR b :: st) (hw : Nat.ble (st.map wd).sum 8 = true)
    (hd : decode M.2.1 pc = .ok (.invokevirtual idx, 3)) (hq : pc + 3 = q) (k : VV d M q ls st μ1 r μ') : VV d M pc ls st0 μ r μ' :=
  V_callV hM hd1 hm hkb hci hl hst hw hd hq (by rw [hr]; exact k)
theorem V_cS1 {d1 idx n : Nat} {M1 : Mth} {As : List AV} {r1 : Int} {μ1 : Mm} (v : AV) (hM : CC d1 M1 As μ r1 μ1) (hd1 : d1 + 1 ≤ d) (hm : mS M.1.cls idx M1 n) (hl : As.length = n) (hr : rT M1.2.2.2 r1 = [v]) (hst : st0 = As.reverse ++ st) (hw : Nat.ble (st.map wd).sum 8 = true)
    (hd : decode M.2.1 pc = .ok (.invokestatic idx, 3)) (hq : pc + 3 = q) (k : VV d M q ls (v :: st) μ1 r μ') : VV d M pc ls st0 μ r μ' :=
  V_callS hM hd1 hm hl hst hw hd hq (by rw [hr]; exact k)
theorem V_cS0 {d1 idx n : Nat} {M1 : Mth} {As : List AV} {r1 : Int} {μ1 : Mm} (hM : CC d1 M1 As μ r1 μ1) (hd1 : d1 + 1 ≤ d) (hm : mS M.1.cls idx M1 n) (hl : As.length = n) (hr : rT M1.2.2.2 r1 = []) (hst : st0 = As.reverse ++ st) (hw : Nat.ble (st.map wd).sum 8 = true)
    (hd : decode M.2.1 pc = .ok (.invokestatic idx, 3)) (hq : pc + 3 = q) (k : VV d M q ls st μ1 r μ') : VV d M pc ls st0 μ r μ' :=
  V_callS hM hd1 hm hl hst hw hd hq (by rw [hr]; exact k)
theorem sb_n {a b : List (Option AV)} {w : Option AV} (h : sb_ a b) : sb_ (none :: a) (w :: b) := h
theorem sb_s {a b : List (Option AV)} {v : AV} {w : Option AV} (h1 : w = some v) (h : sb_ a b) : sb_ (some v :: a) (w :: b) := ⟨h1, h⟩
theorem sb_0 : sb_ [] [] := trivial
/-! arraycopy from 0 to 0 -/
def mC (own : String) (idx : Nat) : Prop := Cond.methodLink own idx arraycopyName ∈ tG ∧ Cond.native arraycopyName ∈ tG ∧ Cond.static arraycopyName ∈ tG ∧ Cond.initialized "java/lang/System" ∈ tG
theorem V_copy {idx a b na nb : Nat} {n : Int} (hm : mC M.1.cls idx) (hd1 : 1 ≤ d) (hka : kD a = (0, na)) (hkb : kD b = (0, nb)) (hn : 0 ≤ n ∧ n ≤ aN a ∧ n ≤ aN b) (hw : Nat.ble (st.map wd).sum 8 = true) (hd : decode M.2.1 pc = .ok (.invokestatic idx, 3)) (hq : pc + 3 = q) (k : VV d M q ls st (cA_ μ a b n) r μ') : VV d M pc ls (vI n :: vI 0 :: vR b :: vI 0 :: vR a :: st) μ r μ' := by
  subst hq
  intro p l e s m args below meth c H locs dC dI D ad ls' C hH hS hn' hl hs
  obtain ⟨hx, hb, hml, hrt, hown, hts, hlk, hK, hP, hN⟩ := id C
  obtain ⟨h1, h2, h3, h4⟩ := hm
  have hrn : rI n := ok_h hs
  have ha1 : aN a = na := by unfold aN; rw [hka]
  have hb1 : aN b = nb := by unfold aN; rw [hkb]
  have ha : a < nC := kD_e hka (by decide)
  have hb2 : b < nC := kD_e hkb (by decide)
  have hDd : va_D (aA ad s.heap.size) (wO D ad μ) := vD_of hP (fun k hk => aA_k hk)
  have ea : (wO D ad μ)[a]? = some (ad a, .inl (D.1, na, .inl (fun j => Int32.ofInt (μ a j)))) := by rw [wO_at D ad μ ha, eN_i hka]
  have eb : (wO D ad μ)[b]? = some (ad b, .inl (D.1, nb, .inl (fun j => Int32.ofInt (μ b j)))) := by rw [wO_at D ad μ hb2, eN_i hkb]
  have z0 : (Int32.ofInt 0).toNatClampNeg = 0 := rfl
  have zn : (Int32.ofInt n).toNatClampNeg = n.toNat := o32_nat hrn hn.1
  refine va_copyi hx hb (by rw [hml, hl.1, hn']) hown (hts _ h1) (hts _ h2) (hts _ h3) (hts _ h4) hK hH.1 hDd hS a b 0 0 ea eb rfl rfl rfl (sp := Int32.ofInt 0) (dp := Int32.ofInt 0) (n := Int32.ofInt n) (fun h => by cases h) (fun h => by cases h) (fun h => ?_) (by rw [z0, zn]; omega) (by rw [z0, zn]; omega) (fun _ _ => rfl) (by show 1 ≤ d; exact hd1) ?_ hd (fun H1 locs1 hP1 _ hS1 => ?_)
  · have := (o32_lt hrn rI_0).mp h
    omega
  · rw [wd_sum]
    have h9 : (st.map wd).sum ≤ 8 := Nat.le_of_ble_eq_true hw
    have h8 : nativeFrameWords "java/lang/System" "arraycopy" 5 ≤ 60 := by decide +kernel
    show _ ≤ 100 * d
    omega
  · rw [z0, zn] at hP1
    have e1 : (wO D ad μ).set b (ad b, .inl (D.1, nb, .inl (va_cpy (fun j => Int32.ofInt (μ a j)) (fun j => Int32.ofInt (μ b j)) 0 0 n.toNat))) = wO D ad (cA_ μ a b n) := by
      refine wO_set hb2 ?_ (fun j hj => eN_congr ?_)
      · rw [eN_i hkb]
        congr 3
        congr 1
        funext j
        have e2 : ((j : Int) < n) ↔ j < n.toNat := by omega
        simp only [va_cpy, cA_]
        by_cases h : j < n.toNat
        · simp [h, e2]
        · simp [h, e2]
      · funext i
        simp [cA_, hj]
    rw [e1] at hP1
    refine k p l e s m args below meth c H1 locs1 dC dI D ad ls' C ⟨hP1, fun i j => ?_⟩ hS1 hn' hl (ok_t (ok_t (ok_t (ok_t (ok_t hs)))))
    unfold cA_
    split
    · exact hH.2 a j
    · exact hH.2 i j
/-! a method's entry -/
def lA_ : List AV → List (Option AV)
  | [] => []
  | .inr (.inl a) :: t => some (vL a) :: none :: lA_ t
  | v :: t => some v :: lA_ t
theorem lA_len (ad : Nat → Nat) : ∀ av : List AV, (lg_sl (av.map (cV ad))).length = (lA_ av).length
  | [] => rfl
  | .inr (.inl a) :: t => by
    have := lA_len ad t
    unfold lg_sl at this
    show (List.flatMap _ (cV ad (.inr (.inl a)) :: t.map (cV ad))).length = (lA_ t).length + 2
    rw [List.flatMap_cons, List.length_append, this]
    show 2 + _ = _
    omega
  | .inl a :: t => by
    have := lA_len ad t
    unfold lg_sl at this
    show (List.flatMap _ (cV ad (.inl a) :: t.map (cV ad))).length = (lA_ t).length + 1
    rw [List.flatMap_cons, List.length_append, this]
    show 1 + _ = _
    omega
  | .inr (.inr (some a)) :: t => by
    have := lA_len ad t
    unfold lg_sl at this
    show (List.flatMap _ (cV ad (.inr (.inr (some a))) :: t.map (cV ad))).length = (lA_ t).length + 1
    rw [List.flatMap_cons, List.length_append, this]
    show 1 + _ = _
    omega
  | .inr (.inr none) :: t => by
    have := lA_len ad t
    unfold lg_sl at this
    show (List.flatMap _ (cV ad (.inr (.inr none)) :: t.map (cV ad))).length = (lA_ t).length + 1
    rw [List.flatMap_cons, List.length_append, this]
    show 1 + _ = _
    omega
theorem lA_arg (ad : Nat → Nat) : ∀ (av : List AV) (b i : Nat) (v : AV), (lA_ av)[i]? = some (some v) → (b + i, cV ad v) ∈ lv_args b (av.map (cV ad)) ∧ v ∈ av
  | [], b, i, v, h => by simp [lA_] at h
  | .inr (.inl a) :: t, b, i, v, h => by
    rcases i with _ | _ | i
    · simp [lA_] at h; subst h; simp [lv_args]
    · simp [lA_] at h
    · have h' : (lA_ t)[i]? = some (some v) := by simpa [lA_] using h
      obtain ⟨h1, h2⟩ := lA_arg ad t (b + 2) i v h'
      refine ⟨?_, List.mem_cons_of_mem _ h2⟩
      rw [List.map_cons, lv_args]
      refine List.mem_cons_of_mem _ ?_
      have e : b + (i + 1 + 1) = b + 2 + i := by omega
      rw [e]
      exact h1
  | .inl a :: t, b, i, v, h => by
    rcases i with _ | i
    · simp [lA_] at h; subst h; simp [lv_args]
    · have h' : (lA_ t)[i]? = some (some v) := by simpa [lA_] using h
      obtain ⟨h1, h2⟩ := lA_arg ad t (b + 1) i v h'
      refine ⟨?_, List.mem_cons_of_mem _ h2⟩
      rw [List.map_cons, lv_args]
      refine List.mem_cons_of_mem _ ?_
      have e : b + (i + 1) = b + 1 + i := by omega
      rw [e]
      exact h1
  | .inr (.inr (some a)) :: t, b, i, v, h => by
    rcases i with _ | i
    · simp [lA_] at h; subst h; simp [lv_args]
    · have h' : (lA_ t)[i]? = some (some v) := by simpa [lA_] using h
      obtain ⟨h1, h2⟩ := lA_arg ad t (b + 1) i v h'
      refine ⟨?_, List.mem_cons_of_mem _ h2⟩
      rw [List.map_cons, lv_args]
      refine List.mem_cons_of_mem _ ?_
      have e : b + (i + 1) = b + 1 + i := by omega
      rw [e]
      exact h1
  | .inr (.inr none) :: t, b, i, v, h => by
    rcases i with _ | i
    · simp [lA_] at h; subst h; simp [lv_args]
    · have h' : (lA_ t)[i]? = some (some v) := by simpa [lA_] using h
      obtain ⟨h1, h2⟩ := lA_arg ad t (b + 1) i v h'
      refine ⟨?_, List.mem_cons_of_mem _ h2⟩
      rw [List.map_cons, lv_args]
      refine List.mem_cons_of_mem _ ?_
      have e : b + (i + 1) = b + 1 + i := by omega
      rw [e]
      exact h1
theorem V_enter {av : List AV} (hy : plainName M.1.cls = true) (hle : (lA_ av).length ≤ M.2.2.1) (k : VV d M 0 (lA_ av ++ List.replicate (M.2.2.1 - (lA_ av).length) none) [] μ r μ') : CC d M av μ r μ' := by
  intro l dC dI D ad sz hP
  refine Met.ofW (cc := M.2.1) (maxL := M.2.2.1) (ret := M.2.2.2) hy rfl ?_
  intro p e s m args below meth c s₁ B hml hv
  obtain ⟨rfl, hsz, hH, hK, hN, hok⟩ := hv
  subst hsz
  have hts : ∀ w ∈ tG, w.before _ s = true := fun w hw => atoms_spec (ws := wM M) B.pre w (List.mem_cons_of_mem _ hw)
  have hown : s.vm.findClass M.1.cls = some m.cls := findClass_of_methodNamed B.named
  rw [lg_entry_eq]
  have hl := lv_entry (av.map (cV ad)) (n := M.2.2.1) (by rw [lA_len]; exact hle)
  refine k p l e s m _ below meth c s.heap [] dC dI D ad _ ⟨B.exec, B.bytes, hml, B.returns, hown, hts, B.notSynchronized, hK, hP, hN⟩ hH va_S.rf (by simp; omega) ⟨by rw [hl.1]; simp; omega, hl.2.1, fun i v hi => ?_⟩ (fun v hv => by cases hv)
  by_cases h : i < (lA_ av).length
  · rw [List.getElem?_append_left h] at hi
    obtain ⟨h1, h2⟩ := lA_arg ad av 0 i v hi
    exact ⟨hl.2.2 (i, cV ad v) (by simpa using h1), hok v h2⟩
  · rw [List.getElem?_append_right (by omega)] at hi
    have := List.mem_of_getElem? hi
    rw [List.mem_replicate] at this
    cases this.2
end VC_
end
section
theorem cl0 : clF 0 RX0 TX0 9 tyX0 := ⟨rfl, clF_in (by decide +kernel), tyX0_ok, nmX0⟩
theorem cl1 : clF 1 RX1 TX1 7 tyX1 := ⟨rfl, clF_in (by decide +kernel), tyX1_ok, nmX1⟩
theorem cl2 : clF 2 RX2 TX2 6 tyX2 := ⟨rfl, clF_in (by decide +kernel), tyX2_ok, nmX2⟩
theorem cl3 : clF 3 RX3 TX3 3 tyX3 := ⟨rfl, clF_in (by decide +kernel), tyX3_ok, nmX3⟩
theorem cl4 : clF 4 RX4 TX4 3 tyX4 := ⟨rfl, clF_in (by decide +kernel), tyX4_ok, nmX4⟩
theorem cl5 : clF 5 RX5 TX5 10 tyX5 := ⟨rfl, clF_in (by decide +kernel), tyX5_ok, nmX5⟩
theorem cl6 : clF 6 RX6 TX6 9 tyX6 := ⟨rfl, clF_in (by decide +kernel), tyX6_ok, nmX6⟩
theorem cl7 : clF 7 RX7 TX7 2 tyX7 := ⟨rfl, clF_in (by decide +kernel), tyX7_ok, nmX7⟩
theorem cl8 : clF 8 RX8 TX8 7 tyX8 := ⟨rfl, clF_in (by decide +kernel), tyX8_ok, nmX8⟩
theorem cl9 : clF 9 RX9 TX9 3 tyX9 := ⟨rfl, clF_in (by decide +kernel), tyX9_ok, nmX9⟩
theorem cl10 : clF 10 RX10 TX10 18 tyX10 := ⟨rfl, clF_in (by decide +kernel), tyX10_ok, nmX10⟩
theorem cl11 : clF 11 RX11 TX11 54 tyX11 := ⟨rfl, clF_in (by decide +kernel), tyX11_ok, nmX11⟩
theorem fl_X10_10 : fL RX10 10 10 0 (.object "UnderFloor$Text") true := ⟨RX10, TX10, 18, tyX10, cl10, Nat.le_of_ble_eq_true rfl, rfl, rfl, Or.inl (tG_of (List.mem_of_getElem? (i := 427) (by decide +kernel)) (by decide +kernel))⟩
theorem fl_X10_21 : fL RX10 21 10 1 (.object "UnderFloor$Reader") true := ⟨RX10, TX10, 18, tyX10, cl10, Nat.le_of_ble_eq_true rfl, rfl, rfl, Or.inl (tG_of (List.mem_of_getElem? (i := 428) (by decide +kernel)) (by decide +kernel))⟩
theorem fl_X10_30 : fL RX10 30 10 2 (.object "UnderFloor$Law") true := ⟨RX10, TX10, 18, tyX10, cl10, Nat.le_of_ble_eq_true rfl, rfl, rfl, Or.inl (tG_of (List.mem_of_getElem? (i := 429) (by decide +kernel)) (by decide +kernel))⟩
theorem fl_X10_37 : fL RX10 37 10 3 (.object "UnderFloor$Cellar") true := ⟨RX10, TX10, 18, tyX10, cl10, Nat.le_of_ble_eq_true rfl, rfl, rfl, Or.inl (tG_of (List.mem_of_getElem? (i := 430) (by decide +kernel)) (by decide +kernel))⟩
theorem fl_X10_41 : fL RX10 41 10 4 (.object "UnderFloor$Cellar") true := ⟨RX10, TX10, 18, tyX10, cl10, Nat.le_of_ble_eq_true rfl, rfl, rfl, Or.inl (tG_of (List.mem_of_getElem? (i := 431) (by decide +kernel)) (by decide +kernel))⟩
theorem fl_X10_44 : fL RX10 44 10 5 (.object "UnderFloor$Cellar") true := ⟨RX10, TX10, 18, tyX10, cl10, Nat.le_of_ble_eq_true rfl, rfl, rfl, Or.inl (tG_of (List.mem_of_getElem? (i := 432) (by decide +kernel)) (by decide +kernel))⟩
theorem fl_X10_49 : fL RX10 49 10 6 (.array (.object "UnderFloor$Play")) true := ⟨RX10, TX10, 18, tyX10, cl10, Nat.le_of_ble_eq_true rfl, rfl, rfl, Or.inl (tG_of (List.mem_of_getElem? (i := 433) (by decide +kernel)) (by decide +kernel))⟩
theorem fl_X10_54 : fL RX10 54 10 7 (.object "UnderFloor$Play") true := ⟨RX10, TX10, 18, tyX10, cl10, Nat.le_of_ble_eq_true rfl, rfl, rfl, Or.inl (tG_of (List.mem_of_getElem? (i := 434) (by decide +kernel)) (by decide +kernel))⟩
theorem fl_X10_58 : fL RX10 58 10 8 (.array (.object "UnderFloor$Text")) true := ⟨RX10, TX10, 18, tyX10, cl10, Nat.le_of_ble_eq_true rfl, rfl, rfl, Or.inl (tG_of (List.mem_of_getElem? (i := 435) (by decide +kernel)) (by decide +kernel))⟩
theorem fl_X10_65 : fL RX10 65 10 9 (.object "UnderFloor$Ways") true := ⟨RX10, TX10, 18, tyX10, cl10, Nat.le_of_ble_eq_true rfl, rfl, rfl, Or.inl (tG_of (List.mem_of_getElem? (i := 436) (by decide +kernel)) (by decide +kernel))⟩
theorem fl_X10_74 : fL RX10 74 10 10 (.object "UnderFloor$Job") true := ⟨RX10, TX10, 18, tyX10, cl10, Nat.le_of_ble_eq_true rfl, rfl, rfl, Or.inl (tG_of (List.mem_of_getElem? (i := 437) (by decide +kernel)) (by decide +kernel))⟩
theorem fl_X10_78 : fL RX10 78 10 11 (.object "UnderFloor$Job") true := ⟨RX10, TX10, 18, tyX10, cl10, Nat.le_of_ble_eq_true rfl, rfl, rfl, Or.inl (tG_of (List.mem_of_getElem? (i := 438) (by decide +kernel)) (by decide +kernel))⟩
theorem fl_X10_84 : fL RX10 84 10 12 (.object "UnderFloor$Run") true := ⟨RX10, TX10, 18, tyX10, cl10, Nat.le_of_ble_eq_true rfl, rfl, rfl, Or.inl (tG_of (List.mem_of_getElem? (i := 439) (by decide +kernel)) (by decide +kernel))⟩
theorem fl_X10_93 : fL RX10 93 10 13 (.object "UnderFloor$Search") true := ⟨RX10, TX10, 18, tyX10, cl10, Nat.le_of_ble_eq_true rfl, rfl, rfl, Or.inl (tG_of (List.mem_of_getElem? (i := 440) (by decide +kernel)) (by decide +kernel))⟩
theorem fl_X10_100 : fL RX10 100 10 14 (.object "UnderFloor$Thuds") true := ⟨RX10, TX10, 18, tyX10, cl10, Nat.le_of_ble_eq_true rfl, rfl, rfl, Or.inl (tG_of (List.mem_of_getElem? (i := 441) (by decide +kernel)) (by decide +kernel))⟩
theorem fl_X10_104 : fL RX10 104 10 17 .int false := ⟨RX10, TX10, 18, tyX10, cl10, Nat.le_of_ble_eq_true rfl, rfl, rfl, Or.inl (tG_of (List.mem_of_getElem? (i := 444) (by decide +kernel)) (by decide +kernel))⟩
theorem fl_X10_112 : fL RX10 112 7 1 .int false := ⟨RX7, TX7, 2, tyX7, cl7, Nat.le_of_ble_eq_true rfl, rfl, rfl, Or.inr ⟨"UnderFloor", (List.mem_of_getElem? (i := 136) (by decide +kernel))⟩⟩
theorem fl_X10_153 : fL RX10 153 8 2 .int false := ⟨RX8, TX8, 7, tyX8, cl8, Nat.le_of_ble_eq_true rfl, rfl, rfl, Or.inr ⟨"UnderFloor", (List.mem_of_getElem? (i := 407) (by decide +kernel))⟩⟩
theorem fl_X10_156 : fL RX10 156 0 5 .int false := ⟨RX0, TX0, 9, tyX0, cl0, Nat.le_of_ble_eq_true rfl, rfl, rfl, Or.inr ⟨"UnderFloor", (List.mem_of_getElem? (i := 210) (by decide +kernel))⟩⟩
theorem fl_X10_159 : fL RX10 159 10 15 .int false := ⟨RX10, TX10, 18, tyX10, cl10, Nat.le_of_ble_eq_true rfl, rfl, rfl, Or.inl (tG_of (List.mem_of_getElem? (i := 442) (by decide +kernel)) (by decide +kernel))⟩
theorem fl_X10_162 : fL RX10 162 10 16 .int false := ⟨RX10, TX10, 18, tyX10, cl10, Nat.le_of_ble_eq_true rfl, rfl, rfl, Or.inl (tG_of (List.mem_of_getElem? (i := 443) (by decide +kernel)) (by decide +kernel))⟩
theorem fl_X10_211 : fL RX10 211 0 6 .int false := ⟨RX0, TX0, 9, tyX0, cl0, Nat.le_of_ble_eq_true rfl, rfl, rfl, Or.inr ⟨"UnderFloor", (List.mem_of_getElem? (i := 212) (by decide +kernel))⟩⟩
theorem fl_X10_214 : fL RX10 214 0 3 .int false := ⟨RX0, TX0, 9, tyX0, cl0, Nat.le_of_ble_eq_true rfl, rfl, rfl, Or.inr ⟨"UnderFloor", (List.mem_of_getElem? (i := 207) (by decide +kernel))⟩⟩
theorem fl_X10_220 : fL RX10 220 0 7 .int false := ⟨RX0, TX0, 9, tyX0, cl0, Nat.le_of_ble_eq_true rfl, rfl, rfl, Or.inr ⟨"UnderFloor", (List.mem_of_getElem? (i := 215) (by decide +kernel))⟩⟩
theorem fl_X10_223 : fL RX10 223 0 8 .int false := ⟨RX0, TX0, 9, tyX0, cl0, Nat.le_of_ble_eq_true rfl, rfl, rfl, Or.inr ⟨"UnderFloor", (List.mem_of_getElem? (i := 217) (by decide +kernel))⟩⟩
theorem fl_X10_230 : fL RX10 230 3 2 .int false := ⟨RX3, TX3, 3, tyX3, cl3, Nat.le_of_ble_eq_true rfl, rfl, rfl, Or.inr ⟨"UnderFloor", (List.mem_of_getElem? (i := 254) (by decide +kernel))⟩⟩
theorem fl_X10_235 : fL RX10 235 1 2 (.array .int) true := ⟨RX1, TX1, 7, tyX1, cl1, Nat.le_of_ble_eq_true rfl, rfl, rfl, Or.inr ⟨"UnderFloor", (List.mem_of_getElem? (i := 292) (by decide +kernel))⟩⟩
theorem fl_X10_243 : fL RX10 243 3 0 (.array .int) true := ⟨RX3, TX3, 3, tyX3, cl3, Nat.le_of_ble_eq_true rfl, rfl, rfl, Or.inr ⟨"UnderFloor", (List.mem_of_getElem? (i := 247) (by decide +kernel))⟩⟩
theorem fl_X10_246 : fL RX10 246 3 1 (.array .int) true := ⟨RX3, TX3, 3, tyX3, cl3, Nat.le_of_ble_eq_true rfl, rfl, rfl, Or.inr ⟨"UnderFloor", (List.mem_of_getElem? (i := 250) (by decide +kernel))⟩⟩
theorem fl_X10_252 : fL RX10 252 5 4 .int false := ⟨RX5, TX5, 10, tyX5, cl5, Nat.le_of_ble_eq_true rfl, rfl, rfl, Or.inr ⟨"UnderFloor", (List.mem_of_getElem? (i := 330) (by decide +kernel))⟩⟩
theorem fl_X10_255 : fL RX10 255 5 5 .int false := ⟨RX5, TX5, 10, tyX5, cl5, Nat.le_of_ble_eq_true rfl, rfl, rfl, Or.inr ⟨"UnderFloor", (List.mem_of_getElem? (i := 332) (by decide +kernel))⟩⟩
theorem fl_X10_258 : fL RX10 258 5 6 .int false := ⟨RX5, TX5, 10, tyX5, cl5, Nat.le_of_ble_eq_true rfl, rfl, rfl, Or.inr ⟨"UnderFloor", (List.mem_of_getElem? (i := 334) (by decide +kernel))⟩⟩
theorem fl_X10_261 : fL RX10 261 5 7 .int false := ⟨RX5, TX5, 10, tyX5, cl5, Nat.le_of_ble_eq_true rfl, rfl, rfl, Or.inr ⟨"UnderFloor", (List.mem_of_getElem? (i := 336) (by decide +kernel))⟩⟩
theorem fl_X10_264 : fL RX10 264 1 5 .int false := ⟨RX1, TX1, 7, tyX1, cl1, Nat.le_of_ble_eq_true rfl, rfl, rfl, Or.inr ⟨"UnderFloor", (List.mem_of_getElem? (i := 299) (by decide +kernel))⟩⟩
theorem fl_X10_265 : fL RX10 265 5 1 (.array .int) true := ⟨RX5, TX5, 10, tyX5, cl5, Nat.le_of_ble_eq_true rfl, rfl, rfl, Or.inr ⟨"UnderFloor", (List.mem_of_getElem? (i := 325) (by decide +kernel))⟩⟩
theorem fl_X10_268 : fL RX10 268 5 2 (.array .int) true := ⟨RX5, TX5, 10, tyX5, cl5, Nat.le_of_ble_eq_true rfl, rfl, rfl, Or.inr ⟨"UnderFloor", (List.mem_of_getElem? (i := 327) (by decide +kernel))⟩⟩
theorem fl_X10_278 : fL RX10 278 5 8 .int false := ⟨RX5, TX5, 10, tyX5, cl5, Nat.le_of_ble_eq_true rfl, rfl, rfl, Or.inr ⟨"UnderFloor", (List.mem_of_getElem? (i := 338) (by decide +kernel))⟩⟩
theorem fl_X10_281 : fL RX10 281 5 9 .int false := ⟨RX5, TX5, 10, tyX5, cl5, Nat.le_of_ble_eq_true rfl, rfl, rfl, Or.inr ⟨"UnderFloor", (List.mem_of_getElem? (i := 340) (by decide +kernel))⟩⟩
theorem fl_X10_310 : fL RX10 310 6 8 .int false := ⟨RX6, TX6, 9, tyX6, cl6, Nat.le_of_ble_eq_true rfl, rfl, rfl, Or.inr ⟨"UnderFloor", (List.mem_of_getElem? (i := 378) (by decide +kernel))⟩⟩
theorem fl_X10_313 : fL RX10 313 6 7 .int false := ⟨RX6, TX6, 9, tyX6, cl6, Nat.le_of_ble_eq_true rfl, rfl, rfl, Or.inr ⟨"UnderFloor", (List.mem_of_getElem? (i := 376) (by decide +kernel))⟩⟩
theorem fl_X10_333 : fL RX10 333 1 6 .int false := ⟨RX1, TX1, 7, tyX1, cl1, Nat.le_of_ble_eq_true rfl, rfl, rfl, Or.inr ⟨"UnderFloor", (List.mem_of_getElem? (i := 301) (by decide +kernel))⟩⟩
theorem fl_X10_350 : fL RX10 350 1 3 (.array .int) true := ⟨RX1, TX1, 7, tyX1, cl1, Nat.le_of_ble_eq_true rfl, rfl, rfl, Or.inr ⟨"UnderFloor", (List.mem_of_getElem? (i := 294) (by decide +kernel))⟩⟩
theorem fl_X0_9 : fL RX0 9 0 0 (.array .int) true := ⟨RX0, TX0, 9, tyX0, cl0, Nat.le_of_ble_eq_true rfl, rfl, rfl, Or.inl (tG_of (List.mem_of_getElem? (i := 202) (by decide +kernel)) (by decide +kernel))⟩
theorem fl_X0_15 : fL RX0 15 0 1 (.array .int) true := ⟨RX0, TX0, 9, tyX0, cl0, Nat.le_of_ble_eq_true rfl, rfl, rfl, Or.inl (tG_of (List.mem_of_getElem? (i := 203) (by decide +kernel)) (by decide +kernel))⟩
theorem fl_X0_18 : fL RX0 18 0 2 (.array .int) true := ⟨RX0, TX0, 9, tyX0, cl0, Nat.le_of_ble_eq_true rfl, rfl, rfl, Or.inl (tG_of (List.mem_of_getElem? (i := 204) (by decide +kernel)) (by decide +kernel))⟩
theorem fl_X0_24 : fL RX0 24 0 3 .int false := ⟨RX0, TX0, 9, tyX0, cl0, Nat.le_of_ble_eq_true rfl, rfl, rfl, Or.inl (tG_of (List.mem_of_getElem? (i := 205) (by decide +kernel)) (by decide +kernel))⟩
theorem fl_X0_28 : fL RX0 28 0 4 .int false := ⟨RX0, TX0, 9, tyX0, cl0, Nat.le_of_ble_eq_true rfl, rfl, rfl, Or.inl (tG_of (List.mem_of_getElem? (i := 208) (by decide +kernel)) (by decide +kernel))⟩
theorem fl_X0_31 : fL RX0 31 0 5 .int false := ⟨RX0, TX0, 9, tyX0, cl0, Nat.le_of_ble_eq_true rfl, rfl, rfl, Or.inl (tG_of (List.mem_of_getElem? (i := 209) (by decide +kernel)) (by decide +kernel))⟩
theorem fl_X0_34 : fL RX0 34 0 6 .int false := ⟨RX0, TX0, 9, tyX0, cl0, Nat.le_of_ble_eq_true rfl, rfl, rfl, Or.inl (tG_of (List.mem_of_getElem? (i := 211) (by decide +kernel)) (by decide +kernel))⟩
theorem fl_X0_37 : fL RX0 37 0 7 .int false := ⟨RX0, TX0, 9, tyX0, cl0, Nat.le_of_ble_eq_true rfl, rfl, rfl, Or.inl (tG_of (List.mem_of_getElem? (i := 214) (by decide +kernel)) (by decide +kernel))⟩
theorem fl_X0_53 : fL RX0 53 4 1 .int false := ⟨RX4, TX4, 3, tyX4, cl4, Nat.le_of_ble_eq_true rfl, rfl, rfl, Or.inr ⟨"UnderFloor", (List.mem_of_getElem? (i := 154) (by decide +kernel))⟩⟩
theorem fl_X0_60 : fL RX0 60 4 2 .int false := ⟨RX4, TX4, 3, tyX4, cl4, Nat.le_of_ble_eq_true rfl, rfl, rfl, Or.inr ⟨"UnderFloor", (List.mem_of_getElem? (i := 159) (by decide +kernel))⟩⟩
theorem fl_X0_87 : fL RX0 87 0 8 .int false := ⟨RX0, TX0, 9, tyX0, cl0, Nat.le_of_ble_eq_true rfl, rfl, rfl, Or.inl (tG_of (List.mem_of_getElem? (i := 216) (by decide +kernel)) (by decide +kernel))⟩
theorem fl_X1_9 : fL RX1 9 1 1 (.array .int) true := ⟨RX1, TX1, 7, tyX1, cl1, Nat.le_of_ble_eq_true rfl, rfl, rfl, Or.inl (tG_of (List.mem_of_getElem? (i := 286) (by decide +kernel)) (by decide +kernel))⟩
theorem fl_X1_15 : fL RX1 15 1 2 (.array .int) true := ⟨RX1, TX1, 7, tyX1, cl1, Nat.le_of_ble_eq_true rfl, rfl, rfl, Or.inl (tG_of (List.mem_of_getElem? (i := 289) (by decide +kernel)) (by decide +kernel))⟩
theorem fl_X1_18 : fL RX1 18 1 3 (.array .int) true := ⟨RX1, TX1, 7, tyX1, cl1, Nat.le_of_ble_eq_true rfl, rfl, rfl, Or.inl (tG_of (List.mem_of_getElem? (i := 293) (by decide +kernel)) (by decide +kernel))⟩
theorem fl_X1_21 : fL RX1 21 1 4 (.array .int) true := ⟨RX1, TX1, 7, tyX1, cl1, Nat.le_of_ble_eq_true rfl, rfl, rfl, Or.inl (tG_of (List.mem_of_getElem? (i := 295) (by decide +kernel)) (by decide +kernel))⟩
theorem fl_X1_24 : fL RX1 24 1 0 (.object "UnderFloor$Ways") true := ⟨RX1, TX1, 7, tyX1, cl1, Nat.le_of_ble_eq_true rfl, rfl, rfl, Or.inl (tG_of (List.mem_of_getElem? (i := 285) (by decide +kernel)) (by decide +kernel))⟩
theorem fl_X1_28 : fL RX1 28 3 2 .int false := ⟨RX3, TX3, 3, tyX3, cl3, Nat.le_of_ble_eq_true rfl, rfl, rfl, Or.inr ⟨"UnderFloor", (List.mem_of_getElem? (i := 252) (by decide +kernel))⟩⟩
theorem fl_X1_34 : fL RX1 34 1 5 .int false := ⟨RX1, TX1, 7, tyX1, cl1, Nat.le_of_ble_eq_true rfl, rfl, rfl, Or.inl (tG_of (List.mem_of_getElem? (i := 296) (by decide +kernel)) (by decide +kernel))⟩
theorem fl_X1_35 : fL RX1 35 3 0 (.array .int) true := ⟨RX3, TX3, 3, tyX3, cl3, Nat.le_of_ble_eq_true rfl, rfl, rfl, Or.inr ⟨"UnderFloor", (List.mem_of_getElem? (i := 245) (by decide +kernel))⟩⟩
theorem fl_X1_44 : fL RX1 44 0 7 .int false := ⟨RX0, TX0, 9, tyX0, cl0, Nat.le_of_ble_eq_true rfl, rfl, rfl, Or.inr ⟨"UnderFloor", (List.mem_of_getElem? (i := 213) (by decide +kernel))⟩⟩
theorem fl_X1_47 : fL RX1 47 1 6 .int false := ⟨RX1, TX1, 7, tyX1, cl1, Nat.le_of_ble_eq_true rfl, rfl, rfl, Or.inl (tG_of (List.mem_of_getElem? (i := 300) (by decide +kernel)) (by decide +kernel))⟩
theorem fl_X1_48 : fL RX1 48 0 3 .int false := ⟨RX0, TX0, 9, tyX0, cl0, Nat.le_of_ble_eq_true rfl, rfl, rfl, Or.inr ⟨"UnderFloor", (List.mem_of_getElem? (i := 206) (by decide +kernel))⟩⟩
theorem fl_X2_9 : fL RX2 9 2 0 (.object "UnderFloor$Reader") true := ⟨RX2, TX2, 6, tyX2, cl2, Nat.le_of_ble_eq_true rfl, rfl, rfl, Or.inl (tG_of (List.mem_of_getElem? (i := 173) (by decide +kernel)) (by decide +kernel))⟩
theorem fl_X2_19 : fL RX2 19 4 2 .int false := ⟨RX4, TX4, 3, tyX4, cl4, Nat.le_of_ble_eq_true rfl, rfl, rfl, Or.inr ⟨"UnderFloor", (List.mem_of_getElem? (i := 157) (by decide +kernel))⟩⟩
theorem fl_X2_25 : fL RX2 25 2 3 .int false := ⟨RX2, TX2, 6, tyX2, cl2, Nat.le_of_ble_eq_true rfl, rfl, rfl, Or.inl (tG_of (List.mem_of_getElem? (i := 176) (by decide +kernel)) (by decide +kernel))⟩
theorem fl_X2_28 : fL RX2 28 3 2 .int false := ⟨RX3, TX3, 3, tyX3, cl3, Nat.le_of_ble_eq_true rfl, rfl, rfl, Or.inr ⟨"UnderFloor", (List.mem_of_getElem? (i := 253) (by decide +kernel))⟩⟩
theorem fl_X2_33 : fL RX2 33 2 5 .int false := ⟨RX2, TX2, 6, tyX2, cl2, Nat.le_of_ble_eq_true rfl, rfl, rfl, Or.inl (tG_of (List.mem_of_getElem? (i := 178) (by decide +kernel)) (by decide +kernel))⟩
theorem fl_X2_36 : fL RX2 36 3 1 (.array .int) true := ⟨RX3, TX3, 3, tyX3, cl3, Nat.le_of_ble_eq_true rfl, rfl, rfl, Or.inr ⟨"UnderFloor", (List.mem_of_getElem? (i := 249) (by decide +kernel))⟩⟩
theorem fl_X2_40 : fL RX2 40 2 1 .int false := ⟨RX2, TX2, 6, tyX2, cl2, Nat.le_of_ble_eq_true rfl, rfl, rfl, Or.inl (tG_of (List.mem_of_getElem? (i := 174) (by decide +kernel)) (by decide +kernel))⟩
theorem fl_X2_43 : fL RX2 43 2 2 .int false := ⟨RX2, TX2, 6, tyX2, cl2, Nat.le_of_ble_eq_true rfl, rfl, rfl, Or.inl (tG_of (List.mem_of_getElem? (i := 175) (by decide +kernel)) (by decide +kernel))⟩
theorem fl_X2_46 : fL RX2 46 3 0 (.array .int) true := ⟨RX3, TX3, 3, tyX3, cl3, Nat.le_of_ble_eq_true rfl, rfl, rfl, Or.inr ⟨"UnderFloor", (List.mem_of_getElem? (i := 246) (by decide +kernel))⟩⟩
theorem fl_X2_49 : fL RX2 49 2 4 .int false := ⟨RX2, TX2, 6, tyX2, cl2, Nat.le_of_ble_eq_true rfl, rfl, rfl, Or.inl (tG_of (List.mem_of_getElem? (i := 177) (by decide +kernel)) (by decide +kernel))⟩
theorem fl_X2_90 : fL RX2 90 4 1 .int false := ⟨RX4, TX4, 3, tyX4, cl4, Nat.le_of_ble_eq_true rfl, rfl, rfl, Or.inr ⟨"UnderFloor", (List.mem_of_getElem? (i := 155) (by decide +kernel))⟩⟩
theorem fl_X3_9 : fL RX3 9 3 0 (.array .int) true := ⟨RX3, TX3, 3, tyX3, cl3, Nat.le_of_ble_eq_true rfl, rfl, rfl, Or.inl (tG_of (List.mem_of_getElem? (i := 244) (by decide +kernel)) (by decide +kernel))⟩
theorem fl_X3_15 : fL RX3 15 3 1 (.array .int) true := ⟨RX3, TX3, 3, tyX3, cl3, Nat.le_of_ble_eq_true rfl, rfl, rfl, Or.inl (tG_of (List.mem_of_getElem? (i := 248) (by decide +kernel)) (by decide +kernel))⟩
theorem fl_X3_18 : fL RX3 18 3 2 .int false := ⟨RX3, TX3, 3, tyX3, cl3, Nat.le_of_ble_eq_true rfl, rfl, rfl, Or.inl (tG_of (List.mem_of_getElem? (i := 251) (by decide +kernel)) (by decide +kernel))⟩
theorem fl_X3_35 : fL RX3 35 4 2 .int false := ⟨RX4, TX4, 3, tyX4, cl4, Nat.le_of_ble_eq_true rfl, rfl, rfl, Or.inr ⟨"UnderFloor", (List.mem_of_getElem? (i := 158) (by decide +kernel))⟩⟩
theorem fl_X3_42 : fL RX3 42 4 1 .int false := ⟨RX4, TX4, 3, tyX4, cl4, Nat.le_of_ble_eq_true rfl, rfl, rfl, Or.inr ⟨"UnderFloor", (List.mem_of_getElem? (i := 153) (by decide +kernel))⟩⟩
theorem fl_X4_9 : fL RX4 9 4 0 (.object "UnderFloor$Text") false := ⟨RX4, TX4, 3, tyX4, cl4, Nat.le_of_ble_eq_true rfl, rfl, rfl, Or.inl (tG_of (List.mem_of_getElem? (i := 151) (by decide +kernel)) (by decide +kernel))⟩
theorem fl_X4_15 : fL RX4 15 4 2 .int false := ⟨RX4, TX4, 3, tyX4, cl4, Nat.le_of_ble_eq_true rfl, rfl, rfl, Or.inl (tG_of (List.mem_of_getElem? (i := 156) (by decide +kernel)) (by decide +kernel))⟩
theorem fl_X4_19 : fL RX4 19 4 1 .int false := ⟨RX4, TX4, 3, tyX4, cl4, Nat.le_of_ble_eq_true rfl, rfl, rfl, Or.inl (tG_of (List.mem_of_getElem? (i := 152) (by decide +kernel)) (by decide +kernel))⟩
theorem fl_X4_22 : fL RX4 22 7 1 .int false := ⟨RX7, TX7, 2, tyX7, cl7, Nat.le_of_ble_eq_true rfl, rfl, rfl, Or.inr ⟨"UnderFloor", (List.mem_of_getElem? (i := 137) (by decide +kernel))⟩⟩
theorem fl_X4_27 : fL RX4 27 7 0 (.array .int) true := ⟨RX7, TX7, 2, tyX7, cl7, Nat.le_of_ble_eq_true rfl, rfl, rfl, Or.inr ⟨"UnderFloor", (List.mem_of_getElem? (i := 135) (by decide +kernel))⟩⟩
theorem fl_X5_9 : fL RX5 9 5 0 (.array .int) true := ⟨RX5, TX5, 10, tyX5, cl5, Nat.le_of_ble_eq_true rfl, rfl, rfl, Or.inl (tG_of (List.mem_of_getElem? (i := 323) (by decide +kernel)) (by decide +kernel))⟩
theorem fl_X5_15 : fL RX5 15 5 1 (.array .int) true := ⟨RX5, TX5, 10, tyX5, cl5, Nat.le_of_ble_eq_true rfl, rfl, rfl, Or.inl (tG_of (List.mem_of_getElem? (i := 324) (by decide +kernel)) (by decide +kernel))⟩
theorem fl_X5_18 : fL RX5 18 5 2 (.array .int) true := ⟨RX5, TX5, 10, tyX5, cl5, Nat.le_of_ble_eq_true rfl, rfl, rfl, Or.inl (tG_of (List.mem_of_getElem? (i := 326) (by decide +kernel)) (by decide +kernel))⟩
theorem fl_X5_21 : fL RX5 21 5 3 .int false := ⟨RX5, TX5, 10, tyX5, cl5, Nat.le_of_ble_eq_true rfl, rfl, rfl, Or.inl (tG_of (List.mem_of_getElem? (i := 328) (by decide +kernel)) (by decide +kernel))⟩
theorem fl_X5_27 : fL RX5 27 5 4 .int false := ⟨RX5, TX5, 10, tyX5, cl5, Nat.le_of_ble_eq_true rfl, rfl, rfl, Or.inl (tG_of (List.mem_of_getElem? (i := 329) (by decide +kernel)) (by decide +kernel))⟩
theorem fl_X5_30 : fL RX5 30 5 5 .int false := ⟨RX5, TX5, 10, tyX5, cl5, Nat.le_of_ble_eq_true rfl, rfl, rfl, Or.inl (tG_of (List.mem_of_getElem? (i := 331) (by decide +kernel)) (by decide +kernel))⟩
theorem fl_X5_33 : fL RX5 33 5 6 .int false := ⟨RX5, TX5, 10, tyX5, cl5, Nat.le_of_ble_eq_true rfl, rfl, rfl, Or.inl (tG_of (List.mem_of_getElem? (i := 333) (by decide +kernel)) (by decide +kernel))⟩
theorem fl_X5_36 : fL RX5 36 5 7 .int false := ⟨RX5, TX5, 10, tyX5, cl5, Nat.le_of_ble_eq_true rfl, rfl, rfl, Or.inl (tG_of (List.mem_of_getElem? (i := 335) (by decide +kernel)) (by decide +kernel))⟩
theorem fl_X5_39 : fL RX5 39 5 8 .int false := ⟨RX5, TX5, 10, tyX5, cl5, Nat.le_of_ble_eq_true rfl, rfl, rfl, Or.inl (tG_of (List.mem_of_getElem? (i := 337) (by decide +kernel)) (by decide +kernel))⟩
theorem fl_X5_42 : fL RX5 42 5 9 .int false := ⟨RX5, TX5, 10, tyX5, cl5, Nat.le_of_ble_eq_true rfl, rfl, rfl, Or.inl (tG_of (List.mem_of_getElem? (i := 339) (by decide +kernel)) (by decide +kernel))⟩
theorem fl_X5_57 : fL RX5 57 1 2 (.array .int) true := ⟨RX1, TX1, 7, tyX1, cl1, Nat.le_of_ble_eq_true rfl, rfl, rfl, Or.inr ⟨"UnderFloor", (List.mem_of_getElem? (i := 290) (by decide +kernel))⟩⟩
theorem fl_X5_69 : fL RX5 69 1 1 (.array .int) true := ⟨RX1, TX1, 7, tyX1, cl1, Nat.le_of_ble_eq_true rfl, rfl, rfl, Or.inr ⟨"UnderFloor", (List.mem_of_getElem? (i := 288) (by decide +kernel))⟩⟩
theorem fl_X6_11 : fL RX6 11 6 0 (.array .int) true := ⟨RX6, TX6, 9, tyX6, cl6, Nat.le_of_ble_eq_true rfl, rfl, rfl, Or.inl (tG_of (List.mem_of_getElem? (i := 368) (by decide +kernel)) (by decide +kernel))⟩
theorem fl_X6_17 : fL RX6 17 6 1 (.array .int) true := ⟨RX6, TX6, 9, tyX6, cl6, Nat.le_of_ble_eq_true rfl, rfl, rfl, Or.inl (tG_of (List.mem_of_getElem? (i := 369) (by decide +kernel)) (by decide +kernel))⟩
theorem fl_X6_20 : fL RX6 20 6 2 (.array .int) true := ⟨RX6, TX6, 9, tyX6, cl6, Nat.le_of_ble_eq_true rfl, rfl, rfl, Or.inl (tG_of (List.mem_of_getElem? (i := 370) (by decide +kernel)) (by decide +kernel))⟩
theorem fl_X6_23 : fL RX6 23 6 3 (.array .int) true := ⟨RX6, TX6, 9, tyX6, cl6, Nat.le_of_ble_eq_true rfl, rfl, rfl, Or.inl (tG_of (List.mem_of_getElem? (i := 371) (by decide +kernel)) (by decide +kernel))⟩
theorem fl_X6_26 : fL RX6 26 6 4 (.object "UnderFloor$Job") false := ⟨RX6, TX6, 9, tyX6, cl6, Nat.le_of_ble_eq_true rfl, rfl, rfl, Or.inl (tG_of (List.mem_of_getElem? (i := 372) (by decide +kernel)) (by decide +kernel))⟩
theorem fl_X6_30 : fL RX6 30 6 5 .int false := ⟨RX6, TX6, 9, tyX6, cl6, Nat.le_of_ble_eq_true rfl, rfl, rfl, Or.inl (tG_of (List.mem_of_getElem? (i := 373) (by decide +kernel)) (by decide +kernel))⟩
theorem fl_X6_34 : fL RX6 34 6 6 .int false := ⟨RX6, TX6, 9, tyX6, cl6, Nat.le_of_ble_eq_true rfl, rfl, rfl, Or.inl (tG_of (List.mem_of_getElem? (i := 374) (by decide +kernel)) (by decide +kernel))⟩
theorem fl_X6_38 : fL RX6 38 6 7 .int false := ⟨RX6, TX6, 9, tyX6, cl6, Nat.le_of_ble_eq_true rfl, rfl, rfl, Or.inl (tG_of (List.mem_of_getElem? (i := 375) (by decide +kernel)) (by decide +kernel))⟩
theorem fl_X6_41 : fL RX6 41 6 8 .int false := ⟨RX6, TX6, 9, tyX6, cl6, Nat.le_of_ble_eq_true rfl, rfl, rfl, Or.inl (tG_of (List.mem_of_getElem? (i := 377) (by decide +kernel)) (by decide +kernel))⟩
theorem fl_X6_61 : fL RX6 61 1 5 .int false := ⟨RX1, TX1, 7, tyX1, cl1, Nat.le_of_ble_eq_true rfl, rfl, rfl, Or.inr ⟨"UnderFloor", (List.mem_of_getElem? (i := 297) (by decide +kernel))⟩⟩
theorem fl_X6_75 : fL RX6 75 1 2 (.array .int) true := ⟨RX1, TX1, 7, tyX1, cl1, Nat.le_of_ble_eq_true rfl, rfl, rfl, Or.inr ⟨"UnderFloor", (List.mem_of_getElem? (i := 291) (by decide +kernel))⟩⟩
theorem fl_X7_9 : fL RX7 9 7 0 (.array .int) true := ⟨RX7, TX7, 2, tyX7, cl7, Nat.le_of_ble_eq_true rfl, rfl, rfl, Or.inl (tG_of (List.mem_of_getElem? (i := 134) (by decide +kernel)) (by decide +kernel))⟩
theorem fl_X7_15 : fL RX7 15 7 1 .int false := ⟨RX7, TX7, 2, tyX7, cl7, Nat.le_of_ble_eq_true rfl, rfl, rfl, Or.inl (tG_of (List.mem_of_getElem? (i := 138) (by decide +kernel)) (by decide +kernel))⟩
theorem fl_X8_9 : fL RX8 9 8 0 (.array .int) true := ⟨RX8, TX8, 7, tyX8, cl8, Nat.le_of_ble_eq_true rfl, rfl, rfl, Or.inl (tG_of (List.mem_of_getElem? (i := 404) (by decide +kernel)) (by decide +kernel))⟩
theorem fl_X8_15 : fL RX8 15 8 1 (.array .int) true := ⟨RX8, TX8, 7, tyX8, cl8, Nat.le_of_ble_eq_true rfl, rfl, rfl, Or.inl (tG_of (List.mem_of_getElem? (i := 405) (by decide +kernel)) (by decide +kernel))⟩
theorem fl_X8_18 : fL RX8 18 8 3 (.object "UnderFloor$Job") false := ⟨RX8, TX8, 7, tyX8, cl8, Nat.le_of_ble_eq_true rfl, rfl, rfl, Or.inl (tG_of (List.mem_of_getElem? (i := 408) (by decide +kernel)) (by decide +kernel))⟩
theorem fl_X8_22 : fL RX8 22 8 2 .int false := ⟨RX8, TX8, 7, tyX8, cl8, Nat.le_of_ble_eq_true rfl, rfl, rfl, Or.inl (tG_of (List.mem_of_getElem? (i := 406) (by decide +kernel)) (by decide +kernel))⟩
theorem fl_X8_26 : fL RX8 26 8 4 .int false := ⟨RX8, TX8, 7, tyX8, cl8, Nat.le_of_ble_eq_true rfl, rfl, rfl, Or.inl (tG_of (List.mem_of_getElem? (i := 409) (by decide +kernel)) (by decide +kernel))⟩
theorem fl_X8_29 : fL RX8 29 8 5 .int false := ⟨RX8, TX8, 7, tyX8, cl8, Nat.le_of_ble_eq_true rfl, rfl, rfl, Or.inl (tG_of (List.mem_of_getElem? (i := 410) (by decide +kernel)) (by decide +kernel))⟩
theorem fl_X8_32 : fL RX8 32 8 6 .int false := ⟨RX8, TX8, 7, tyX8, cl8, Nat.le_of_ble_eq_true rfl, rfl, rfl, Or.inl (tG_of (List.mem_of_getElem? (i := 411) (by decide +kernel)) (by decide +kernel))⟩
theorem fl_X8_45 : fL RX8 45 1 5 .int false := ⟨RX1, TX1, 7, tyX1, cl1, Nat.le_of_ble_eq_true rfl, rfl, rfl, Or.inr ⟨"UnderFloor", (List.mem_of_getElem? (i := 298) (by decide +kernel))⟩⟩
theorem fl_X8_61 : fL RX8 61 1 1 (.array .int) true := ⟨RX1, TX1, 7, tyX1, cl1, Nat.le_of_ble_eq_true rfl, rfl, rfl, Or.inr ⟨"UnderFloor", (List.mem_of_getElem? (i := 287) (by decide +kernel))⟩⟩
theorem fl_X9_9 : fL RX9 9 9 0 (.array .int) true := ⟨RX9, TX9, 3, tyX9, cl9, Nat.le_of_ble_eq_true rfl, rfl, rfl, Or.inl (tG_of (List.mem_of_getElem? (i := 269) (by decide +kernel)) (by decide +kernel))⟩
theorem fl_X9_15 : fL RX9 15 9 1 (.array .int) true := ⟨RX9, TX9, 3, tyX9, cl9, Nat.le_of_ble_eq_true rfl, rfl, rfl, Or.inl (tG_of (List.mem_of_getElem? (i := 270) (by decide +kernel)) (by decide +kernel))⟩
theorem fl_X9_18 : fL RX9 18 9 2 .int false := ⟨RX9, TX9, 3, tyX9, cl9, Nat.le_of_ble_eq_true rfl, rfl, rfl, Or.inl (tG_of (List.mem_of_getElem? (i := 271) (by decide +kernel)) (by decide +kernel))⟩
theorem fl_X11_9 : fL RX11 9 11 1 (.array .int) true := ⟨RX11, TX11, 54, tyX11, cl11, Nat.le_of_ble_eq_true rfl, rfl, rfl, Or.inl (tG_of (List.mem_of_getElem? (i := 1169) (by decide +kernel)) (by decide +kernel))⟩
theorem fl_X11_13 : fL RX11 13 11 6 (.array .int) true := ⟨RX11, TX11, 54, tyX11, cl11, Nat.le_of_ble_eq_true rfl, rfl, rfl, Or.inl (tG_of (List.mem_of_getElem? (i := 1174) (by decide +kernel)) (by decide +kernel))⟩
theorem fl_X11_16 : fL RX11 16 11 7 (.array .int) true := ⟨RX11, TX11, 54, tyX11, cl11, Nat.le_of_ble_eq_true rfl, rfl, rfl, Or.inl (tG_of (List.mem_of_getElem? (i := 1175) (by decide +kernel)) (by decide +kernel))⟩
theorem fl_X11_19 : fL RX11 19 11 8 (.array .int) true := ⟨RX11, TX11, 54, tyX11, cl11, Nat.le_of_ble_eq_true rfl, rfl, rfl, Or.inl (tG_of (List.mem_of_getElem? (i := 1176) (by decide +kernel)) (by decide +kernel))⟩
theorem fl_X11_22 : fL RX11 22 11 9 (.array .int) true := ⟨RX11, TX11, 54, tyX11, cl11, Nat.le_of_ble_eq_true rfl, rfl, rfl, Or.inl (tG_of (List.mem_of_getElem? (i := 1177) (by decide +kernel)) (by decide +kernel))⟩
theorem fl_X11_25 : fL RX11 25 11 10 (.array .int) true := ⟨RX11, TX11, 54, tyX11, cl11, Nat.le_of_ble_eq_true rfl, rfl, rfl, Or.inl (tG_of (List.mem_of_getElem? (i := 1178) (by decide +kernel)) (by decide +kernel))⟩
theorem fl_X11_28 : fL RX11 28 11 11 (.array .int) true := ⟨RX11, TX11, 54, tyX11, cl11, Nat.le_of_ble_eq_true rfl, rfl, rfl, Or.inl (tG_of (List.mem_of_getElem? (i := 1179) (by decide +kernel)) (by decide +kernel))⟩
theorem fl_X11_31 : fL RX11 31 11 12 (.array .int) true := ⟨RX11, TX11, 54, tyX11, cl11, Nat.le_of_ble_eq_true rfl, rfl, rfl, Or.inl (tG_of (List.mem_of_getElem? (i := 1180) (by decide +kernel)) (by decide +kernel))⟩
theorem fl_X11_34 : fL RX11 34 11 15 (.array .int) true := ⟨RX11, TX11, 54, tyX11, cl11, Nat.le_of_ble_eq_true rfl, rfl, rfl, Or.inl (tG_of (List.mem_of_getElem? (i := 1183) (by decide +kernel)) (by decide +kernel))⟩
theorem fl_X11_37 : fL RX11 37 11 16 (.array .int) true := ⟨RX11, TX11, 54, tyX11, cl11, Nat.le_of_ble_eq_true rfl, rfl, rfl, Or.inl (tG_of (List.mem_of_getElem? (i := 1184) (by decide +kernel)) (by decide +kernel))⟩
theorem fl_X11_40 : fL RX11 40 11 17 (.array .int) true := ⟨RX11, TX11, 54, tyX11, cl11, Nat.le_of_ble_eq_true rfl, rfl, rfl, Or.inl (tG_of (List.mem_of_getElem? (i := 1185) (by decide +kernel)) (by decide +kernel))⟩
theorem fl_X11_43 : fL RX11 43 11 22 (.array .int) true := ⟨RX11, TX11, 54, tyX11, cl11, Nat.le_of_ble_eq_true rfl, rfl, rfl, Or.inl (tG_of (List.mem_of_getElem? (i := 1190) (by decide +kernel)) (by decide +kernel))⟩
theorem fl_X11_46 : fL RX11 46 11 25 (.array .int) true := ⟨RX11, TX11, 54, tyX11, cl11, Nat.le_of_ble_eq_true rfl, rfl, rfl, Or.inl (tG_of (List.mem_of_getElem? (i := 1193) (by decide +kernel)) (by decide +kernel))⟩
theorem fl_X11_49 : fL RX11 49 11 26 (.array .int) true := ⟨RX11, TX11, 54, tyX11, cl11, Nat.le_of_ble_eq_true rfl, rfl, rfl, Or.inl (tG_of (List.mem_of_getElem? (i := 1194) (by decide +kernel)) (by decide +kernel))⟩
theorem fl_X11_52 : fL RX11 52 11 27 (.array .int) true := ⟨RX11, TX11, 54, tyX11, cl11, Nat.le_of_ble_eq_true rfl, rfl, rfl, Or.inl (tG_of (List.mem_of_getElem? (i := 1195) (by decide +kernel)) (by decide +kernel))⟩
theorem fl_X11_55 : fL RX11 55 11 29 (.array .int) true := ⟨RX11, TX11, 54, tyX11, cl11, Nat.le_of_ble_eq_true rfl, rfl, rfl, Or.inl (tG_of (List.mem_of_getElem? (i := 1197) (by decide +kernel)) (by decide +kernel))⟩
theorem fl_X11_58 : fL RX11 58 11 30 .int false := ⟨RX11, TX11, 54, tyX11, cl11, Nat.le_of_ble_eq_true rfl, rfl, rfl, Or.inl (tG_of (List.mem_of_getElem? (i := 1198) (by decide +kernel)) (by decide +kernel))⟩
theorem fl_X11_62 : fL RX11 62 11 32 .int false := ⟨RX11, TX11, 54, tyX11, cl11, Nat.le_of_ble_eq_true rfl, rfl, rfl, Or.inl (tG_of (List.mem_of_getElem? (i := 1200) (by decide +kernel)) (by decide +kernel))⟩
theorem fl_X11_65 : fL RX11 65 11 33 (.array .int) true := ⟨RX11, TX11, 54, tyX11, cl11, Nat.le_of_ble_eq_true rfl, rfl, rfl, Or.inl (tG_of (List.mem_of_getElem? (i := 1201) (by decide +kernel)) (by decide +kernel))⟩
theorem fl_X11_68 : fL RX11 68 11 34 (.array .int) true := ⟨RX11, TX11, 54, tyX11, cl11, Nat.le_of_ble_eq_true rfl, rfl, rfl, Or.inl (tG_of (List.mem_of_getElem? (i := 1202) (by decide +kernel)) (by decide +kernel))⟩
theorem fl_X11_71 : fL RX11 71 11 35 (.array .int) true := ⟨RX11, TX11, 54, tyX11, cl11, Nat.le_of_ble_eq_true rfl, rfl, rfl, Or.inl (tG_of (List.mem_of_getElem? (i := 1203) (by decide +kernel)) (by decide +kernel))⟩
theorem fl_X11_74 : fL RX11 74 11 36 (.array .int) true := ⟨RX11, TX11, 54, tyX11, cl11, Nat.le_of_ble_eq_true rfl, rfl, rfl, Or.inl (tG_of (List.mem_of_getElem? (i := 1204) (by decide +kernel)) (by decide +kernel))⟩
theorem fl_X11_77 : fL RX11 77 11 39 (.array .int) true := ⟨RX11, TX11, 54, tyX11, cl11, Nat.le_of_ble_eq_true rfl, rfl, rfl, Or.inl (tG_of (List.mem_of_getElem? (i := 1207) (by decide +kernel)) (by decide +kernel))⟩
theorem fl_X11_80 : fL RX11 80 11 40 (.array .int) true := ⟨RX11, TX11, 54, tyX11, cl11, Nat.le_of_ble_eq_true rfl, rfl, rfl, Or.inl (tG_of (List.mem_of_getElem? (i := 1208) (by decide +kernel)) (by decide +kernel))⟩
theorem fl_X11_83 : fL RX11 83 11 43 (.array .int) true := ⟨RX11, TX11, 54, tyX11, cl11, Nat.le_of_ble_eq_true rfl, rfl, rfl, Or.inl (tG_of (List.mem_of_getElem? (i := 1211) (by decide +kernel)) (by decide +kernel))⟩
theorem fl_X11_86 : fL RX11 86 11 44 (.array .int) true := ⟨RX11, TX11, 54, tyX11, cl11, Nat.le_of_ble_eq_true rfl, rfl, rfl, Or.inl (tG_of (List.mem_of_getElem? (i := 1212) (by decide +kernel)) (by decide +kernel))⟩
theorem fl_X11_89 : fL RX11 89 11 48 (.array .int) true := ⟨RX11, TX11, 54, tyX11, cl11, Nat.le_of_ble_eq_true rfl, rfl, rfl, Or.inl (tG_of (List.mem_of_getElem? (i := 1216) (by decide +kernel)) (by decide +kernel))⟩
theorem fl_X11_92 : fL RX11 92 11 49 (.array .int) true := ⟨RX11, TX11, 54, tyX11, cl11, Nat.le_of_ble_eq_true rfl, rfl, rfl, Or.inl (tG_of (List.mem_of_getElem? (i := 1217) (by decide +kernel)) (by decide +kernel))⟩
theorem fl_X11_95 : fL RX11 95 11 50 (.array .int) true := ⟨RX11, TX11, 54, tyX11, cl11, Nat.le_of_ble_eq_true rfl, rfl, rfl, Or.inl (tG_of (List.mem_of_getElem? (i := 1218) (by decide +kernel)) (by decide +kernel))⟩
theorem fl_X11_98 : fL RX11 98 11 0 .int false := ⟨RX11, TX11, 54, tyX11, cl11, Nat.le_of_ble_eq_true rfl, rfl, rfl, Or.inl (tG_of (List.mem_of_getElem? (i := 1168) (by decide +kernel)) (by decide +kernel))⟩
theorem fl_X11_105 : fL RX11 105 11 2 .int false := ⟨RX11, TX11, 54, tyX11, cl11, Nat.le_of_ble_eq_true rfl, rfl, rfl, Or.inl (tG_of (List.mem_of_getElem? (i := 1170) (by decide +kernel)) (by decide +kernel))⟩
theorem fl_X11_108 : fL RX11 108 11 3 .int false := ⟨RX11, TX11, 54, tyX11, cl11, Nat.le_of_ble_eq_true rfl, rfl, rfl, Or.inl (tG_of (List.mem_of_getElem? (i := 1171) (by decide +kernel)) (by decide +kernel))⟩
theorem fl_X11_115 : fL RX11 115 11 4 .int false := ⟨RX11, TX11, 54, tyX11, cl11, Nat.le_of_ble_eq_true rfl, rfl, rfl, Or.inl (tG_of (List.mem_of_getElem? (i := 1172) (by decide +kernel)) (by decide +kernel))⟩
theorem fl_X11_118 : fL RX11 118 11 14 .int false := ⟨RX11, TX11, 54, tyX11, cl11, Nat.le_of_ble_eq_true rfl, rfl, rfl, Or.inl (tG_of (List.mem_of_getElem? (i := 1182) (by decide +kernel)) (by decide +kernel))⟩
theorem fl_X11_121 : fL RX11 121 11 5 .int false := ⟨RX11, TX11, 54, tyX11, cl11, Nat.le_of_ble_eq_true rfl, rfl, rfl, Or.inl (tG_of (List.mem_of_getElem? (i := 1173) (by decide +kernel)) (by decide +kernel))⟩
theorem fl_X11_220 : fL RX11 220 11 21 .boolean false := ⟨RX11, TX11, 54, tyX11, cl11, Nat.le_of_ble_eq_true rfl, rfl, rfl, Or.inl (tG_of (List.mem_of_getElem? (i := 1189) (by decide +kernel)) (by decide +kernel))⟩
theorem fl_X11_224 : fL RX11 224 11 20 .int false := ⟨RX11, TX11, 54, tyX11, cl11, Nat.le_of_ble_eq_true rfl, rfl, rfl, Or.inl (tG_of (List.mem_of_getElem? (i := 1188) (by decide +kernel)) (by decide +kernel))⟩
theorem fl_X11_231 : fL RX11 231 11 18 .int false := ⟨RX11, TX11, 54, tyX11, cl11, Nat.le_of_ble_eq_true rfl, rfl, rfl, Or.inl (tG_of (List.mem_of_getElem? (i := 1186) (by decide +kernel)) (by decide +kernel))⟩
theorem fl_X11_234 : fL RX11 234 11 19 .int false := ⟨RX11, TX11, 54, tyX11, cl11, Nat.le_of_ble_eq_true rfl, rfl, rfl, Or.inl (tG_of (List.mem_of_getElem? (i := 1187) (by decide +kernel)) (by decide +kernel))⟩
theorem fl_X11_252 : fL RX11 252 11 23 .int false := ⟨RX11, TX11, 54, tyX11, cl11, Nat.le_of_ble_eq_true rfl, rfl, rfl, Or.inl (tG_of (List.mem_of_getElem? (i := 1191) (by decide +kernel)) (by decide +kernel))⟩
theorem fl_X11_255 : fL RX11 255 11 24 .int false := ⟨RX11, TX11, 54, tyX11, cl11, Nat.le_of_ble_eq_true rfl, rfl, rfl, Or.inl (tG_of (List.mem_of_getElem? (i := 1192) (by decide +kernel)) (by decide +kernel))⟩
theorem fl_X11_261 : fL RX11 261 11 45 .int false := ⟨RX11, TX11, 54, tyX11, cl11, Nat.le_of_ble_eq_true rfl, rfl, rfl, Or.inl (tG_of (List.mem_of_getElem? (i := 1213) (by decide +kernel)) (by decide +kernel))⟩
theorem fl_X11_264 : fL RX11 264 11 53 .boolean false := ⟨RX11, TX11, 54, tyX11, cl11, Nat.le_of_ble_eq_true rfl, rfl, rfl, Or.inl (tG_of (List.mem_of_getElem? (i := 1221) (by decide +kernel)) (by decide +kernel))⟩
theorem fl_X11_275 : fL RX11 275 11 28 .int false := ⟨RX11, TX11, 54, tyX11, cl11, Nat.le_of_ble_eq_true rfl, rfl, rfl, Or.inl (tG_of (List.mem_of_getElem? (i := 1196) (by decide +kernel)) (by decide +kernel))⟩
theorem fl_X11_278 : fL RX11 278 11 13 .int false := ⟨RX11, TX11, 54, tyX11, cl11, Nat.le_of_ble_eq_true rfl, rfl, rfl, Or.inl (tG_of (List.mem_of_getElem? (i := 1181) (by decide +kernel)) (by decide +kernel))⟩
theorem fl_X11_307 : fL RX11 307 11 31 .int false := ⟨RX11, TX11, 54, tyX11, cl11, Nat.le_of_ble_eq_true rfl, rfl, rfl, Or.inl (tG_of (List.mem_of_getElem? (i := 1199) (by decide +kernel)) (by decide +kernel))⟩
theorem fl_X11_316 : fL RX11 316 11 37 .int false := ⟨RX11, TX11, 54, tyX11, cl11, Nat.le_of_ble_eq_true rfl, rfl, rfl, Or.inl (tG_of (List.mem_of_getElem? (i := 1205) (by decide +kernel)) (by decide +kernel))⟩
theorem fl_X11_319 : fL RX11 319 11 38 .int false := ⟨RX11, TX11, 54, tyX11, cl11, Nat.le_of_ble_eq_true rfl, rfl, rfl, Or.inl (tG_of (List.mem_of_getElem? (i := 1206) (by decide +kernel)) (by decide +kernel))⟩
theorem fl_X11_347 : fL RX11 347 11 41 .int false := ⟨RX11, TX11, 54, tyX11, cl11, Nat.le_of_ble_eq_true rfl, rfl, rfl, Or.inl (tG_of (List.mem_of_getElem? (i := 1209) (by decide +kernel)) (by decide +kernel))⟩
theorem fl_X11_350 : fL RX11 350 11 42 .int false := ⟨RX11, TX11, 54, tyX11, cl11, Nat.le_of_ble_eq_true rfl, rfl, rfl, Or.inl (tG_of (List.mem_of_getElem? (i := 1210) (by decide +kernel)) (by decide +kernel))⟩
theorem fl_X11_378 : fL RX11 378 11 46 .int false := ⟨RX11, TX11, 54, tyX11, cl11, Nat.le_of_ble_eq_true rfl, rfl, rfl, Or.inl (tG_of (List.mem_of_getElem? (i := 1214) (by decide +kernel)) (by decide +kernel))⟩
theorem fl_X11_381 : fL RX11 381 11 47 .int false := ⟨RX11, TX11, 54, tyX11, cl11, Nat.le_of_ble_eq_true rfl, rfl, rfl, Or.inl (tG_of (List.mem_of_getElem? (i := 1215) (by decide +kernel)) (by decide +kernel))⟩
theorem fl_X11_389 : fL RX11 389 11 51 .int false := ⟨RX11, TX11, 54, tyX11, cl11, Nat.le_of_ble_eq_true rfl, rfl, rfl, Or.inl (tG_of (List.mem_of_getElem? (i := 1219) (by decide +kernel)) (by decide +kernel))⟩
theorem fl_X11_392 : fL RX11 392 11 52 .int false := ⟨RX11, TX11, 54, tyX11, cl11, Nat.le_of_ble_eq_true rfl, rfl, rfl, Or.inl (tG_of (List.mem_of_getElem? (i := 1220) (by decide +kernel)) (by decide +kernel))⟩
theorem kdo_0_0 {a : Nat} (h : kD a = (10, 9)) : kD (a + 1) = (0, 60) := (by decide +kernel : ∀ a, a < nC → kD a = (10, 9) → kD (a + 1) = (0, 60)) a (kD_e h (by decide)) h
theorem kdo_0_1 {a : Nat} (h : kD a = (10, 9)) : kD (a + 2) = (0, 8) := (by decide +kernel : ∀ a, a < nC → kD a = (10, 9) → kD (a + 2) = (0, 8)) a (kD_e h (by decide)) h
theorem kdo_0_2 {a : Nat} (h : kD a = (10, 9)) : kD (a + 3) = (0, 8) := (by decide +kernel : ∀ a, a < nC → kD a = (10, 9) → kD (a + 3) = (0, 8)) a (kD_e h (by decide)) h
theorem kdo_1_1 {a : Nat} (h : kD a = (11, 7)) : kD (a + 1) = (0, 8) := (by decide +kernel : ∀ a, a < nC → kD a = (11, 7) → kD (a + 1) = (0, 8)) a (kD_e h (by decide)) h
theorem kdo_1_2 {a : Nat} (h : kD a = (11, 7)) : kD (a + 2) = (0, 8) := (by decide +kernel : ∀ a, a < nC → kD a = (11, 7) → kD (a + 2) = (0, 8)) a (kD_e h (by decide)) h
theorem kdo_1_3 {a : Nat} (h : kD a = (11, 7)) : kD (a + 3) = (0, 8) := (by decide +kernel : ∀ a, a < nC → kD a = (11, 7) → kD (a + 3) = (0, 8)) a (kD_e h (by decide)) h
theorem kdo_1_4 {a : Nat} (h : kD a = (11, 7)) : kD (a + 4) = (0, 72) := (by decide +kernel : ∀ a, a < nC → kD a = (11, 7) → kD (a + 4) = (0, 72)) a (kD_e h (by decide)) h
theorem kdo_3_0 {a : Nat} (h : kD a = (13, 3)) : kD (a + 1) = (0, 8) := (by decide +kernel : ∀ a, a < nC → kD a = (13, 3) → kD (a + 1) = (0, 8)) a (kD_e h (by decide)) h
theorem kdo_3_1 {a : Nat} (h : kD a = (13, 3)) : kD (a + 2) = (0, 8) := (by decide +kernel : ∀ a, a < nC → kD a = (13, 3) → kD (a + 2) = (0, 8)) a (kD_e h (by decide)) h
theorem kdo_7_0 {a : Nat} (h : kD a = (17, 2)) : kD (a + 1) = (0, 160) := (by decide +kernel : ∀ a, a < nC → kD a = (17, 2) → kD (a + 1) = (0, 160)) a (kD_e h (by decide)) h
theorem kA17 {i : Int} (h : 0 ≤ i ∧ i < aN 17) : kD (aE 17 i.toNat) = (13, 3) := (by decide +kernel : ∀ j, j < aN 17 → kD (aE 17 j) = (13, 3)) _ (by omega)
theorem kA36 {i : Int} (h : 0 ≤ i ∧ i < aN 36) : kD (aE 36 i.toNat) = (17, 2) := (by decide +kernel : ∀ j, j < aN 36 → kD (aE 36 j) = (17, 2)) _ (by omega)
theorem kc_X10_226 : Cond.constant RX10 226 (Int32.ofInt (-1000000)) ∈ tG := (tG_of (List.mem_of_getElem? (i := 776) (by decide +kernel)) (by decide +kernel))
theorem kc_X2_127 : Cond.constantLong RX2 127 (Int64.ofInt (-1000000)) ∈ tG := (tG_of (List.mem_of_getElem? (i := 618) (by decide +kernel)) (by decide +kernel))
theorem kc_X2_129 : Cond.constantLong RX2 129 (Int64.ofInt (1000000)) ∈ tG := (tG_of (List.mem_of_getElem? (i := 619) (by decide +kernel)) (by decide +kernel))
theorem kc_X6_37 : Cond.constant RX6 37 (Int32.ofInt (2147483647)) ∈ tG := (tG_of (List.mem_of_getElem? (i := 890) (by decide +kernel)) (by decide +kernel))
theorem kc_X11_188 : Cond.constantLong RX11 188 (Int64.ofInt (-1000000)) ∈ tG := (tG_of (List.mem_of_getElem? (i := 1531) (by decide +kernel)) (by decide +kernel))
theorem kc_X11_190 : Cond.constantLong RX11 190 (Int64.ofInt (1000000)) ∈ tG := (tG_of (List.mem_of_getElem? (i := 1532) (by decide +kernel)) (by decide +kernel))
theorem kc_X11_388 : Cond.constant RX11 388 (Int32.ofInt (-1000000)) ∈ tG := (tG_of (List.mem_of_getElem? (i := 1716) (by decide +kernel)) (by decide +kernel))
theorem kc_J6_265 : Cond.constant RJ6 265 (Int32.ofInt (1431655765)) ∈ tG := (tG_of (List.mem_of_getElem? (i := 950) (by decide +kernel)) (by decide +kernel))
theorem kc_J6_266 : Cond.constant RJ6 266 (Int32.ofInt (858993459)) ∈ tG := (tG_of (List.mem_of_getElem? (i := 951) (by decide +kernel)) (by decide +kernel))
theorem kc_J6_267 : Cond.constant RJ6 267 (Int32.ofInt (252645135)) ∈ tG := (tG_of (List.mem_of_getElem? (i := 952) (by decide +kernel)) (by decide +kernel))
theorem mc_X0_81 : mC RX0 81 := ⟨(tG_of (List.mem_of_getElem? (i := 757) (by decide +kernel)) (by decide +kernel)), (tG_of (List.mem_of_getElem? (i := 677) (by decide +kernel)) (by decide +kernel)), (tG_of (List.mem_of_getElem? (i := 676) (by decide +kernel)) (by decide +kernel)), (tG_of (List.mem_of_getElem? (i := 114) (by decide +kernel)) (by decide +kernel))⟩
theorem mc_X1_66 : mC RX1 66 := ⟨(tG_of (List.mem_of_getElem? (i := 1066) (by decide +kernel)) (by decide +kernel)), (tG_of (List.mem_of_getElem? (i := 677) (by decide +kernel)) (by decide +kernel)), (tG_of (List.mem_of_getElem? (i := 676) (by decide +kernel)) (by decide +kernel)), (tG_of (List.mem_of_getElem? (i := 114) (by decide +kernel)) (by decide +kernel))⟩
theorem mc_X7_19 : mC RX7 19 := ⟨(tG_of (List.mem_of_getElem? (i := 675) (by decide +kernel)) (by decide +kernel)), (tG_of (List.mem_of_getElem? (i := 677) (by decide +kernel)) (by decide +kernel)), (tG_of (List.mem_of_getElem? (i := 676) (by decide +kernel)) (by decide +kernel)), (tG_of (List.mem_of_getElem? (i := 114) (by decide +kernel)) (by decide +kernel))⟩
theorem mx_X1_79 : mW Lib.Math.max.name Lib.Math.max.code 2 .int RX1 79 := ⟨(tG_of (List.mem_of_getElem? (i := 852) (by decide +kernel)) (by decide +kernel)), (tG_of (List.mem_of_getElem? (i := 798) (by decide +kernel)) (by decide +kernel)), (tG_of (List.mem_of_getElem? (i := 113) (by decide +kernel)) (by decide +kernel)), (tG_of (List.mem_of_getElem? (i := 799) (by decide +kernel)) (by decide +kernel))⟩
theorem mx_X2_56 : mW Lib.Math.min.name Lib.Math.min.code 2 .int RX2 56 := ⟨(tG_of (List.mem_of_getElem? (i := 794) (by decide +kernel)) (by decide +kernel)), (tG_of (List.mem_of_getElem? (i := 795) (by decide +kernel)) (by decide +kernel)), (tG_of (List.mem_of_getElem? (i := 113) (by decide +kernel)) (by decide +kernel)), (tG_of (List.mem_of_getElem? (i := 796) (by decide +kernel)) (by decide +kernel))⟩
theorem mx_X2_62 : mW Lib.Math.max.name Lib.Math.max.code 2 .int RX2 62 := ⟨(tG_of (List.mem_of_getElem? (i := 797) (by decide +kernel)) (by decide +kernel)), (tG_of (List.mem_of_getElem? (i := 798) (by decide +kernel)) (by decide +kernel)), (tG_of (List.mem_of_getElem? (i := 113) (by decide +kernel)) (by decide +kernel)), (tG_of (List.mem_of_getElem? (i := 799) (by decide +kernel)) (by decide +kernel))⟩
theorem mx_X2_131 : mW Lib.MathLoose.min_long.x Lib.MathLoose.min_long.code 4 .long RX2 131 := ⟨(tG_of (List.mem_of_getElem? (i := 620) (by decide +kernel)) (by decide +kernel)), (tG_of (List.mem_of_getElem? (i := 621) (by decide +kernel)) (by decide +kernel)), (tG_of (List.mem_of_getElem? (i := 113) (by decide +kernel)) (by decide +kernel)), (tG_of (List.mem_of_getElem? (i := 622) (by decide +kernel)) (by decide +kernel))⟩
theorem mx_X2_134 : mW Lib.MathLoose.max_long.x Lib.MathLoose.max_long.code 4 .long RX2 134 := ⟨(tG_of (List.mem_of_getElem? (i := 623) (by decide +kernel)) (by decide +kernel)), (tG_of (List.mem_of_getElem? (i := 624) (by decide +kernel)) (by decide +kernel)), (tG_of (List.mem_of_getElem? (i := 113) (by decide +kernel)) (by decide +kernel)), (tG_of (List.mem_of_getElem? (i := 625) (by decide +kernel)) (by decide +kernel))⟩
theorem mx_X5_64 : mW Lib.Math.max.name Lib.Math.max.code 2 .int RX5 64 := ⟨(tG_of (List.mem_of_getElem? (i := 858) (by decide +kernel)) (by decide +kernel)), (tG_of (List.mem_of_getElem? (i := 798) (by decide +kernel)) (by decide +kernel)), (tG_of (List.mem_of_getElem? (i := 113) (by decide +kernel)) (by decide +kernel)), (tG_of (List.mem_of_getElem? (i := 799) (by decide +kernel)) (by decide +kernel))⟩
theorem mx_X6_85 : mW Lib.Math.max.name Lib.Math.max.code 2 .int RX6 85 := ⟨(tG_of (List.mem_of_getElem? (i := 917) (by decide +kernel)) (by decide +kernel)), (tG_of (List.mem_of_getElem? (i := 798) (by decide +kernel)) (by decide +kernel)), (tG_of (List.mem_of_getElem? (i := 113) (by decide +kernel)) (by decide +kernel)), (tG_of (List.mem_of_getElem? (i := 799) (by decide +kernel)) (by decide +kernel))⟩
theorem mx_X6_98 : mW Lib.Math.min.name Lib.Math.min.code 2 .int RX6 98 := ⟨(tG_of (List.mem_of_getElem? (i := 1083) (by decide +kernel)) (by decide +kernel)), (tG_of (List.mem_of_getElem? (i := 795) (by decide +kernel)) (by decide +kernel)), (tG_of (List.mem_of_getElem? (i := 113) (by decide +kernel)) (by decide +kernel)), (tG_of (List.mem_of_getElem? (i := 796) (by decide +kernel)) (by decide +kernel))⟩
theorem mx_X11_192 : mW Lib.MathLoose.min_long.x Lib.MathLoose.min_long.code 4 .long RX11 192 := ⟨(tG_of (List.mem_of_getElem? (i := 1533) (by decide +kernel)) (by decide +kernel)), (tG_of (List.mem_of_getElem? (i := 621) (by decide +kernel)) (by decide +kernel)), (tG_of (List.mem_of_getElem? (i := 113) (by decide +kernel)) (by decide +kernel)), (tG_of (List.mem_of_getElem? (i := 622) (by decide +kernel)) (by decide +kernel))⟩
theorem mx_X11_198 : mW Lib.MathLoose.max_long.x Lib.MathLoose.max_long.code 4 .long RX11 198 := ⟨(tG_of (List.mem_of_getElem? (i := 1534) (by decide +kernel)) (by decide +kernel)), (tG_of (List.mem_of_getElem? (i := 624) (by decide +kernel)) (by decide +kernel)), (tG_of (List.mem_of_getElem? (i := 113) (by decide +kernel)) (by decide +kernel)), (tG_of (List.mem_of_getElem? (i := 625) (by decide +kernel)) (by decide +kernel))⟩
theorem mx_X11_299 : mW Lib.Math.min.name Lib.Math.min.code 2 .int RX11 299 := ⟨(tG_of (List.mem_of_getElem? (i := 1535) (by decide +kernel)) (by decide +kernel)), (tG_of (List.mem_of_getElem? (i := 795) (by decide +kernel)) (by decide +kernel)), (tG_of (List.mem_of_getElem? (i := 113) (by decide +kernel)) (by decide +kernel)), (tG_of (List.mem_of_getElem? (i := 796) (by decide +kernel)) (by decide +kernel))⟩
theorem mx_X11_302 : mW Lib.Math.max.name Lib.Math.max.code 2 .int RX11 302 := ⟨(tG_of (List.mem_of_getElem? (i := 1536) (by decide +kernel)) (by decide +kernel)), (tG_of (List.mem_of_getElem? (i := 798) (by decide +kernel)) (by decide +kernel)), (tG_of (List.mem_of_getElem? (i := 113) (by decide +kernel)) (by decide +kernel)), (tG_of (List.mem_of_getElem? (i := 799) (by decide +kernel)) (by decide +kernel))⟩
end
section
abbrev mX0_clear : Mth := (yX0_clear, cX0_clear, 2, none)
theorem mi_X0_clear : Cond.instanceMethod yX0_clear ∈ tG ∧ Cond.selects yX0_clear.cls yX0_clear yX0_clear ∈ tG ∧ Cond.initialized yX0_clear.cls ∈ tG ∧ Cond.code yX0_clear cX0_clear 2 (none) ∈ tG ∧ (yX0_clear.cls ≠ "java/lang/invoke/MethodHandle" ∧ yX0_clear.cls ≠ "java/lang/invoke/VarHandle" ∧ (parseMethodDescriptor yX0_clear.desc).map (fun d => d.parameters.length) = some 0) ∧ 2 ≤ 60 := ⟨(tG_of (List.mem_of_getElem? (i := 199) (by decide +kernel)) (by decide +kernel)), (tG_of (List.mem_of_getElem? (i := 200) (by decide +kernel)) (by decide +kernel)), (tG_of (List.mem_of_getElem? (i := 105) (by decide +kernel)) (by decide +kernel)), (tG_of (List.mem_of_getElem? (i := 201) (by decide +kernel)) (by decide +kernel)), ⟨by decide, by decide, by decide +kernel⟩, by decide⟩
theorem mv_X10_150 : mV RX10 150 mX0_clear 0 := ⟨(tG_of (List.mem_of_getElem? (i := 662) (by decide +kernel)) (by decide +kernel)), mi_X0_clear⟩
theorem mv_X0_21 : mV RX0 21 mX0_clear 0 := ⟨(tG_of (List.mem_of_getElem? (i := 198) (by decide +kernel)) (by decide +kernel)), mi_X0_clear⟩
theorem dX0_clear_0 : decode cX0_clear 0 = .ok (.iconst 0, 1) := by decide +kernel
theorem dX0_clear_1 : decode cX0_clear 1 = .ok (.istore_n 1, 1) := by decide +kernel
theorem dX0_clear_2 : decode cX0_clear 2 = .ok (.iload_n 1, 1) := by decide +kernel
theorem dX0_clear_3 : decode cX0_clear 3 = .ok (.bipush 60, 2) := by decide +kernel
theorem dX0_clear_5 : decode cX0_clear 5 = .ok (.if_icmp .ge 16, 3) := by decide +kernel
theorem dX0_clear_8 : decode cX0_clear 8 = .ok (.aload_n 0, 1) := by decide +kernel
theorem dX0_clear_9 : decode cX0_clear 9 = .ok (.getfield 9, 3) := by decide +kernel
theorem dX0_clear_12 : decode cX0_clear 12 = .ok (.iload_n 1, 1) := by decide +kernel
theorem dX0_clear_13 : decode cX0_clear 13 = .ok (.iconst (-1), 1) := by decide +kernel
theorem dX0_clear_14 : decode cX0_clear 14 = .ok (.iastore, 1) := by decide +kernel
theorem dX0_clear_15 : decode cX0_clear 15 = .ok (.iinc 1 1, 3) := by decide +kernel
theorem dX0_clear_18 : decode cX0_clear 18 = .ok (.goto (-16), 3) := by decide +kernel
theorem dX0_clear_21 : decode cX0_clear 21 = .ok (.iconst 0, 1) := by decide +kernel
theorem dX0_clear_22 : decode cX0_clear 22 = .ok (.istore_n 1, 1) := by decide +kernel
theorem dX0_clear_23 : decode cX0_clear 23 = .ok (.iload_n 1, 1) := by decide +kernel
theorem dX0_clear_24 : decode cX0_clear 24 = .ok (.bipush 8, 2) := by decide +kernel
theorem dX0_clear_26 : decode cX0_clear 26 = .ok (.if_icmp .ge 23, 3) := by decide +kernel
theorem dX0_clear_29 : decode cX0_clear 29 = .ok (.aload_n 0, 1) := by decide +kernel
theorem dX0_clear_30 : decode cX0_clear 30 = .ok (.getfield 15, 3) := by decide +kernel
theorem dX0_clear_33 : decode cX0_clear 33 = .ok (.iload_n 1, 1) := by decide +kernel
theorem dX0_clear_34 : decode cX0_clear 34 = .ok (.iconst (-1), 1) := by decide +kernel
theorem dX0_clear_35 : decode cX0_clear 35 = .ok (.iastore, 1) := by decide +kernel
theorem dX0_clear_36 : decode cX0_clear 36 = .ok (.aload_n 0, 1) := by decide +kernel
theorem dX0_clear_37 : decode cX0_clear 37 = .ok (.getfield 18, 3) := by decide +kernel
theorem dX0_clear_40 : decode cX0_clear 40 = .ok (.iload_n 1, 1) := by decide +kernel
theorem dX0_clear_41 : decode cX0_clear 41 = .ok (.iconst 3, 1) := by decide +kernel
theorem dX0_clear_42 : decode cX0_clear 42 = .ok (.iastore, 1) := by decide +kernel
theorem dX0_clear_43 : decode cX0_clear 43 = .ok (.iinc 1 1, 3) := by decide +kernel
theorem dX0_clear_46 : decode cX0_clear 46 = .ok (.goto (-23), 3) := by decide +kernel
theorem dX0_clear_49 : decode cX0_clear 49 = .ok (.aload_n 0, 1) := by decide +kernel
theorem dX0_clear_50 : decode cX0_clear 50 = .ok (.iconst (-1), 1) := by decide +kernel
theorem dX0_clear_51 : decode cX0_clear 51 = .ok (.putfield 24, 3) := by decide +kernel
theorem dX0_clear_54 : decode cX0_clear 54 = .ok (.aload_n 0, 1) := by decide +kernel
theorem dX0_clear_55 : decode cX0_clear 55 = .ok (.iconst 0, 1) := by decide +kernel
theorem dX0_clear_56 : decode cX0_clear 56 = .ok (.putfield 28, 3) := by decide +kernel
theorem dX0_clear_59 : decode cX0_clear 59 = .ok (.aload_n 0, 1) := by decide +kernel
theorem dX0_clear_60 : decode cX0_clear 60 = .ok (.iconst 0, 1) := by decide +kernel
theorem dX0_clear_61 : decode cX0_clear 61 = .ok (.putfield 31, 3) := by decide +kernel
theorem dX0_clear_64 : decode cX0_clear 64 = .ok (.aload_n 0, 1) := by decide +kernel
theorem dX0_clear_65 : decode cX0_clear 65 = .ok (.iconst 0, 1) := by decide +kernel
theorem dX0_clear_66 : decode cX0_clear 66 = .ok (.putfield 34, 3) := by decide +kernel
theorem dX0_clear_69 : decode cX0_clear 69 = .ok (.aload_n 0, 1) := by decide +kernel
theorem dX0_clear_70 : decode cX0_clear 70 = .ok (.iconst 1, 1) := by decide +kernel
theorem dX0_clear_71 : decode cX0_clear 71 = .ok (.putfield 37, 3) := by decide +kernel
theorem dX0_clear_74 : decode cX0_clear 74 = .ok (.return_, 1) := by decide +kernel
def X0_clear_L2 (l0 : Nat) (k21 : Mm → Rs) : Nat → Int → Mm → Rs
  | 0, _, _ => none
  | n + 1, l1, μ => if 60 ≤ l1 then (k21 μ) else (stA μ (l0 + 1) l1 (-1) fun μ2 => X0_clear_L2 l0 k21 n (iA l1 1) μ2)
def X0_clear_L23 (l0 : Nat) (k49 : Mm → Rs) : Nat → Int → Mm → Rs
  | 0, _, _ => none
  | n + 1, l1, μ => if 8 ≤ l1 then (k49 μ) else (stA μ (l0 + 2) l1 (-1) fun μ6 => stA μ6 (l0 + 3) l1 3 fun μ8 => X0_clear_L23 l0 k49 n (iA l1 1) μ8)
def X0_clear (l0 : Nat) (μ : Mm) : Rs := X0_clear_L2 l0 (fun μ4 => X0_clear_L23 l0 (fun μ10 => sF μ10 l0 3 (-1) fun μ11 => sF μ11 l0 4 0 fun μ12 => sF μ12 l0 5 0 fun μ13 => sF μ13 l0 6 0 fun μ14 => sF μ14 l0 7 1 fun μ15 => some (0, μ15)) FU 0 μ4) FU 0 μ
set_option maxHeartbeats 4000000 in
set_option maxRecDepth 100000 in
theorem kX0_clear_L2 (d : Nat) (hd : 1 ≤ d) {l0 : Nat} (hk0 : kD l0 = (10, 9)) {k21 : Mm → Rs} {r : Int} {μ' : Mm} (hk_21 : ∀ (μ1 : Mm), k21 μ1 = some (r, μ') → VV d mX0_clear 21 [some (vR l0), none] [] μ1 r μ') : ∀ (n : Nat) {l1 : Int} {μ : Mm}, X0_clear_L2 l0 k21 n l1 μ = some (r, μ') → VV d mX0_clear 2 [some (vR l0), some (vI l1)] [] μ r μ' := by
  intro n
  induction n with
  | zero => intro l1 μ h; rw [X0_clear_L2] at h; cases h
  | succ n ih =>
    intro l1 μ h
    rw [X0_clear_L2] at h
    refine V_iload_n (q := 3) dX0_clear_2 rfl rfl rfl ?_
    refine V_bipush (q := 5) dX0_clear_3 rfl rfl rfl ?_
    refine V_icmpge (q := 21) (q2 := 8) dX0_clear_5 (by decide) rfl (fun hc1 => ?_) (fun hc1 => ?_)
    · have h := ifT hc1 h
      exact V_weak (hk_21 _ h) (sb_s rfl (sb_n sb_0))
    · have h := ifF hc1 h
      refine V_aload_n (q := 9) dX0_clear_8 rfl rfl rfl ?_
      refine V_getO (q := 12) (t := _) fl_X0_9 hk0 rfl rfl rfl dX0_clear_9 rfl ?_
      refine V_iload_n (q := 13) dX0_clear_12 rfl rfl rfl ?_
      refine V_iconst (q := 14) dX0_clear_13 rfl rfl ?_
      obtain ⟨hi3, h⟩ := stA_i h
      refine V_iastore (q := 15) (kdo_0_0 hk0) hi3 dX0_clear_14 rfl ?_
      refine V_iinc (q := 18) dX0_clear_15 rfl (Nat.le_of_ble_eq_true rfl) trivial rfl ?_
      refine V_goto (q := 2) dX0_clear_18 (by decide) ?_
      exact V_weak (ih h) (sb_s rfl (sb_s rfl sb_0))
set_option maxHeartbeats 4000000 in
set_option maxRecDepth 100000 in
theorem kX0_clear_L23 (d : Nat) (hd : 1 ≤ d) {l0 : Nat} (hk0 : kD l0 = (10, 9)) {k49 : Mm → Rs} {r : Int} {μ' : Mm} (hk_49 : ∀ (μ1 : Mm), k49 μ1 = some (r, μ') → VV d mX0_clear 49 [some (vR l0), none] [] μ1 r μ') : ∀ (n : Nat) {l1 : Int} {μ : Mm}, X0_clear_L23 l0 k49 n l1 μ = some (r, μ') → VV d mX0_clear 23 [some (vR l0), some (vI l1)] [] μ r μ' := by
  intro n
  induction n with
  | zero => intro l1 μ h; rw [X0_clear_L23] at h; cases h
  | succ n ih =>
    intro l1 μ h
    rw [X0_clear_L23] at h
    refine V_iload_n (q := 24) dX0_clear_23 rfl rfl rfl ?_
    refine V_bipush (q := 26) dX0_clear_24 rfl rfl rfl ?_
    refine V_icmpge (q := 49) (q2 := 29) dX0_clear_26 (by decide) rfl (fun hc5 => ?_) (fun hc5 => ?_)
    · have h := ifT hc5 h
      exact V_weak (hk_49 _ h) (sb_s rfl (sb_n sb_0))
    · have h := ifF hc5 h
      refine V_aload_n (q := 30) dX0_clear_29 rfl rfl rfl ?_
      refine V_getO (q := 33) (t := _) fl_X0_15 hk0 rfl rfl rfl dX0_clear_30 rfl ?_
      refine V_iload_n (q := 34) dX0_clear_33 rfl rfl rfl ?_
      refine V_iconst (q := 35) dX0_clear_34 rfl rfl ?_
      obtain ⟨hi7, h⟩ := stA_i h
      refine V_iastore (q := 36) (kdo_0_1 hk0) hi7 dX0_clear_35 rfl ?_
      refine V_aload_n (q := 37) dX0_clear_36 rfl rfl rfl ?_
      refine V_getO (q := 40) (t := _) fl_X0_18 hk0 rfl rfl rfl dX0_clear_37 rfl ?_
      refine V_iload_n (q := 41) dX0_clear_40 rfl rfl rfl ?_
      refine V_iconst (q := 42) dX0_clear_41 rfl rfl ?_
      obtain ⟨hi9, h⟩ := stA_i h
      refine V_iastore (q := 43) (kdo_0_2 hk0) hi9 dX0_clear_42 rfl ?_
      refine V_iinc (q := 46) dX0_clear_43 rfl (Nat.le_of_ble_eq_true rfl) trivial rfl ?_
      refine V_goto (q := 23) dX0_clear_46 (by decide) ?_
      exact V_weak (ih h) (sb_s rfl (sb_s rfl sb_0))
set_option maxHeartbeats 4000000 in
set_option maxRecDepth 100000 in
theorem kX0_clear (d : Nat) (hd : 1 ≤ d) {l0 : Nat} (hk0 : kD l0 = (10, 9)) {μ : Mm} {r : Int} {μ' : Mm} (h : X0_clear l0 μ = some (r, μ')) : CC d mX0_clear [vR l0] μ r μ' := by
  unfold X0_clear at h
  refine V_enter (by decide) (Nat.le_of_ble_eq_true rfl) ?_
  show VV d mX0_clear 0 [some (vR l0), none] [] μ r μ'
  refine V_iconst (q := 1) dX0_clear_0 rfl rfl ?_
  refine V_istore_n (q := 2) dX0_clear_1 rfl (Nat.le_of_ble_eq_true rfl) trivial rfl ?_
  refine V_weak (kX0_clear_L2 d hd hk0 (fun μ4 h => ?_) FU h) (sb_s rfl (sb_s rfl sb_0))
  refine V_iconst (q := 22) dX0_clear_21 rfl rfl ?_
  refine V_istore_n (q := 23) dX0_clear_22 rfl (Nat.le_of_ble_eq_true rfl) trivial rfl ?_
  refine V_weak (kX0_clear_L23 d hd hk0 (fun μ10 h => ?_) FU h) (sb_s rfl (sb_s rfl sb_0))
  refine V_aload_n (q := 50) dX0_clear_49 rfl rfl rfl ?_
  refine V_iconst (q := 51) dX0_clear_50 rfl rfl ?_
  have h := sF_i h
  refine V_putI (q := 54) fl_X0_24 hk0 rfl rfl dX0_clear_51 rfl ?_
  refine V_aload_n (q := 55) dX0_clear_54 rfl rfl rfl ?_
  refine V_iconst (q := 56) dX0_clear_55 rfl rfl ?_
  have h := sF_i h
  refine V_putI (q := 59) fl_X0_28 hk0 rfl rfl dX0_clear_56 rfl ?_
  refine V_aload_n (q := 60) dX0_clear_59 rfl rfl rfl ?_
  refine V_iconst (q := 61) dX0_clear_60 rfl rfl ?_
  have h := sF_i h
  refine V_putI (q := 64) fl_X0_31 hk0 rfl rfl dX0_clear_61 rfl ?_
  refine V_aload_n (q := 65) dX0_clear_64 rfl rfl rfl ?_
  refine V_iconst (q := 66) dX0_clear_65 rfl rfl ?_
  have h := sF_i h
  refine V_putI (q := 69) fl_X0_34 hk0 rfl rfl dX0_clear_66 rfl ?_
  refine V_aload_n (q := 70) dX0_clear_69 rfl rfl rfl ?_
  refine V_iconst (q := 71) dX0_clear_70 rfl rfl ?_
  have h := sF_i h
  refine V_putI (q := 74) fl_X0_37 hk0 rfl rfl dX0_clear_71 rfl ?_
  exact V_vret rfl h dX0_clear_74
abbrev mX0_stands : Mth := (yX0_stands, cX0_stands, 1, some .boolean)
theorem mi_X0_stands : Cond.instanceMethod yX0_stands ∈ tG ∧ Cond.selects yX0_stands.cls yX0_stands yX0_stands ∈ tG ∧ Cond.initialized yX0_stands.cls ∈ tG ∧ Cond.code yX0_stands cX0_stands 1 (some .boolean) ∈ tG ∧ (yX0_stands.cls ≠ "java/lang/invoke/MethodHandle" ∧ yX0_stands.cls ≠ "java/lang/invoke/VarHandle" ∧ (parseMethodDescriptor yX0_stands.desc).map (fun d => d.parameters.length) = some 0) ∧ 1 ≤ 60 := ⟨(tG_of (List.mem_of_getElem? (i := 716) (by decide +kernel)) (by decide +kernel)), (tG_of (List.mem_of_getElem? (i := 717) (by decide +kernel)) (by decide +kernel)), (tG_of (List.mem_of_getElem? (i := 105) (by decide +kernel)) (by decide +kernel)), (tG_of (List.mem_of_getElem? (i := 718) (by decide +kernel)) (by decide +kernel)), ⟨by decide, by decide, by decide +kernel⟩, by decide⟩
theorem mv_X10_204 : mV RX10 204 mX0_stands 0 := ⟨(tG_of (List.mem_of_getElem? (i := 752) (by decide +kernel)) (by decide +kernel)), mi_X0_stands⟩
theorem mv_X0_90 : mV RX0 90 mX0_stands 0 := ⟨(tG_of (List.mem_of_getElem? (i := 715) (by decide +kernel)) (by decide +kernel)), mi_X0_stands⟩
theorem dX0_stands_0 : decode cX0_stands 0 = .ok (.aload_n 0, 1) := by decide +kernel
theorem dX0_stands_1 : decode cX0_stands 1 = .ok (.getfield 28, 3) := by decide +kernel
theorem dX0_stands_4 : decode cX0_stands 4 = .ok (.ifCond .le 7, 3) := by decide +kernel
theorem dX0_stands_7 : decode cX0_stands 7 = .ok (.iconst 1, 1) := by decide +kernel
theorem dX0_stands_8 : decode cX0_stands 8 = .ok (.goto 4, 3) := by decide +kernel
theorem dX0_stands_11 : decode cX0_stands 11 = .ok (.iconst 0, 1) := by decide +kernel
theorem dX0_stands_12 : decode cX0_stands 12 = .ok (.ireturn, 1) := by decide +kernel
def X0_stands (l0 : Nat) (μ : Mm) : Rs := if (μ l0 4) ≤ 0 then (some (0, μ)) else (some (1, μ))
set_option maxHeartbeats 4000000 in
set_option maxRecDepth 100000 in
theorem kX0_stands (d : Nat) (hd : 1 ≤ d) {l0 : Nat} (hk0 : kD l0 = (10, 9)) {μ : Mm} {r : Int} {μ' : Mm} (h : X0_stands l0 μ = some (r, μ')) : CC d mX0_stands [vR l0] μ r μ' := by
  unfold X0_stands at h
  refine V_enter (by decide) (Nat.le_of_ble_eq_true rfl) ?_
  show VV d mX0_stands 0 [some (vR l0)] [] μ r μ'
  refine V_aload_n (q := 1) dX0_stands_0 rfl rfl rfl ?_
  refine V_getI (q := 4) fl_X0_28 hk0 rfl rfl dX0_stands_1 rfl ?_
  refine V_ifle (q := 11) (q2 := 7) dX0_stands_4 (by decide) rfl (fun hc1 => ?_) (fun hc1 => ?_)
  · have h := ifT hc1 h
    refine V_iconst (q := 12) dX0_stands_11 rfl rfl ?_
    exact V_zret rfl (Or.inl rfl) h dX0_stands_12
  · have h := ifF hc1 h
    refine V_iconst (q := 8) dX0_stands_7 rfl rfl ?_
    refine V_goto (q := 12) dX0_stands_8 (by decide) ?_
    exact V_zret rfl (Or.inr rfl) h dX0_stands_12
abbrev mX4_peek : Mth := (yX4_peek, cX4_peek, 1, some .int)
theorem mi_X4_peek : Cond.instanceMethod yX4_peek ∈ tG ∧ Cond.selects yX4_peek.cls yX4_peek yX4_peek ∈ tG ∧ Cond.initialized yX4_peek.cls ∈ tG ∧ Cond.code yX4_peek cX4_peek 1 (some .int) ∈ tG ∧ (yX4_peek.cls ≠ "java/lang/invoke/MethodHandle" ∧ yX4_peek.cls ≠ "java/lang/invoke/VarHandle" ∧ (parseMethodDescriptor yX4_peek.desc).map (fun d => d.parameters.length) = some 0) ∧ 1 ≤ 60 := ⟨(tG_of (List.mem_of_getElem? (i := 525) (by decide +kernel)) (by decide +kernel)), (tG_of (List.mem_of_getElem? (i := 526) (by decide +kernel)) (by decide +kernel)), (tG_of (List.mem_of_getElem? (i := 103) (by decide +kernel)) (by decide +kernel)), (tG_of (List.mem_of_getElem? (i := 527) (by decide +kernel)) (by decide +kernel)), ⟨by decide, by decide, by decide +kernel⟩, by decide⟩
theorem mv_X0_63 : mV RX0 63 mX4_peek 0 := ⟨(tG_of (List.mem_of_getElem? (i := 524) (by decide +kernel)) (by decide +kernel)), mi_X4_peek⟩
theorem mv_X2_87 : mV RX2 87 mX4_peek 0 := ⟨(tG_of (List.mem_of_getElem? (i := 593) (by decide +kernel)) (by decide +kernel)), mi_X4_peek⟩
theorem mv_X3_38 : mV RX3 38 mX4_peek 0 := ⟨(tG_of (List.mem_of_getElem? (i := 565) (by decide +kernel)) (by decide +kernel)), mi_X4_peek⟩
theorem mv_X4_31 : mV RX4 31 mX4_peek 0 := ⟨(tG_of (List.mem_of_getElem? (i := 551) (by decide +kernel)) (by decide +kernel)), mi_X4_peek⟩
theorem dX4_peek_0 : decode cX4_peek 0 = .ok (.aload_n 0, 1) := by decide +kernel
theorem dX4_peek_1 : decode cX4_peek 1 = .ok (.getfield 15, 3) := by decide +kernel
theorem dX4_peek_4 : decode cX4_peek 4 = .ok (.iconst (-1), 1) := by decide +kernel
theorem dX4_peek_5 : decode cX4_peek 5 = .ok (.if_icmp .eq 5, 3) := by decide +kernel
theorem dX4_peek_8 : decode cX4_peek 8 = .ok (.iconst (-1), 1) := by decide +kernel
theorem dX4_peek_9 : decode cX4_peek 9 = .ok (.ireturn, 1) := by decide +kernel
theorem dX4_peek_10 : decode cX4_peek 10 = .ok (.aload_n 0, 1) := by decide +kernel
theorem dX4_peek_11 : decode cX4_peek 11 = .ok (.getfield 19, 3) := by decide +kernel
theorem dX4_peek_14 : decode cX4_peek 14 = .ok (.aload_n 0, 1) := by decide +kernel
theorem dX4_peek_15 : decode cX4_peek 15 = .ok (.getfield 9, 3) := by decide +kernel
theorem dX4_peek_18 : decode cX4_peek 18 = .ok (.getfield 22, 3) := by decide +kernel
theorem dX4_peek_21 : decode cX4_peek 21 = .ok (.if_icmp .ge 33, 3) := by decide +kernel
theorem dX4_peek_24 : decode cX4_peek 24 = .ok (.aload_n 0, 1) := by decide +kernel
theorem dX4_peek_25 : decode cX4_peek 25 = .ok (.getfield 9, 3) := by decide +kernel
theorem dX4_peek_28 : decode cX4_peek 28 = .ok (.getfield 27, 3) := by decide +kernel
theorem dX4_peek_31 : decode cX4_peek 31 = .ok (.aload_n 0, 1) := by decide +kernel
theorem dX4_peek_32 : decode cX4_peek 32 = .ok (.getfield 19, 3) := by decide +kernel
theorem dX4_peek_35 : decode cX4_peek 35 = .ok (.iaload, 1) := by decide +kernel
theorem dX4_peek_36 : decode cX4_peek 36 = .ok (.bipush 32, 2) := by decide +kernel
theorem dX4_peek_38 : decode cX4_peek 38 = .ok (.if_icmp .ne 16, 3) := by decide +kernel
theorem dX4_peek_41 : decode cX4_peek 41 = .ok (.aload_n 0, 1) := by decide +kernel
theorem dX4_peek_42 : decode cX4_peek 42 = .ok (.dup, 1) := by decide +kernel
theorem dX4_peek_43 : decode cX4_peek 43 = .ok (.getfield 19, 3) := by decide +kernel
theorem dX4_peek_46 : decode cX4_peek 46 = .ok (.iconst 1, 1) := by decide +kernel
theorem dX4_peek_47 : decode cX4_peek 47 = .ok (.iadd, 1) := by decide +kernel
theorem dX4_peek_48 : decode cX4_peek 48 = .ok (.putfield 19, 3) := by decide +kernel
theorem dX4_peek_51 : decode cX4_peek 51 = .ok (.goto (-41), 3) := by decide +kernel
theorem dX4_peek_54 : decode cX4_peek 54 = .ok (.aload_n 0, 1) := by decide +kernel
theorem dX4_peek_55 : decode cX4_peek 55 = .ok (.getfield 19, 3) := by decide +kernel
theorem dX4_peek_58 : decode cX4_peek 58 = .ok (.aload_n 0, 1) := by decide +kernel
theorem dX4_peek_59 : decode cX4_peek 59 = .ok (.getfield 9, 3) := by decide +kernel
theorem dX4_peek_62 : decode cX4_peek 62 = .ok (.getfield 22, 3) := by decide +kernel
theorem dX4_peek_65 : decode cX4_peek 65 = .ok (.if_icmp .ge 18, 3) := by decide +kernel
theorem dX4_peek_68 : decode cX4_peek 68 = .ok (.aload_n 0, 1) := by decide +kernel
theorem dX4_peek_69 : decode cX4_peek 69 = .ok (.getfield 9, 3) := by decide +kernel
theorem dX4_peek_72 : decode cX4_peek 72 = .ok (.getfield 27, 3) := by decide +kernel
theorem dX4_peek_75 : decode cX4_peek 75 = .ok (.aload_n 0, 1) := by decide +kernel
theorem dX4_peek_76 : decode cX4_peek 76 = .ok (.getfield 19, 3) := by decide +kernel
theorem dX4_peek_79 : decode cX4_peek 79 = .ok (.iaload, 1) := by decide +kernel
theorem dX4_peek_80 : decode cX4_peek 80 = .ok (.goto 4, 3) := by decide +kernel
theorem dX4_peek_83 : decode cX4_peek 83 = .ok (.iconst (-1), 1) := by decide +kernel
theorem dX4_peek_84 : decode cX4_peek 84 = .ok (.ireturn, 1) := by decide +kernel
def X4_peek_L10 (k54 : Mm → Rs) : Nat → Mm → Rs
  | 0, _ => none
  | n + 1, μ => mR μ 3 0 (17, 2) fun v2 => if (μ v2 1) ≤ (μ 3 1) then (k54 μ) else (mR μ 3 0 (17, 2) fun v5 => ldA μ (v5 + 1) (μ 3 1) fun v7 => if v7 = 32 then (sF μ 3 1 (iA (μ 3 1) 1) fun μ10 => X4_peek_L10 k54 n μ10) else (k54 μ))
def X4_peek_J54 (μ : Mm) : Rs := mR μ 3 0 (17, 2) fun v12 => if (μ v12 1) ≤ (μ 3 1) then (some ((-1), μ)) else (mR μ 3 0 (17, 2) fun v15 => ldA μ (v15 + 1) (μ 3 1) fun v17 => some (v17, μ))
def X4_peek (μ : Mm) : Rs := if (μ 3 2) = (-1) then (X4_peek_L10 (fun μ11 => X4_peek_J54 μ11) FU μ) else (some ((-1), μ))
set_option maxHeartbeats 4000000 in
set_option maxRecDepth 100000 in
theorem kX4_peek_L10 (d : Nat) (hd : 1 ≤ d) {k54 : Mm → Rs} {r : Int} {μ' : Mm} (hk_54 : ∀ (μ1 : Mm), k54 μ1 = some (r, μ') → VV d mX4_peek 54 [some (vR 3)] [] μ1 r μ') : ∀ (n : Nat) {μ : Mm}, X4_peek_L10 k54 n μ = some (r, μ') → VV d mX4_peek 10 [some (vR 3)] [] μ r μ' := by
  intro n
  induction n with
  | zero => intro μ h; rw [X4_peek_L10] at h; cases h
  | succ n ih =>
    intro μ h
    rw [X4_peek_L10] at h
    refine V_aload_n (q := 11) dX4_peek_10 rfl rfl rfl ?_
    refine V_getI (q := 14) fl_X4_19 rfl rfl rfl dX4_peek_11 rfl ?_
    refine V_aload_n (q := 15) dX4_peek_14 rfl rfl rfl ?_
    obtain ⟨hm3, h⟩ := mR_i h
    refine V_getM (q := 18) fl_X4_9 rfl rfl rfl dX4_peek_15 rfl ?_
    refine V_getI (q := 21) fl_X4_22 hm3 rfl rfl dX4_peek_18 rfl ?_
    refine V_icmpge (q := 54) (q2 := 24) dX4_peek_21 (by decide) rfl (fun hc4 => ?_) (fun hc4 => ?_)
    · have h := ifT hc4 h
      exact V_weak (hk_54 _ h) (sb_s rfl sb_0)
    · have h := ifF hc4 h
      refine V_aload_n (q := 25) dX4_peek_24 rfl rfl rfl ?_
      obtain ⟨hm6, h⟩ := mR_i h
      refine V_getM (q := 28) fl_X4_9 rfl rfl rfl dX4_peek_25 rfl ?_
      refine V_getO (q := 31) (t := _) fl_X4_27 hm6 rfl rfl rfl dX4_peek_28 rfl ?_
      refine V_aload_n (q := 32) dX4_peek_31 rfl rfl rfl ?_
      refine V_getI (q := 35) fl_X4_19 rfl rfl rfl dX4_peek_32 rfl ?_
      obtain ⟨hi8, h⟩ := ldA_i h
      refine V_iaload (q := 36) (kdo_7_0 hm6) hi8 dX4_peek_35 rfl ?_
      refine V_bipush (q := 38) dX4_peek_36 rfl rfl rfl ?_
      refine V_icmpne (q := 54) (q2 := 41) dX4_peek_38 (by decide) rfl (fun hc9 => ?_) (fun hc9 => ?_)
      · have h := ifF hc9 h
        exact V_weak (hk_54 _ h) (sb_s rfl sb_0)
      · have h := ifT hc9 h
        refine V_aload_n (q := 42) dX4_peek_41 rfl rfl rfl ?_
        refine V_dup (q := 43) dX4_peek_42 trivial rfl ?_
        refine V_getI (q := 46) fl_X4_19 rfl rfl rfl dX4_peek_43 rfl ?_
        refine V_iconst (q := 47) dX4_peek_46 rfl rfl ?_
        refine V_iadd (q := 48) dX4_peek_47 rfl ?_
        have h := sF_i h
        refine V_putI (q := 51) fl_X4_19 rfl rfl rfl dX4_peek_48 rfl ?_
        refine V_goto (q := 10) dX4_peek_51 (by decide) ?_
        exact V_weak (ih h) (sb_s rfl sb_0)
set_option maxHeartbeats 4000000 in
set_option maxRecDepth 100000 in
theorem kX4_peek_J54 (d : Nat) (hd : 1 ≤ d) {μ : Mm} {r : Int} {μ' : Mm} (h : X4_peek_J54 μ = some (r, μ')) : VV d mX4_peek 54 [some (vR 3)] [] μ r μ' := by
  unfold X4_peek_J54 at h
  refine V_aload_n (q := 55) dX4_peek_54 rfl rfl rfl ?_
  refine V_getI (q := 58) fl_X4_19 rfl rfl rfl dX4_peek_55 rfl ?_
  refine V_aload_n (q := 59) dX4_peek_58 rfl rfl rfl ?_
  obtain ⟨hm13, h⟩ := mR_i h
  refine V_getM (q := 62) fl_X4_9 rfl rfl rfl dX4_peek_59 rfl ?_
  refine V_getI (q := 65) fl_X4_22 hm13 rfl rfl dX4_peek_62 rfl ?_
  refine V_icmpge (q := 83) (q2 := 68) dX4_peek_65 (by decide) rfl (fun hc14 => ?_) (fun hc14 => ?_)
  · have h := ifT hc14 h
    refine V_iconst (q := 84) dX4_peek_83 rfl rfl ?_
    exact V_iret rfl h dX4_peek_84
  · have h := ifF hc14 h
    refine V_aload_n (q := 69) dX4_peek_68 rfl rfl rfl ?_
    obtain ⟨hm16, h⟩ := mR_i h
    refine V_getM (q := 72) fl_X4_9 rfl rfl rfl dX4_peek_69 rfl ?_
    refine V_getO (q := 75) (t := _) fl_X4_27 hm16 rfl rfl rfl dX4_peek_72 rfl ?_
    refine V_aload_n (q := 76) dX4_peek_75 rfl rfl rfl ?_
    refine V_getI (q := 79) fl_X4_19 rfl rfl rfl dX4_peek_76 rfl ?_
    obtain ⟨hi18, h⟩ := ldA_i h
    refine V_iaload (q := 80) (kdo_7_0 hm16) hi18 dX4_peek_79 rfl ?_
    refine V_goto (q := 84) dX4_peek_80 (by decide) ?_
    exact V_iret rfl h dX4_peek_84
set_option maxHeartbeats 4000000 in
set_option maxRecDepth 100000 in
theorem kX4_peek (d : Nat) (hd : 1 ≤ d) {μ : Mm} {r : Int} {μ' : Mm} (h : X4_peek μ = some (r, μ')) : CC d mX4_peek [vR 3] μ r μ' := by
  unfold X4_peek at h
  refine V_enter (by decide) (Nat.le_of_ble_eq_true rfl) ?_
  show VV d mX4_peek 0 [some (vR 3)] [] μ r μ'
  refine V_aload_n (q := 1) dX4_peek_0 rfl rfl rfl ?_
  refine V_getI (q := 4) fl_X4_15 rfl rfl rfl dX4_peek_1 rfl ?_
  refine V_iconst (q := 5) dX4_peek_4 rfl rfl ?_
  refine V_icmpeq (q := 10) (q2 := 8) dX4_peek_5 (by decide) rfl (fun hc1 => ?_) (fun hc1 => ?_)
  · have h := ifT hc1 h
    refine V_weak (kX4_peek_L10 d hd (fun μ11 h => ?_) FU h) (sb_s rfl sb_0)
    exact V_weak (kX4_peek_J54 d hd h) (sb_s rfl sb_0)
  · have h := ifF hc1 h
    refine V_iconst (q := 9) dX4_peek_8 rfl rfl ?_
    exact V_iret rfl h dX4_peek_9
abbrev mX0_cellOf : Mth := (yX0_cellOf, cX0_cellOf, 1, some .int)
theorem mi_X0_cellOf : Cond.static yX0_cellOf ∈ tG ∧ Cond.initialized yX0_cellOf.cls ∈ tG ∧ Cond.code yX0_cellOf cX0_cellOf 1 (some .int) ∈ tG ∧ (yX0_cellOf.cls ≠ "java/lang/invoke/MethodHandle" ∧ yX0_cellOf.cls ≠ "java/lang/invoke/VarHandle" ∧ (parseMethodDescriptor yX0_cellOf.desc).map (fun d => d.parameters.length) = some 1) ∧ 1 ≤ 60 := ⟨(tG_of (List.mem_of_getElem? (i := 529) (by decide +kernel)) (by decide +kernel)), (tG_of (List.mem_of_getElem? (i := 105) (by decide +kernel)) (by decide +kernel)), (tG_of (List.mem_of_getElem? (i := 530) (by decide +kernel)) (by decide +kernel)), ⟨by decide, by decide, by decide +kernel⟩, by decide⟩
theorem mv_X0_67 : mS RX0 67 mX0_cellOf 1 := ⟨(tG_of (List.mem_of_getElem? (i := 528) (by decide +kernel)) (by decide +kernel)), mi_X0_cellOf.1, (tG_of (List.mem_of_getElem? (i := 105) (by decide +kernel)) (by decide +kernel)), mi_X0_cellOf.2⟩
theorem dX0_cellOf_0 : decode cX0_cellOf 0 = .ok (.iload_n 0, 1) := by decide +kernel
theorem dX0_cellOf_1 : decode cX0_cellOf 1 = .ok (.lookupswitch 41 #[(35, 37), (42, 39), (46, 35)], 35) := by decide +kernel
theorem dX0_cellOf_36 : decode cX0_cellOf 36 = .ok (.iconst 0, 1) := by decide +kernel
theorem dX0_cellOf_37 : decode cX0_cellOf 37 = .ok (.ireturn, 1) := by decide +kernel
theorem dX0_cellOf_38 : decode cX0_cellOf 38 = .ok (.iconst 1, 1) := by decide +kernel
theorem dX0_cellOf_39 : decode cX0_cellOf 39 = .ok (.ireturn, 1) := by decide +kernel
theorem dX0_cellOf_40 : decode cX0_cellOf 40 = .ok (.iconst 2, 1) := by decide +kernel
theorem dX0_cellOf_41 : decode cX0_cellOf 41 = .ok (.ireturn, 1) := by decide +kernel
theorem dX0_cellOf_42 : decode cX0_cellOf 42 = .ok (.iload_n 0, 1) := by decide +kernel
theorem dX0_cellOf_43 : decode cX0_cellOf 43 = .ok (.bipush 65, 2) := by decide +kernel
theorem dX0_cellOf_45 : decode cX0_cellOf 45 = .ok (.if_icmp .lt 18, 3) := by decide +kernel
theorem dX0_cellOf_48 : decode cX0_cellOf 48 = .ok (.iload_n 0, 1) := by decide +kernel
theorem dX0_cellOf_49 : decode cX0_cellOf 49 = .ok (.bipush 72, 2) := by decide +kernel
theorem dX0_cellOf_51 : decode cX0_cellOf 51 = .ok (.if_icmp .gt 12, 3) := by decide +kernel
theorem dX0_cellOf_54 : decode cX0_cellOf 54 = .ok (.iconst 3, 1) := by decide +kernel
theorem dX0_cellOf_55 : decode cX0_cellOf 55 = .ok (.iload_n 0, 1) := by decide +kernel
theorem dX0_cellOf_56 : decode cX0_cellOf 56 = .ok (.iadd, 1) := by decide +kernel
theorem dX0_cellOf_57 : decode cX0_cellOf 57 = .ok (.bipush 65, 2) := by decide +kernel
theorem dX0_cellOf_59 : decode cX0_cellOf 59 = .ok (.isub, 1) := by decide +kernel
theorem dX0_cellOf_60 : decode cX0_cellOf 60 = .ok (.goto 4, 3) := by decide +kernel
theorem dX0_cellOf_63 : decode cX0_cellOf 63 = .ok (.iconst (-1), 1) := by decide +kernel
theorem dX0_cellOf_64 : decode cX0_cellOf 64 = .ok (.ireturn, 1) := by decide +kernel
def X0_cellOf (l0 : Int) (μ : Mm) : Rs := if l0 = 35 then (some (1, μ)) else (if l0 = 42 then (some (2, μ)) else (if l0 = 46 then (some (0, μ)) else (if l0 < 65 then (some ((-1), μ)) else (if 72 < l0 then (some ((-1), μ)) else (some (iS (iA 3 l0) 65, μ))))))
set_option maxHeartbeats 4000000 in
set_option maxRecDepth 100000 in
theorem kX0_cellOf (d : Nat) (hd : 1 ≤ d) {l0 : Int} {μ : Mm} {r : Int} {μ' : Mm} (h : X0_cellOf l0 μ = some (r, μ')) : CC d mX0_cellOf [vI l0] μ r μ' := by
  unfold X0_cellOf at h
  refine V_enter (by decide) (Nat.le_of_ble_eq_true rfl) ?_
  show VV d mX0_cellOf 0 [some (vI l0)] [] μ r μ'
  refine V_iload_n (q := 1) dX0_cellOf_0 rfl rfl rfl ?_
  refine V_ls1 (q := 38) 35 dX0_cellOf_1 rfl rfl (by decide) (fun hc1 => ?_) (fun hc1 => ?_)
  · have h := ifT hc1 h
    refine V_iconst (q := 39) dX0_cellOf_38 rfl rfl ?_
    exact V_iret rfl h dX0_cellOf_39
  · have h := ifF hc1 h
    refine V_ls1 (q := 40) 42 dX0_cellOf_1 rfl rfl (by decide) (fun hc2 => ?_) (fun hc2 => ?_)
    · have h := ifT hc2 h
      refine V_iconst (q := 41) dX0_cellOf_40 rfl rfl ?_
      exact V_iret rfl h dX0_cellOf_41
    · have h := ifF hc2 h
      refine V_ls1 (q := 36) 46 dX0_cellOf_1 rfl rfl (by decide) (fun hc3 => ?_) (fun hc3 => ?_)
      · have h := ifT hc3 h
        refine V_iconst (q := 37) dX0_cellOf_36 rfl rfl ?_
        exact V_iret rfl h dX0_cellOf_37
      · have h := ifF hc3 h
        refine V_ls (q := 42) (off := 41) dX0_cellOf_1 rfl (by simp [Op.lookupswitch.offset, Ne.symm hc1, Ne.symm hc2, Ne.symm hc3]) (by decide) ?_
        refine V_iload_n (q := 43) dX0_cellOf_42 rfl rfl rfl ?_
        refine V_bipush (q := 45) dX0_cellOf_43 rfl rfl rfl ?_
        refine V_icmplt (q := 63) (q2 := 48) dX0_cellOf_45 (by decide) rfl (fun hc4 => ?_) (fun hc4 => ?_)
        · have h := ifT hc4 h
          refine V_iconst (q := 64) dX0_cellOf_63 rfl rfl ?_
          exact V_iret rfl h dX0_cellOf_64
        · have h := ifF hc4 h
          refine V_iload_n (q := 49) dX0_cellOf_48 rfl rfl rfl ?_
          refine V_bipush (q := 51) dX0_cellOf_49 rfl rfl rfl ?_
          refine V_icmpgt (q := 63) (q2 := 54) dX0_cellOf_51 (by decide) rfl (fun hc5 => ?_) (fun hc5 => ?_)
          · have h := ifT hc5 h
            refine V_iconst (q := 64) dX0_cellOf_63 rfl rfl ?_
            exact V_iret rfl h dX0_cellOf_64
          · have h := ifF hc5 h
            refine V_iconst (q := 55) dX0_cellOf_54 rfl rfl ?_
            refine V_iload_n (q := 56) dX0_cellOf_55 rfl rfl rfl ?_
            refine V_iadd (q := 57) dX0_cellOf_56 rfl ?_
            refine V_bipush (q := 59) dX0_cellOf_57 rfl rfl rfl ?_
            refine V_isub (q := 60) dX0_cellOf_59 rfl ?_
            refine V_goto (q := 64) dX0_cellOf_60 (by decide) ?_
            exact V_iret rfl h dX0_cellOf_64
abbrev mX0_placeOf : Mth := (yX0_placeOf, cX0_placeOf, 2, some .int)
theorem mi_X0_placeOf : Cond.instanceMethod yX0_placeOf ∈ tG ∧ Cond.selects yX0_placeOf.cls yX0_placeOf yX0_placeOf ∈ tG ∧ Cond.initialized yX0_placeOf.cls ∈ tG ∧ Cond.code yX0_placeOf cX0_placeOf 2 (some .int) ∈ tG ∧ (yX0_placeOf.cls ≠ "java/lang/invoke/MethodHandle" ∧ yX0_placeOf.cls ≠ "java/lang/invoke/VarHandle" ∧ (parseMethodDescriptor yX0_placeOf.desc).map (fun d => d.parameters.length) = some 1) ∧ 2 ≤ 60 := ⟨(tG_of (List.mem_of_getElem? (i := 536) (by decide +kernel)) (by decide +kernel)), (tG_of (List.mem_of_getElem? (i := 537) (by decide +kernel)) (by decide +kernel)), (tG_of (List.mem_of_getElem? (i := 105) (by decide +kernel)) (by decide +kernel)), (tG_of (List.mem_of_getElem? (i := 538) (by decide +kernel)) (by decide +kernel)), ⟨by decide, by decide, by decide +kernel⟩, by decide⟩
theorem mv_X10_168 : mV RX10 168 mX0_placeOf 1 := ⟨(tG_of (List.mem_of_getElem? (i := 766) (by decide +kernel)) (by decide +kernel)), mi_X0_placeOf⟩
theorem mv_X0_75 : mV RX0 75 mX0_placeOf 1 := ⟨(tG_of (List.mem_of_getElem? (i := 535) (by decide +kernel)) (by decide +kernel)), mi_X0_placeOf⟩
theorem mv_X1_55 : mV RX1 55 mX0_placeOf 1 := ⟨(tG_of (List.mem_of_getElem? (i := 825) (by decide +kernel)) (by decide +kernel)), mi_X0_placeOf⟩
theorem dX0_placeOf_0 : decode cX0_placeOf 0 = .ok (.iload_n 1, 1) := by decide +kernel
theorem dX0_placeOf_1 : decode cX0_placeOf 1 = .ok (.ifCond .lt 18, 3) := by decide +kernel
theorem dX0_placeOf_4 : decode cX0_placeOf 4 = .ok (.iload_n 1, 1) := by decide +kernel
theorem dX0_placeOf_5 : decode cX0_placeOf 5 = .ok (.bipush 8, 2) := by decide +kernel
theorem dX0_placeOf_7 : decode cX0_placeOf 7 = .ok (.if_icmp .ge 12, 3) := by decide +kernel
theorem dX0_placeOf_10 : decode cX0_placeOf 10 = .ok (.aload_n 0, 1) := by decide +kernel
theorem dX0_placeOf_11 : decode cX0_placeOf 11 = .ok (.getfield 15, 3) := by decide +kernel
theorem dX0_placeOf_14 : decode cX0_placeOf 14 = .ok (.iload_n 1, 1) := by decide +kernel
theorem dX0_placeOf_15 : decode cX0_placeOf 15 = .ok (.iaload, 1) := by decide +kernel
theorem dX0_placeOf_16 : decode cX0_placeOf 16 = .ok (.goto 4, 3) := by decide +kernel
theorem dX0_placeOf_19 : decode cX0_placeOf 19 = .ok (.iconst (-1), 1) := by decide +kernel
theorem dX0_placeOf_20 : decode cX0_placeOf 20 = .ok (.ireturn, 1) := by decide +kernel
def X0_placeOf (l0 : Nat) (l1 : Int) (μ : Mm) : Rs := if l1 < 0 then (some ((-1), μ)) else (if 8 ≤ l1 then (some ((-1), μ)) else (ldA μ (l0 + 2) l1 fun v3 => some (v3, μ)))
set_option maxHeartbeats 4000000 in
set_option maxRecDepth 100000 in
theorem kX0_placeOf (d : Nat) (hd : 1 ≤ d) {l0 : Nat} {l1 : Int} (hk0 : kD l0 = (10, 9)) {μ : Mm} {r : Int} {μ' : Mm} (h : X0_placeOf l0 l1 μ = some (r, μ')) : CC d mX0_placeOf [vR l0, vI l1] μ r μ' := by
  unfold X0_placeOf at h
  refine V_enter (by decide) (Nat.le_of_ble_eq_true rfl) ?_
  show VV d mX0_placeOf 0 [some (vR l0), some (vI l1)] [] μ r μ'
  refine V_iload_n (q := 1) dX0_placeOf_0 rfl rfl rfl ?_
  refine V_iflt (q := 19) (q2 := 4) dX0_placeOf_1 (by decide) rfl (fun hc1 => ?_) (fun hc1 => ?_)
  · have h := ifT hc1 h
    refine V_iconst (q := 20) dX0_placeOf_19 rfl rfl ?_
    exact V_iret rfl h dX0_placeOf_20
  · have h := ifF hc1 h
    refine V_iload_n (q := 5) dX0_placeOf_4 rfl rfl rfl ?_
    refine V_bipush (q := 7) dX0_placeOf_5 rfl rfl rfl ?_
    refine V_icmpge (q := 19) (q2 := 10) dX0_placeOf_7 (by decide) rfl (fun hc2 => ?_) (fun hc2 => ?_)
    · have h := ifT hc2 h
      refine V_iconst (q := 20) dX0_placeOf_19 rfl rfl ?_
      exact V_iret rfl h dX0_placeOf_20
    · have h := ifF hc2 h
      refine V_aload_n (q := 11) dX0_placeOf_10 rfl rfl rfl ?_
      refine V_getO (q := 14) (t := _) fl_X0_15 hk0 rfl rfl rfl dX0_placeOf_11 rfl ?_
      refine V_iload_n (q := 15) dX0_placeOf_14 rfl rfl rfl ?_
      obtain ⟨hi4, h⟩ := ldA_i h
      refine V_iaload (q := 16) (kdo_0_1 hk0) hi4 dX0_placeOf_15 rfl ?_
      refine V_goto (q := 20) dX0_placeOf_16 (by decide) ?_
      exact V_iret rfl h dX0_placeOf_20
abbrev mX4_refuseAt : Mth := (yX4_refuseAt, cX4_refuseAt, 2, none)
theorem mi_X4_refuseAt : Cond.instanceMethod yX4_refuseAt ∈ tG ∧ Cond.selects yX4_refuseAt.cls yX4_refuseAt yX4_refuseAt ∈ tG ∧ Cond.initialized yX4_refuseAt.cls ∈ tG ∧ Cond.code yX4_refuseAt cX4_refuseAt 2 (none) ∈ tG ∧ (yX4_refuseAt.cls ≠ "java/lang/invoke/MethodHandle" ∧ yX4_refuseAt.cls ≠ "java/lang/invoke/VarHandle" ∧ (parseMethodDescriptor yX4_refuseAt.desc).map (fun d => d.parameters.length) = some 1) ∧ 2 ≤ 60 := ⟨(tG_of (List.mem_of_getElem? (i := 540) (by decide +kernel)) (by decide +kernel)), (tG_of (List.mem_of_getElem? (i := 541) (by decide +kernel)) (by decide +kernel)), (tG_of (List.mem_of_getElem? (i := 103) (by decide +kernel)) (by decide +kernel)), (tG_of (List.mem_of_getElem? (i := 542) (by decide +kernel)) (by decide +kernel)), ⟨by decide, by decide, by decide +kernel⟩, by decide⟩
theorem mv_X0_56 : mV RX0 56 mX4_refuseAt 1 := ⟨(tG_of (List.mem_of_getElem? (i := 539) (by decide +kernel)) (by decide +kernel)), mi_X4_refuseAt⟩
theorem mv_X2_105 : mV RX2 105 mX4_refuseAt 1 := ⟨(tG_of (List.mem_of_getElem? (i := 613) (by decide +kernel)) (by decide +kernel)), mi_X4_refuseAt⟩
theorem mv_X3_45 : mV RX3 45 mX4_refuseAt 1 := ⟨(tG_of (List.mem_of_getElem? (i := 566) (by decide +kernel)) (by decide +kernel)), mi_X4_refuseAt⟩
theorem mv_X4_35 : mV RX4 35 mX4_refuseAt 1 := ⟨(tG_of (List.mem_of_getElem? (i := 556) (by decide +kernel)) (by decide +kernel)), mi_X4_refuseAt⟩
theorem dX4_refuseAt_0 : decode cX4_refuseAt 0 = .ok (.aload_n 0, 1) := by decide +kernel
theorem dX4_refuseAt_1 : decode cX4_refuseAt 1 = .ok (.getfield 15, 3) := by decide +kernel
theorem dX4_refuseAt_4 : decode cX4_refuseAt 4 = .ok (.iconst (-1), 1) := by decide +kernel
theorem dX4_refuseAt_5 : decode cX4_refuseAt 5 = .ok (.if_icmp .ne 8, 3) := by decide +kernel
theorem dX4_refuseAt_8 : decode cX4_refuseAt 8 = .ok (.aload_n 0, 1) := by decide +kernel
theorem dX4_refuseAt_9 : decode cX4_refuseAt 9 = .ok (.iload_n 1, 1) := by decide +kernel
theorem dX4_refuseAt_10 : decode cX4_refuseAt 10 = .ok (.putfield 15, 3) := by decide +kernel
theorem dX4_refuseAt_13 : decode cX4_refuseAt 13 = .ok (.return_, 1) := by decide +kernel
def X4_refuseAt (l1 : Int) (μ : Mm) : Rs := if (μ 3 2) = (-1) then (sF μ 3 2 l1 fun μ2 => some (0, μ2)) else (some (0, μ))
set_option maxHeartbeats 4000000 in
set_option maxRecDepth 100000 in
theorem kX4_refuseAt (d : Nat) (hd : 1 ≤ d) {l1 : Int} {μ : Mm} {r : Int} {μ' : Mm} (h : X4_refuseAt l1 μ = some (r, μ')) : CC d mX4_refuseAt [vR 3, vI l1] μ r μ' := by
  unfold X4_refuseAt at h
  refine V_enter (by decide) (Nat.le_of_ble_eq_true rfl) ?_
  show VV d mX4_refuseAt 0 [some (vR 3), some (vI l1)] [] μ r μ'
  refine V_aload_n (q := 1) dX4_refuseAt_0 rfl rfl rfl ?_
  refine V_getI (q := 4) fl_X4_15 rfl rfl rfl dX4_refuseAt_1 rfl ?_
  refine V_iconst (q := 5) dX4_refuseAt_4 rfl rfl ?_
  refine V_icmpne (q := 13) (q2 := 8) dX4_refuseAt_5 (by decide) rfl (fun hc1 => ?_) (fun hc1 => ?_)
  · have h := ifF hc1 h
    exact V_vret rfl h dX4_refuseAt_13
  · have h := ifT hc1 h
    refine V_aload_n (q := 9) dX4_refuseAt_8 rfl rfl rfl ?_
    refine V_iload_n (q := 10) dX4_refuseAt_9 rfl rfl rfl ?_
    have h := sF_i h
    refine V_putI (q := 13) fl_X4_15 rfl rfl rfl dX4_refuseAt_10 rfl ?_
    exact V_vret rfl h dX4_refuseAt_13
abbrev mX4_pass : Mth := (yX4_pass, cX4_pass, 1, none)
theorem mi_X4_pass : Cond.instanceMethod yX4_pass ∈ tG ∧ Cond.selects yX4_pass.cls yX4_pass yX4_pass ∈ tG ∧ Cond.initialized yX4_pass.cls ∈ tG ∧ Cond.code yX4_pass cX4_pass 1 (none) ∈ tG ∧ (yX4_pass.cls ≠ "java/lang/invoke/MethodHandle" ∧ yX4_pass.cls ≠ "java/lang/invoke/VarHandle" ∧ (parseMethodDescriptor yX4_pass.desc).map (fun d => d.parameters.length) = some 0) ∧ 1 ≤ 60 := ⟨(tG_of (List.mem_of_getElem? (i := 544) (by decide +kernel)) (by decide +kernel)), (tG_of (List.mem_of_getElem? (i := 545) (by decide +kernel)) (by decide +kernel)), (tG_of (List.mem_of_getElem? (i := 103) (by decide +kernel)) (by decide +kernel)), (tG_of (List.mem_of_getElem? (i := 546) (by decide +kernel)) (by decide +kernel)), ⟨by decide, by decide, by decide +kernel⟩, by decide⟩
theorem mv_X0_78 : mV RX0 78 mX4_pass 0 := ⟨(tG_of (List.mem_of_getElem? (i := 543) (by decide +kernel)) (by decide +kernel)), mi_X4_pass⟩
theorem mv_X2_108 : mV RX2 108 mX4_pass 0 := ⟨(tG_of (List.mem_of_getElem? (i := 608) (by decide +kernel)) (by decide +kernel)), mi_X4_pass⟩
theorem mv_X3_49 : mV RX3 49 mX4_pass 0 := ⟨(tG_of (List.mem_of_getElem? (i := 567) (by decide +kernel)) (by decide +kernel)), mi_X4_pass⟩
theorem dX4_pass_0 : decode cX4_pass 0 = .ok (.aload_n 0, 1) := by decide +kernel
theorem dX4_pass_1 : decode cX4_pass 1 = .ok (.getfield 19, 3) := by decide +kernel
theorem dX4_pass_4 : decode cX4_pass 4 = .ok (.aload_n 0, 1) := by decide +kernel
theorem dX4_pass_5 : decode cX4_pass 5 = .ok (.getfield 9, 3) := by decide +kernel
theorem dX4_pass_8 : decode cX4_pass 8 = .ok (.getfield 22, 3) := by decide +kernel
theorem dX4_pass_11 : decode cX4_pass 11 = .ok (.if_icmp .ge 13, 3) := by decide +kernel
theorem dX4_pass_14 : decode cX4_pass 14 = .ok (.aload_n 0, 1) := by decide +kernel
theorem dX4_pass_15 : decode cX4_pass 15 = .ok (.dup, 1) := by decide +kernel
theorem dX4_pass_16 : decode cX4_pass 16 = .ok (.getfield 19, 3) := by decide +kernel
theorem dX4_pass_19 : decode cX4_pass 19 = .ok (.iconst 1, 1) := by decide +kernel
theorem dX4_pass_20 : decode cX4_pass 20 = .ok (.iadd, 1) := by decide +kernel
theorem dX4_pass_21 : decode cX4_pass 21 = .ok (.putfield 19, 3) := by decide +kernel
theorem dX4_pass_24 : decode cX4_pass 24 = .ok (.return_, 1) := by decide +kernel
def X4_pass (μ : Mm) : Rs := mR μ 3 0 (17, 2) fun v1 => if (μ v1 1) ≤ (μ 3 1) then (some (0, μ)) else (sF μ 3 1 (iA (μ 3 1) 1) fun μ4 => some (0, μ4))
set_option maxHeartbeats 4000000 in
set_option maxRecDepth 100000 in
theorem kX4_pass (d : Nat) (hd : 1 ≤ d) {μ : Mm} {r : Int} {μ' : Mm} (h : X4_pass μ = some (r, μ')) : CC d mX4_pass [vR 3] μ r μ' := by
  unfold X4_pass at h
  refine V_enter (by decide) (Nat.le_of_ble_eq_true rfl) ?_
  show VV d mX4_pass 0 [some (vR 3)] [] μ r μ'
  refine V_aload_n (q := 1) dX4_pass_0 rfl rfl rfl ?_
  refine V_getI (q := 4) fl_X4_19 rfl rfl rfl dX4_pass_1 rfl ?_
  refine V_aload_n (q := 5) dX4_pass_4 rfl rfl rfl ?_
  obtain ⟨hm2, h⟩ := mR_i h
  refine V_getM (q := 8) fl_X4_9 rfl rfl rfl dX4_pass_5 rfl ?_
  refine V_getI (q := 11) fl_X4_22 hm2 rfl rfl dX4_pass_8 rfl ?_
  refine V_icmpge (q := 24) (q2 := 14) dX4_pass_11 (by decide) rfl (fun hc3 => ?_) (fun hc3 => ?_)
  · have h := ifT hc3 h
    exact V_vret rfl h dX4_pass_24
  · have h := ifF hc3 h
    refine V_aload_n (q := 15) dX4_pass_14 rfl rfl rfl ?_
    refine V_dup (q := 16) dX4_pass_15 trivial rfl ?_
    refine V_getI (q := 19) fl_X4_19 rfl rfl rfl dX4_pass_16 rfl ?_
    refine V_iconst (q := 20) dX4_pass_19 rfl rfl ?_
    refine V_iadd (q := 21) dX4_pass_20 rfl ?_
    have h := sF_i h
    refine V_putI (q := 24) fl_X4_19 rfl rfl rfl dX4_pass_21 rfl ?_
    exact V_vret rfl h dX4_pass_24
abbrev mX0_put : Mth := (yX0_put, cX0_put, 6, none)
theorem mi_X0_put : Cond.instanceMethod yX0_put ∈ tG ∧ Cond.selects yX0_put.cls yX0_put yX0_put ∈ tG ∧ Cond.initialized yX0_put.cls ∈ tG ∧ Cond.code yX0_put cX0_put 6 (none) ∈ tG ∧ (yX0_put.cls ≠ "java/lang/invoke/MethodHandle" ∧ yX0_put.cls ≠ "java/lang/invoke/VarHandle" ∧ (parseMethodDescriptor yX0_put.desc).map (fun d => d.parameters.length) = some 3) ∧ 6 ≤ 60 := ⟨(tG_of (List.mem_of_getElem? (i := 533) (by decide +kernel)) (by decide +kernel)), (tG_of (List.mem_of_getElem? (i := 2) (by decide +kernel)) (by decide +kernel)), (tG_of (List.mem_of_getElem? (i := 105) (by decide +kernel)) (by decide +kernel)), (tG_of (List.mem_of_getElem? (i := 534) (by decide +kernel)) (by decide +kernel)), ⟨by decide, by decide, by decide +kernel⟩, by decide⟩
theorem mv_X0_71 : mV RX0 71 mX0_put 3 := ⟨(tG_of (List.mem_of_getElem? (i := 531) (by decide +kernel)) (by decide +kernel)), mi_X0_put⟩
theorem dX0_put_0 : decode cX0_put 0 = .ok (.iload_n 3, 1) := by decide +kernel
theorem dX0_put_1 : decode cX0_put 1 = .ok (.iconst 3, 1) := by decide +kernel
theorem dX0_put_2 : decode cX0_put 2 = .ok (.isub, 1) := by decide +kernel
theorem dX0_put_3 : decode cX0_put 3 = .ok (.istore 4, 2) := by decide +kernel
theorem dX0_put_5 : decode cX0_put 5 = .ok (.iload_n 3, 1) := by decide +kernel
theorem dX0_put_6 : decode cX0_put 6 = .ok (.iconst 2, 1) := by decide +kernel
theorem dX0_put_7 : decode cX0_put 7 = .ok (.if_icmp .ne 19, 3) := by decide +kernel
theorem dX0_put_10 : decode cX0_put 10 = .ok (.aload_n 0, 1) := by decide +kernel
theorem dX0_put_11 : decode cX0_put 11 = .ok (.getfield 24, 3) := by decide +kernel
theorem dX0_put_14 : decode cX0_put 14 = .ok (.iconst (-1), 1) := by decide +kernel
theorem dX0_put_15 : decode cX0_put 15 = .ok (.if_icmp .eq 7, 3) := by decide +kernel
theorem dX0_put_18 : decode cX0_put 18 = .ok (.iconst 1, 1) := by decide +kernel
theorem dX0_put_19 : decode cX0_put 19 = .ok (.goto 22, 3) := by decide +kernel
theorem dX0_put_22 : decode cX0_put 22 = .ok (.iconst 0, 1) := by decide +kernel
theorem dX0_put_23 : decode cX0_put 23 = .ok (.goto 18, 3) := by decide +kernel
theorem dX0_put_26 : decode cX0_put 26 = .ok (.aload_n 0, 1) := by decide +kernel
theorem dX0_put_27 : decode cX0_put 27 = .ok (.iload 4, 2) := by decide +kernel
theorem dX0_put_29 : decode cX0_put 29 = .ok (.invokevirtual 75, 3) := by decide +kernel
theorem dX0_put_32 : decode cX0_put 32 = .ok (.iconst (-1), 1) := by decide +kernel
theorem dX0_put_33 : decode cX0_put 33 = .ok (.if_icmp .eq 7, 3) := by decide +kernel
theorem dX0_put_36 : decode cX0_put 36 = .ok (.iconst 1, 1) := by decide +kernel
theorem dX0_put_37 : decode cX0_put 37 = .ok (.goto 4, 3) := by decide +kernel
theorem dX0_put_40 : decode cX0_put 40 = .ok (.iconst 0, 1) := by decide +kernel
theorem dX0_put_41 : decode cX0_put 41 = .ok (.istore 5, 2) := by decide +kernel
theorem dX0_put_43 : decode cX0_put 43 = .ok (.iload 5, 2) := by decide +kernel
theorem dX0_put_45 : decode cX0_put 45 = .ok (.ifCond .eq 12, 3) := by decide +kernel
theorem dX0_put_48 : decode cX0_put 48 = .ok (.aload_n 1, 1) := by decide +kernel
theorem dX0_put_49 : decode cX0_put 49 = .ok (.aload_n 1, 1) := by decide +kernel
theorem dX0_put_50 : decode cX0_put 50 = .ok (.getfield 53, 3) := by decide +kernel
theorem dX0_put_53 : decode cX0_put 53 = .ok (.invokevirtual 56, 3) := by decide +kernel
theorem dX0_put_56 : decode cX0_put 56 = .ok (.return_, 1) := by decide +kernel
theorem dX0_put_57 : decode cX0_put 57 = .ok (.aload_n 1, 1) := by decide +kernel
theorem dX0_put_58 : decode cX0_put 58 = .ok (.invokevirtual 78, 3) := by decide +kernel
theorem dX0_put_61 : decode cX0_put 61 = .ok (.aload_n 0, 1) := by decide +kernel
theorem dX0_put_62 : decode cX0_put 62 = .ok (.getfield 9, 3) := by decide +kernel
theorem dX0_put_65 : decode cX0_put 65 = .ok (.iload_n 2, 1) := by decide +kernel
theorem dX0_put_66 : decode cX0_put 66 = .ok (.iload_n 3, 1) := by decide +kernel
theorem dX0_put_67 : decode cX0_put 67 = .ok (.iastore, 1) := by decide +kernel
theorem dX0_put_68 : decode cX0_put 68 = .ok (.iload_n 3, 1) := by decide +kernel
theorem dX0_put_69 : decode cX0_put 69 = .ok (.iconst 2, 1) := by decide +kernel
theorem dX0_put_70 : decode cX0_put 70 = .ok (.if_icmp .ne 11, 3) := by decide +kernel
theorem dX0_put_73 : decode cX0_put 73 = .ok (.aload_n 0, 1) := by decide +kernel
theorem dX0_put_74 : decode cX0_put 74 = .ok (.iload_n 2, 1) := by decide +kernel
theorem dX0_put_75 : decode cX0_put 75 = .ok (.putfield 24, 3) := by decide +kernel
theorem dX0_put_78 : decode cX0_put 78 = .ok (.goto 44, 3) := by decide +kernel
theorem dX0_put_81 : decode cX0_put 81 = .ok (.iload_n 3, 1) := by decide +kernel
theorem dX0_put_82 : decode cX0_put 82 = .ok (.iconst 1, 1) := by decide +kernel
theorem dX0_put_83 : decode cX0_put 83 = .ok (.if_icmp .ne 16, 3) := by decide +kernel
theorem dX0_put_86 : decode cX0_put 86 = .ok (.aload_n 0, 1) := by decide +kernel
theorem dX0_put_87 : decode cX0_put 87 = .ok (.dup, 1) := by decide +kernel
theorem dX0_put_88 : decode cX0_put 88 = .ok (.getfield 34, 3) := by decide +kernel
theorem dX0_put_91 : decode cX0_put 91 = .ok (.iconst 1, 1) := by decide +kernel
theorem dX0_put_92 : decode cX0_put 92 = .ok (.iadd, 1) := by decide +kernel
theorem dX0_put_93 : decode cX0_put 93 = .ok (.putfield 34, 3) := by decide +kernel
theorem dX0_put_96 : decode cX0_put 96 = .ok (.goto 26, 3) := by decide +kernel
theorem dX0_put_99 : decode cX0_put 99 = .ok (.iload 4, 2) := by decide +kernel
theorem dX0_put_101 : decode cX0_put 101 = .ok (.ifCond .lt 21, 3) := by decide +kernel
theorem dX0_put_104 : decode cX0_put 104 = .ok (.aload_n 0, 1) := by decide +kernel
theorem dX0_put_105 : decode cX0_put 105 = .ok (.getfield 15, 3) := by decide +kernel
theorem dX0_put_108 : decode cX0_put 108 = .ok (.iload 4, 2) := by decide +kernel
theorem dX0_put_110 : decode cX0_put 110 = .ok (.iload_n 2, 1) := by decide +kernel
theorem dX0_put_111 : decode cX0_put 111 = .ok (.iastore, 1) := by decide +kernel
theorem dX0_put_112 : decode cX0_put 112 = .ok (.aload_n 0, 1) := by decide +kernel
theorem dX0_put_113 : decode cX0_put 113 = .ok (.dup, 1) := by decide +kernel
theorem dX0_put_114 : decode cX0_put 114 = .ok (.getfield 31, 3) := by decide +kernel
theorem dX0_put_117 : decode cX0_put 117 = .ok (.iconst 1, 1) := by decide +kernel
theorem dX0_put_118 : decode cX0_put 118 = .ok (.iadd, 1) := by decide +kernel
theorem dX0_put_119 : decode cX0_put 119 = .ok (.putfield 31, 3) := by decide +kernel
theorem dX0_put_122 : decode cX0_put 122 = .ok (.return_, 1) := by decide +kernel
def X0_put_J41 (l0 : Nat) (l2 : Int) (l3 : Int) (l4 : Int) (s0 : Int) (μ : Mm) : Rs := if s0 = 0 then (bd (X4_pass μ) fun v7 μ8 => stA μ8 (l0 + 1) l2 l3 fun μ10 => if l3 = 2 then (sF μ10 l0 3 l2 fun μ19 => some (0, μ19)) else (if l3 = 1 then (sF μ10 l0 6 (iA (μ10 l0 6) 1) fun μ18 => some (0, μ18)) else (if l4 < 0 then (some (0, μ10)) else (stA μ10 (l0 + 2) l4 l2 fun μ15 => sF μ15 l0 5 (iA (μ15 l0 5) 1) fun μ17 => some (0, μ17))))) else (bd (X4_refuseAt (μ 3 1) μ) fun v20 μ21 => some (0, μ21))
def X0_put (l0 : Nat) (l2 : Int) (l3 : Int) (μ : Mm) : Rs := if l3 = 2 then (if (μ l0 3) = (-1) then (X0_put_J41 l0 l2 l3 (iS l3 3) 0 μ) else (X0_put_J41 l0 l2 l3 (iS l3 3) 1 μ)) else (bd (X0_placeOf l0 (iS l3 3) μ) fun v2 μ3 => if v2 = (-1) then (X0_put_J41 l0 l2 l3 (iS l3 3) 0 μ3) else (X0_put_J41 l0 l2 l3 (iS l3 3) 1 μ3))
set_option maxHeartbeats 4000000 in
set_option maxRecDepth 100000 in
theorem kX0_put_J41 (d : Nat) (hd : 2 ≤ d) {l0 : Nat} {l2 : Int} {l3 : Int} {l4 : Int} {s0 : Int} (hk0 : kD l0 = (10, 9)) {μ : Mm} {r : Int} {μ' : Mm} (h : X0_put_J41 l0 l2 l3 l4 s0 μ = some (r, μ')) : VV d mX0_put 41 [some (vR l0), some (vR 3), some (vI l2), some (vI l3), some (vI l4), none] [vI s0] μ r μ' := by
  unfold X0_put_J41 at h
  refine V_istore (q := 43) dX0_put_41 (Nat.le_of_ble_eq_true rfl) trivial rfl ?_
  refine V_iload (q := 45) dX0_put_43 rfl rfl ?_
  refine V_ifeq (q := 57) (q2 := 48) dX0_put_45 (by decide) rfl (fun hc6 => ?_) (fun hc6 => ?_)
  · have h := ifT hc6 h
    refine V_aload_n (q := 58) dX0_put_57 rfl rfl rfl ?_
    obtain ⟨v7, μ8, hc9, h⟩ := bd_i h
    refine V_cV0 (q := 61) (kX4_pass (d - 1) (by omega) hc9) (by omega) mv_X0_78 rfl rfl rfl rfl rfl rfl dX0_put_58 rfl ?_
    refine V_aload_n (q := 62) dX0_put_61 rfl rfl rfl ?_
    refine V_getO (q := 65) (t := _) fl_X0_9 hk0 rfl rfl rfl dX0_put_62 rfl ?_
    refine V_iload_n (q := 66) dX0_put_65 rfl rfl rfl ?_
    refine V_iload_n (q := 67) dX0_put_66 rfl rfl rfl ?_
    obtain ⟨hi11, h⟩ := stA_i h
    refine V_iastore (q := 68) (kdo_0_0 hk0) hi11 dX0_put_67 rfl ?_
    refine V_iload_n (q := 69) dX0_put_68 rfl rfl rfl ?_
    refine V_iconst (q := 70) dX0_put_69 rfl rfl ?_
    refine V_icmpne (q := 81) (q2 := 73) dX0_put_70 (by decide) rfl (fun hc12 => ?_) (fun hc12 => ?_)
    · have h := ifF hc12 h
      refine V_iload_n (q := 82) dX0_put_81 rfl rfl rfl ?_
      refine V_iconst (q := 83) dX0_put_82 rfl rfl ?_
      refine V_icmpne (q := 99) (q2 := 86) dX0_put_83 (by decide) rfl (fun hc13 => ?_) (fun hc13 => ?_)
      · have h := ifF hc13 h
        refine V_iload (q := 101) dX0_put_99 rfl rfl ?_
        refine V_iflt (q := 122) (q2 := 104) dX0_put_101 (by decide) rfl (fun hc14 => ?_) (fun hc14 => ?_)
        · have h := ifT hc14 h
          exact V_vret rfl h dX0_put_122
        · have h := ifF hc14 h
          refine V_aload_n (q := 105) dX0_put_104 rfl rfl rfl ?_
          refine V_getO (q := 108) (t := _) fl_X0_15 hk0 rfl rfl rfl dX0_put_105 rfl ?_
          refine V_iload (q := 110) dX0_put_108 rfl rfl ?_
          refine V_iload_n (q := 111) dX0_put_110 rfl rfl rfl ?_
          obtain ⟨hi16, h⟩ := stA_i h
          refine V_iastore (q := 112) (kdo_0_1 hk0) hi16 dX0_put_111 rfl ?_
          refine V_aload_n (q := 113) dX0_put_112 rfl rfl rfl ?_
          refine V_dup (q := 114) dX0_put_113 trivial rfl ?_
          refine V_getI (q := 117) fl_X0_31 hk0 rfl rfl dX0_put_114 rfl ?_
          refine V_iconst (q := 118) dX0_put_117 rfl rfl ?_
          refine V_iadd (q := 119) dX0_put_118 rfl ?_
          have h := sF_i h
          refine V_putI (q := 122) fl_X0_31 hk0 rfl rfl dX0_put_119 rfl ?_
          exact V_vret rfl h dX0_put_122
      · have h := ifT hc13 h
        refine V_aload_n (q := 87) dX0_put_86 rfl rfl rfl ?_
        refine V_dup (q := 88) dX0_put_87 trivial rfl ?_
        refine V_getI (q := 91) fl_X0_34 hk0 rfl rfl dX0_put_88 rfl ?_
        refine V_iconst (q := 92) dX0_put_91 rfl rfl ?_
        refine V_iadd (q := 93) dX0_put_92 rfl ?_
        have h := sF_i h
        refine V_putI (q := 96) fl_X0_34 hk0 rfl rfl dX0_put_93 rfl ?_
        refine V_goto (q := 122) dX0_put_96 (by decide) ?_
        exact V_vret rfl h dX0_put_122
    · have h := ifT hc12 h
      refine V_aload_n (q := 74) dX0_put_73 rfl rfl rfl ?_
      refine V_iload_n (q := 75) dX0_put_74 rfl rfl rfl ?_
      have h := sF_i h
      refine V_putI (q := 78) fl_X0_24 hk0 rfl rfl dX0_put_75 rfl ?_
      refine V_goto (q := 122) dX0_put_78 (by decide) ?_
      exact V_vret rfl h dX0_put_122
  · have h := ifF hc6 h
    refine V_aload_n (q := 49) dX0_put_48 rfl rfl rfl ?_
    refine V_aload_n (q := 50) dX0_put_49 rfl rfl rfl ?_
    refine V_getI (q := 53) fl_X0_53 rfl rfl rfl dX0_put_50 rfl ?_
    obtain ⟨v20, μ21, hc22, h⟩ := bd_i h
    refine V_cV0 (q := 56) (kX4_refuseAt (d - 1) (by omega) hc22) (by omega) mv_X0_56 rfl rfl rfl rfl rfl rfl dX0_put_53 rfl ?_
    exact V_vret rfl h dX0_put_56
set_option maxHeartbeats 4000000 in
set_option maxRecDepth 100000 in
theorem kX0_put (d : Nat) (hd : 2 ≤ d) {l0 : Nat} {l2 : Int} {l3 : Int} (hk0 : kD l0 = (10, 9)) {μ : Mm} {r : Int} {μ' : Mm} (h : X0_put l0 l2 l3 μ = some (r, μ')) : CC d mX0_put [vR l0, vR 3, vI l2, vI l3] μ r μ' := by
  unfold X0_put at h
  refine V_enter (by decide) (Nat.le_of_ble_eq_true rfl) ?_
  show VV d mX0_put 0 [some (vR l0), some (vR 3), some (vI l2), some (vI l3), none, none] [] μ r μ'
  refine V_iload_n (q := 1) dX0_put_0 rfl rfl rfl ?_
  refine V_iconst (q := 2) dX0_put_1 rfl rfl ?_
  refine V_isub (q := 3) dX0_put_2 rfl ?_
  refine V_istore (q := 5) dX0_put_3 (Nat.le_of_ble_eq_true rfl) trivial rfl ?_
  refine V_iload_n (q := 6) dX0_put_5 rfl rfl rfl ?_
  refine V_iconst (q := 7) dX0_put_6 rfl rfl ?_
  refine V_icmpne (q := 26) (q2 := 10) dX0_put_7 (by decide) rfl (fun hc1 => ?_) (fun hc1 => ?_)
  · have h := ifF hc1 h
    refine V_aload_n (q := 27) dX0_put_26 rfl rfl rfl ?_
    refine V_iload (q := 29) dX0_put_27 rfl rfl ?_
    obtain ⟨v2, μ3, hc4, h⟩ := bd_i h
    refine V_cV1 (q := 32) (v := vI v2) (kX0_placeOf (d - 1) (by omega) hk0 hc4) (by omega) mv_X0_75 hk0 rfl rfl rfl rfl rfl dX0_put_29 rfl ?_
    refine V_iconst (q := 33) dX0_put_32 rfl rfl ?_
    refine V_icmpeq (q := 40) (q2 := 36) dX0_put_33 (by decide) rfl (fun hc5 => ?_) (fun hc5 => ?_)
    · have h := ifT hc5 h
      refine V_iconst (q := 41) dX0_put_40 rfl rfl ?_
      exact V_weak (kX0_put_J41 d hd hk0 h) (sb_s rfl (sb_s rfl (sb_s rfl (sb_s rfl (sb_s rfl (sb_n sb_0))))))
    · have h := ifF hc5 h
      refine V_iconst (q := 37) dX0_put_36 rfl rfl ?_
      refine V_goto (q := 41) dX0_put_37 (by decide) ?_
      exact V_weak (kX0_put_J41 d hd hk0 h) (sb_s rfl (sb_s rfl (sb_s rfl (sb_s rfl (sb_s rfl (sb_n sb_0))))))
  · have h := ifT hc1 h
    refine V_aload_n (q := 11) dX0_put_10 rfl rfl rfl ?_
    refine V_getI (q := 14) fl_X0_24 hk0 rfl rfl dX0_put_11 rfl ?_
    refine V_iconst (q := 15) dX0_put_14 rfl rfl ?_
    refine V_icmpeq (q := 22) (q2 := 18) dX0_put_15 (by decide) rfl (fun hc23 => ?_) (fun hc23 => ?_)
    · have h := ifT hc23 h
      refine V_iconst (q := 23) dX0_put_22 rfl rfl ?_
      refine V_goto (q := 41) dX0_put_23 (by decide) ?_
      exact V_weak (kX0_put_J41 d hd hk0 h) (sb_s rfl (sb_s rfl (sb_s rfl (sb_s rfl (sb_s rfl (sb_n sb_0))))))
    · have h := ifF hc23 h
      refine V_iconst (q := 19) dX0_put_18 rfl rfl ?_
      refine V_goto (q := 41) dX0_put_19 (by decide) ?_
      exact V_weak (kX0_put_J41 d hd hk0 h) (sb_s rfl (sb_s rfl (sb_s rfl (sb_s rfl (sb_s rfl (sb_n sb_0))))))
abbrev mX0_readRow : Mth := (yX0_readRow, cX0_readRow, 6, none)
theorem mi_X0_readRow : Cond.instanceMethod yX0_readRow ∈ tG ∧ Cond.selects yX0_readRow.cls yX0_readRow yX0_readRow ∈ tG ∧ Cond.initialized yX0_readRow.cls ∈ tG ∧ Cond.code yX0_readRow cX0_readRow 6 (none) ∈ tG ∧ (yX0_readRow.cls ≠ "java/lang/invoke/MethodHandle" ∧ yX0_readRow.cls ≠ "java/lang/invoke/VarHandle" ∧ (parseMethodDescriptor yX0_readRow.desc).map (fun d => d.parameters.length) = some 2) ∧ 6 ≤ 60 := ⟨(tG_of (List.mem_of_getElem? (i := 522) (by decide +kernel)) (by decide +kernel)), (tG_of (List.mem_of_getElem? (i := 1) (by decide +kernel)) (by decide +kernel)), (tG_of (List.mem_of_getElem? (i := 105) (by decide +kernel)) (by decide +kernel)), (tG_of (List.mem_of_getElem? (i := 523) (by decide +kernel)) (by decide +kernel)), ⟨by decide, by decide, by decide +kernel⟩, by decide⟩
theorem mv_X0_40 : mV RX0 40 mX0_readRow 2 := ⟨(tG_of (List.mem_of_getElem? (i := 520) (by decide +kernel)) (by decide +kernel)), mi_X0_readRow⟩
theorem dX0_readRow_0 : decode cX0_readRow 0 = .ok (.iload_n 2, 1) := by decide +kernel
theorem dX0_readRow_1 : decode cX0_readRow 1 = .ok (.ifCond .ne 8, 3) := by decide +kernel
theorem dX0_readRow_4 : decode cX0_readRow 4 = .ok (.bipush 9, 2) := by decide +kernel
theorem dX0_readRow_6 : decode cX0_readRow 6 = .ok (.goto 7, 3) := by decide +kernel
theorem dX0_readRow_9 : decode cX0_readRow 9 = .ok (.aload_n 0, 1) := by decide +kernel
theorem dX0_readRow_10 : decode cX0_readRow 10 = .ok (.getfield 28, 3) := by decide +kernel
theorem dX0_readRow_13 : decode cX0_readRow 13 = .ok (.istore_n 3, 1) := by decide +kernel
theorem dX0_readRow_14 : decode cX0_readRow 14 = .ok (.iconst 0, 1) := by decide +kernel
theorem dX0_readRow_15 : decode cX0_readRow 15 = .ok (.istore 4, 2) := by decide +kernel
theorem dX0_readRow_17 : decode cX0_readRow 17 = .ok (.iload 4, 2) := by decide +kernel
theorem dX0_readRow_19 : decode cX0_readRow 19 = .ok (.iload_n 3, 1) := by decide +kernel
theorem dX0_readRow_20 : decode cX0_readRow 20 = .ok (.if_icmp .ge 41, 3) := by decide +kernel
theorem dX0_readRow_23 : decode cX0_readRow 23 = .ok (.aload_n 1, 1) := by decide +kernel
theorem dX0_readRow_24 : decode cX0_readRow 24 = .ok (.invokevirtual 63, 3) := by decide +kernel
theorem dX0_readRow_27 : decode cX0_readRow 27 = .ok (.invokestatic 67, 3) := by decide +kernel
theorem dX0_readRow_30 : decode cX0_readRow 30 = .ok (.istore 5, 2) := by decide +kernel
theorem dX0_readRow_32 : decode cX0_readRow 32 = .ok (.iload 5, 2) := by decide +kernel
theorem dX0_readRow_34 : decode cX0_readRow 34 = .ok (.iconst (-1), 1) := by decide +kernel
theorem dX0_readRow_35 : decode cX0_readRow 35 = .ok (.if_icmp .ne 6, 3) := by decide +kernel
theorem dX0_readRow_38 : decode cX0_readRow 38 = .ok (.goto 23, 3) := by decide +kernel
theorem dX0_readRow_41 : decode cX0_readRow 41 = .ok (.aload_n 0, 1) := by decide +kernel
theorem dX0_readRow_42 : decode cX0_readRow 42 = .ok (.aload_n 1, 1) := by decide +kernel
theorem dX0_readRow_43 : decode cX0_readRow 43 = .ok (.bipush 10, 2) := by decide +kernel
theorem dX0_readRow_45 : decode cX0_readRow 45 = .ok (.iload_n 2, 1) := by decide +kernel
theorem dX0_readRow_46 : decode cX0_readRow 46 = .ok (.imul, 1) := by decide +kernel
theorem dX0_readRow_47 : decode cX0_readRow 47 = .ok (.iload 4, 2) := by decide +kernel
theorem dX0_readRow_49 : decode cX0_readRow 49 = .ok (.iadd, 1) := by decide +kernel
theorem dX0_readRow_50 : decode cX0_readRow 50 = .ok (.iload 5, 2) := by decide +kernel
theorem dX0_readRow_52 : decode cX0_readRow 52 = .ok (.invokevirtual 71, 3) := by decide +kernel
theorem dX0_readRow_55 : decode cX0_readRow 55 = .ok (.iinc 4 1, 3) := by decide +kernel
theorem dX0_readRow_58 : decode cX0_readRow 58 = .ok (.goto (-41), 3) := by decide +kernel
theorem dX0_readRow_61 : decode cX0_readRow 61 = .ok (.iload_n 2, 1) := by decide +kernel
theorem dX0_readRow_62 : decode cX0_readRow 62 = .ok (.ifCond .ne 9, 3) := by decide +kernel
theorem dX0_readRow_65 : decode cX0_readRow 65 = .ok (.aload_n 0, 1) := by decide +kernel
theorem dX0_readRow_66 : decode cX0_readRow 66 = .ok (.iload 4, 2) := by decide +kernel
theorem dX0_readRow_68 : decode cX0_readRow 68 = .ok (.putfield 28, 3) := by decide +kernel
theorem dX0_readRow_71 : decode cX0_readRow 71 = .ok (.iload 4, 2) := by decide +kernel
theorem dX0_readRow_73 : decode cX0_readRow 73 = .ok (.iconst 2, 1) := by decide +kernel
theorem dX0_readRow_74 : decode cX0_readRow 74 = .ok (.if_icmp .lt 12, 3) := by decide +kernel
theorem dX0_readRow_77 : decode cX0_readRow 77 = .ok (.iload 4, 2) := by decide +kernel
theorem dX0_readRow_79 : decode cX0_readRow 79 = .ok (.aload_n 0, 1) := by decide +kernel
theorem dX0_readRow_80 : decode cX0_readRow 80 = .ok (.getfield 28, 3) := by decide +kernel
theorem dX0_readRow_83 : decode cX0_readRow 83 = .ok (.if_icmp .ge 11, 3) := by decide +kernel
theorem dX0_readRow_86 : decode cX0_readRow 86 = .ok (.aload_n 1, 1) := by decide +kernel
theorem dX0_readRow_87 : decode cX0_readRow 87 = .ok (.aload_n 1, 1) := by decide +kernel
theorem dX0_readRow_88 : decode cX0_readRow 88 = .ok (.getfield 53, 3) := by decide +kernel
theorem dX0_readRow_91 : decode cX0_readRow 91 = .ok (.invokevirtual 56, 3) := by decide +kernel
theorem dX0_readRow_94 : decode cX0_readRow 94 = .ok (.return_, 1) := by decide +kernel
def X0_readRow_L17 (l0 : Nat) (l2 : Int) (l3 : Int) (k61 : Int → Mm → Rs) (k38 : Int → Mm → Rs) : Nat → Int → Mm → Rs
  | 0, _, _ => none
  | n + 1, l4, μ => if l3 ≤ l4 then (k61 l4 μ) else (bd (X4_peek μ) fun v3 μ4 => bd (X0_cellOf v3 μ4) fun v6 μ7 => if v6 = (-1) then (k38 l4 μ7) else (bd (X0_put l0 (iA (iM 10 l2) l4) v6 μ7) fun v10 μ11 => X0_readRow_L17 l0 l2 l3 k61 k38 n (iA l4 1) μ11))
def X0_readRow_J71 (l0 : Nat) (l4 : Int) (μ : Mm) : Rs := if l4 < 2 then (bd (X4_refuseAt (μ 3 1) μ) fun v17 μ18 => some (0, μ18)) else (if (μ l0 4) ≤ l4 then (some (0, μ)) else (bd (X4_refuseAt (μ 3 1) μ) fun v21 μ22 => some (0, μ22)))
def X0_readRow_J61 (l0 : Nat) (l2 : Int) (l4 : Int) (μ : Mm) : Rs := if l2 = 0 then (sF μ l0 4 l4 fun μ24 => X0_readRow_J71 l0 l4 μ24) else (X0_readRow_J71 l0 l4 μ)
def X0_readRow_J13 (l0 : Nat) (l2 : Int) (s0 : Int) (μ : Mm) : Rs := X0_readRow_L17 l0 l2 s0 (fun v13 μ14 => X0_readRow_J61 l0 l2 v13 μ14) (fun v25 μ26 => X0_readRow_J61 l0 l2 v25 μ26) FU 0 μ
def X0_readRow (l0 : Nat) (l2 : Int) (μ : Mm) : Rs := if l2 = 0 then (X0_readRow_J13 l0 l2 9 μ) else (X0_readRow_J13 l0 l2 (μ l0 4) μ)
set_option maxHeartbeats 4000000 in
set_option maxRecDepth 100000 in
theorem kX0_readRow_L17 (d : Nat) (hd : 3 ≤ d) {l0 : Nat} {l2 : Int} {l3 : Int} (hk0 : kD l0 = (10, 9)) {k61 : Int → Mm → Rs} {k38 : Int → Mm → Rs} {r : Int} {μ' : Mm} (hk_61 : ∀ (v4 : Int) (μ1 : Mm), k61 v4 μ1 = some (r, μ') → VV d mX0_readRow 61 [some (vR l0), some (vR 3), some (vI l2), none, some (vI v4), none] [] μ1 r μ') (hk_38 : ∀ (v4 : Int) (μ1 : Mm), k38 v4 μ1 = some (r, μ') → VV d mX0_readRow 38 [some (vR l0), some (vR 3), some (vI l2), none, some (vI v4), none] [] μ1 r μ') : ∀ (n : Nat) {l4 : Int} {μ : Mm}, X0_readRow_L17 l0 l2 l3 k61 k38 n l4 μ = some (r, μ') → VV d mX0_readRow 17 [some (vR l0), some (vR 3), some (vI l2), some (vI l3), some (vI l4), none] [] μ r μ' := by
  intro n
  induction n with
  | zero => intro l4 μ h; rw [X0_readRow_L17] at h; cases h
  | succ n ih =>
    intro l4 μ h
    rw [X0_readRow_L17] at h
    refine V_iload (q := 19) dX0_readRow_17 rfl rfl ?_
    refine V_iload_n (q := 20) dX0_readRow_19 rfl rfl rfl ?_
    refine V_icmpge (q := 61) (q2 := 23) dX0_readRow_20 (by decide) rfl (fun hc2 => ?_) (fun hc2 => ?_)
    · have h := ifT hc2 h
      exact V_weak (hk_61 _ _ h) (sb_s rfl (sb_s rfl (sb_s rfl (sb_n (sb_s rfl (sb_n sb_0))))))
    · have h := ifF hc2 h
      refine V_aload_n (q := 24) dX0_readRow_23 rfl rfl rfl ?_
      obtain ⟨v3, μ4, hc5, h⟩ := bd_i h
      refine V_cV1 (q := 27) (v := vI v3) (kX4_peek (d - 1) (by omega) hc5) (by omega) mv_X0_63 rfl rfl rfl rfl rfl rfl dX0_readRow_24 rfl ?_
      obtain ⟨v6, μ7, hc8, h⟩ := bd_i h
      refine V_cS1 (q := 30) (v := vI v6) (kX0_cellOf (d - 1) (by omega) hc8) (by omega) mv_X0_67 rfl rfl rfl rfl dX0_readRow_27 rfl ?_
      refine V_istore (q := 32) dX0_readRow_30 (Nat.le_of_ble_eq_true rfl) trivial rfl ?_
      refine V_iload (q := 34) dX0_readRow_32 rfl rfl ?_
      refine V_iconst (q := 35) dX0_readRow_34 rfl rfl ?_
      refine V_icmpne (q := 41) (q2 := 38) dX0_readRow_35 (by decide) rfl (fun hc9 => ?_) (fun hc9 => ?_)
      · have h := ifF hc9 h
        refine V_aload_n (q := 42) dX0_readRow_41 rfl rfl rfl ?_
        refine V_aload_n (q := 43) dX0_readRow_42 rfl rfl rfl ?_
        refine V_bipush (q := 45) dX0_readRow_43 rfl rfl rfl ?_
        refine V_iload_n (q := 46) dX0_readRow_45 rfl rfl rfl ?_
        refine V_imul (q := 47) dX0_readRow_46 rfl ?_
        refine V_iload (q := 49) dX0_readRow_47 rfl rfl ?_
        refine V_iadd (q := 50) dX0_readRow_49 rfl ?_
        refine V_iload (q := 52) dX0_readRow_50 rfl rfl ?_
        obtain ⟨v10, μ11, hc12, h⟩ := bd_i h
        refine V_cV0 (q := 55) (kX0_put (d - 1) (by omega) hk0 hc12) (by omega) mv_X0_71 hk0 rfl rfl rfl rfl rfl dX0_readRow_52 rfl ?_
        refine V_iinc (q := 58) dX0_readRow_55 rfl (Nat.le_of_ble_eq_true rfl) trivial rfl ?_
        refine V_goto (q := 17) dX0_readRow_58 (by decide) ?_
        exact V_weak (ih h) (sb_s rfl (sb_s rfl (sb_s rfl (sb_s rfl (sb_s rfl (sb_n sb_0))))))
      · have h := ifT hc9 h
        exact V_weak (hk_38 _ _ h) (sb_s rfl (sb_s rfl (sb_s rfl (sb_n (sb_s rfl (sb_n sb_0))))))
set_option maxHeartbeats 4000000 in
set_option maxRecDepth 100000 in
theorem kX0_readRow_J71 (d : Nat) (hd : 3 ≤ d) {l0 : Nat} {l4 : Int} (hk0 : kD l0 = (10, 9)) {μ : Mm} {r : Int} {μ' : Mm} (h : X0_readRow_J71 l0 l4 μ = some (r, μ')) : VV d mX0_readRow 71 [some (vR l0), some (vR 3), none, none, some (vI l4), none] [] μ r μ' := by
  unfold X0_readRow_J71 at h
  refine V_iload (q := 73) dX0_readRow_71 rfl rfl ?_
  refine V_iconst (q := 74) dX0_readRow_73 rfl rfl ?_
  refine V_icmplt (q := 86) (q2 := 77) dX0_readRow_74 (by decide) rfl (fun hc16 => ?_) (fun hc16 => ?_)
  · have h := ifT hc16 h
    refine V_aload_n (q := 87) dX0_readRow_86 rfl rfl rfl ?_
    refine V_aload_n (q := 88) dX0_readRow_87 rfl rfl rfl ?_
    refine V_getI (q := 91) fl_X0_53 rfl rfl rfl dX0_readRow_88 rfl ?_
    obtain ⟨v17, μ18, hc19, h⟩ := bd_i h
    refine V_cV0 (q := 94) (kX4_refuseAt (d - 1) (by omega) hc19) (by omega) mv_X0_56 rfl rfl rfl rfl rfl rfl dX0_readRow_91 rfl ?_
    exact V_vret rfl h dX0_readRow_94
  · have h := ifF hc16 h
    refine V_iload (q := 79) dX0_readRow_77 rfl rfl ?_
    refine V_aload_n (q := 80) dX0_readRow_79 rfl rfl rfl ?_
    refine V_getI (q := 83) fl_X0_28 hk0 rfl rfl dX0_readRow_80 rfl ?_
    refine V_icmpge (q := 94) (q2 := 86) dX0_readRow_83 (by decide) rfl (fun hc20 => ?_) (fun hc20 => ?_)
    · have h := ifT hc20 h
      exact V_vret rfl h dX0_readRow_94
    · have h := ifF hc20 h
      refine V_aload_n (q := 87) dX0_readRow_86 rfl rfl rfl ?_
      refine V_aload_n (q := 88) dX0_readRow_87 rfl rfl rfl ?_
      refine V_getI (q := 91) fl_X0_53 rfl rfl rfl dX0_readRow_88 rfl ?_
      obtain ⟨v21, μ22, hc23, h⟩ := bd_i h
      refine V_cV0 (q := 94) (kX4_refuseAt (d - 1) (by omega) hc23) (by omega) mv_X0_56 rfl rfl rfl rfl rfl rfl dX0_readRow_91 rfl ?_
      exact V_vret rfl h dX0_readRow_94
set_option maxHeartbeats 4000000 in
set_option maxRecDepth 100000 in
theorem kX0_readRow_J61 (d : Nat) (hd : 3 ≤ d) {l0 : Nat} {l2 : Int} {l4 : Int} (hk0 : kD l0 = (10, 9)) {μ : Mm} {r : Int} {μ' : Mm} (h : X0_readRow_J61 l0 l2 l4 μ = some (r, μ')) : VV d mX0_readRow 61 [some (vR l0), some (vR 3), some (vI l2), none, some (vI l4), none] [] μ r μ' := by
  unfold X0_readRow_J61 at h
  refine V_iload_n (q := 62) dX0_readRow_61 rfl rfl rfl ?_
  refine V_ifne (q := 71) (q2 := 65) dX0_readRow_62 (by decide) rfl (fun hc15 => ?_) (fun hc15 => ?_)
  · have h := ifF hc15 h
    exact V_weak (kX0_readRow_J71 d hd hk0 h) (sb_s rfl (sb_s rfl (sb_n (sb_n (sb_s rfl (sb_n sb_0))))))
  · have h := ifT hc15 h
    refine V_aload_n (q := 66) dX0_readRow_65 rfl rfl rfl ?_
    refine V_iload (q := 68) dX0_readRow_66 rfl rfl ?_
    have h := sF_i h
    refine V_putI (q := 71) fl_X0_28 hk0 rfl rfl dX0_readRow_68 rfl ?_
    exact V_weak (kX0_readRow_J71 d hd hk0 h) (sb_s rfl (sb_s rfl (sb_n (sb_n (sb_s rfl (sb_n sb_0))))))
set_option maxHeartbeats 4000000 in
set_option maxRecDepth 100000 in
theorem kX0_readRow_J13 (d : Nat) (hd : 3 ≤ d) {l0 : Nat} {l2 : Int} {s0 : Int} (hk0 : kD l0 = (10, 9)) {μ : Mm} {r : Int} {μ' : Mm} (h : X0_readRow_J13 l0 l2 s0 μ = some (r, μ')) : VV d mX0_readRow 13 [some (vR l0), some (vR 3), some (vI l2), none, none, none] [vI s0] μ r μ' := by
  unfold X0_readRow_J13 at h
  refine V_istore_n (q := 14) dX0_readRow_13 rfl (Nat.le_of_ble_eq_true rfl) trivial rfl ?_
  refine V_iconst (q := 15) dX0_readRow_14 rfl rfl ?_
  refine V_istore (q := 17) dX0_readRow_15 (Nat.le_of_ble_eq_true rfl) trivial rfl ?_
  refine V_weak (kX0_readRow_L17 d hd hk0 (fun v13 μ14 h => ?_) (fun v25 μ26 h => ?_) FU h) (sb_s rfl (sb_s rfl (sb_s rfl (sb_s rfl (sb_s rfl (sb_n sb_0))))))
  · exact V_weak (kX0_readRow_J61 d hd hk0 h) (sb_s rfl (sb_s rfl (sb_s rfl (sb_n (sb_s rfl (sb_n sb_0))))))
  · refine V_goto (q := 61) dX0_readRow_38 (by decide) ?_
    exact V_weak (kX0_readRow_J61 d hd hk0 h) (sb_s rfl (sb_s rfl (sb_s rfl (sb_n (sb_s rfl (sb_n sb_0))))))
set_option maxHeartbeats 4000000 in
set_option maxRecDepth 100000 in
theorem kX0_readRow (d : Nat) (hd : 3 ≤ d) {l0 : Nat} {l2 : Int} (hk0 : kD l0 = (10, 9)) {μ : Mm} {r : Int} {μ' : Mm} (h : X0_readRow l0 l2 μ = some (r, μ')) : CC d mX0_readRow [vR l0, vR 3, vI l2] μ r μ' := by
  unfold X0_readRow at h
  refine V_enter (by decide) (Nat.le_of_ble_eq_true rfl) ?_
  show VV d mX0_readRow 0 [some (vR l0), some (vR 3), some (vI l2), none, none, none] [] μ r μ'
  refine V_iload_n (q := 1) dX0_readRow_0 rfl rfl rfl ?_
  refine V_ifne (q := 9) (q2 := 4) dX0_readRow_1 (by decide) rfl (fun hc1 => ?_) (fun hc1 => ?_)
  · have h := ifF hc1 h
    refine V_aload_n (q := 10) dX0_readRow_9 rfl rfl rfl ?_
    refine V_getI (q := 13) fl_X0_28 hk0 rfl rfl dX0_readRow_10 rfl ?_
    exact V_weak (kX0_readRow_J13 d hd hk0 h) (sb_s rfl (sb_s rfl (sb_s rfl (sb_n (sb_n (sb_n sb_0))))))
  · have h := ifT hc1 h
    refine V_bipush (q := 6) dX0_readRow_4 rfl rfl rfl ?_
    refine V_goto (q := 13) dX0_readRow_6 (by decide) ?_
    exact V_weak (kX0_readRow_J13 d hd hk0 h) (sb_s rfl (sb_s rfl (sb_s rfl (sb_n (sb_n (sb_n sb_0))))))
abbrev mX4_take : Mth := (yX4_take, cX4_take, 2, some .boolean)
theorem mi_X4_take : Cond.instanceMethod yX4_take ∈ tG ∧ Cond.selects yX4_take.cls yX4_take yX4_take ∈ tG ∧ Cond.initialized yX4_take.cls ∈ tG ∧ Cond.code yX4_take cX4_take 2 (some .boolean) ∈ tG ∧ (yX4_take.cls ≠ "java/lang/invoke/MethodHandle" ∧ yX4_take.cls ≠ "java/lang/invoke/VarHandle" ∧ (parseMethodDescriptor yX4_take.desc).map (fun d => d.parameters.length) = some 1) ∧ 2 ≤ 60 := ⟨(tG_of (List.mem_of_getElem? (i := 548) (by decide +kernel)) (by decide +kernel)), (tG_of (List.mem_of_getElem? (i := 549) (by decide +kernel)) (by decide +kernel)), (tG_of (List.mem_of_getElem? (i := 103) (by decide +kernel)) (by decide +kernel)), (tG_of (List.mem_of_getElem? (i := 550) (by decide +kernel)) (by decide +kernel)), ⟨by decide, by decide, by decide +kernel⟩, by decide⟩
theorem mv_X0_44 : mV RX0 44 mX4_take 1 := ⟨(tG_of (List.mem_of_getElem? (i := 547) (by decide +kernel)) (by decide +kernel)), mi_X4_take⟩
theorem mv_X2_81 : mV RX2 81 mX4_take 1 := ⟨(tG_of (List.mem_of_getElem? (i := 614) (by decide +kernel)) (by decide +kernel)), mi_X4_take⟩
theorem mv_X3_26 : mV RX3 26 mX4_take 1 := ⟨(tG_of (List.mem_of_getElem? (i := 575) (by decide +kernel)) (by decide +kernel)), mi_X4_take⟩
theorem dX4_take_0 : decode cX4_take 0 = .ok (.aload_n 0, 1) := by decide +kernel
theorem dX4_take_1 : decode cX4_take 1 = .ok (.invokevirtual 31, 3) := by decide +kernel
theorem dX4_take_4 : decode cX4_take 4 = .ok (.iload_n 1, 1) := by decide +kernel
theorem dX4_take_5 : decode cX4_take 5 = .ok (.if_icmp .eq 5, 3) := by decide +kernel
theorem dX4_take_8 : decode cX4_take 8 = .ok (.iconst 0, 1) := by decide +kernel
theorem dX4_take_9 : decode cX4_take 9 = .ok (.ireturn, 1) := by decide +kernel
theorem dX4_take_10 : decode cX4_take 10 = .ok (.aload_n 0, 1) := by decide +kernel
theorem dX4_take_11 : decode cX4_take 11 = .ok (.dup, 1) := by decide +kernel
theorem dX4_take_12 : decode cX4_take 12 = .ok (.getfield 19, 3) := by decide +kernel
theorem dX4_take_15 : decode cX4_take 15 = .ok (.iconst 1, 1) := by decide +kernel
theorem dX4_take_16 : decode cX4_take 16 = .ok (.iadd, 1) := by decide +kernel
theorem dX4_take_17 : decode cX4_take 17 = .ok (.putfield 19, 3) := by decide +kernel
theorem dX4_take_20 : decode cX4_take 20 = .ok (.iconst 1, 1) := by decide +kernel
theorem dX4_take_21 : decode cX4_take 21 = .ok (.ireturn, 1) := by decide +kernel
def X4_take (l1 : Int) (μ : Mm) : Rs := bd (X4_peek μ) fun v1 μ2 => if v1 = l1 then (sF μ2 3 1 (iA (μ2 3 1) 1) fun μ5 => some (1, μ5)) else (some (0, μ2))
set_option maxHeartbeats 4000000 in
set_option maxRecDepth 100000 in
theorem kX4_take (d : Nat) (hd : 2 ≤ d) {l1 : Int} {μ : Mm} {r : Int} {μ' : Mm} (h : X4_take l1 μ = some (r, μ')) : CC d mX4_take [vR 3, vI l1] μ r μ' := by
  unfold X4_take at h
  refine V_enter (by decide) (Nat.le_of_ble_eq_true rfl) ?_
  show VV d mX4_take 0 [some (vR 3), some (vI l1)] [] μ r μ'
  refine V_aload_n (q := 1) dX4_take_0 rfl rfl rfl ?_
  obtain ⟨v1, μ2, hc3, h⟩ := bd_i h
  refine V_cV1 (q := 4) (v := vI v1) (kX4_peek (d - 1) (by omega) hc3) (by omega) mv_X4_31 rfl rfl rfl rfl rfl rfl dX4_take_1 rfl ?_
  refine V_iload_n (q := 5) dX4_take_4 rfl rfl rfl ?_
  refine V_icmpeq (q := 10) (q2 := 8) dX4_take_5 (by decide) rfl (fun hc4 => ?_) (fun hc4 => ?_)
  · have h := ifT hc4 h
    refine V_aload_n (q := 11) dX4_take_10 rfl rfl rfl ?_
    refine V_dup (q := 12) dX4_take_11 trivial rfl ?_
    refine V_getI (q := 15) fl_X4_19 rfl rfl rfl dX4_take_12 rfl ?_
    refine V_iconst (q := 16) dX4_take_15 rfl rfl ?_
    refine V_iadd (q := 17) dX4_take_16 rfl ?_
    have h := sF_i h
    refine V_putI (q := 20) fl_X4_19 rfl rfl rfl dX4_take_17 rfl ?_
    refine V_iconst (q := 21) dX4_take_20 rfl rfl ?_
    exact V_zret rfl (Or.inr rfl) h dX4_take_21
  · have h := ifF hc4 h
    refine V_iconst (q := 9) dX4_take_8 rfl rfl ?_
    exact V_zret rfl (Or.inl rfl) h dX4_take_9
abbrev mX4_needEnd : Mth := (yX4_needEnd, cX4_needEnd, 1, none)
theorem mi_X4_needEnd : Cond.instanceMethod yX4_needEnd ∈ tG ∧ Cond.selects yX4_needEnd.cls yX4_needEnd yX4_needEnd ∈ tG ∧ Cond.initialized yX4_needEnd.cls ∈ tG ∧ Cond.code yX4_needEnd cX4_needEnd 1 (none) ∈ tG ∧ (yX4_needEnd.cls ≠ "java/lang/invoke/MethodHandle" ∧ yX4_needEnd.cls ≠ "java/lang/invoke/VarHandle" ∧ (parseMethodDescriptor yX4_needEnd.desc).map (fun d => d.parameters.length) = some 0) ∧ 1 ≤ 60 := ⟨(tG_of (List.mem_of_getElem? (i := 553) (by decide +kernel)) (by decide +kernel)), (tG_of (List.mem_of_getElem? (i := 554) (by decide +kernel)) (by decide +kernel)), (tG_of (List.mem_of_getElem? (i := 103) (by decide +kernel)) (by decide +kernel)), (tG_of (List.mem_of_getElem? (i := 555) (by decide +kernel)) (by decide +kernel)), ⟨by decide, by decide, by decide +kernel⟩, by decide⟩
theorem mv_X0_50 : mV RX0 50 mX4_needEnd 0 := ⟨(tG_of (List.mem_of_getElem? (i := 552) (by decide +kernel)) (by decide +kernel)), mi_X4_needEnd⟩
theorem mv_X2_84 : mV RX2 84 mX4_needEnd 0 := ⟨(tG_of (List.mem_of_getElem? (i := 653) (by decide +kernel)) (by decide +kernel)), mi_X4_needEnd⟩
theorem mv_X3_32 : mV RX3 32 mX4_needEnd 0 := ⟨(tG_of (List.mem_of_getElem? (i := 576) (by decide +kernel)) (by decide +kernel)), mi_X4_needEnd⟩
theorem dX4_needEnd_0 : decode cX4_needEnd 0 = .ok (.aload_n 0, 1) := by decide +kernel
theorem dX4_needEnd_1 : decode cX4_needEnd 1 = .ok (.invokevirtual 31, 3) := by decide +kernel
theorem dX4_needEnd_4 : decode cX4_needEnd 4 = .ok (.iconst (-1), 1) := by decide +kernel
theorem dX4_needEnd_5 : decode cX4_needEnd 5 = .ok (.if_icmp .eq 11, 3) := by decide +kernel
theorem dX4_needEnd_8 : decode cX4_needEnd 8 = .ok (.aload_n 0, 1) := by decide +kernel
theorem dX4_needEnd_9 : decode cX4_needEnd 9 = .ok (.aload_n 0, 1) := by decide +kernel
theorem dX4_needEnd_10 : decode cX4_needEnd 10 = .ok (.getfield 19, 3) := by decide +kernel
theorem dX4_needEnd_13 : decode cX4_needEnd 13 = .ok (.invokevirtual 35, 3) := by decide +kernel
theorem dX4_needEnd_16 : decode cX4_needEnd 16 = .ok (.return_, 1) := by decide +kernel
def X4_needEnd (μ : Mm) : Rs := bd (X4_peek μ) fun v1 μ2 => if v1 = (-1) then (some (0, μ2)) else (bd (X4_refuseAt (μ2 3 1) μ2) fun v5 μ6 => some (0, μ6))
set_option maxHeartbeats 4000000 in
set_option maxRecDepth 100000 in
theorem kX4_needEnd (d : Nat) (hd : 2 ≤ d) {μ : Mm} {r : Int} {μ' : Mm} (h : X4_needEnd μ = some (r, μ')) : CC d mX4_needEnd [vR 3] μ r μ' := by
  unfold X4_needEnd at h
  refine V_enter (by decide) (Nat.le_of_ble_eq_true rfl) ?_
  show VV d mX4_needEnd 0 [some (vR 3)] [] μ r μ'
  refine V_aload_n (q := 1) dX4_needEnd_0 rfl rfl rfl ?_
  obtain ⟨v1, μ2, hc3, h⟩ := bd_i h
  refine V_cV1 (q := 4) (v := vI v1) (kX4_peek (d - 1) (by omega) hc3) (by omega) mv_X4_31 rfl rfl rfl rfl rfl rfl dX4_needEnd_1 rfl ?_
  refine V_iconst (q := 5) dX4_needEnd_4 rfl rfl ?_
  refine V_icmpeq (q := 16) (q2 := 8) dX4_needEnd_5 (by decide) rfl (fun hc4 => ?_) (fun hc4 => ?_)
  · have h := ifT hc4 h
    exact V_vret rfl h dX4_needEnd_16
  · have h := ifF hc4 h
    refine V_aload_n (q := 9) dX4_needEnd_8 rfl rfl rfl ?_
    refine V_aload_n (q := 10) dX4_needEnd_9 rfl rfl rfl ?_
    refine V_getI (q := 13) fl_X4_19 rfl rfl rfl dX4_needEnd_10 rfl ?_
    obtain ⟨v5, μ6, hc7, h⟩ := bd_i h
    refine V_cV0 (q := 16) (kX4_refuseAt (d - 1) (by omega) hc7) (by omega) mv_X4_35 rfl rfl rfl rfl rfl rfl dX4_needEnd_13 rfl ?_
    exact V_vret rfl h dX4_needEnd_16
abbrev mX0_read : Mth := (yX0_read, cX0_read, 3, some .int)
theorem mi_X0_read : Cond.instanceMethod yX0_read ∈ tG ∧ Cond.selects yX0_read.cls yX0_read yX0_read ∈ tG ∧ Cond.initialized yX0_read.cls ∈ tG ∧ Cond.code yX0_read cX0_read 3 (some .int) ∈ tG ∧ (yX0_read.cls ≠ "java/lang/invoke/MethodHandle" ∧ yX0_read.cls ≠ "java/lang/invoke/VarHandle" ∧ (parseMethodDescriptor yX0_read.desc).map (fun d => d.parameters.length) = some 1) ∧ 3 ≤ 60 := ⟨(tG_of (List.mem_of_getElem? (i := 517) (by decide +kernel)) (by decide +kernel)), (tG_of (List.mem_of_getElem? (i := 518) (by decide +kernel)) (by decide +kernel)), (tG_of (List.mem_of_getElem? (i := 105) (by decide +kernel)) (by decide +kernel)), (tG_of (List.mem_of_getElem? (i := 519) (by decide +kernel)) (by decide +kernel)), ⟨by decide, by decide, by decide +kernel⟩, by decide⟩
theorem mv_X10_142 : mV RX10 142 mX0_read 1 := ⟨(tG_of (List.mem_of_getElem? (i := 516) (by decide +kernel)) (by decide +kernel)), mi_X0_read⟩
theorem dX0_read_0 : decode cX0_read 0 = .ok (.aload_n 0, 1) := by decide +kernel
theorem dX0_read_1 : decode cX0_read 1 = .ok (.invokevirtual 21, 3) := by decide +kernel
theorem dX0_read_4 : decode cX0_read 4 = .ok (.aload_n 0, 1) := by decide +kernel
theorem dX0_read_5 : decode cX0_read 5 = .ok (.aload_n 1, 1) := by decide +kernel
theorem dX0_read_6 : decode cX0_read 6 = .ok (.iconst 0, 1) := by decide +kernel
theorem dX0_read_7 : decode cX0_read 7 = .ok (.invokevirtual 40, 3) := by decide +kernel
theorem dX0_read_10 : decode cX0_read 10 = .ok (.iconst 1, 1) := by decide +kernel
theorem dX0_read_11 : decode cX0_read 11 = .ok (.istore_n 2, 1) := by decide +kernel
theorem dX0_read_12 : decode cX0_read 12 = .ok (.iload_n 2, 1) := by decide +kernel
theorem dX0_read_13 : decode cX0_read 13 = .ok (.bipush 6, 2) := by decide +kernel
theorem dX0_read_15 : decode cX0_read 15 = .ok (.if_icmp .ge 24, 3) := by decide +kernel
theorem dX0_read_18 : decode cX0_read 18 = .ok (.aload_n 1, 1) := by decide +kernel
theorem dX0_read_19 : decode cX0_read 19 = .ok (.bipush 47, 2) := by decide +kernel
theorem dX0_read_21 : decode cX0_read 21 = .ok (.invokevirtual 44, 3) := by decide +kernel
theorem dX0_read_24 : decode cX0_read 24 = .ok (.ifCond .eq 15, 3) := by decide +kernel
theorem dX0_read_27 : decode cX0_read 27 = .ok (.aload_n 0, 1) := by decide +kernel
theorem dX0_read_28 : decode cX0_read 28 = .ok (.aload_n 1, 1) := by decide +kernel
theorem dX0_read_29 : decode cX0_read 29 = .ok (.iload_n 2, 1) := by decide +kernel
theorem dX0_read_30 : decode cX0_read 30 = .ok (.invokevirtual 40, 3) := by decide +kernel
theorem dX0_read_33 : decode cX0_read 33 = .ok (.iinc 2 1, 3) := by decide +kernel
theorem dX0_read_36 : decode cX0_read 36 = .ok (.goto (-24), 3) := by decide +kernel
theorem dX0_read_39 : decode cX0_read 39 = .ok (.aload_n 1, 1) := by decide +kernel
theorem dX0_read_40 : decode cX0_read 40 = .ok (.invokevirtual 50, 3) := by decide +kernel
theorem dX0_read_43 : decode cX0_read 43 = .ok (.aload_n 0, 1) := by decide +kernel
theorem dX0_read_44 : decode cX0_read 44 = .ok (.getfield 24, 3) := by decide +kernel
theorem dX0_read_47 : decode cX0_read 47 = .ok (.iconst (-1), 1) := by decide +kernel
theorem dX0_read_48 : decode cX0_read 48 = .ok (.if_icmp .eq 10, 3) := by decide +kernel
theorem dX0_read_51 : decode cX0_read 51 = .ok (.aload_n 0, 1) := by decide +kernel
theorem dX0_read_52 : decode cX0_read 52 = .ok (.getfield 31, 3) := by decide +kernel
theorem dX0_read_55 : decode cX0_read 55 = .ok (.ifCond .ne 11, 3) := by decide +kernel
theorem dX0_read_58 : decode cX0_read 58 = .ok (.aload_n 1, 1) := by decide +kernel
theorem dX0_read_59 : decode cX0_read 59 = .ok (.aload_n 1, 1) := by decide +kernel
theorem dX0_read_60 : decode cX0_read 60 = .ok (.getfield 53, 3) := by decide +kernel
theorem dX0_read_63 : decode cX0_read 63 = .ok (.invokevirtual 56, 3) := by decide +kernel
theorem dX0_read_66 : decode cX0_read 66 = .ok (.aload_n 1, 1) := by decide +kernel
theorem dX0_read_67 : decode cX0_read 67 = .ok (.getfield 60, 3) := by decide +kernel
theorem dX0_read_70 : decode cX0_read 70 = .ok (.ireturn, 1) := by decide +kernel
def X0_read_L12 (l0 : Nat) (k39 : Mm → Rs) : Nat → Int → Mm → Rs
  | 0, _, _ => none
  | n + 1, l2, μ => if 6 ≤ l2 then (k39 μ) else (bd (X4_take 47 μ) fun v8 μ9 => if v8 = 0 then (k39 μ9) else (bd (X0_readRow l0 l2 μ9) fun v12 μ13 => X0_read_L12 l0 k39 n (iA l2 1) μ13))
def X0_read_J39 (l0 : Nat) (μ : Mm) : Rs := bd (X4_needEnd μ) fun v16 μ17 => if (μ17 l0 3) = (-1) then (bd (X4_refuseAt (μ17 3 1) μ17) fun v20 μ21 => some (μ21 3 2, μ21)) else (if (μ17 l0 5) = 0 then (bd (X4_refuseAt (μ17 3 1) μ17) fun v24 μ25 => some (μ25 3 2, μ25)) else (some (μ17 3 2, μ17)))
def X0_read (l0 : Nat) (μ : Mm) : Rs := bd (X0_clear l0 μ) fun v1 μ2 => bd (X0_readRow l0 0 μ2) fun v4 μ5 => X0_read_L12 l0 (fun μ15 => X0_read_J39 l0 μ15) FU 1 μ5
set_option maxHeartbeats 4000000 in
set_option maxRecDepth 100000 in
theorem kX0_read_L12 (d : Nat) (hd : 4 ≤ d) {l0 : Nat} (hk0 : kD l0 = (10, 9)) {k39 : Mm → Rs} {r : Int} {μ' : Mm} (hk_39 : ∀ (μ1 : Mm), k39 μ1 = some (r, μ') → VV d mX0_read 39 [some (vR l0), some (vR 3), none] [] μ1 r μ') : ∀ (n : Nat) {l2 : Int} {μ : Mm}, X0_read_L12 l0 k39 n l2 μ = some (r, μ') → VV d mX0_read 12 [some (vR l0), some (vR 3), some (vI l2)] [] μ r μ' := by
  intro n
  induction n with
  | zero => intro l2 μ h; rw [X0_read_L12] at h; cases h
  | succ n ih =>
    intro l2 μ h
    rw [X0_read_L12] at h
    refine V_iload_n (q := 13) dX0_read_12 rfl rfl rfl ?_
    refine V_bipush (q := 15) dX0_read_13 rfl rfl rfl ?_
    refine V_icmpge (q := 39) (q2 := 18) dX0_read_15 (by decide) rfl (fun hc7 => ?_) (fun hc7 => ?_)
    · have h := ifT hc7 h
      exact V_weak (hk_39 _ h) (sb_s rfl (sb_s rfl (sb_n sb_0)))
    · have h := ifF hc7 h
      refine V_aload_n (q := 19) dX0_read_18 rfl rfl rfl ?_
      refine V_bipush (q := 21) dX0_read_19 rfl rfl rfl ?_
      obtain ⟨v8, μ9, hc10, h⟩ := bd_i h
      refine V_cV1 (q := 24) (v := vI v8) (kX4_take (d - 1) (by omega) hc10) (by omega) mv_X0_44 rfl rfl rfl rfl rfl rfl dX0_read_21 rfl ?_
      refine V_ifeq (q := 39) (q2 := 27) dX0_read_24 (by decide) rfl (fun hc11 => ?_) (fun hc11 => ?_)
      · have h := ifT hc11 h
        exact V_weak (hk_39 _ h) (sb_s rfl (sb_s rfl (sb_n sb_0)))
      · have h := ifF hc11 h
        refine V_aload_n (q := 28) dX0_read_27 rfl rfl rfl ?_
        refine V_aload_n (q := 29) dX0_read_28 rfl rfl rfl ?_
        refine V_iload_n (q := 30) dX0_read_29 rfl rfl rfl ?_
        obtain ⟨v12, μ13, hc14, h⟩ := bd_i h
        refine V_cV0 (q := 33) (kX0_readRow (d - 1) (by omega) hk0 hc14) (by omega) mv_X0_40 hk0 rfl rfl rfl rfl rfl dX0_read_30 rfl ?_
        refine V_iinc (q := 36) dX0_read_33 rfl (Nat.le_of_ble_eq_true rfl) trivial rfl ?_
        refine V_goto (q := 12) dX0_read_36 (by decide) ?_
        exact V_weak (ih h) (sb_s rfl (sb_s rfl (sb_s rfl sb_0)))
set_option maxHeartbeats 4000000 in
set_option maxRecDepth 100000 in
theorem kX0_read_J39 (d : Nat) (hd : 4 ≤ d) {l0 : Nat} (hk0 : kD l0 = (10, 9)) {μ : Mm} {r : Int} {μ' : Mm} (h : X0_read_J39 l0 μ = some (r, μ')) : VV d mX0_read 39 [some (vR l0), some (vR 3), none] [] μ r μ' := by
  unfold X0_read_J39 at h
  refine V_aload_n (q := 40) dX0_read_39 rfl rfl rfl ?_
  obtain ⟨v16, μ17, hc18, h⟩ := bd_i h
  refine V_cV0 (q := 43) (kX4_needEnd (d - 1) (by omega) hc18) (by omega) mv_X0_50 rfl rfl rfl rfl rfl rfl dX0_read_40 rfl ?_
  refine V_aload_n (q := 44) dX0_read_43 rfl rfl rfl ?_
  refine V_getI (q := 47) fl_X0_24 hk0 rfl rfl dX0_read_44 rfl ?_
  refine V_iconst (q := 48) dX0_read_47 rfl rfl ?_
  refine V_icmpeq (q := 58) (q2 := 51) dX0_read_48 (by decide) rfl (fun hc19 => ?_) (fun hc19 => ?_)
  · have h := ifT hc19 h
    refine V_aload_n (q := 59) dX0_read_58 rfl rfl rfl ?_
    refine V_aload_n (q := 60) dX0_read_59 rfl rfl rfl ?_
    refine V_getI (q := 63) fl_X0_53 rfl rfl rfl dX0_read_60 rfl ?_
    obtain ⟨v20, μ21, hc22, h⟩ := bd_i h
    refine V_cV0 (q := 66) (kX4_refuseAt (d - 1) (by omega) hc22) (by omega) mv_X0_56 rfl rfl rfl rfl rfl rfl dX0_read_63 rfl ?_
    refine V_aload_n (q := 67) dX0_read_66 rfl rfl rfl ?_
    refine V_getI (q := 70) fl_X0_60 rfl rfl rfl dX0_read_67 rfl ?_
    exact V_iret rfl h dX0_read_70
  · have h := ifF hc19 h
    refine V_aload_n (q := 52) dX0_read_51 rfl rfl rfl ?_
    refine V_getI (q := 55) fl_X0_31 hk0 rfl rfl dX0_read_52 rfl ?_
    refine V_ifne (q := 66) (q2 := 58) dX0_read_55 (by decide) rfl (fun hc23 => ?_) (fun hc23 => ?_)
    · have h := ifF hc23 h
      refine V_aload_n (q := 67) dX0_read_66 rfl rfl rfl ?_
      refine V_getI (q := 70) fl_X0_60 rfl rfl rfl dX0_read_67 rfl ?_
      exact V_iret rfl h dX0_read_70
    · have h := ifT hc23 h
      refine V_aload_n (q := 59) dX0_read_58 rfl rfl rfl ?_
      refine V_aload_n (q := 60) dX0_read_59 rfl rfl rfl ?_
      refine V_getI (q := 63) fl_X0_53 rfl rfl rfl dX0_read_60 rfl ?_
      obtain ⟨v24, μ25, hc26, h⟩ := bd_i h
      refine V_cV0 (q := 66) (kX4_refuseAt (d - 1) (by omega) hc26) (by omega) mv_X0_56 rfl rfl rfl rfl rfl rfl dX0_read_63 rfl ?_
      refine V_aload_n (q := 67) dX0_read_66 rfl rfl rfl ?_
      refine V_getI (q := 70) fl_X0_60 rfl rfl rfl dX0_read_67 rfl ?_
      exact V_iret rfl h dX0_read_70
set_option maxHeartbeats 4000000 in
set_option maxRecDepth 100000 in
theorem kX0_read (d : Nat) (hd : 4 ≤ d) {l0 : Nat} (hk0 : kD l0 = (10, 9)) {μ : Mm} {r : Int} {μ' : Mm} (h : X0_read l0 μ = some (r, μ')) : CC d mX0_read [vR l0, vR 3] μ r μ' := by
  unfold X0_read at h
  refine V_enter (by decide) (Nat.le_of_ble_eq_true rfl) ?_
  show VV d mX0_read 0 [some (vR l0), some (vR 3), none] [] μ r μ'
  refine V_aload_n (q := 1) dX0_read_0 rfl rfl rfl ?_
  obtain ⟨v1, μ2, hc3, h⟩ := bd_i h
  refine V_cV0 (q := 4) (kX0_clear (d - 1) (by omega) hk0 hc3) (by omega) mv_X0_21 hk0 rfl rfl rfl rfl rfl dX0_read_1 rfl ?_
  refine V_aload_n (q := 5) dX0_read_4 rfl rfl rfl ?_
  refine V_aload_n (q := 6) dX0_read_5 rfl rfl rfl ?_
  refine V_iconst (q := 7) dX0_read_6 rfl rfl ?_
  obtain ⟨v4, μ5, hc6, h⟩ := bd_i h
  refine V_cV0 (q := 10) (kX0_readRow (d - 1) (by omega) hk0 hc6) (by omega) mv_X0_40 hk0 rfl rfl rfl rfl rfl dX0_read_7 rfl ?_
  refine V_iconst (q := 11) dX0_read_10 rfl rfl ?_
  refine V_istore_n (q := 12) dX0_read_11 rfl (Nat.le_of_ble_eq_true rfl) trivial rfl ?_
  refine V_weak (kX0_read_L12 d hd hk0 (fun μ15 h => ?_) FU h) (sb_s rfl (sb_s rfl (sb_s rfl sb_0)))
  exact V_weak (kX0_read_J39 d hd hk0 h) (sb_s rfl (sb_s rfl (sb_n sb_0)))
abbrev mX0_copy : Mth := (yX0_copy, cX0_copy, 2, none)
theorem mi_X0_copy : Cond.instanceMethod yX0_copy ∈ tG ∧ Cond.selects yX0_copy.cls yX0_copy yX0_copy ∈ tG ∧ Cond.initialized yX0_copy.cls ∈ tG ∧ Cond.code yX0_copy cX0_copy 2 (none) ∈ tG ∧ (yX0_copy.cls ≠ "java/lang/invoke/MethodHandle" ∧ yX0_copy.cls ≠ "java/lang/invoke/VarHandle" ∧ (parseMethodDescriptor yX0_copy.desc).map (fun d => d.parameters.length) = some 1) ∧ 2 ≤ 60 := ⟨(tG_of (List.mem_of_getElem? (i := 754) (by decide +kernel)) (by decide +kernel)), (tG_of (List.mem_of_getElem? (i := 755) (by decide +kernel)) (by decide +kernel)), (tG_of (List.mem_of_getElem? (i := 105) (by decide +kernel)) (by decide +kernel)), (tG_of (List.mem_of_getElem? (i := 756) (by decide +kernel)) (by decide +kernel)), ⟨by decide, by decide, by decide +kernel⟩, by decide⟩
theorem mv_X10_208 : mV RX10 208 mX0_copy 1 := ⟨(tG_of (List.mem_of_getElem? (i := 753) (by decide +kernel)) (by decide +kernel)), mi_X0_copy⟩
theorem dX0_copy_0 : decode cX0_copy 0 = .ok (.aload_n 1, 1) := by decide +kernel
theorem dX0_copy_1 : decode cX0_copy 1 = .ok (.getfield 9, 3) := by decide +kernel
theorem dX0_copy_4 : decode cX0_copy 4 = .ok (.iconst 0, 1) := by decide +kernel
theorem dX0_copy_5 : decode cX0_copy 5 = .ok (.aload_n 0, 1) := by decide +kernel
theorem dX0_copy_6 : decode cX0_copy 6 = .ok (.getfield 9, 3) := by decide +kernel
theorem dX0_copy_9 : decode cX0_copy 9 = .ok (.iconst 0, 1) := by decide +kernel
theorem dX0_copy_10 : decode cX0_copy 10 = .ok (.bipush 60, 2) := by decide +kernel
theorem dX0_copy_12 : decode cX0_copy 12 = .ok (.invokestatic 81, 3) := by decide +kernel
theorem dX0_copy_15 : decode cX0_copy 15 = .ok (.aload_n 1, 1) := by decide +kernel
theorem dX0_copy_16 : decode cX0_copy 16 = .ok (.getfield 15, 3) := by decide +kernel
theorem dX0_copy_19 : decode cX0_copy 19 = .ok (.iconst 0, 1) := by decide +kernel
theorem dX0_copy_20 : decode cX0_copy 20 = .ok (.aload_n 0, 1) := by decide +kernel
theorem dX0_copy_21 : decode cX0_copy 21 = .ok (.getfield 15, 3) := by decide +kernel
theorem dX0_copy_24 : decode cX0_copy 24 = .ok (.iconst 0, 1) := by decide +kernel
theorem dX0_copy_25 : decode cX0_copy 25 = .ok (.bipush 8, 2) := by decide +kernel
theorem dX0_copy_27 : decode cX0_copy 27 = .ok (.invokestatic 81, 3) := by decide +kernel
theorem dX0_copy_30 : decode cX0_copy 30 = .ok (.aload_n 1, 1) := by decide +kernel
theorem dX0_copy_31 : decode cX0_copy 31 = .ok (.getfield 18, 3) := by decide +kernel
theorem dX0_copy_34 : decode cX0_copy 34 = .ok (.iconst 0, 1) := by decide +kernel
theorem dX0_copy_35 : decode cX0_copy 35 = .ok (.aload_n 0, 1) := by decide +kernel
theorem dX0_copy_36 : decode cX0_copy 36 = .ok (.getfield 18, 3) := by decide +kernel
theorem dX0_copy_39 : decode cX0_copy 39 = .ok (.iconst 0, 1) := by decide +kernel
theorem dX0_copy_40 : decode cX0_copy 40 = .ok (.bipush 8, 2) := by decide +kernel
theorem dX0_copy_42 : decode cX0_copy 42 = .ok (.invokestatic 81, 3) := by decide +kernel
theorem dX0_copy_45 : decode cX0_copy 45 = .ok (.aload_n 0, 1) := by decide +kernel
theorem dX0_copy_46 : decode cX0_copy 46 = .ok (.aload_n 1, 1) := by decide +kernel
theorem dX0_copy_47 : decode cX0_copy 47 = .ok (.getfield 24, 3) := by decide +kernel
theorem dX0_copy_50 : decode cX0_copy 50 = .ok (.putfield 24, 3) := by decide +kernel
theorem dX0_copy_53 : decode cX0_copy 53 = .ok (.aload_n 0, 1) := by decide +kernel
theorem dX0_copy_54 : decode cX0_copy 54 = .ok (.aload_n 1, 1) := by decide +kernel
theorem dX0_copy_55 : decode cX0_copy 55 = .ok (.getfield 28, 3) := by decide +kernel
theorem dX0_copy_58 : decode cX0_copy 58 = .ok (.putfield 28, 3) := by decide +kernel
theorem dX0_copy_61 : decode cX0_copy 61 = .ok (.aload_n 0, 1) := by decide +kernel
theorem dX0_copy_62 : decode cX0_copy 62 = .ok (.aload_n 1, 1) := by decide +kernel
theorem dX0_copy_63 : decode cX0_copy 63 = .ok (.getfield 31, 3) := by decide +kernel
theorem dX0_copy_66 : decode cX0_copy 66 = .ok (.putfield 31, 3) := by decide +kernel
theorem dX0_copy_69 : decode cX0_copy 69 = .ok (.aload_n 0, 1) := by decide +kernel
theorem dX0_copy_70 : decode cX0_copy 70 = .ok (.aload_n 1, 1) := by decide +kernel
theorem dX0_copy_71 : decode cX0_copy 71 = .ok (.getfield 34, 3) := by decide +kernel
theorem dX0_copy_74 : decode cX0_copy 74 = .ok (.putfield 34, 3) := by decide +kernel
theorem dX0_copy_77 : decode cX0_copy 77 = .ok (.aload_n 0, 1) := by decide +kernel
theorem dX0_copy_78 : decode cX0_copy 78 = .ok (.aload_n 1, 1) := by decide +kernel
theorem dX0_copy_79 : decode cX0_copy 79 = .ok (.getfield 37, 3) := by decide +kernel
theorem dX0_copy_82 : decode cX0_copy 82 = .ok (.putfield 37, 3) := by decide +kernel
theorem dX0_copy_85 : decode cX0_copy 85 = .ok (.aload_n 0, 1) := by decide +kernel
theorem dX0_copy_86 : decode cX0_copy 86 = .ok (.aload_n 1, 1) := by decide +kernel
theorem dX0_copy_87 : decode cX0_copy 87 = .ok (.getfield 87, 3) := by decide +kernel
theorem dX0_copy_90 : decode cX0_copy 90 = .ok (.putfield 87, 3) := by decide +kernel
theorem dX0_copy_93 : decode cX0_copy 93 = .ok (.return_, 1) := by decide +kernel
def X0_copy (l0 : Nat) (l1 : Nat) (μ : Mm) : Rs := cpA μ (l1 + 1) (l0 + 1) 60 fun μ1 => cpA μ1 (l1 + 2) (l0 + 2) 8 fun μ3 => cpA μ3 (l1 + 3) (l0 + 3) 8 fun μ5 => sF μ5 l0 3 (μ5 l1 3) fun μ7 => sF μ7 l0 4 (μ7 l1 4) fun μ8 => sF μ8 l0 5 (μ8 l1 5) fun μ9 => sF μ9 l0 6 (μ9 l1 6) fun μ10 => sF μ10 l0 7 (μ10 l1 7) fun μ11 => sF μ11 l0 8 (μ11 l1 8) fun μ12 => some (0, μ12)
set_option maxHeartbeats 4000000 in
set_option maxRecDepth 100000 in
theorem kX0_copy (d : Nat) (hd : 1 ≤ d) {l0 : Nat} {l1 : Nat} (hk0 : kD l0 = (10, 9)) (hk1 : kD l1 = (10, 9)) {μ : Mm} {r : Int} {μ' : Mm} (h : X0_copy l0 l1 μ = some (r, μ')) : CC d mX0_copy [vR l0, vR l1] μ r μ' := by
  unfold X0_copy at h
  refine V_enter (by decide) (Nat.le_of_ble_eq_true rfl) ?_
  show VV d mX0_copy 0 [some (vR l0), some (vR l1)] [] μ r μ'
  refine V_aload_n (q := 1) dX0_copy_0 rfl rfl rfl ?_
  refine V_getO (q := 4) (t := _) fl_X0_9 hk1 rfl rfl rfl dX0_copy_1 rfl ?_
  refine V_iconst (q := 5) dX0_copy_4 rfl rfl ?_
  refine V_aload_n (q := 6) dX0_copy_5 rfl rfl rfl ?_
  refine V_getO (q := 9) (t := _) fl_X0_9 hk0 rfl rfl rfl dX0_copy_6 rfl ?_
  refine V_iconst (q := 10) dX0_copy_9 rfl rfl ?_
  refine V_bipush (q := 12) dX0_copy_10 rfl rfl rfl ?_
  obtain ⟨hn2, h⟩ := cpA_i h
  refine V_copy (q := 15) mc_X0_81 (by omega) (kdo_0_0 hk1) (kdo_0_0 hk0) hn2 rfl dX0_copy_12 rfl ?_
  refine V_aload_n (q := 16) dX0_copy_15 rfl rfl rfl ?_
  refine V_getO (q := 19) (t := _) fl_X0_15 hk1 rfl rfl rfl dX0_copy_16 rfl ?_
  refine V_iconst (q := 20) dX0_copy_19 rfl rfl ?_
  refine V_aload_n (q := 21) dX0_copy_20 rfl rfl rfl ?_
  refine V_getO (q := 24) (t := _) fl_X0_15 hk0 rfl rfl rfl dX0_copy_21 rfl ?_
  refine V_iconst (q := 25) dX0_copy_24 rfl rfl ?_
  refine V_bipush (q := 27) dX0_copy_25 rfl rfl rfl ?_
  obtain ⟨hn4, h⟩ := cpA_i h
  refine V_copy (q := 30) mc_X0_81 (by omega) (kdo_0_1 hk1) (kdo_0_1 hk0) hn4 rfl dX0_copy_27 rfl ?_
  refine V_aload_n (q := 31) dX0_copy_30 rfl rfl rfl ?_
  refine V_getO (q := 34) (t := _) fl_X0_18 hk1 rfl rfl rfl dX0_copy_31 rfl ?_
  refine V_iconst (q := 35) dX0_copy_34 rfl rfl ?_
  refine V_aload_n (q := 36) dX0_copy_35 rfl rfl rfl ?_
  refine V_getO (q := 39) (t := _) fl_X0_18 hk0 rfl rfl rfl dX0_copy_36 rfl ?_
  refine V_iconst (q := 40) dX0_copy_39 rfl rfl ?_
  refine V_bipush (q := 42) dX0_copy_40 rfl rfl rfl ?_
  obtain ⟨hn6, h⟩ := cpA_i h
  refine V_copy (q := 45) mc_X0_81 (by omega) (kdo_0_2 hk1) (kdo_0_2 hk0) hn6 rfl dX0_copy_42 rfl ?_
  refine V_aload_n (q := 46) dX0_copy_45 rfl rfl rfl ?_
  refine V_aload_n (q := 47) dX0_copy_46 rfl rfl rfl ?_
  refine V_getI (q := 50) fl_X0_24 hk1 rfl rfl dX0_copy_47 rfl ?_
  have h := sF_i h
  refine V_putI (q := 53) fl_X0_24 hk0 rfl rfl dX0_copy_50 rfl ?_
  refine V_aload_n (q := 54) dX0_copy_53 rfl rfl rfl ?_
  refine V_aload_n (q := 55) dX0_copy_54 rfl rfl rfl ?_
  refine V_getI (q := 58) fl_X0_28 hk1 rfl rfl dX0_copy_55 rfl ?_
  have h := sF_i h
  refine V_putI (q := 61) fl_X0_28 hk0 rfl rfl dX0_copy_58 rfl ?_
  refine V_aload_n (q := 62) dX0_copy_61 rfl rfl rfl ?_
  refine V_aload_n (q := 63) dX0_copy_62 rfl rfl rfl ?_
  refine V_getI (q := 66) fl_X0_31 hk1 rfl rfl dX0_copy_63 rfl ?_
  have h := sF_i h
  refine V_putI (q := 69) fl_X0_31 hk0 rfl rfl dX0_copy_66 rfl ?_
  refine V_aload_n (q := 70) dX0_copy_69 rfl rfl rfl ?_
  refine V_aload_n (q := 71) dX0_copy_70 rfl rfl rfl ?_
  refine V_getI (q := 74) fl_X0_34 hk1 rfl rfl dX0_copy_71 rfl ?_
  have h := sF_i h
  refine V_putI (q := 77) fl_X0_34 hk0 rfl rfl dX0_copy_74 rfl ?_
  refine V_aload_n (q := 78) dX0_copy_77 rfl rfl rfl ?_
  refine V_aload_n (q := 79) dX0_copy_78 rfl rfl rfl ?_
  refine V_getI (q := 82) fl_X0_37 hk1 rfl rfl dX0_copy_79 rfl ?_
  have h := sF_i h
  refine V_putI (q := 85) fl_X0_37 hk0 rfl rfl dX0_copy_82 rfl ?_
  refine V_aload_n (q := 86) dX0_copy_85 rfl rfl rfl ?_
  refine V_aload_n (q := 87) dX0_copy_86 rfl rfl rfl ?_
  refine V_getI (q := 90) fl_X0_87 hk1 rfl rfl dX0_copy_87 rfl ?_
  have h := sF_i h
  refine V_putI (q := 93) fl_X0_87 hk0 rfl rfl dX0_copy_90 rfl ?_
  exact V_vret rfl h dX0_copy_93
abbrev mX0_windOf : Mth := (yX0_windOf, cX0_windOf, 2, some .int)
theorem mi_X0_windOf : Cond.instanceMethod yX0_windOf ∈ tG ∧ Cond.selects yX0_windOf.cls yX0_windOf yX0_windOf ∈ tG ∧ Cond.initialized yX0_windOf.cls ∈ tG ∧ Cond.code yX0_windOf cX0_windOf 2 (some .int) ∈ tG ∧ (yX0_windOf.cls ≠ "java/lang/invoke/MethodHandle" ∧ yX0_windOf.cls ≠ "java/lang/invoke/VarHandle" ∧ (parseMethodDescriptor yX0_windOf.desc).map (fun d => d.parameters.length) = some 1) ∧ 2 ≤ 60 := ⟨(tG_of (List.mem_of_getElem? (i := 817) (by decide +kernel)) (by decide +kernel)), (tG_of (List.mem_of_getElem? (i := 818) (by decide +kernel)) (by decide +kernel)), (tG_of (List.mem_of_getElem? (i := 105) (by decide +kernel)) (by decide +kernel)), (tG_of (List.mem_of_getElem? (i := 819) (by decide +kernel)) (by decide +kernel)), ⟨by decide, by decide, by decide +kernel⟩, by decide⟩
theorem mv_X0_94 : mV RX0 94 mX0_windOf 1 := ⟨(tG_of (List.mem_of_getElem? (i := 985) (by decide +kernel)) (by decide +kernel)), mi_X0_windOf⟩
theorem mv_X1_38 : mV RX1 38 mX0_windOf 1 := ⟨(tG_of (List.mem_of_getElem? (i := 816) (by decide +kernel)) (by decide +kernel)), mi_X0_windOf⟩
theorem dX0_windOf_0 : decode cX0_windOf 0 = .ok (.iload_n 1, 1) := by decide +kernel
theorem dX0_windOf_1 : decode cX0_windOf 1 = .ok (.ifCond .lt 18, 3) := by decide +kernel
theorem dX0_windOf_4 : decode cX0_windOf 4 = .ok (.iload_n 1, 1) := by decide +kernel
theorem dX0_windOf_5 : decode cX0_windOf 5 = .ok (.bipush 8, 2) := by decide +kernel
theorem dX0_windOf_7 : decode cX0_windOf 7 = .ok (.if_icmp .ge 12, 3) := by decide +kernel
theorem dX0_windOf_10 : decode cX0_windOf 10 = .ok (.aload_n 0, 1) := by decide +kernel
theorem dX0_windOf_11 : decode cX0_windOf 11 = .ok (.getfield 18, 3) := by decide +kernel
theorem dX0_windOf_14 : decode cX0_windOf 14 = .ok (.iload_n 1, 1) := by decide +kernel
theorem dX0_windOf_15 : decode cX0_windOf 15 = .ok (.iaload, 1) := by decide +kernel
theorem dX0_windOf_16 : decode cX0_windOf 16 = .ok (.goto 4, 3) := by decide +kernel
theorem dX0_windOf_19 : decode cX0_windOf 19 = .ok (.iconst 3, 1) := by decide +kernel
theorem dX0_windOf_20 : decode cX0_windOf 20 = .ok (.ireturn, 1) := by decide +kernel
def X0_windOf (l0 : Nat) (l1 : Int) (μ : Mm) : Rs := if l1 < 0 then (some (3, μ)) else (if 8 ≤ l1 then (some (3, μ)) else (ldA μ (l0 + 3) l1 fun v3 => some (v3, μ)))
set_option maxHeartbeats 4000000 in
set_option maxRecDepth 100000 in
theorem kX0_windOf (d : Nat) (hd : 1 ≤ d) {l0 : Nat} {l1 : Int} (hk0 : kD l0 = (10, 9)) {μ : Mm} {r : Int} {μ' : Mm} (h : X0_windOf l0 l1 μ = some (r, μ')) : CC d mX0_windOf [vR l0, vI l1] μ r μ' := by
  unfold X0_windOf at h
  refine V_enter (by decide) (Nat.le_of_ble_eq_true rfl) ?_
  show VV d mX0_windOf 0 [some (vR l0), some (vI l1)] [] μ r μ'
  refine V_iload_n (q := 1) dX0_windOf_0 rfl rfl rfl ?_
  refine V_iflt (q := 19) (q2 := 4) dX0_windOf_1 (by decide) rfl (fun hc1 => ?_) (fun hc1 => ?_)
  · have h := ifT hc1 h
    refine V_iconst (q := 20) dX0_windOf_19 rfl rfl ?_
    exact V_iret rfl h dX0_windOf_20
  · have h := ifF hc1 h
    refine V_iload_n (q := 5) dX0_windOf_4 rfl rfl rfl ?_
    refine V_bipush (q := 7) dX0_windOf_5 rfl rfl rfl ?_
    refine V_icmpge (q := 19) (q2 := 10) dX0_windOf_7 (by decide) rfl (fun hc2 => ?_) (fun hc2 => ?_)
    · have h := ifT hc2 h
      refine V_iconst (q := 20) dX0_windOf_19 rfl rfl ?_
      exact V_iret rfl h dX0_windOf_20
    · have h := ifF hc2 h
      refine V_aload_n (q := 11) dX0_windOf_10 rfl rfl rfl ?_
      refine V_getO (q := 14) (t := _) fl_X0_18 hk0 rfl rfl rfl dX0_windOf_11 rfl ?_
      refine V_iload_n (q := 15) dX0_windOf_14 rfl rfl rfl ?_
      obtain ⟨hi4, h⟩ := ldA_i h
      refine V_iaload (q := 16) (kdo_0_2 hk0) hi4 dX0_windOf_15 rfl ?_
      refine V_goto (q := 20) dX0_windOf_16 (by decide) ?_
      exact V_iret rfl h dX0_windOf_20
abbrev mX0_cellAt : Mth := (yX0_cellAt, cX0_cellAt, 2, some .int)
theorem mi_X0_cellAt : Cond.instanceMethod yX0_cellAt ∈ tG ∧ Cond.selects yX0_cellAt.cls yX0_cellAt yX0_cellAt ∈ tG ∧ Cond.initialized yX0_cellAt.cls ∈ tG ∧ Cond.code yX0_cellAt cX0_cellAt 2 (some .int) ∈ tG ∧ (yX0_cellAt.cls ≠ "java/lang/invoke/MethodHandle" ∧ yX0_cellAt.cls ≠ "java/lang/invoke/VarHandle" ∧ (parseMethodDescriptor yX0_cellAt.desc).map (fun d => d.parameters.length) = some 1) ∧ 2 ≤ 60 := ⟨(tG_of (List.mem_of_getElem? (i := 683) (by decide +kernel)) (by decide +kernel)), (tG_of (List.mem_of_getElem? (i := 684) (by decide +kernel)) (by decide +kernel)), (tG_of (List.mem_of_getElem? (i := 105) (by decide +kernel)) (by decide +kernel)), (tG_of (List.mem_of_getElem? (i := 685) (by decide +kernel)) (by decide +kernel)), ⟨by decide, by decide, by decide +kernel⟩, by decide⟩
theorem mv_X10_178 : mV RX10 178 mX0_cellAt 1 := ⟨(tG_of (List.mem_of_getElem? (i := 682) (by decide +kernel)) (by decide +kernel)), mi_X0_cellAt⟩
theorem mv_X0_101 : mV RX0 101 mX0_cellAt 1 := ⟨(tG_of (List.mem_of_getElem? (i := 747) (by decide +kernel)) (by decide +kernel)), mi_X0_cellAt⟩
theorem dX0_cellAt_0 : decode cX0_cellAt 0 = .ok (.iload_n 1, 1) := by decide +kernel
theorem dX0_cellAt_1 : decode cX0_cellAt 1 = .ok (.ifCond .lt 18, 3) := by decide +kernel
theorem dX0_cellAt_4 : decode cX0_cellAt 4 = .ok (.iload_n 1, 1) := by decide +kernel
theorem dX0_cellAt_5 : decode cX0_cellAt 5 = .ok (.bipush 60, 2) := by decide +kernel
theorem dX0_cellAt_7 : decode cX0_cellAt 7 = .ok (.if_icmp .ge 12, 3) := by decide +kernel
theorem dX0_cellAt_10 : decode cX0_cellAt 10 = .ok (.aload_n 0, 1) := by decide +kernel
theorem dX0_cellAt_11 : decode cX0_cellAt 11 = .ok (.getfield 9, 3) := by decide +kernel
theorem dX0_cellAt_14 : decode cX0_cellAt 14 = .ok (.iload_n 1, 1) := by decide +kernel
theorem dX0_cellAt_15 : decode cX0_cellAt 15 = .ok (.iaload, 1) := by decide +kernel
theorem dX0_cellAt_16 : decode cX0_cellAt 16 = .ok (.goto 4, 3) := by decide +kernel
theorem dX0_cellAt_19 : decode cX0_cellAt 19 = .ok (.iconst (-1), 1) := by decide +kernel
theorem dX0_cellAt_20 : decode cX0_cellAt 20 = .ok (.ireturn, 1) := by decide +kernel
def X0_cellAt (l0 : Nat) (l1 : Int) (μ : Mm) : Rs := if l1 < 0 then (some ((-1), μ)) else (if 60 ≤ l1 then (some ((-1), μ)) else (ldA μ (l0 + 1) l1 fun v3 => some (v3, μ)))
set_option maxHeartbeats 4000000 in
set_option maxRecDepth 100000 in
theorem kX0_cellAt (d : Nat) (hd : 1 ≤ d) {l0 : Nat} {l1 : Int} (hk0 : kD l0 = (10, 9)) {μ : Mm} {r : Int} {μ' : Mm} (h : X0_cellAt l0 l1 μ = some (r, μ')) : CC d mX0_cellAt [vR l0, vI l1] μ r μ' := by
  unfold X0_cellAt at h
  refine V_enter (by decide) (Nat.le_of_ble_eq_true rfl) ?_
  show VV d mX0_cellAt 0 [some (vR l0), some (vI l1)] [] μ r μ'
  refine V_iload_n (q := 1) dX0_cellAt_0 rfl rfl rfl ?_
  refine V_iflt (q := 19) (q2 := 4) dX0_cellAt_1 (by decide) rfl (fun hc1 => ?_) (fun hc1 => ?_)
  · have h := ifT hc1 h
    refine V_iconst (q := 20) dX0_cellAt_19 rfl rfl ?_
    exact V_iret rfl h dX0_cellAt_20
  · have h := ifF hc1 h
    refine V_iload_n (q := 5) dX0_cellAt_4 rfl rfl rfl ?_
    refine V_bipush (q := 7) dX0_cellAt_5 rfl rfl rfl ?_
    refine V_icmpge (q := 19) (q2 := 10) dX0_cellAt_7 (by decide) rfl (fun hc2 => ?_) (fun hc2 => ?_)
    · have h := ifT hc2 h
      refine V_iconst (q := 20) dX0_cellAt_19 rfl rfl ?_
      exact V_iret rfl h dX0_cellAt_20
    · have h := ifF hc2 h
      refine V_aload_n (q := 11) dX0_cellAt_10 rfl rfl rfl ?_
      refine V_getO (q := 14) (t := _) fl_X0_9 hk0 rfl rfl rfl dX0_cellAt_11 rfl ?_
      refine V_iload_n (q := 15) dX0_cellAt_14 rfl rfl rfl ?_
      obtain ⟨hi4, h⟩ := ldA_i h
      refine V_iaload (q := 16) (kdo_0_0 hk0) hi4 dX0_cellAt_15 rfl ?_
      refine V_goto (q := 20) dX0_cellAt_16 (by decide) ?_
      exact V_iret rfl h dX0_cellAt_20
abbrev mX0_isOpen : Mth := (yX0_isOpen, cX0_isOpen, 2, some .boolean)
theorem mi_X0_isOpen : Cond.instanceMethod yX0_isOpen ∈ tG ∧ Cond.selects yX0_isOpen.cls yX0_isOpen yX0_isOpen ∈ tG ∧ Cond.initialized yX0_isOpen.cls ∈ tG ∧ Cond.code yX0_isOpen cX0_isOpen 2 (some .boolean) ∈ tG ∧ (yX0_isOpen.cls ≠ "java/lang/invoke/MethodHandle" ∧ yX0_isOpen.cls ≠ "java/lang/invoke/VarHandle" ∧ (parseMethodDescriptor yX0_isOpen.desc).map (fun d => d.parameters.length) = some 1) ∧ 2 ≤ 60 := ⟨(tG_of (List.mem_of_getElem? (i := 699) (by decide +kernel)) (by decide +kernel)), (tG_of (List.mem_of_getElem? (i := 700) (by decide +kernel)) (by decide +kernel)), (tG_of (List.mem_of_getElem? (i := 105) (by decide +kernel)) (by decide +kernel)), (tG_of (List.mem_of_getElem? (i := 701) (by decide +kernel)) (by decide +kernel)), ⟨by decide, by decide, by decide +kernel⟩, by decide⟩
theorem mv_X10_217 : mV RX10 217 mX0_isOpen 1 := ⟨(tG_of (List.mem_of_getElem? (i := 771) (by decide +kernel)) (by decide +kernel)), mi_X0_isOpen⟩
theorem mv_X9_30 : mV RX9 30 mX0_isOpen 1 := ⟨(tG_of (List.mem_of_getElem? (i := 698) (by decide +kernel)) (by decide +kernel)), mi_X0_isOpen⟩
theorem dX0_isOpen_0 : decode cX0_isOpen 0 = .ok (.iload_n 1, 1) := by decide +kernel
theorem dX0_isOpen_1 : decode cX0_isOpen 1 = .ok (.ifCond .lt 33, 3) := by decide +kernel
theorem dX0_isOpen_4 : decode cX0_isOpen 4 = .ok (.iload_n 1, 1) := by decide +kernel
theorem dX0_isOpen_5 : decode cX0_isOpen 5 = .ok (.bipush 60, 2) := by decide +kernel
theorem dX0_isOpen_7 : decode cX0_isOpen 7 = .ok (.if_icmp .ge 27, 3) := by decide +kernel
theorem dX0_isOpen_10 : decode cX0_isOpen 10 = .ok (.aload_n 0, 1) := by decide +kernel
theorem dX0_isOpen_11 : decode cX0_isOpen 11 = .ok (.getfield 9, 3) := by decide +kernel
theorem dX0_isOpen_14 : decode cX0_isOpen 14 = .ok (.iload_n 1, 1) := by decide +kernel
theorem dX0_isOpen_15 : decode cX0_isOpen 15 = .ok (.iaload, 1) := by decide +kernel
theorem dX0_isOpen_16 : decode cX0_isOpen 16 = .ok (.iconst (-1), 1) := by decide +kernel
theorem dX0_isOpen_17 : decode cX0_isOpen 17 = .ok (.if_icmp .eq 17, 3) := by decide +kernel
theorem dX0_isOpen_20 : decode cX0_isOpen 20 = .ok (.aload_n 0, 1) := by decide +kernel
theorem dX0_isOpen_21 : decode cX0_isOpen 21 = .ok (.getfield 9, 3) := by decide +kernel
theorem dX0_isOpen_24 : decode cX0_isOpen 24 = .ok (.iload_n 1, 1) := by decide +kernel
theorem dX0_isOpen_25 : decode cX0_isOpen 25 = .ok (.iaload, 1) := by decide +kernel
theorem dX0_isOpen_26 : decode cX0_isOpen 26 = .ok (.iconst 1, 1) := by decide +kernel
theorem dX0_isOpen_27 : decode cX0_isOpen 27 = .ok (.if_icmp .eq 7, 3) := by decide +kernel
theorem dX0_isOpen_30 : decode cX0_isOpen 30 = .ok (.iconst 1, 1) := by decide +kernel
theorem dX0_isOpen_31 : decode cX0_isOpen 31 = .ok (.goto 4, 3) := by decide +kernel
theorem dX0_isOpen_34 : decode cX0_isOpen 34 = .ok (.iconst 0, 1) := by decide +kernel
theorem dX0_isOpen_35 : decode cX0_isOpen 35 = .ok (.ireturn, 1) := by decide +kernel
def X0_isOpen (l0 : Nat) (l1 : Int) (μ : Mm) : Rs := if l1 < 0 then (some (0, μ)) else (if 60 ≤ l1 then (some (0, μ)) else (ldA μ (l0 + 1) l1 fun v3 => if v3 = (-1) then (some (0, μ)) else (ldA μ (l0 + 1) l1 fun v6 => if v6 = 1 then (some (0, μ)) else (some (1, μ)))))
set_option maxHeartbeats 4000000 in
set_option maxRecDepth 100000 in
theorem kX0_isOpen (d : Nat) (hd : 1 ≤ d) {l0 : Nat} {l1 : Int} (hk0 : kD l0 = (10, 9)) {μ : Mm} {r : Int} {μ' : Mm} (h : X0_isOpen l0 l1 μ = some (r, μ')) : CC d mX0_isOpen [vR l0, vI l1] μ r μ' := by
  unfold X0_isOpen at h
  refine V_enter (by decide) (Nat.le_of_ble_eq_true rfl) ?_
  show VV d mX0_isOpen 0 [some (vR l0), some (vI l1)] [] μ r μ'
  refine V_iload_n (q := 1) dX0_isOpen_0 rfl rfl rfl ?_
  refine V_iflt (q := 34) (q2 := 4) dX0_isOpen_1 (by decide) rfl (fun hc1 => ?_) (fun hc1 => ?_)
  · have h := ifT hc1 h
    refine V_iconst (q := 35) dX0_isOpen_34 rfl rfl ?_
    exact V_zret rfl (Or.inl rfl) h dX0_isOpen_35
  · have h := ifF hc1 h
    refine V_iload_n (q := 5) dX0_isOpen_4 rfl rfl rfl ?_
    refine V_bipush (q := 7) dX0_isOpen_5 rfl rfl rfl ?_
    refine V_icmpge (q := 34) (q2 := 10) dX0_isOpen_7 (by decide) rfl (fun hc2 => ?_) (fun hc2 => ?_)
    · have h := ifT hc2 h
      refine V_iconst (q := 35) dX0_isOpen_34 rfl rfl ?_
      exact V_zret rfl (Or.inl rfl) h dX0_isOpen_35
    · have h := ifF hc2 h
      refine V_aload_n (q := 11) dX0_isOpen_10 rfl rfl rfl ?_
      refine V_getO (q := 14) (t := _) fl_X0_9 hk0 rfl rfl rfl dX0_isOpen_11 rfl ?_
      refine V_iload_n (q := 15) dX0_isOpen_14 rfl rfl rfl ?_
      obtain ⟨hi4, h⟩ := ldA_i h
      refine V_iaload (q := 16) (kdo_0_0 hk0) hi4 dX0_isOpen_15 rfl ?_
      refine V_iconst (q := 17) dX0_isOpen_16 rfl rfl ?_
      refine V_icmpeq (q := 34) (q2 := 20) dX0_isOpen_17 (by decide) rfl (fun hc5 => ?_) (fun hc5 => ?_)
      · have h := ifT hc5 h
        refine V_iconst (q := 35) dX0_isOpen_34 rfl rfl ?_
        exact V_zret rfl (Or.inl rfl) h dX0_isOpen_35
      · have h := ifF hc5 h
        refine V_aload_n (q := 21) dX0_isOpen_20 rfl rfl rfl ?_
        refine V_getO (q := 24) (t := _) fl_X0_9 hk0 rfl rfl rfl dX0_isOpen_21 rfl ?_
        refine V_iload_n (q := 25) dX0_isOpen_24 rfl rfl rfl ?_
        obtain ⟨hi7, h⟩ := ldA_i h
        refine V_iaload (q := 26) (kdo_0_0 hk0) hi7 dX0_isOpen_25 rfl ?_
        refine V_iconst (q := 27) dX0_isOpen_26 rfl rfl ?_
        refine V_icmpeq (q := 34) (q2 := 30) dX0_isOpen_27 (by decide) rfl (fun hc8 => ?_) (fun hc8 => ?_)
        · have h := ifT hc8 h
          refine V_iconst (q := 35) dX0_isOpen_34 rfl rfl ?_
          exact V_zret rfl (Or.inl rfl) h dX0_isOpen_35
        · have h := ifF hc8 h
          refine V_iconst (q := 31) dX0_isOpen_30 rfl rfl ?_
          refine V_goto (q := 35) dX0_isOpen_31 (by decide) ?_
          exact V_zret rfl (Or.inr rfl) h dX0_isOpen_35
abbrev mX0_tellStoop : Mth := (yX0_tellStoop, cX0_tellStoop, 2, some .boolean)
theorem mi_X0_tellStoop : Cond.instanceMethod yX0_tellStoop ∈ tG ∧ Cond.selects yX0_tellStoop.cls yX0_tellStoop yX0_tellStoop ∈ tG ∧ Cond.initialized yX0_tellStoop.cls ∈ tG ∧ Cond.code yX0_tellStoop cX0_tellStoop 2 (some .boolean) ∈ tG ∧ (yX0_tellStoop.cls ≠ "java/lang/invoke/MethodHandle" ∧ yX0_tellStoop.cls ≠ "java/lang/invoke/VarHandle" ∧ (parseMethodDescriptor yX0_tellStoop.desc).map (fun d => d.parameters.length) = some 1) ∧ 2 ≤ 60 := ⟨(tG_of (List.mem_of_getElem? (i := 712) (by decide +kernel)) (by decide +kernel)), (tG_of (List.mem_of_getElem? (i := 713) (by decide +kernel)) (by decide +kernel)), (tG_of (List.mem_of_getElem? (i := 105) (by decide +kernel)) (by decide +kernel)), (tG_of (List.mem_of_getElem? (i := 714) (by decide +kernel)) (by decide +kernel)), ⟨by decide, by decide, by decide +kernel⟩, by decide⟩
theorem mv_X10_188 : mV RX10 188 mX0_tellStoop 1 := ⟨(tG_of (List.mem_of_getElem? (i := 711) (by decide +kernel)) (by decide +kernel)), mi_X0_tellStoop⟩
theorem dX0_tellStoop_0 : decode cX0_tellStoop 0 = .ok (.aload_n 0, 1) := by decide +kernel
theorem dX0_tellStoop_1 : decode cX0_tellStoop 1 = .ok (.invokevirtual 90, 3) := by decide +kernel
theorem dX0_tellStoop_4 : decode cX0_tellStoop 4 = .ok (.ifCond .eq 14, 3) := by decide +kernel
theorem dX0_tellStoop_7 : decode cX0_tellStoop 7 = .ok (.iload_n 1, 1) := by decide +kernel
theorem dX0_tellStoop_8 : decode cX0_tellStoop 8 = .ok (.iconst 1, 1) := by decide +kernel
theorem dX0_tellStoop_9 : decode cX0_tellStoop 9 = .ok (.if_icmp .lt 9, 3) := by decide +kernel
theorem dX0_tellStoop_12 : decode cX0_tellStoop 12 = .ok (.iload_n 1, 1) := by decide +kernel
theorem dX0_tellStoop_13 : decode cX0_tellStoop 13 = .ok (.bipush 9, 2) := by decide +kernel
theorem dX0_tellStoop_15 : decode cX0_tellStoop 15 = .ok (.if_icmp .le 5, 3) := by decide +kernel
theorem dX0_tellStoop_18 : decode cX0_tellStoop 18 = .ok (.iconst 0, 1) := by decide +kernel
theorem dX0_tellStoop_19 : decode cX0_tellStoop 19 = .ok (.ireturn, 1) := by decide +kernel
theorem dX0_tellStoop_20 : decode cX0_tellStoop 20 = .ok (.aload_n 0, 1) := by decide +kernel
theorem dX0_tellStoop_21 : decode cX0_tellStoop 21 = .ok (.iload_n 1, 1) := by decide +kernel
theorem dX0_tellStoop_22 : decode cX0_tellStoop 22 = .ok (.putfield 37, 3) := by decide +kernel
theorem dX0_tellStoop_25 : decode cX0_tellStoop 25 = .ok (.iconst 1, 1) := by decide +kernel
theorem dX0_tellStoop_26 : decode cX0_tellStoop 26 = .ok (.ireturn, 1) := by decide +kernel
def X0_tellStoop (l0 : Nat) (l1 : Int) (μ : Mm) : Rs := bd (X0_stands l0 μ) fun v1 μ2 => if v1 = 0 then (some (0, μ2)) else (if l1 < 1 then (some (0, μ2)) else (if l1 ≤ 9 then (sF μ2 l0 7 l1 fun μ7 => some (1, μ7)) else (some (0, μ2))))
set_option maxHeartbeats 4000000 in
set_option maxRecDepth 100000 in
theorem kX0_tellStoop (d : Nat) (hd : 2 ≤ d) {l0 : Nat} {l1 : Int} (hk0 : kD l0 = (10, 9)) {μ : Mm} {r : Int} {μ' : Mm} (h : X0_tellStoop l0 l1 μ = some (r, μ')) : CC d mX0_tellStoop [vR l0, vI l1] μ r μ' := by
  unfold X0_tellStoop at h
  refine V_enter (by decide) (Nat.le_of_ble_eq_true rfl) ?_
  show VV d mX0_tellStoop 0 [some (vR l0), some (vI l1)] [] μ r μ'
  refine V_aload_n (q := 1) dX0_tellStoop_0 rfl rfl rfl ?_
  obtain ⟨v1, μ2, hc3, h⟩ := bd_i h
  refine V_cV1 (q := 4) (v := vI v1) (kX0_stands (d - 1) (by omega) hk0 hc3) (by omega) mv_X0_90 hk0 rfl rfl rfl rfl rfl dX0_tellStoop_1 rfl ?_
  refine V_ifeq (q := 18) (q2 := 7) dX0_tellStoop_4 (by decide) rfl (fun hc4 => ?_) (fun hc4 => ?_)
  · have h := ifT hc4 h
    refine V_iconst (q := 19) dX0_tellStoop_18 rfl rfl ?_
    exact V_zret rfl (Or.inl rfl) h dX0_tellStoop_19
  · have h := ifF hc4 h
    refine V_iload_n (q := 8) dX0_tellStoop_7 rfl rfl rfl ?_
    refine V_iconst (q := 9) dX0_tellStoop_8 rfl rfl ?_
    refine V_icmplt (q := 18) (q2 := 12) dX0_tellStoop_9 (by decide) rfl (fun hc5 => ?_) (fun hc5 => ?_)
    · have h := ifT hc5 h
      refine V_iconst (q := 19) dX0_tellStoop_18 rfl rfl ?_
      exact V_zret rfl (Or.inl rfl) h dX0_tellStoop_19
    · have h := ifF hc5 h
      refine V_iload_n (q := 13) dX0_tellStoop_12 rfl rfl rfl ?_
      refine V_bipush (q := 15) dX0_tellStoop_13 rfl rfl rfl ?_
      refine V_icmple (q := 20) (q2 := 18) dX0_tellStoop_15 (by decide) rfl (fun hc6 => ?_) (fun hc6 => ?_)
      · have h := ifT hc6 h
        refine V_aload_n (q := 21) dX0_tellStoop_20 rfl rfl rfl ?_
        refine V_iload_n (q := 22) dX0_tellStoop_21 rfl rfl rfl ?_
        have h := sF_i h
        refine V_putI (q := 25) fl_X0_37 hk0 rfl rfl dX0_tellStoop_22 rfl ?_
        refine V_iconst (q := 26) dX0_tellStoop_25 rfl rfl ?_
        exact V_zret rfl (Or.inr rfl) h dX0_tellStoop_26
      · have h := ifF hc6 h
        refine V_iconst (q := 19) dX0_tellStoop_18 rfl rfl ?_
        exact V_zret rfl (Or.inl rfl) h dX0_tellStoop_19
abbrev mX0_tellNight : Mth := (yX0_tellNight, cX0_tellNight, 2, some .boolean)
theorem mi_X0_tellNight : Cond.instanceMethod yX0_tellNight ∈ tG ∧ Cond.selects yX0_tellNight.cls yX0_tellNight yX0_tellNight ∈ tG ∧ Cond.initialized yX0_tellNight.cls ∈ tG ∧ Cond.code yX0_tellNight cX0_tellNight 2 (some .boolean) ∈ tG ∧ (yX0_tellNight.cls ≠ "java/lang/invoke/MethodHandle" ∧ yX0_tellNight.cls ≠ "java/lang/invoke/VarHandle" ∧ (parseMethodDescriptor yX0_tellNight.desc).map (fun d => d.parameters.length) = some 1) ∧ 2 ≤ 60 := ⟨(tG_of (List.mem_of_getElem? (i := 720) (by decide +kernel)) (by decide +kernel)), (tG_of (List.mem_of_getElem? (i := 721) (by decide +kernel)) (by decide +kernel)), (tG_of (List.mem_of_getElem? (i := 105) (by decide +kernel)) (by decide +kernel)), (tG_of (List.mem_of_getElem? (i := 722) (by decide +kernel)) (by decide +kernel)), ⟨by decide, by decide, by decide +kernel⟩, by decide⟩
theorem mv_X10_191 : mV RX10 191 mX0_tellNight 1 := ⟨(tG_of (List.mem_of_getElem? (i := 719) (by decide +kernel)) (by decide +kernel)), mi_X0_tellNight⟩
theorem dX0_tellNight_0 : decode cX0_tellNight 0 = .ok (.iload_n 1, 1) := by decide +kernel
theorem dX0_tellNight_1 : decode cX0_tellNight 1 = .ok (.ifCond .lt 9, 3) := by decide +kernel
theorem dX0_tellNight_4 : decode cX0_tellNight 4 = .ok (.iload_n 1, 1) := by decide +kernel
theorem dX0_tellNight_5 : decode cX0_tellNight 5 = .ok (.bipush 99, 2) := by decide +kernel
theorem dX0_tellNight_7 : decode cX0_tellNight 7 = .ok (.if_icmp .le 5, 3) := by decide +kernel
theorem dX0_tellNight_10 : decode cX0_tellNight 10 = .ok (.iconst 0, 1) := by decide +kernel
theorem dX0_tellNight_11 : decode cX0_tellNight 11 = .ok (.ireturn, 1) := by decide +kernel
theorem dX0_tellNight_12 : decode cX0_tellNight 12 = .ok (.aload_n 0, 1) := by decide +kernel
theorem dX0_tellNight_13 : decode cX0_tellNight 13 = .ok (.iload_n 1, 1) := by decide +kernel
theorem dX0_tellNight_14 : decode cX0_tellNight 14 = .ok (.putfield 87, 3) := by decide +kernel
theorem dX0_tellNight_17 : decode cX0_tellNight 17 = .ok (.iconst 1, 1) := by decide +kernel
theorem dX0_tellNight_18 : decode cX0_tellNight 18 = .ok (.ireturn, 1) := by decide +kernel
def X0_tellNight (l0 : Nat) (l1 : Int) (μ : Mm) : Rs := if l1 < 0 then (some (0, μ)) else (if l1 ≤ 99 then (sF μ l0 8 l1 fun μ3 => some (1, μ3)) else (some (0, μ)))
set_option maxHeartbeats 4000000 in
set_option maxRecDepth 100000 in
theorem kX0_tellNight (d : Nat) (hd : 1 ≤ d) {l0 : Nat} {l1 : Int} (hk0 : kD l0 = (10, 9)) {μ : Mm} {r : Int} {μ' : Mm} (h : X0_tellNight l0 l1 μ = some (r, μ')) : CC d mX0_tellNight [vR l0, vI l1] μ r μ' := by
  unfold X0_tellNight at h
  refine V_enter (by decide) (Nat.le_of_ble_eq_true rfl) ?_
  show VV d mX0_tellNight 0 [some (vR l0), some (vI l1)] [] μ r μ'
  refine V_iload_n (q := 1) dX0_tellNight_0 rfl rfl rfl ?_
  refine V_iflt (q := 10) (q2 := 4) dX0_tellNight_1 (by decide) rfl (fun hc1 => ?_) (fun hc1 => ?_)
  · have h := ifT hc1 h
    refine V_iconst (q := 11) dX0_tellNight_10 rfl rfl ?_
    exact V_zret rfl (Or.inl rfl) h dX0_tellNight_11
  · have h := ifF hc1 h
    refine V_iload_n (q := 5) dX0_tellNight_4 rfl rfl rfl ?_
    refine V_bipush (q := 7) dX0_tellNight_5 rfl rfl rfl ?_
    refine V_icmple (q := 12) (q2 := 10) dX0_tellNight_7 (by decide) rfl (fun hc2 => ?_) (fun hc2 => ?_)
    · have h := ifT hc2 h
      refine V_aload_n (q := 13) dX0_tellNight_12 rfl rfl rfl ?_
      refine V_iload_n (q := 14) dX0_tellNight_13 rfl rfl rfl ?_
      have h := sF_i h
      refine V_putI (q := 17) fl_X0_87 hk0 rfl rfl dX0_tellNight_14 rfl ?_
      refine V_iconst (q := 18) dX0_tellNight_17 rfl rfl ?_
      exact V_zret rfl (Or.inr rfl) h dX0_tellNight_18
    · have h := ifF hc2 h
      refine V_iconst (q := 11) dX0_tellNight_10 rfl rfl ?_
      exact V_zret rfl (Or.inl rfl) h dX0_tellNight_11
end
section
abbrev mX0_tellWind : Mth := (yX0_tellWind, cX0_tellWind, 3, some .boolean)
theorem mi_X0_tellWind : Cond.instanceMethod yX0_tellWind ∈ tG ∧ Cond.selects yX0_tellWind.cls yX0_tellWind yX0_tellWind ∈ tG ∧ Cond.initialized yX0_tellWind.cls ∈ tG ∧ Cond.code yX0_tellWind cX0_tellWind 3 (some .boolean) ∈ tG ∧ (yX0_tellWind.cls ≠ "java/lang/invoke/MethodHandle" ∧ yX0_tellWind.cls ≠ "java/lang/invoke/VarHandle" ∧ (parseMethodDescriptor yX0_tellWind.desc).map (fun d => d.parameters.length) = some 2) ∧ 3 ≤ 60 := ⟨(tG_of (List.mem_of_getElem? (i := 728) (by decide +kernel)) (by decide +kernel)), (tG_of (List.mem_of_getElem? (i := 729) (by decide +kernel)) (by decide +kernel)), (tG_of (List.mem_of_getElem? (i := 105) (by decide +kernel)) (by decide +kernel)), (tG_of (List.mem_of_getElem? (i := 730) (by decide +kernel)) (by decide +kernel)), ⟨by decide, by decide, by decide +kernel⟩, by decide⟩
theorem mv_X10_194 : mV RX10 194 mX0_tellWind 2 := ⟨(tG_of (List.mem_of_getElem? (i := 727) (by decide +kernel)) (by decide +kernel)), mi_X0_tellWind⟩
theorem mv_X0_97 : mV RX0 97 mX0_tellWind 2 := ⟨(tG_of (List.mem_of_getElem? (i := 986) (by decide +kernel)) (by decide +kernel)), mi_X0_tellWind⟩
theorem dX0_tellWind_0 : decode cX0_tellWind 0 = .ok (.aload_n 0, 1) := by decide +kernel
theorem dX0_tellWind_1 : decode cX0_tellWind 1 = .ok (.iload_n 1, 1) := by decide +kernel
theorem dX0_tellWind_2 : decode cX0_tellWind 2 = .ok (.invokevirtual 75, 3) := by decide +kernel
theorem dX0_tellWind_5 : decode cX0_tellWind 5 = .ok (.iconst (-1), 1) := by decide +kernel
theorem dX0_tellWind_6 : decode cX0_tellWind 6 = .ok (.if_icmp .eq 14, 3) := by decide +kernel
theorem dX0_tellWind_9 : decode cX0_tellWind 9 = .ok (.iload_n 2, 1) := by decide +kernel
theorem dX0_tellWind_10 : decode cX0_tellWind 10 = .ok (.iconst 1, 1) := by decide +kernel
theorem dX0_tellWind_11 : decode cX0_tellWind 11 = .ok (.if_icmp .lt 9, 3) := by decide +kernel
theorem dX0_tellWind_14 : decode cX0_tellWind 14 = .ok (.iload_n 2, 1) := by decide +kernel
theorem dX0_tellWind_15 : decode cX0_tellWind 15 = .ok (.bipush 30, 2) := by decide +kernel
theorem dX0_tellWind_17 : decode cX0_tellWind 17 = .ok (.if_icmp .le 5, 3) := by decide +kernel
theorem dX0_tellWind_20 : decode cX0_tellWind 20 = .ok (.iconst 0, 1) := by decide +kernel
theorem dX0_tellWind_21 : decode cX0_tellWind 21 = .ok (.ireturn, 1) := by decide +kernel
theorem dX0_tellWind_22 : decode cX0_tellWind 22 = .ok (.aload_n 0, 1) := by decide +kernel
theorem dX0_tellWind_23 : decode cX0_tellWind 23 = .ok (.getfield 18, 3) := by decide +kernel
theorem dX0_tellWind_26 : decode cX0_tellWind 26 = .ok (.iload_n 1, 1) := by decide +kernel
theorem dX0_tellWind_27 : decode cX0_tellWind 27 = .ok (.iload_n 2, 1) := by decide +kernel
theorem dX0_tellWind_28 : decode cX0_tellWind 28 = .ok (.iastore, 1) := by decide +kernel
theorem dX0_tellWind_29 : decode cX0_tellWind 29 = .ok (.iconst 1, 1) := by decide +kernel
theorem dX0_tellWind_30 : decode cX0_tellWind 30 = .ok (.ireturn, 1) := by decide +kernel
def X0_tellWind (l0 : Nat) (l1 : Int) (l2 : Int) (μ : Mm) : Rs := bd (X0_placeOf l0 l1 μ) fun v1 μ2 => if v1 = (-1) then (some (0, μ2)) else (if l2 < 1 then (some (0, μ2)) else (if l2 ≤ 30 then (stA μ2 (l0 + 3) l1 l2 fun μ7 => some (1, μ7)) else (some (0, μ2))))
set_option maxHeartbeats 4000000 in
set_option maxRecDepth 100000 in
theorem kX0_tellWind (d : Nat) (hd : 2 ≤ d) {l0 : Nat} {l1 : Int} {l2 : Int} (hk0 : kD l0 = (10, 9)) {μ : Mm} {r : Int} {μ' : Mm} (h : X0_tellWind l0 l1 l2 μ = some (r, μ')) : CC d mX0_tellWind [vR l0, vI l1, vI l2] μ r μ' := by
  unfold X0_tellWind at h
  refine V_enter (by decide) (Nat.le_of_ble_eq_true rfl) ?_
  show VV d mX0_tellWind 0 [some (vR l0), some (vI l1), some (vI l2)] [] μ r μ'
  refine V_aload_n (q := 1) dX0_tellWind_0 rfl rfl rfl ?_
  refine V_iload_n (q := 2) dX0_tellWind_1 rfl rfl rfl ?_
  obtain ⟨v1, μ2, hc3, h⟩ := bd_i h
  refine V_cV1 (q := 5) (v := vI v1) (kX0_placeOf (d - 1) (by omega) hk0 hc3) (by omega) mv_X0_75 hk0 rfl rfl rfl rfl rfl dX0_tellWind_2 rfl ?_
  refine V_iconst (q := 6) dX0_tellWind_5 rfl rfl ?_
  refine V_icmpeq (q := 20) (q2 := 9) dX0_tellWind_6 (by decide) rfl (fun hc4 => ?_) (fun hc4 => ?_)
  · have h := ifT hc4 h
    refine V_iconst (q := 21) dX0_tellWind_20 rfl rfl ?_
    exact V_zret rfl (Or.inl rfl) h dX0_tellWind_21
  · have h := ifF hc4 h
    refine V_iload_n (q := 10) dX0_tellWind_9 rfl rfl rfl ?_
    refine V_iconst (q := 11) dX0_tellWind_10 rfl rfl ?_
    refine V_icmplt (q := 20) (q2 := 14) dX0_tellWind_11 (by decide) rfl (fun hc5 => ?_) (fun hc5 => ?_)
    · have h := ifT hc5 h
      refine V_iconst (q := 21) dX0_tellWind_20 rfl rfl ?_
      exact V_zret rfl (Or.inl rfl) h dX0_tellWind_21
    · have h := ifF hc5 h
      refine V_iload_n (q := 15) dX0_tellWind_14 rfl rfl rfl ?_
      refine V_bipush (q := 17) dX0_tellWind_15 rfl rfl rfl ?_
      refine V_icmple (q := 22) (q2 := 20) dX0_tellWind_17 (by decide) rfl (fun hc6 => ?_) (fun hc6 => ?_)
      · have h := ifT hc6 h
        refine V_aload_n (q := 23) dX0_tellWind_22 rfl rfl rfl ?_
        refine V_getO (q := 26) (t := _) fl_X0_18 hk0 rfl rfl rfl dX0_tellWind_23 rfl ?_
        refine V_iload_n (q := 27) dX0_tellWind_26 rfl rfl rfl ?_
        refine V_iload_n (q := 28) dX0_tellWind_27 rfl rfl rfl ?_
        obtain ⟨hi8, h⟩ := stA_i h
        refine V_iastore (q := 29) (kdo_0_2 hk0) hi8 dX0_tellWind_28 rfl ?_
        refine V_iconst (q := 30) dX0_tellWind_29 rfl rfl ?_
        exact V_zret rfl (Or.inr rfl) h dX0_tellWind_30
      · have h := ifF hc6 h
        refine V_iconst (q := 21) dX0_tellWind_20 rfl rfl ?_
        exact V_zret rfl (Or.inl rfl) h dX0_tellWind_21
abbrev mX0_halveWind : Mth := (yX0_halveWind, cX0_halveWind, 2, some .boolean)
theorem mi_X0_halveWind : Cond.instanceMethod yX0_halveWind ∈ tG ∧ Cond.selects yX0_halveWind.cls yX0_halveWind yX0_halveWind ∈ tG ∧ Cond.initialized yX0_halveWind.cls ∈ tG ∧ Cond.code yX0_halveWind cX0_halveWind 2 (some .boolean) ∈ tG ∧ (yX0_halveWind.cls ≠ "java/lang/invoke/MethodHandle" ∧ yX0_halveWind.cls ≠ "java/lang/invoke/VarHandle" ∧ (parseMethodDescriptor yX0_halveWind.desc).map (fun d => d.parameters.length) = some 1) ∧ 2 ≤ 60 := ⟨(tG_of (List.mem_of_getElem? (i := 982) (by decide +kernel)) (by decide +kernel)), (tG_of (List.mem_of_getElem? (i := 983) (by decide +kernel)) (by decide +kernel)), (tG_of (List.mem_of_getElem? (i := 105) (by decide +kernel)) (by decide +kernel)), (tG_of (List.mem_of_getElem? (i := 984) (by decide +kernel)) (by decide +kernel)), ⟨by decide, by decide, by decide +kernel⟩, by decide⟩
theorem mv_X10_337 : mV RX10 337 mX0_halveWind 1 := ⟨(tG_of (List.mem_of_getElem? (i := 981) (by decide +kernel)) (by decide +kernel)), mi_X0_halveWind⟩
theorem dX0_halveWind_0 : decode cX0_halveWind 0 = .ok (.aload_n 0, 1) := by decide +kernel
theorem dX0_halveWind_1 : decode cX0_halveWind 1 = .ok (.iload_n 1, 1) := by decide +kernel
theorem dX0_halveWind_2 : decode cX0_halveWind 2 = .ok (.aload_n 0, 1) := by decide +kernel
theorem dX0_halveWind_3 : decode cX0_halveWind 3 = .ok (.iload_n 1, 1) := by decide +kernel
theorem dX0_halveWind_4 : decode cX0_halveWind 4 = .ok (.invokevirtual 94, 3) := by decide +kernel
theorem dX0_halveWind_7 : decode cX0_halveWind 7 = .ok (.iconst 1, 1) := by decide +kernel
theorem dX0_halveWind_8 : decode cX0_halveWind 8 = .ok (.iadd, 1) := by decide +kernel
theorem dX0_halveWind_9 : decode cX0_halveWind 9 = .ok (.iconst 2, 1) := by decide +kernel
theorem dX0_halveWind_10 : decode cX0_halveWind 10 = .ok (.idiv, 1) := by decide +kernel
theorem dX0_halveWind_11 : decode cX0_halveWind 11 = .ok (.invokevirtual 97, 3) := by decide +kernel
theorem dX0_halveWind_14 : decode cX0_halveWind 14 = .ok (.ireturn, 1) := by decide +kernel
def X0_halveWind (l0 : Nat) (l1 : Int) (μ : Mm) : Rs := bd (X0_windOf l0 l1 μ) fun v1 μ2 => bd (X0_tellWind l0 l1 (iD (iA v1 1) 2) μ2) fun v4 μ5 => rZ v4 μ5
set_option maxHeartbeats 4000000 in
set_option maxRecDepth 100000 in
theorem kX0_halveWind (d : Nat) (hd : 3 ≤ d) {l0 : Nat} {l1 : Int} (hk0 : kD l0 = (10, 9)) {μ : Mm} {r : Int} {μ' : Mm} (h : X0_halveWind l0 l1 μ = some (r, μ')) : CC d mX0_halveWind [vR l0, vI l1] μ r μ' := by
  unfold X0_halveWind at h
  refine V_enter (by decide) (Nat.le_of_ble_eq_true rfl) ?_
  show VV d mX0_halveWind 0 [some (vR l0), some (vI l1)] [] μ r μ'
  refine V_aload_n (q := 1) dX0_halveWind_0 rfl rfl rfl ?_
  refine V_iload_n (q := 2) dX0_halveWind_1 rfl rfl rfl ?_
  refine V_aload_n (q := 3) dX0_halveWind_2 rfl rfl rfl ?_
  refine V_iload_n (q := 4) dX0_halveWind_3 rfl rfl rfl ?_
  obtain ⟨v1, μ2, hc3, h⟩ := bd_i h
  refine V_cV1 (q := 7) (v := vI v1) (kX0_windOf (d - 1) (by omega) hk0 hc3) (by omega) mv_X0_94 hk0 rfl rfl rfl rfl rfl dX0_halveWind_4 rfl ?_
  refine V_iconst (q := 8) dX0_halveWind_7 rfl rfl ?_
  refine V_iadd (q := 9) dX0_halveWind_8 rfl ?_
  refine V_iconst (q := 10) dX0_halveWind_9 rfl rfl ?_
  refine V_idiv (q := 11) dX0_halveWind_10 (by decide) rfl ?_
  obtain ⟨v4, μ5, hc6, h⟩ := bd_i h
  refine V_cV1 (q := 14) (v := vI v4) (kX0_tellWind (d - 1) (by omega) hk0 hc6) (by omega) mv_X0_97 hk0 rfl rfl rfl rfl rfl dX0_halveWind_11 rfl ?_
  obtain ⟨hz7, h⟩ := rZ_i h
  exact V_zret rfl hz7 h dX0_halveWind_14
abbrev mX0_exchangeCranks : Mth := (yX0_exchangeCranks, cX0_exchangeCranks, 5, some .boolean)
theorem mi_X0_exchangeCranks : Cond.instanceMethod yX0_exchangeCranks ∈ tG ∧ Cond.selects yX0_exchangeCranks.cls yX0_exchangeCranks yX0_exchangeCranks ∈ tG ∧ Cond.initialized yX0_exchangeCranks.cls ∈ tG ∧ Cond.code yX0_exchangeCranks cX0_exchangeCranks 5 (some .boolean) ∈ tG ∧ (yX0_exchangeCranks.cls ≠ "java/lang/invoke/MethodHandle" ∧ yX0_exchangeCranks.cls ≠ "java/lang/invoke/VarHandle" ∧ (parseMethodDescriptor yX0_exchangeCranks.desc).map (fun d => d.parameters.length) = some 2) ∧ 5 ≤ 60 := ⟨(tG_of (List.mem_of_getElem? (i := 736) (by decide +kernel)) (by decide +kernel)), (tG_of (List.mem_of_getElem? (i := 737) (by decide +kernel)) (by decide +kernel)), (tG_of (List.mem_of_getElem? (i := 105) (by decide +kernel)) (by decide +kernel)), (tG_of (List.mem_of_getElem? (i := 738) (by decide +kernel)) (by decide +kernel)), ⟨by decide, by decide, by decide +kernel⟩, by decide⟩
theorem mv_X10_198 : mV RX10 198 mX0_exchangeCranks 2 := ⟨(tG_of (List.mem_of_getElem? (i := 735) (by decide +kernel)) (by decide +kernel)), mi_X0_exchangeCranks⟩
theorem dX0_exchangeCranks_0 : decode cX0_exchangeCranks 0 = .ok (.aload_n 0, 1) := by decide +kernel
theorem dX0_exchangeCranks_1 : decode cX0_exchangeCranks 1 = .ok (.iload_n 1, 1) := by decide +kernel
theorem dX0_exchangeCranks_2 : decode cX0_exchangeCranks 2 = .ok (.invokevirtual 75, 3) := by decide +kernel
theorem dX0_exchangeCranks_5 : decode cX0_exchangeCranks 5 = .ok (.istore_n 3, 1) := by decide +kernel
theorem dX0_exchangeCranks_6 : decode cX0_exchangeCranks 6 = .ok (.aload_n 0, 1) := by decide +kernel
theorem dX0_exchangeCranks_7 : decode cX0_exchangeCranks 7 = .ok (.iload_n 2, 1) := by decide +kernel
theorem dX0_exchangeCranks_8 : decode cX0_exchangeCranks 8 = .ok (.invokevirtual 75, 3) := by decide +kernel
theorem dX0_exchangeCranks_11 : decode cX0_exchangeCranks 11 = .ok (.istore 4, 2) := by decide +kernel
theorem dX0_exchangeCranks_13 : decode cX0_exchangeCranks 13 = .ok (.iload_n 3, 1) := by decide +kernel
theorem dX0_exchangeCranks_14 : decode cX0_exchangeCranks 14 = .ok (.iconst (-1), 1) := by decide +kernel
theorem dX0_exchangeCranks_15 : decode cX0_exchangeCranks 15 = .ok (.if_icmp .eq 14, 3) := by decide +kernel
theorem dX0_exchangeCranks_18 : decode cX0_exchangeCranks 18 = .ok (.iload 4, 2) := by decide +kernel
theorem dX0_exchangeCranks_20 : decode cX0_exchangeCranks 20 = .ok (.iconst (-1), 1) := by decide +kernel
theorem dX0_exchangeCranks_21 : decode cX0_exchangeCranks 21 = .ok (.if_icmp .eq 8, 3) := by decide +kernel
theorem dX0_exchangeCranks_24 : decode cX0_exchangeCranks 24 = .ok (.iload_n 1, 1) := by decide +kernel
theorem dX0_exchangeCranks_25 : decode cX0_exchangeCranks 25 = .ok (.iload_n 2, 1) := by decide +kernel
theorem dX0_exchangeCranks_26 : decode cX0_exchangeCranks 26 = .ok (.if_icmp .ne 5, 3) := by decide +kernel
theorem dX0_exchangeCranks_29 : decode cX0_exchangeCranks 29 = .ok (.iconst 0, 1) := by decide +kernel
theorem dX0_exchangeCranks_30 : decode cX0_exchangeCranks 30 = .ok (.ireturn, 1) := by decide +kernel
theorem dX0_exchangeCranks_31 : decode cX0_exchangeCranks 31 = .ok (.aload_n 0, 1) := by decide +kernel
theorem dX0_exchangeCranks_32 : decode cX0_exchangeCranks 32 = .ok (.getfield 15, 3) := by decide +kernel
theorem dX0_exchangeCranks_35 : decode cX0_exchangeCranks 35 = .ok (.iload_n 1, 1) := by decide +kernel
theorem dX0_exchangeCranks_36 : decode cX0_exchangeCranks 36 = .ok (.iload 4, 2) := by decide +kernel
theorem dX0_exchangeCranks_38 : decode cX0_exchangeCranks 38 = .ok (.iastore, 1) := by decide +kernel
theorem dX0_exchangeCranks_39 : decode cX0_exchangeCranks 39 = .ok (.aload_n 0, 1) := by decide +kernel
theorem dX0_exchangeCranks_40 : decode cX0_exchangeCranks 40 = .ok (.getfield 15, 3) := by decide +kernel
theorem dX0_exchangeCranks_43 : decode cX0_exchangeCranks 43 = .ok (.iload_n 2, 1) := by decide +kernel
theorem dX0_exchangeCranks_44 : decode cX0_exchangeCranks 44 = .ok (.iload_n 3, 1) := by decide +kernel
theorem dX0_exchangeCranks_45 : decode cX0_exchangeCranks 45 = .ok (.iastore, 1) := by decide +kernel
theorem dX0_exchangeCranks_46 : decode cX0_exchangeCranks 46 = .ok (.aload_n 0, 1) := by decide +kernel
theorem dX0_exchangeCranks_47 : decode cX0_exchangeCranks 47 = .ok (.getfield 9, 3) := by decide +kernel
theorem dX0_exchangeCranks_50 : decode cX0_exchangeCranks 50 = .ok (.iload 4, 2) := by decide +kernel
theorem dX0_exchangeCranks_52 : decode cX0_exchangeCranks 52 = .ok (.iconst 3, 1) := by decide +kernel
theorem dX0_exchangeCranks_53 : decode cX0_exchangeCranks 53 = .ok (.iload_n 1, 1) := by decide +kernel
theorem dX0_exchangeCranks_54 : decode cX0_exchangeCranks 54 = .ok (.iadd, 1) := by decide +kernel
theorem dX0_exchangeCranks_55 : decode cX0_exchangeCranks 55 = .ok (.iastore, 1) := by decide +kernel
theorem dX0_exchangeCranks_56 : decode cX0_exchangeCranks 56 = .ok (.aload_n 0, 1) := by decide +kernel
theorem dX0_exchangeCranks_57 : decode cX0_exchangeCranks 57 = .ok (.getfield 9, 3) := by decide +kernel
theorem dX0_exchangeCranks_60 : decode cX0_exchangeCranks 60 = .ok (.iload_n 3, 1) := by decide +kernel
theorem dX0_exchangeCranks_61 : decode cX0_exchangeCranks 61 = .ok (.iconst 3, 1) := by decide +kernel
theorem dX0_exchangeCranks_62 : decode cX0_exchangeCranks 62 = .ok (.iload_n 2, 1) := by decide +kernel
theorem dX0_exchangeCranks_63 : decode cX0_exchangeCranks 63 = .ok (.iadd, 1) := by decide +kernel
theorem dX0_exchangeCranks_64 : decode cX0_exchangeCranks 64 = .ok (.iastore, 1) := by decide +kernel
theorem dX0_exchangeCranks_65 : decode cX0_exchangeCranks 65 = .ok (.iconst 1, 1) := by decide +kernel
theorem dX0_exchangeCranks_66 : decode cX0_exchangeCranks 66 = .ok (.ireturn, 1) := by decide +kernel
def X0_exchangeCranks (l0 : Nat) (l1 : Int) (l2 : Int) (μ : Mm) : Rs := bd (X0_placeOf l0 l1 μ) fun v1 μ2 => bd (X0_placeOf l0 l2 μ2) fun v4 μ5 => if v1 = (-1) then (some (0, μ5)) else (if v4 = (-1) then (some (0, μ5)) else (if l1 = l2 then (some (0, μ5)) else (stA μ5 (l0 + 2) l1 v4 fun μ10 => stA μ10 (l0 + 2) l2 v1 fun μ12 => stA μ12 (l0 + 1) v4 (iA 3 l1) fun μ14 => stA μ14 (l0 + 1) v1 (iA 3 l2) fun μ16 => some (1, μ16))))
set_option maxHeartbeats 4000000 in
set_option maxRecDepth 100000 in
theorem kX0_exchangeCranks (d : Nat) (hd : 2 ≤ d) {l0 : Nat} {l1 : Int} {l2 : Int} (hk0 : kD l0 = (10, 9)) {μ : Mm} {r : Int} {μ' : Mm} (h : X0_exchangeCranks l0 l1 l2 μ = some (r, μ')) : CC d mX0_exchangeCranks [vR l0, vI l1, vI l2] μ r μ' := by
  unfold X0_exchangeCranks at h
  refine V_enter (by decide) (Nat.le_of_ble_eq_true rfl) ?_
  show VV d mX0_exchangeCranks 0 [some (vR l0), some (vI l1), some (vI l2), none, none] [] μ r μ'
  refine V_aload_n (q := 1) dX0_exchangeCranks_0 rfl rfl rfl ?_
  refine V_iload_n (q := 2) dX0_exchangeCranks_1 rfl rfl rfl ?_
  obtain ⟨v1, μ2, hc3, h⟩ := bd_i h
  refine V_cV1 (q := 5) (v := vI v1) (kX0_placeOf (d - 1) (by omega) hk0 hc3) (by omega) mv_X0_75 hk0 rfl rfl rfl rfl rfl dX0_exchangeCranks_2 rfl ?_
  refine V_istore_n (q := 6) dX0_exchangeCranks_5 rfl (Nat.le_of_ble_eq_true rfl) trivial rfl ?_
  refine V_aload_n (q := 7) dX0_exchangeCranks_6 rfl rfl rfl ?_
  refine V_iload_n (q := 8) dX0_exchangeCranks_7 rfl rfl rfl ?_
  obtain ⟨v4, μ5, hc6, h⟩ := bd_i h
  refine V_cV1 (q := 11) (v := vI v4) (kX0_placeOf (d - 1) (by omega) hk0 hc6) (by omega) mv_X0_75 hk0 rfl rfl rfl rfl rfl dX0_exchangeCranks_8 rfl ?_
  refine V_istore (q := 13) dX0_exchangeCranks_11 (Nat.le_of_ble_eq_true rfl) trivial rfl ?_
  refine V_iload_n (q := 14) dX0_exchangeCranks_13 rfl rfl rfl ?_
  refine V_iconst (q := 15) dX0_exchangeCranks_14 rfl rfl ?_
  refine V_icmpeq (q := 29) (q2 := 18) dX0_exchangeCranks_15 (by decide) rfl (fun hc7 => ?_) (fun hc7 => ?_)
  · have h := ifT hc7 h
    refine V_iconst (q := 30) dX0_exchangeCranks_29 rfl rfl ?_
    exact V_zret rfl (Or.inl rfl) h dX0_exchangeCranks_30
  · have h := ifF hc7 h
    refine V_iload (q := 20) dX0_exchangeCranks_18 rfl rfl ?_
    refine V_iconst (q := 21) dX0_exchangeCranks_20 rfl rfl ?_
    refine V_icmpeq (q := 29) (q2 := 24) dX0_exchangeCranks_21 (by decide) rfl (fun hc8 => ?_) (fun hc8 => ?_)
    · have h := ifT hc8 h
      refine V_iconst (q := 30) dX0_exchangeCranks_29 rfl rfl ?_
      exact V_zret rfl (Or.inl rfl) h dX0_exchangeCranks_30
    · have h := ifF hc8 h
      refine V_iload_n (q := 25) dX0_exchangeCranks_24 rfl rfl rfl ?_
      refine V_iload_n (q := 26) dX0_exchangeCranks_25 rfl rfl rfl ?_
      refine V_icmpne (q := 31) (q2 := 29) dX0_exchangeCranks_26 (by decide) rfl (fun hc9 => ?_) (fun hc9 => ?_)
      · have h := ifF hc9 h
        refine V_aload_n (q := 32) dX0_exchangeCranks_31 rfl rfl rfl ?_
        refine V_getO (q := 35) (t := _) fl_X0_15 hk0 rfl rfl rfl dX0_exchangeCranks_32 rfl ?_
        refine V_iload_n (q := 36) dX0_exchangeCranks_35 rfl rfl rfl ?_
        refine V_iload (q := 38) dX0_exchangeCranks_36 rfl rfl ?_
        obtain ⟨hi11, h⟩ := stA_i h
        refine V_iastore (q := 39) (kdo_0_1 hk0) hi11 dX0_exchangeCranks_38 rfl ?_
        refine V_aload_n (q := 40) dX0_exchangeCranks_39 rfl rfl rfl ?_
        refine V_getO (q := 43) (t := _) fl_X0_15 hk0 rfl rfl rfl dX0_exchangeCranks_40 rfl ?_
        refine V_iload_n (q := 44) dX0_exchangeCranks_43 rfl rfl rfl ?_
        refine V_iload_n (q := 45) dX0_exchangeCranks_44 rfl rfl rfl ?_
        obtain ⟨hi13, h⟩ := stA_i h
        refine V_iastore (q := 46) (kdo_0_1 hk0) hi13 dX0_exchangeCranks_45 rfl ?_
        refine V_aload_n (q := 47) dX0_exchangeCranks_46 rfl rfl rfl ?_
        refine V_getO (q := 50) (t := _) fl_X0_9 hk0 rfl rfl rfl dX0_exchangeCranks_47 rfl ?_
        refine V_iload (q := 52) dX0_exchangeCranks_50 rfl rfl ?_
        refine V_iconst (q := 53) dX0_exchangeCranks_52 rfl rfl ?_
        refine V_iload_n (q := 54) dX0_exchangeCranks_53 rfl rfl rfl ?_
        refine V_iadd (q := 55) dX0_exchangeCranks_54 rfl ?_
        obtain ⟨hi15, h⟩ := stA_i h
        refine V_iastore (q := 56) (kdo_0_0 hk0) hi15 dX0_exchangeCranks_55 rfl ?_
        refine V_aload_n (q := 57) dX0_exchangeCranks_56 rfl rfl rfl ?_
        refine V_getO (q := 60) (t := _) fl_X0_9 hk0 rfl rfl rfl dX0_exchangeCranks_57 rfl ?_
        refine V_iload_n (q := 61) dX0_exchangeCranks_60 rfl rfl rfl ?_
        refine V_iconst (q := 62) dX0_exchangeCranks_61 rfl rfl ?_
        refine V_iload_n (q := 63) dX0_exchangeCranks_62 rfl rfl rfl ?_
        refine V_iadd (q := 64) dX0_exchangeCranks_63 rfl ?_
        obtain ⟨hi17, h⟩ := stA_i h
        refine V_iastore (q := 65) (kdo_0_0 hk0) hi17 dX0_exchangeCranks_64 rfl ?_
        refine V_iconst (q := 66) dX0_exchangeCranks_65 rfl rfl ?_
        exact V_zret rfl (Or.inr rfl) h dX0_exchangeCranks_66
      · have h := ifT hc9 h
        refine V_iconst (q := 30) dX0_exchangeCranks_29 rfl rfl ?_
        exact V_zret rfl (Or.inl rfl) h dX0_exchangeCranks_30
abbrev mX0_takePost : Mth := (yX0_takePost, cX0_takePost, 2, some .boolean)
theorem mi_X0_takePost : Cond.instanceMethod yX0_takePost ∈ tG ∧ Cond.selects yX0_takePost.cls yX0_takePost yX0_takePost ∈ tG ∧ Cond.initialized yX0_takePost.cls ∈ tG ∧ Cond.code yX0_takePost cX0_takePost 2 (some .boolean) ∈ tG ∧ (yX0_takePost.cls ≠ "java/lang/invoke/MethodHandle" ∧ yX0_takePost.cls ≠ "java/lang/invoke/VarHandle" ∧ (parseMethodDescriptor yX0_takePost.desc).map (fun d => d.parameters.length) = some 1) ∧ 2 ≤ 60 := ⟨(tG_of (List.mem_of_getElem? (i := 744) (by decide +kernel)) (by decide +kernel)), (tG_of (List.mem_of_getElem? (i := 745) (by decide +kernel)) (by decide +kernel)), (tG_of (List.mem_of_getElem? (i := 105) (by decide +kernel)) (by decide +kernel)), (tG_of (List.mem_of_getElem? (i := 746) (by decide +kernel)) (by decide +kernel)), ⟨by decide, by decide, by decide +kernel⟩, by decide⟩
theorem mv_X10_201 : mV RX10 201 mX0_takePost 1 := ⟨(tG_of (List.mem_of_getElem? (i := 743) (by decide +kernel)) (by decide +kernel)), mi_X0_takePost⟩
theorem dX0_takePost_0 : decode cX0_takePost 0 = .ok (.aload_n 0, 1) := by decide +kernel
theorem dX0_takePost_1 : decode cX0_takePost 1 = .ok (.iload_n 1, 1) := by decide +kernel
theorem dX0_takePost_2 : decode cX0_takePost 2 = .ok (.invokevirtual 101, 3) := by decide +kernel
theorem dX0_takePost_5 : decode cX0_takePost 5 = .ok (.iconst 1, 1) := by decide +kernel
theorem dX0_takePost_6 : decode cX0_takePost 6 = .ok (.if_icmp .eq 5, 3) := by decide +kernel
theorem dX0_takePost_9 : decode cX0_takePost 9 = .ok (.iconst 0, 1) := by decide +kernel
theorem dX0_takePost_10 : decode cX0_takePost 10 = .ok (.ireturn, 1) := by decide +kernel
theorem dX0_takePost_11 : decode cX0_takePost 11 = .ok (.aload_n 0, 1) := by decide +kernel
theorem dX0_takePost_12 : decode cX0_takePost 12 = .ok (.getfield 9, 3) := by decide +kernel
theorem dX0_takePost_15 : decode cX0_takePost 15 = .ok (.iload_n 1, 1) := by decide +kernel
theorem dX0_takePost_16 : decode cX0_takePost 16 = .ok (.iconst 0, 1) := by decide +kernel
theorem dX0_takePost_17 : decode cX0_takePost 17 = .ok (.iastore, 1) := by decide +kernel
theorem dX0_takePost_18 : decode cX0_takePost 18 = .ok (.aload_n 0, 1) := by decide +kernel
theorem dX0_takePost_19 : decode cX0_takePost 19 = .ok (.dup, 1) := by decide +kernel
theorem dX0_takePost_20 : decode cX0_takePost 20 = .ok (.getfield 34, 3) := by decide +kernel
theorem dX0_takePost_23 : decode cX0_takePost 23 = .ok (.iconst 1, 1) := by decide +kernel
theorem dX0_takePost_24 : decode cX0_takePost 24 = .ok (.isub, 1) := by decide +kernel
theorem dX0_takePost_25 : decode cX0_takePost 25 = .ok (.putfield 34, 3) := by decide +kernel
theorem dX0_takePost_28 : decode cX0_takePost 28 = .ok (.iconst 1, 1) := by decide +kernel
theorem dX0_takePost_29 : decode cX0_takePost 29 = .ok (.ireturn, 1) := by decide +kernel
def X0_takePost (l0 : Nat) (l1 : Int) (μ : Mm) : Rs := bd (X0_cellAt l0 l1 μ) fun v1 μ2 => if v1 = 1 then (stA μ2 (l0 + 1) l1 0 fun μ5 => sF μ5 l0 6 (iS (μ5 l0 6) 1) fun μ7 => some (1, μ7)) else (some (0, μ2))
set_option maxHeartbeats 4000000 in
set_option maxRecDepth 100000 in
theorem kX0_takePost (d : Nat) (hd : 2 ≤ d) {l0 : Nat} {l1 : Int} (hk0 : kD l0 = (10, 9)) {μ : Mm} {r : Int} {μ' : Mm} (h : X0_takePost l0 l1 μ = some (r, μ')) : CC d mX0_takePost [vR l0, vI l1] μ r μ' := by
  unfold X0_takePost at h
  refine V_enter (by decide) (Nat.le_of_ble_eq_true rfl) ?_
  show VV d mX0_takePost 0 [some (vR l0), some (vI l1)] [] μ r μ'
  refine V_aload_n (q := 1) dX0_takePost_0 rfl rfl rfl ?_
  refine V_iload_n (q := 2) dX0_takePost_1 rfl rfl rfl ?_
  obtain ⟨v1, μ2, hc3, h⟩ := bd_i h
  refine V_cV1 (q := 5) (v := vI v1) (kX0_cellAt (d - 1) (by omega) hk0 hc3) (by omega) mv_X0_101 hk0 rfl rfl rfl rfl rfl dX0_takePost_2 rfl ?_
  refine V_iconst (q := 6) dX0_takePost_5 rfl rfl ?_
  refine V_icmpeq (q := 11) (q2 := 9) dX0_takePost_6 (by decide) rfl (fun hc4 => ?_) (fun hc4 => ?_)
  · have h := ifT hc4 h
    refine V_aload_n (q := 12) dX0_takePost_11 rfl rfl rfl ?_
    refine V_getO (q := 15) (t := _) fl_X0_9 hk0 rfl rfl rfl dX0_takePost_12 rfl ?_
    refine V_iload_n (q := 16) dX0_takePost_15 rfl rfl rfl ?_
    refine V_iconst (q := 17) dX0_takePost_16 rfl rfl ?_
    obtain ⟨hi6, h⟩ := stA_i h
    refine V_iastore (q := 18) (kdo_0_0 hk0) hi6 dX0_takePost_17 rfl ?_
    refine V_aload_n (q := 19) dX0_takePost_18 rfl rfl rfl ?_
    refine V_dup (q := 20) dX0_takePost_19 trivial rfl ?_
    refine V_getI (q := 23) fl_X0_34 hk0 rfl rfl dX0_takePost_20 rfl ?_
    refine V_iconst (q := 24) dX0_takePost_23 rfl rfl ?_
    refine V_isub (q := 25) dX0_takePost_24 rfl ?_
    have h := sF_i h
    refine V_putI (q := 28) fl_X0_34 hk0 rfl rfl dX0_takePost_25 rfl ?_
    refine V_iconst (q := 29) dX0_takePost_28 rfl rfl ?_
    exact V_zret rfl (Or.inr rfl) h dX0_takePost_29
  · have h := ifF hc4 h
    refine V_iconst (q := 10) dX0_takePost_9 rfl rfl ?_
    exact V_zret rfl (Or.inl rfl) h dX0_takePost_10
abbrev mX0_putPost : Mth := (yX0_putPost, cX0_putPost, 2, some .boolean)
theorem mi_X0_putPost : Cond.instanceMethod yX0_putPost ∈ tG ∧ Cond.selects yX0_putPost.cls yX0_putPost yX0_putPost ∈ tG ∧ Cond.initialized yX0_putPost.cls ∈ tG ∧ Cond.code yX0_putPost cX0_putPost 2 (some .boolean) ∈ tG ∧ (yX0_putPost.cls ≠ "java/lang/invoke/MethodHandle" ∧ yX0_putPost.cls ≠ "java/lang/invoke/VarHandle" ∧ (parseMethodDescriptor yX0_putPost.desc).map (fun d => d.parameters.length) = some 1) ∧ 2 ≤ 60 := ⟨(tG_of (List.mem_of_getElem? (i := 1000) (by decide +kernel)) (by decide +kernel)), (tG_of (List.mem_of_getElem? (i := 1001) (by decide +kernel)) (by decide +kernel)), (tG_of (List.mem_of_getElem? (i := 105) (by decide +kernel)) (by decide +kernel)), (tG_of (List.mem_of_getElem? (i := 1002) (by decide +kernel)) (by decide +kernel)), ⟨by decide, by decide, by decide +kernel⟩, by decide⟩
theorem mv_X10_347 : mV RX10 347 mX0_putPost 1 := ⟨(tG_of (List.mem_of_getElem? (i := 999) (by decide +kernel)) (by decide +kernel)), mi_X0_putPost⟩
theorem dX0_putPost_0 : decode cX0_putPost 0 = .ok (.aload_n 0, 1) := by decide +kernel
theorem dX0_putPost_1 : decode cX0_putPost 1 = .ok (.iload_n 1, 1) := by decide +kernel
theorem dX0_putPost_2 : decode cX0_putPost 2 = .ok (.invokevirtual 101, 3) := by decide +kernel
theorem dX0_putPost_5 : decode cX0_putPost 5 = .ok (.ifCond .eq 5, 3) := by decide +kernel
theorem dX0_putPost_8 : decode cX0_putPost 8 = .ok (.iconst 0, 1) := by decide +kernel
theorem dX0_putPost_9 : decode cX0_putPost 9 = .ok (.ireturn, 1) := by decide +kernel
theorem dX0_putPost_10 : decode cX0_putPost 10 = .ok (.aload_n 0, 1) := by decide +kernel
theorem dX0_putPost_11 : decode cX0_putPost 11 = .ok (.getfield 9, 3) := by decide +kernel
theorem dX0_putPost_14 : decode cX0_putPost 14 = .ok (.iload_n 1, 1) := by decide +kernel
theorem dX0_putPost_15 : decode cX0_putPost 15 = .ok (.iconst 1, 1) := by decide +kernel
theorem dX0_putPost_16 : decode cX0_putPost 16 = .ok (.iastore, 1) := by decide +kernel
theorem dX0_putPost_17 : decode cX0_putPost 17 = .ok (.aload_n 0, 1) := by decide +kernel
theorem dX0_putPost_18 : decode cX0_putPost 18 = .ok (.dup, 1) := by decide +kernel
theorem dX0_putPost_19 : decode cX0_putPost 19 = .ok (.getfield 34, 3) := by decide +kernel
theorem dX0_putPost_22 : decode cX0_putPost 22 = .ok (.iconst 1, 1) := by decide +kernel
theorem dX0_putPost_23 : decode cX0_putPost 23 = .ok (.iadd, 1) := by decide +kernel
theorem dX0_putPost_24 : decode cX0_putPost 24 = .ok (.putfield 34, 3) := by decide +kernel
theorem dX0_putPost_27 : decode cX0_putPost 27 = .ok (.iconst 1, 1) := by decide +kernel
theorem dX0_putPost_28 : decode cX0_putPost 28 = .ok (.ireturn, 1) := by decide +kernel
def X0_putPost (l0 : Nat) (l1 : Int) (μ : Mm) : Rs := bd (X0_cellAt l0 l1 μ) fun v1 μ2 => if v1 = 0 then (stA μ2 (l0 + 1) l1 1 fun μ5 => sF μ5 l0 6 (iA (μ5 l0 6) 1) fun μ7 => some (1, μ7)) else (some (0, μ2))
set_option maxHeartbeats 4000000 in
set_option maxRecDepth 100000 in
theorem kX0_putPost (d : Nat) (hd : 2 ≤ d) {l0 : Nat} {l1 : Int} (hk0 : kD l0 = (10, 9)) {μ : Mm} {r : Int} {μ' : Mm} (h : X0_putPost l0 l1 μ = some (r, μ')) : CC d mX0_putPost [vR l0, vI l1] μ r μ' := by
  unfold X0_putPost at h
  refine V_enter (by decide) (Nat.le_of_ble_eq_true rfl) ?_
  show VV d mX0_putPost 0 [some (vR l0), some (vI l1)] [] μ r μ'
  refine V_aload_n (q := 1) dX0_putPost_0 rfl rfl rfl ?_
  refine V_iload_n (q := 2) dX0_putPost_1 rfl rfl rfl ?_
  obtain ⟨v1, μ2, hc3, h⟩ := bd_i h
  refine V_cV1 (q := 5) (v := vI v1) (kX0_cellAt (d - 1) (by omega) hk0 hc3) (by omega) mv_X0_101 hk0 rfl rfl rfl rfl rfl dX0_putPost_2 rfl ?_
  refine V_ifeq (q := 10) (q2 := 8) dX0_putPost_5 (by decide) rfl (fun hc4 => ?_) (fun hc4 => ?_)
  · have h := ifT hc4 h
    refine V_aload_n (q := 11) dX0_putPost_10 rfl rfl rfl ?_
    refine V_getO (q := 14) (t := _) fl_X0_9 hk0 rfl rfl rfl dX0_putPost_11 rfl ?_
    refine V_iload_n (q := 15) dX0_putPost_14 rfl rfl rfl ?_
    refine V_iconst (q := 16) dX0_putPost_15 rfl rfl ?_
    obtain ⟨hi6, h⟩ := stA_i h
    refine V_iastore (q := 17) (kdo_0_0 hk0) hi6 dX0_putPost_16 rfl ?_
    refine V_aload_n (q := 18) dX0_putPost_17 rfl rfl rfl ?_
    refine V_dup (q := 19) dX0_putPost_18 trivial rfl ?_
    refine V_getI (q := 22) fl_X0_34 hk0 rfl rfl dX0_putPost_19 rfl ?_
    refine V_iconst (q := 23) dX0_putPost_22 rfl rfl ?_
    refine V_iadd (q := 24) dX0_putPost_23 rfl ?_
    have h := sF_i h
    refine V_putI (q := 27) fl_X0_34 hk0 rfl rfl dX0_putPost_24 rfl ?_
    refine V_iconst (q := 28) dX0_putPost_27 rfl rfl ?_
    exact V_zret rfl (Or.inr rfl) h dX0_putPost_28
  · have h := ifF hc4 h
    refine V_iconst (q := 9) dX0_putPost_8 rfl rfl ?_
    exact V_zret rfl (Or.inl rfl) h dX0_putPost_9
abbrev mX9_reach : Mth := (yX9_reach, cX9_reach, 4, none)
theorem mi_X9_reach : Cond.instanceMethod yX9_reach ∈ tG ∧ Cond.selects yX9_reach.cls yX9_reach yX9_reach ∈ tG ∧ Cond.initialized yX9_reach.cls ∈ tG ∧ Cond.code yX9_reach cX9_reach 4 (none) ∈ tG ∧ (yX9_reach.cls ≠ "java/lang/invoke/MethodHandle" ∧ yX9_reach.cls ≠ "java/lang/invoke/VarHandle" ∧ (parseMethodDescriptor yX9_reach.desc).map (fun d => d.parameters.length) = some 3) ∧ 4 ≤ 60 := ⟨(tG_of (List.mem_of_getElem? (i := 696) (by decide +kernel)) (by decide +kernel)), (tG_of (List.mem_of_getElem? (i := 19) (by decide +kernel)) (by decide +kernel)), (tG_of (List.mem_of_getElem? (i := 107) (by decide +kernel)) (by decide +kernel)), (tG_of (List.mem_of_getElem? (i := 697) (by decide +kernel)) (by decide +kernel)), ⟨by decide, by decide, by decide +kernel⟩, by decide⟩
theorem mv_X9_22 : mV RX9 22 mX9_reach 3 := ⟨(tG_of (List.mem_of_getElem? (i := 694) (by decide +kernel)) (by decide +kernel)), mi_X9_reach⟩
theorem dX9_reach_0 : decode cX9_reach 0 = .ok (.aload_n 1, 1) := by decide +kernel
theorem dX9_reach_1 : decode cX9_reach 1 = .ok (.iload_n 2, 1) := by decide +kernel
theorem dX9_reach_2 : decode cX9_reach 2 = .ok (.invokevirtual 30, 3) := by decide +kernel
theorem dX9_reach_5 : decode cX9_reach 5 = .ok (.ifCond .eq 49, 3) := by decide +kernel
theorem dX9_reach_8 : decode cX9_reach 8 = .ok (.aload_n 0, 1) := by decide +kernel
theorem dX9_reach_9 : decode cX9_reach 9 = .ok (.getfield 9, 3) := by decide +kernel
theorem dX9_reach_12 : decode cX9_reach 12 = .ok (.iload_n 2, 1) := by decide +kernel
theorem dX9_reach_13 : decode cX9_reach 13 = .ok (.iaload, 1) := by decide +kernel
theorem dX9_reach_14 : decode cX9_reach 14 = .ok (.iconst (-1), 1) := by decide +kernel
theorem dX9_reach_15 : decode cX9_reach 15 = .ok (.if_icmp .ne 39, 3) := by decide +kernel
theorem dX9_reach_18 : decode cX9_reach 18 = .ok (.aload_n 0, 1) := by decide +kernel
theorem dX9_reach_19 : decode cX9_reach 19 = .ok (.getfield 18, 3) := by decide +kernel
theorem dX9_reach_22 : decode cX9_reach 22 = .ok (.bipush 60, 2) := by decide +kernel
theorem dX9_reach_24 : decode cX9_reach 24 = .ok (.if_icmp .ge 30, 3) := by decide +kernel
theorem dX9_reach_27 : decode cX9_reach 27 = .ok (.aload_n 0, 1) := by decide +kernel
theorem dX9_reach_28 : decode cX9_reach 28 = .ok (.getfield 9, 3) := by decide +kernel
theorem dX9_reach_31 : decode cX9_reach 31 = .ok (.iload_n 2, 1) := by decide +kernel
theorem dX9_reach_32 : decode cX9_reach 32 = .ok (.iload_n 3, 1) := by decide +kernel
theorem dX9_reach_33 : decode cX9_reach 33 = .ok (.iastore, 1) := by decide +kernel
theorem dX9_reach_34 : decode cX9_reach 34 = .ok (.aload_n 0, 1) := by decide +kernel
theorem dX9_reach_35 : decode cX9_reach 35 = .ok (.getfield 15, 3) := by decide +kernel
theorem dX9_reach_38 : decode cX9_reach 38 = .ok (.aload_n 0, 1) := by decide +kernel
theorem dX9_reach_39 : decode cX9_reach 39 = .ok (.getfield 18, 3) := by decide +kernel
theorem dX9_reach_42 : decode cX9_reach 42 = .ok (.iload_n 2, 1) := by decide +kernel
theorem dX9_reach_43 : decode cX9_reach 43 = .ok (.iastore, 1) := by decide +kernel
theorem dX9_reach_44 : decode cX9_reach 44 = .ok (.aload_n 0, 1) := by decide +kernel
theorem dX9_reach_45 : decode cX9_reach 45 = .ok (.dup, 1) := by decide +kernel
theorem dX9_reach_46 : decode cX9_reach 46 = .ok (.getfield 18, 3) := by decide +kernel
theorem dX9_reach_49 : decode cX9_reach 49 = .ok (.iconst 1, 1) := by decide +kernel
theorem dX9_reach_50 : decode cX9_reach 50 = .ok (.iadd, 1) := by decide +kernel
theorem dX9_reach_51 : decode cX9_reach 51 = .ok (.putfield 18, 3) := by decide +kernel
theorem dX9_reach_54 : decode cX9_reach 54 = .ok (.return_, 1) := by decide +kernel
def X9_reach (l1 : Nat) (l2 : Int) (l3 : Int) (μ : Mm) : Rs := bd (X0_isOpen l1 l2 μ) fun v1 μ2 => if v1 = 0 then (some (0, μ2)) else (ldA μ2 46 l2 fun v5 => if v5 = (-1) then (if 60 ≤ (μ2 45 2) then (some (0, μ2)) else (stA μ2 46 l2 l3 fun μ9 => stA μ9 47 (μ9 45 2) l2 fun μ11 => sF μ11 45 2 (iA (μ11 45 2) 1) fun μ13 => some (0, μ13))) else (some (0, μ2)))
set_option maxHeartbeats 4000000 in
set_option maxRecDepth 100000 in
theorem kX9_reach (d : Nat) (hd : 2 ≤ d) {l1 : Nat} {l2 : Int} {l3 : Int} (hk1 : kD l1 = (10, 9)) {μ : Mm} {r : Int} {μ' : Mm} (h : X9_reach l1 l2 l3 μ = some (r, μ')) : CC d mX9_reach [vR 45, vR l1, vI l2, vI l3] μ r μ' := by
  unfold X9_reach at h
  refine V_enter (by decide) (Nat.le_of_ble_eq_true rfl) ?_
  show VV d mX9_reach 0 [some (vR 45), some (vR l1), some (vI l2), some (vI l3)] [] μ r μ'
  refine V_aload_n (q := 1) dX9_reach_0 rfl rfl rfl ?_
  refine V_iload_n (q := 2) dX9_reach_1 rfl rfl rfl ?_
  obtain ⟨v1, μ2, hc3, h⟩ := bd_i h
  refine V_cV1 (q := 5) (v := vI v1) (kX0_isOpen (d - 1) (by omega) hk1 hc3) (by omega) mv_X9_30 hk1 rfl rfl rfl rfl rfl dX9_reach_2 rfl ?_
  refine V_ifeq (q := 54) (q2 := 8) dX9_reach_5 (by decide) rfl (fun hc4 => ?_) (fun hc4 => ?_)
  · have h := ifT hc4 h
    exact V_vret rfl h dX9_reach_54
  · have h := ifF hc4 h
    refine V_aload_n (q := 9) dX9_reach_8 rfl rfl rfl ?_
    refine V_getO (q := 12) (t := 46) fl_X9_9 rfl rfl rfl rfl dX9_reach_9 rfl ?_
    refine V_iload_n (q := 13) dX9_reach_12 rfl rfl rfl ?_
    obtain ⟨hi6, h⟩ := ldA_i h
    refine V_iaload (q := 14) rfl hi6 dX9_reach_13 rfl ?_
    refine V_iconst (q := 15) dX9_reach_14 rfl rfl ?_
    refine V_icmpne (q := 54) (q2 := 18) dX9_reach_15 (by decide) rfl (fun hc7 => ?_) (fun hc7 => ?_)
    · have h := ifF hc7 h
      exact V_vret rfl h dX9_reach_54
    · have h := ifT hc7 h
      refine V_aload_n (q := 19) dX9_reach_18 rfl rfl rfl ?_
      refine V_getI (q := 22) fl_X9_18 rfl rfl rfl dX9_reach_19 rfl ?_
      refine V_bipush (q := 24) dX9_reach_22 rfl rfl rfl ?_
      refine V_icmpge (q := 54) (q2 := 27) dX9_reach_24 (by decide) rfl (fun hc8 => ?_) (fun hc8 => ?_)
      · have h := ifT hc8 h
        exact V_vret rfl h dX9_reach_54
      · have h := ifF hc8 h
        refine V_aload_n (q := 28) dX9_reach_27 rfl rfl rfl ?_
        refine V_getO (q := 31) (t := 46) fl_X9_9 rfl rfl rfl rfl dX9_reach_28 rfl ?_
        refine V_iload_n (q := 32) dX9_reach_31 rfl rfl rfl ?_
        refine V_iload_n (q := 33) dX9_reach_32 rfl rfl rfl ?_
        obtain ⟨hi10, h⟩ := stA_i h
        refine V_iastore (q := 34) rfl hi10 dX9_reach_33 rfl ?_
        refine V_aload_n (q := 35) dX9_reach_34 rfl rfl rfl ?_
        refine V_getO (q := 38) (t := 47) fl_X9_15 rfl rfl rfl rfl dX9_reach_35 rfl ?_
        refine V_aload_n (q := 39) dX9_reach_38 rfl rfl rfl ?_
        refine V_getI (q := 42) fl_X9_18 rfl rfl rfl dX9_reach_39 rfl ?_
        refine V_iload_n (q := 43) dX9_reach_42 rfl rfl rfl ?_
        obtain ⟨hi12, h⟩ := stA_i h
        refine V_iastore (q := 44) rfl hi12 dX9_reach_43 rfl ?_
        refine V_aload_n (q := 45) dX9_reach_44 rfl rfl rfl ?_
        refine V_dup (q := 46) dX9_reach_45 trivial rfl ?_
        refine V_getI (q := 49) fl_X9_18 rfl rfl rfl dX9_reach_46 rfl ?_
        refine V_iconst (q := 50) dX9_reach_49 rfl rfl ?_
        refine V_iadd (q := 51) dX9_reach_50 rfl ?_
        have h := sF_i h
        refine V_putI (q := 54) fl_X9_18 rfl rfl rfl dX9_reach_51 rfl ?_
        exact V_vret rfl h dX9_reach_54
abbrev mX9_stepsTo : Mth := (yX9_stepsTo, cX9_stepsTo, 2, some .int)
theorem mi_X9_stepsTo : Cond.instanceMethod yX9_stepsTo ∈ tG ∧ Cond.selects yX9_stepsTo.cls yX9_stepsTo yX9_stepsTo ∈ tG ∧ Cond.initialized yX9_stepsTo.cls ∈ tG ∧ Cond.code yX9_stepsTo cX9_stepsTo 2 (some .int) ∈ tG ∧ (yX9_stepsTo.cls ≠ "java/lang/invoke/MethodHandle" ∧ yX9_stepsTo.cls ≠ "java/lang/invoke/VarHandle" ∧ (parseMethodDescriptor yX9_stepsTo.desc).map (fun d => d.parameters.length) = some 1) ∧ 2 ≤ 60 := ⟨(tG_of (List.mem_of_getElem? (i := 703) (by decide +kernel)) (by decide +kernel)), (tG_of (List.mem_of_getElem? (i := 704) (by decide +kernel)) (by decide +kernel)), (tG_of (List.mem_of_getElem? (i := 107) (by decide +kernel)) (by decide +kernel)), (tG_of (List.mem_of_getElem? (i := 705) (by decide +kernel)) (by decide +kernel)), ⟨by decide, by decide, by decide +kernel⟩, by decide⟩
theorem mv_X10_185 : mV RX10 185 mX9_stepsTo 1 := ⟨(tG_of (List.mem_of_getElem? (i := 706) (by decide +kernel)) (by decide +kernel)), mi_X9_stepsTo⟩
theorem mv_X1_63 : mV RX1 63 mX9_stepsTo 1 := ⟨(tG_of (List.mem_of_getElem? (i := 826) (by decide +kernel)) (by decide +kernel)), mi_X9_stepsTo⟩
theorem mv_X9_26 : mV RX9 26 mX9_stepsTo 1 := ⟨(tG_of (List.mem_of_getElem? (i := 702) (by decide +kernel)) (by decide +kernel)), mi_X9_stepsTo⟩
theorem dX9_stepsTo_0 : decode cX9_stepsTo 0 = .ok (.iload_n 1, 1) := by decide +kernel
theorem dX9_stepsTo_1 : decode cX9_stepsTo 1 = .ok (.ifCond .lt 18, 3) := by decide +kernel
theorem dX9_stepsTo_4 : decode cX9_stepsTo 4 = .ok (.iload_n 1, 1) := by decide +kernel
theorem dX9_stepsTo_5 : decode cX9_stepsTo 5 = .ok (.bipush 60, 2) := by decide +kernel
theorem dX9_stepsTo_7 : decode cX9_stepsTo 7 = .ok (.if_icmp .ge 12, 3) := by decide +kernel
theorem dX9_stepsTo_10 : decode cX9_stepsTo 10 = .ok (.aload_n 0, 1) := by decide +kernel
theorem dX9_stepsTo_11 : decode cX9_stepsTo 11 = .ok (.getfield 9, 3) := by decide +kernel
theorem dX9_stepsTo_14 : decode cX9_stepsTo 14 = .ok (.iload_n 1, 1) := by decide +kernel
theorem dX9_stepsTo_15 : decode cX9_stepsTo 15 = .ok (.iaload, 1) := by decide +kernel
theorem dX9_stepsTo_16 : decode cX9_stepsTo 16 = .ok (.goto 4, 3) := by decide +kernel
theorem dX9_stepsTo_19 : decode cX9_stepsTo 19 = .ok (.iconst (-1), 1) := by decide +kernel
theorem dX9_stepsTo_20 : decode cX9_stepsTo 20 = .ok (.ireturn, 1) := by decide +kernel
def X9_stepsTo (l1 : Int) (μ : Mm) : Rs := if l1 < 0 then (some ((-1), μ)) else (if 60 ≤ l1 then (some ((-1), μ)) else (ldA μ 46 l1 fun v3 => some (v3, μ)))
set_option maxHeartbeats 4000000 in
set_option maxRecDepth 100000 in
theorem kX9_stepsTo (d : Nat) (hd : 1 ≤ d) {l1 : Int} {μ : Mm} {r : Int} {μ' : Mm} (h : X9_stepsTo l1 μ = some (r, μ')) : CC d mX9_stepsTo [vR 45, vI l1] μ r μ' := by
  unfold X9_stepsTo at h
  refine V_enter (by decide) (Nat.le_of_ble_eq_true rfl) ?_
  show VV d mX9_stepsTo 0 [some (vR 45), some (vI l1)] [] μ r μ'
  refine V_iload_n (q := 1) dX9_stepsTo_0 rfl rfl rfl ?_
  refine V_iflt (q := 19) (q2 := 4) dX9_stepsTo_1 (by decide) rfl (fun hc1 => ?_) (fun hc1 => ?_)
  · have h := ifT hc1 h
    refine V_iconst (q := 20) dX9_stepsTo_19 rfl rfl ?_
    exact V_iret rfl h dX9_stepsTo_20
  · have h := ifF hc1 h
    refine V_iload_n (q := 5) dX9_stepsTo_4 rfl rfl rfl ?_
    refine V_bipush (q := 7) dX9_stepsTo_5 rfl rfl rfl ?_
    refine V_icmpge (q := 19) (q2 := 10) dX9_stepsTo_7 (by decide) rfl (fun hc2 => ?_) (fun hc2 => ?_)
    · have h := ifT hc2 h
      refine V_iconst (q := 20) dX9_stepsTo_19 rfl rfl ?_
      exact V_iret rfl h dX9_stepsTo_20
    · have h := ifF hc2 h
      refine V_aload_n (q := 11) dX9_stepsTo_10 rfl rfl rfl ?_
      refine V_getO (q := 14) (t := 46) fl_X9_9 rfl rfl rfl rfl dX9_stepsTo_11 rfl ?_
      refine V_iload_n (q := 15) dX9_stepsTo_14 rfl rfl rfl ?_
      obtain ⟨hi4, h⟩ := ldA_i h
      refine V_iaload (q := 16) rfl hi4 dX9_stepsTo_15 rfl ?_
      refine V_goto (q := 20) dX9_stepsTo_16 (by decide) ?_
      exact V_iret rfl h dX9_stepsTo_20
abbrev mX9_measure : Mth := (yX9_measure, cX9_measure, 6, none)
theorem mi_X9_measure : Cond.instanceMethod yX9_measure ∈ tG ∧ Cond.selects yX9_measure.cls yX9_measure yX9_measure ∈ tG ∧ Cond.initialized yX9_measure.cls ∈ tG ∧ Cond.code yX9_measure cX9_measure 6 (none) ∈ tG ∧ (yX9_measure.cls ≠ "java/lang/invoke/MethodHandle" ∧ yX9_measure.cls ≠ "java/lang/invoke/VarHandle" ∧ (parseMethodDescriptor yX9_measure.desc).map (fun d => d.parameters.length) = some 2) ∧ 6 ≤ 60 := ⟨(tG_of (List.mem_of_getElem? (i := 691) (by decide +kernel)) (by decide +kernel)), (tG_of (List.mem_of_getElem? (i := 692) (by decide +kernel)) (by decide +kernel)), (tG_of (List.mem_of_getElem? (i := 107) (by decide +kernel)) (by decide +kernel)), (tG_of (List.mem_of_getElem? (i := 693) (by decide +kernel)) (by decide +kernel)), ⟨by decide, by decide, by decide +kernel⟩, by decide⟩
theorem mv_X10_181 : mV RX10 181 mX9_measure 2 := ⟨(tG_of (List.mem_of_getElem? (i := 690) (by decide +kernel)) (by decide +kernel)), mi_X9_measure⟩
theorem mv_X1_58 : mV RX1 58 mX9_measure 2 := ⟨(tG_of (List.mem_of_getElem? (i := 824) (by decide +kernel)) (by decide +kernel)), mi_X9_measure⟩
theorem dX9_measure_0 : decode cX9_measure 0 = .ok (.iconst 0, 1) := by decide +kernel
theorem dX9_measure_1 : decode cX9_measure 1 = .ok (.istore_n 3, 1) := by decide +kernel
theorem dX9_measure_2 : decode cX9_measure 2 = .ok (.iload_n 3, 1) := by decide +kernel
theorem dX9_measure_3 : decode cX9_measure 3 = .ok (.bipush 60, 2) := by decide +kernel
theorem dX9_measure_5 : decode cX9_measure 5 = .ok (.if_icmp .ge 16, 3) := by decide +kernel
theorem dX9_measure_8 : decode cX9_measure 8 = .ok (.aload_n 0, 1) := by decide +kernel
theorem dX9_measure_9 : decode cX9_measure 9 = .ok (.getfield 9, 3) := by decide +kernel
theorem dX9_measure_12 : decode cX9_measure 12 = .ok (.iload_n 3, 1) := by decide +kernel
theorem dX9_measure_13 : decode cX9_measure 13 = .ok (.iconst (-1), 1) := by decide +kernel
theorem dX9_measure_14 : decode cX9_measure 14 = .ok (.iastore, 1) := by decide +kernel
theorem dX9_measure_15 : decode cX9_measure 15 = .ok (.iinc 3 1, 3) := by decide +kernel
theorem dX9_measure_18 : decode cX9_measure 18 = .ok (.goto (-16), 3) := by decide +kernel
theorem dX9_measure_21 : decode cX9_measure 21 = .ok (.aload_n 0, 1) := by decide +kernel
theorem dX9_measure_22 : decode cX9_measure 22 = .ok (.iconst 0, 1) := by decide +kernel
theorem dX9_measure_23 : decode cX9_measure 23 = .ok (.putfield 18, 3) := by decide +kernel
theorem dX9_measure_26 : decode cX9_measure 26 = .ok (.aload_n 0, 1) := by decide +kernel
theorem dX9_measure_27 : decode cX9_measure 27 = .ok (.aload_n 1, 1) := by decide +kernel
theorem dX9_measure_28 : decode cX9_measure 28 = .ok (.iload_n 2, 1) := by decide +kernel
theorem dX9_measure_29 : decode cX9_measure 29 = .ok (.iconst 0, 1) := by decide +kernel
theorem dX9_measure_30 : decode cX9_measure 30 = .ok (.invokevirtual 22, 3) := by decide +kernel
theorem dX9_measure_33 : decode cX9_measure 33 = .ok (.iconst 0, 1) := by decide +kernel
theorem dX9_measure_34 : decode cX9_measure 34 = .ok (.istore_n 3, 1) := by decide +kernel
theorem dX9_measure_35 : decode cX9_measure 35 = .ok (.iload_n 3, 1) := by decide +kernel
theorem dX9_measure_36 : decode cX9_measure 36 = .ok (.aload_n 0, 1) := by decide +kernel
theorem dX9_measure_37 : decode cX9_measure 37 = .ok (.getfield 18, 3) := by decide +kernel
theorem dX9_measure_40 : decode cX9_measure 40 = .ok (.if_icmp .ge 79, 3) := by decide +kernel
theorem dX9_measure_43 : decode cX9_measure 43 = .ok (.iload_n 3, 1) := by decide +kernel
theorem dX9_measure_44 : decode cX9_measure 44 = .ok (.bipush 60, 2) := by decide +kernel
theorem dX9_measure_46 : decode cX9_measure 46 = .ok (.if_icmp .ge 73, 3) := by decide +kernel
theorem dX9_measure_49 : decode cX9_measure 49 = .ok (.aload_n 0, 1) := by decide +kernel
theorem dX9_measure_50 : decode cX9_measure 50 = .ok (.getfield 15, 3) := by decide +kernel
theorem dX9_measure_53 : decode cX9_measure 53 = .ok (.iload_n 3, 1) := by decide +kernel
theorem dX9_measure_54 : decode cX9_measure 54 = .ok (.iaload, 1) := by decide +kernel
theorem dX9_measure_55 : decode cX9_measure 55 = .ok (.istore 4, 2) := by decide +kernel
theorem dX9_measure_57 : decode cX9_measure 57 = .ok (.aload_n 0, 1) := by decide +kernel
theorem dX9_measure_58 : decode cX9_measure 58 = .ok (.iload 4, 2) := by decide +kernel
theorem dX9_measure_60 : decode cX9_measure 60 = .ok (.invokevirtual 26, 3) := by decide +kernel
theorem dX9_measure_63 : decode cX9_measure 63 = .ok (.iconst 1, 1) := by decide +kernel
theorem dX9_measure_64 : decode cX9_measure 64 = .ok (.iadd, 1) := by decide +kernel
theorem dX9_measure_65 : decode cX9_measure 65 = .ok (.istore 5, 2) := by decide +kernel
theorem dX9_measure_67 : decode cX9_measure 67 = .ok (.aload_n 0, 1) := by decide +kernel
theorem dX9_measure_68 : decode cX9_measure 68 = .ok (.aload_n 1, 1) := by decide +kernel
theorem dX9_measure_69 : decode cX9_measure 69 = .ok (.iload 4, 2) := by decide +kernel
theorem dX9_measure_71 : decode cX9_measure 71 = .ok (.bipush 10, 2) := by decide +kernel
theorem dX9_measure_73 : decode cX9_measure 73 = .ok (.isub, 1) := by decide +kernel
theorem dX9_measure_74 : decode cX9_measure 74 = .ok (.iload 5, 2) := by decide +kernel
theorem dX9_measure_76 : decode cX9_measure 76 = .ok (.invokevirtual 22, 3) := by decide +kernel
theorem dX9_measure_79 : decode cX9_measure 79 = .ok (.aload_n 0, 1) := by decide +kernel
theorem dX9_measure_80 : decode cX9_measure 80 = .ok (.aload_n 1, 1) := by decide +kernel
theorem dX9_measure_81 : decode cX9_measure 81 = .ok (.iload 4, 2) := by decide +kernel
theorem dX9_measure_83 : decode cX9_measure 83 = .ok (.iconst 1, 1) := by decide +kernel
theorem dX9_measure_84 : decode cX9_measure 84 = .ok (.isub, 1) := by decide +kernel
theorem dX9_measure_85 : decode cX9_measure 85 = .ok (.iload 5, 2) := by decide +kernel
theorem dX9_measure_87 : decode cX9_measure 87 = .ok (.invokevirtual 22, 3) := by decide +kernel
theorem dX9_measure_90 : decode cX9_measure 90 = .ok (.aload_n 0, 1) := by decide +kernel
theorem dX9_measure_91 : decode cX9_measure 91 = .ok (.aload_n 1, 1) := by decide +kernel
theorem dX9_measure_92 : decode cX9_measure 92 = .ok (.iload 4, 2) := by decide +kernel
theorem dX9_measure_94 : decode cX9_measure 94 = .ok (.iconst 1, 1) := by decide +kernel
theorem dX9_measure_95 : decode cX9_measure 95 = .ok (.iadd, 1) := by decide +kernel
theorem dX9_measure_96 : decode cX9_measure 96 = .ok (.iload 5, 2) := by decide +kernel
theorem dX9_measure_98 : decode cX9_measure 98 = .ok (.invokevirtual 22, 3) := by decide +kernel
theorem dX9_measure_101 : decode cX9_measure 101 = .ok (.aload_n 0, 1) := by decide +kernel
theorem dX9_measure_102 : decode cX9_measure 102 = .ok (.aload_n 1, 1) := by decide +kernel
theorem dX9_measure_103 : decode cX9_measure 103 = .ok (.iload 4, 2) := by decide +kernel
theorem dX9_measure_105 : decode cX9_measure 105 = .ok (.bipush 10, 2) := by decide +kernel
theorem dX9_measure_107 : decode cX9_measure 107 = .ok (.iadd, 1) := by decide +kernel
theorem dX9_measure_108 : decode cX9_measure 108 = .ok (.iload 5, 2) := by decide +kernel
theorem dX9_measure_110 : decode cX9_measure 110 = .ok (.invokevirtual 22, 3) := by decide +kernel
theorem dX9_measure_113 : decode cX9_measure 113 = .ok (.iinc 3 1, 3) := by decide +kernel
theorem dX9_measure_116 : decode cX9_measure 116 = .ok (.goto (-81), 3) := by decide +kernel
theorem dX9_measure_119 : decode cX9_measure 119 = .ok (.return_, 1) := by decide +kernel
def X9_measure_L2 (l1 : Nat) (l2 : Int) (k21 : Mm → Rs) : Nat → Int → Mm → Rs
  | 0, _, _ => none
  | n + 1, l3, μ => if 60 ≤ l3 then (k21 μ) else (stA μ 46 l3 (-1) fun μ2 => X9_measure_L2 l1 l2 k21 n (iA l3 1) μ2)
def X9_measure_L35 (l1 : Nat) : Nat → Int → Mm → Rs
  | 0, _, _ => none
  | n + 1, l3, μ => if (μ 45 2) ≤ l3 then (some (0, μ)) else (if 60 ≤ l3 then (some (0, μ)) else (ldA μ 47 l3 fun v11 => bd (X9_stepsTo v11 μ) fun v13 μ14 => bd (X9_reach l1 (iS v11 10) (iA v13 1) μ14) fun v16 μ17 => bd (X9_reach l1 (iS v11 1) (iA v13 1) μ17) fun v19 μ20 => bd (X9_reach l1 (iA v11 1) (iA v13 1) μ20) fun v22 μ23 => bd (X9_reach l1 (iA v11 10) (iA v13 1) μ23) fun v25 μ26 => X9_measure_L35 l1 n (iA l3 1) μ26))
def X9_measure (l1 : Nat) (l2 : Int) (μ : Mm) : Rs := X9_measure_L2 l1 l2 (fun μ4 => sF μ4 45 2 0 fun μ5 => bd (X9_reach l1 l2 0 μ5) fun v6 μ7 => X9_measure_L35 l1 FU 0 μ7) FU 0 μ
set_option maxHeartbeats 4000000 in
set_option maxRecDepth 100000 in
theorem kX9_measure_L2 (d : Nat) (hd : 3 ≤ d) {l1 : Nat} {l2 : Int} (hk1 : kD l1 = (10, 9)) {k21 : Mm → Rs} {r : Int} {μ' : Mm} (hk_21 : ∀ (μ1 : Mm), k21 μ1 = some (r, μ') → VV d mX9_measure 21 [some (vR 45), some (vR l1), some (vI l2), none, none, none] [] μ1 r μ') : ∀ (n : Nat) {l3 : Int} {μ : Mm}, X9_measure_L2 l1 l2 k21 n l3 μ = some (r, μ') → VV d mX9_measure 2 [some (vR 45), some (vR l1), some (vI l2), some (vI l3), none, none] [] μ r μ' := by
  intro n
  induction n with
  | zero => intro l3 μ h; rw [X9_measure_L2] at h; cases h
  | succ n ih =>
    intro l3 μ h
    rw [X9_measure_L2] at h
    refine V_iload_n (q := 3) dX9_measure_2 rfl rfl rfl ?_
    refine V_bipush (q := 5) dX9_measure_3 rfl rfl rfl ?_
    refine V_icmpge (q := 21) (q2 := 8) dX9_measure_5 (by decide) rfl (fun hc1 => ?_) (fun hc1 => ?_)
    · have h := ifT hc1 h
      exact V_weak (hk_21 _ h) (sb_s rfl (sb_s rfl (sb_s rfl (sb_n (sb_n (sb_n sb_0))))))
    · have h := ifF hc1 h
      refine V_aload_n (q := 9) dX9_measure_8 rfl rfl rfl ?_
      refine V_getO (q := 12) (t := 46) fl_X9_9 rfl rfl rfl rfl dX9_measure_9 rfl ?_
      refine V_iload_n (q := 13) dX9_measure_12 rfl rfl rfl ?_
      refine V_iconst (q := 14) dX9_measure_13 rfl rfl ?_
      obtain ⟨hi3, h⟩ := stA_i h
      refine V_iastore (q := 15) rfl hi3 dX9_measure_14 rfl ?_
      refine V_iinc (q := 18) dX9_measure_15 rfl (Nat.le_of_ble_eq_true rfl) trivial rfl ?_
      refine V_goto (q := 2) dX9_measure_18 (by decide) ?_
      exact V_weak (ih h) (sb_s rfl (sb_s rfl (sb_s rfl (sb_s rfl (sb_n (sb_n sb_0))))))
set_option maxHeartbeats 4000000 in
set_option maxRecDepth 100000 in
theorem kX9_measure_L35 (d : Nat) (hd : 3 ≤ d) {l1 : Nat} (hk1 : kD l1 = (10, 9)) {r : Int} {μ' : Mm} : ∀ (n : Nat) {l3 : Int} {μ : Mm}, X9_measure_L35 l1 n l3 μ = some (r, μ') → VV d mX9_measure 35 [some (vR 45), some (vR l1), none, some (vI l3), none, none] [] μ r μ' := by
  intro n
  induction n with
  | zero => intro l3 μ h; rw [X9_measure_L35] at h; cases h
  | succ n ih =>
    intro l3 μ h
    rw [X9_measure_L35] at h
    refine V_iload_n (q := 36) dX9_measure_35 rfl rfl rfl ?_
    refine V_aload_n (q := 37) dX9_measure_36 rfl rfl rfl ?_
    refine V_getI (q := 40) fl_X9_18 rfl rfl rfl dX9_measure_37 rfl ?_
    refine V_icmpge (q := 119) (q2 := 43) dX9_measure_40 (by decide) rfl (fun hc9 => ?_) (fun hc9 => ?_)
    · have h := ifT hc9 h
      exact V_vret rfl h dX9_measure_119
    · have h := ifF hc9 h
      refine V_iload_n (q := 44) dX9_measure_43 rfl rfl rfl ?_
      refine V_bipush (q := 46) dX9_measure_44 rfl rfl rfl ?_
      refine V_icmpge (q := 119) (q2 := 49) dX9_measure_46 (by decide) rfl (fun hc10 => ?_) (fun hc10 => ?_)
      · have h := ifT hc10 h
        exact V_vret rfl h dX9_measure_119
      · have h := ifF hc10 h
        refine V_aload_n (q := 50) dX9_measure_49 rfl rfl rfl ?_
        refine V_getO (q := 53) (t := 47) fl_X9_15 rfl rfl rfl rfl dX9_measure_50 rfl ?_
        refine V_iload_n (q := 54) dX9_measure_53 rfl rfl rfl ?_
        obtain ⟨hi12, h⟩ := ldA_i h
        refine V_iaload (q := 55) rfl hi12 dX9_measure_54 rfl ?_
        refine V_istore (q := 57) dX9_measure_55 (Nat.le_of_ble_eq_true rfl) trivial rfl ?_
        refine V_aload_n (q := 58) dX9_measure_57 rfl rfl rfl ?_
        refine V_iload (q := 60) dX9_measure_58 rfl rfl ?_
        obtain ⟨v13, μ14, hc15, h⟩ := bd_i h
        refine V_cV1 (q := 63) (v := vI v13) (kX9_stepsTo (d - 1) (by omega) hc15) (by omega) mv_X9_26 rfl rfl rfl rfl rfl rfl dX9_measure_60 rfl ?_
        refine V_iconst (q := 64) dX9_measure_63 rfl rfl ?_
        refine V_iadd (q := 65) dX9_measure_64 rfl ?_
        refine V_istore (q := 67) dX9_measure_65 (Nat.le_of_ble_eq_true rfl) trivial rfl ?_
        refine V_aload_n (q := 68) dX9_measure_67 rfl rfl rfl ?_
        refine V_aload_n (q := 69) dX9_measure_68 rfl rfl rfl ?_
        refine V_iload (q := 71) dX9_measure_69 rfl rfl ?_
        refine V_bipush (q := 73) dX9_measure_71 rfl rfl rfl ?_
        refine V_isub (q := 74) dX9_measure_73 rfl ?_
        refine V_iload (q := 76) dX9_measure_74 rfl rfl ?_
        obtain ⟨v16, μ17, hc18, h⟩ := bd_i h
        refine V_cV0 (q := 79) (kX9_reach (d - 1) (by omega) hk1 hc18) (by omega) mv_X9_22 rfl rfl rfl rfl rfl rfl dX9_measure_76 rfl ?_
        refine V_aload_n (q := 80) dX9_measure_79 rfl rfl rfl ?_
        refine V_aload_n (q := 81) dX9_measure_80 rfl rfl rfl ?_
        refine V_iload (q := 83) dX9_measure_81 rfl rfl ?_
        refine V_iconst (q := 84) dX9_measure_83 rfl rfl ?_
        refine V_isub (q := 85) dX9_measure_84 rfl ?_
        refine V_iload (q := 87) dX9_measure_85 rfl rfl ?_
        obtain ⟨v19, μ20, hc21, h⟩ := bd_i h
        refine V_cV0 (q := 90) (kX9_reach (d - 1) (by omega) hk1 hc21) (by omega) mv_X9_22 rfl rfl rfl rfl rfl rfl dX9_measure_87 rfl ?_
        refine V_aload_n (q := 91) dX9_measure_90 rfl rfl rfl ?_
        refine V_aload_n (q := 92) dX9_measure_91 rfl rfl rfl ?_
        refine V_iload (q := 94) dX9_measure_92 rfl rfl ?_
        refine V_iconst (q := 95) dX9_measure_94 rfl rfl ?_
        refine V_iadd (q := 96) dX9_measure_95 rfl ?_
        refine V_iload (q := 98) dX9_measure_96 rfl rfl ?_
        obtain ⟨v22, μ23, hc24, h⟩ := bd_i h
        refine V_cV0 (q := 101) (kX9_reach (d - 1) (by omega) hk1 hc24) (by omega) mv_X9_22 rfl rfl rfl rfl rfl rfl dX9_measure_98 rfl ?_
        refine V_aload_n (q := 102) dX9_measure_101 rfl rfl rfl ?_
        refine V_aload_n (q := 103) dX9_measure_102 rfl rfl rfl ?_
        refine V_iload (q := 105) dX9_measure_103 rfl rfl ?_
        refine V_bipush (q := 107) dX9_measure_105 rfl rfl rfl ?_
        refine V_iadd (q := 108) dX9_measure_107 rfl ?_
        refine V_iload (q := 110) dX9_measure_108 rfl rfl ?_
        obtain ⟨v25, μ26, hc27, h⟩ := bd_i h
        refine V_cV0 (q := 113) (kX9_reach (d - 1) (by omega) hk1 hc27) (by omega) mv_X9_22 rfl rfl rfl rfl rfl rfl dX9_measure_110 rfl ?_
        refine V_iinc (q := 116) dX9_measure_113 rfl (Nat.le_of_ble_eq_true rfl) trivial rfl ?_
        refine V_goto (q := 35) dX9_measure_116 (by decide) ?_
        exact V_weak (ih h) (sb_s rfl (sb_s rfl (sb_n (sb_s rfl (sb_n (sb_n sb_0))))))
set_option maxHeartbeats 4000000 in
set_option maxRecDepth 100000 in
theorem kX9_measure (d : Nat) (hd : 3 ≤ d) {l1 : Nat} {l2 : Int} (hk1 : kD l1 = (10, 9)) {μ : Mm} {r : Int} {μ' : Mm} (h : X9_measure l1 l2 μ = some (r, μ')) : CC d mX9_measure [vR 45, vR l1, vI l2] μ r μ' := by
  unfold X9_measure at h
  refine V_enter (by decide) (Nat.le_of_ble_eq_true rfl) ?_
  show VV d mX9_measure 0 [some (vR 45), some (vR l1), some (vI l2), none, none, none] [] μ r μ'
  refine V_iconst (q := 1) dX9_measure_0 rfl rfl ?_
  refine V_istore_n (q := 2) dX9_measure_1 rfl (Nat.le_of_ble_eq_true rfl) trivial rfl ?_
  refine V_weak (kX9_measure_L2 d hd hk1 (fun μ4 h => ?_) FU h) (sb_s rfl (sb_s rfl (sb_s rfl (sb_s rfl (sb_n (sb_n sb_0))))))
  refine V_aload_n (q := 22) dX9_measure_21 rfl rfl rfl ?_
  refine V_iconst (q := 23) dX9_measure_22 rfl rfl ?_
  have h := sF_i h
  refine V_putI (q := 26) fl_X9_18 rfl rfl rfl dX9_measure_23 rfl ?_
  refine V_aload_n (q := 27) dX9_measure_26 rfl rfl rfl ?_
  refine V_aload_n (q := 28) dX9_measure_27 rfl rfl rfl ?_
  refine V_iload_n (q := 29) dX9_measure_28 rfl rfl rfl ?_
  refine V_iconst (q := 30) dX9_measure_29 rfl rfl ?_
  obtain ⟨v6, μ7, hc8, h⟩ := bd_i h
  refine V_cV0 (q := 33) (kX9_reach (d - 1) (by omega) hk1 hc8) (by omega) mv_X9_22 rfl rfl rfl rfl rfl rfl dX9_measure_30 rfl ?_
  refine V_iconst (q := 34) dX9_measure_33 rfl rfl ?_
  refine V_istore_n (q := 35) dX9_measure_34 rfl (Nat.le_of_ble_eq_true rfl) trivial rfl ?_
  exact V_weak (kX9_measure_L35 d hd hk1  FU h) (sb_s rfl (sb_s rfl (sb_n (sb_s rfl (sb_n (sb_n sb_0))))))
abbrev mX1_measure : Mth := (yX1_measure, cX1_measure, 5, none)
theorem mi_X1_measure : Cond.instanceMethod yX1_measure ∈ tG ∧ Cond.selects yX1_measure.cls yX1_measure yX1_measure ∈ tG ∧ Cond.initialized yX1_measure.cls ∈ tG ∧ Cond.code yX1_measure cX1_measure 5 (none) ∈ tG ∧ (yX1_measure.cls ≠ "java/lang/invoke/MethodHandle" ∧ yX1_measure.cls ≠ "java/lang/invoke/VarHandle" ∧ (parseMethodDescriptor yX1_measure.desc).map (fun d => d.parameters.length) = some 3) ∧ 5 ≤ 60 := ⟨(tG_of (List.mem_of_getElem? (i := 822) (by decide +kernel)) (by decide +kernel)), (tG_of (List.mem_of_getElem? (i := 24) (by decide +kernel)) (by decide +kernel)), (tG_of (List.mem_of_getElem? (i := 108) (by decide +kernel)) (by decide +kernel)), (tG_of (List.mem_of_getElem? (i := 823) (by decide +kernel)) (by decide +kernel)), ⟨by decide, by decide, by decide +kernel⟩, by decide⟩
theorem mv_X1_51 : mV RX1 51 mX1_measure 3 := ⟨(tG_of (List.mem_of_getElem? (i := 820) (by decide +kernel)) (by decide +kernel)), mi_X1_measure⟩
theorem dX1_measure_0 : decode cX1_measure 0 = .ok (.aload_n 0, 1) := by decide +kernel
theorem dX1_measure_1 : decode cX1_measure 1 = .ok (.getfield 24, 3) := by decide +kernel
theorem dX1_measure_4 : decode cX1_measure 4 = .ok (.aload_n 1, 1) := by decide +kernel
theorem dX1_measure_5 : decode cX1_measure 5 = .ok (.iload_n 3, 1) := by decide +kernel
theorem dX1_measure_6 : decode cX1_measure 6 = .ok (.invokevirtual 58, 3) := by decide +kernel
theorem dX1_measure_9 : decode cX1_measure 9 = .ok (.iconst 0, 1) := by decide +kernel
theorem dX1_measure_10 : decode cX1_measure 10 = .ok (.istore 4, 2) := by decide +kernel
theorem dX1_measure_12 : decode cX1_measure 12 = .ok (.iload 4, 2) := by decide +kernel
theorem dX1_measure_14 : decode cX1_measure 14 = .ok (.aload_n 0, 1) := by decide +kernel
theorem dX1_measure_15 : decode cX1_measure 15 = .ok (.getfield 34, 3) := by decide +kernel
theorem dX1_measure_18 : decode cX1_measure 18 = .ok (.if_icmp .ge 46, 3) := by decide +kernel
theorem dX1_measure_21 : decode cX1_measure 21 = .ok (.iload 4, 2) := by decide +kernel
theorem dX1_measure_23 : decode cX1_measure 23 = .ok (.bipush 8, 2) := by decide +kernel
theorem dX1_measure_25 : decode cX1_measure 25 = .ok (.if_icmp .ge 39, 3) := by decide +kernel
theorem dX1_measure_28 : decode cX1_measure 28 = .ok (.aload_n 0, 1) := by decide +kernel
theorem dX1_measure_29 : decode cX1_measure 29 = .ok (.getfield 21, 3) := by decide +kernel
theorem dX1_measure_32 : decode cX1_measure 32 = .ok (.iload_n 2, 1) := by decide +kernel
theorem dX1_measure_33 : decode cX1_measure 33 = .ok (.bipush 8, 2) := by decide +kernel
theorem dX1_measure_35 : decode cX1_measure 35 = .ok (.imul, 1) := by decide +kernel
theorem dX1_measure_36 : decode cX1_measure 36 = .ok (.iload 4, 2) := by decide +kernel
theorem dX1_measure_38 : decode cX1_measure 38 = .ok (.iadd, 1) := by decide +kernel
theorem dX1_measure_39 : decode cX1_measure 39 = .ok (.aload_n 0, 1) := by decide +kernel
theorem dX1_measure_40 : decode cX1_measure 40 = .ok (.getfield 24, 3) := by decide +kernel
theorem dX1_measure_43 : decode cX1_measure 43 = .ok (.aload_n 1, 1) := by decide +kernel
theorem dX1_measure_44 : decode cX1_measure 44 = .ok (.aload_n 0, 1) := by decide +kernel
theorem dX1_measure_45 : decode cX1_measure 45 = .ok (.getfield 9, 3) := by decide +kernel
theorem dX1_measure_48 : decode cX1_measure 48 = .ok (.iload 4, 2) := by decide +kernel
theorem dX1_measure_50 : decode cX1_measure 50 = .ok (.iaload, 1) := by decide +kernel
theorem dX1_measure_51 : decode cX1_measure 51 = .ok (.invokevirtual 55, 3) := by decide +kernel
theorem dX1_measure_54 : decode cX1_measure 54 = .ok (.invokevirtual 63, 3) := by decide +kernel
theorem dX1_measure_57 : decode cX1_measure 57 = .ok (.iastore, 1) := by decide +kernel
theorem dX1_measure_58 : decode cX1_measure 58 = .ok (.iinc 4 1, 3) := by decide +kernel
theorem dX1_measure_61 : decode cX1_measure 61 = .ok (.goto (-49), 3) := by decide +kernel
theorem dX1_measure_64 : decode cX1_measure 64 = .ok (.return_, 1) := by decide +kernel
def X1_measure_L12 (l0 : Nat) (l1 : Nat) (l2 : Int) : Nat → Int → Mm → Rs
  | 0, _, _ => none
  | n + 1, l4, μ => if (μ l0 5) ≤ l4 then (some (0, μ)) else (if 8 ≤ l4 then (some (0, μ)) else (ldA μ (l0 + 1) l4 fun v6 => bd (X0_placeOf l1 v6 μ) fun v8 μ9 => bd (X9_stepsTo v8 μ9) fun v11 μ12 => stA μ12 (l0 + 4) (iA (iM l2 8) l4) v11 fun μ14 => X1_measure_L12 l0 l1 l2 n (iA l4 1) μ14))
def X1_measure (l0 : Nat) (l1 : Nat) (l2 : Int) (l3 : Int) (μ : Mm) : Rs := bd (X9_measure l1 l3 μ) fun v1 μ2 => X1_measure_L12 l0 l1 l2 FU 0 μ2
set_option maxHeartbeats 4000000 in
set_option maxRecDepth 100000 in
theorem kX1_measure_L12 (d : Nat) (hd : 4 ≤ d) {l0 : Nat} {l1 : Nat} {l2 : Int} (hk0 : kD l0 = (11, 7)) (hk1 : kD l1 = (10, 9)) {r : Int} {μ' : Mm} : ∀ (n : Nat) {l4 : Int} {μ : Mm}, X1_measure_L12 l0 l1 l2 n l4 μ = some (r, μ') → VV d mX1_measure 12 [some (vR l0), some (vR l1), some (vI l2), none, some (vI l4)] [] μ r μ' := by
  intro n
  induction n with
  | zero => intro l4 μ h; rw [X1_measure_L12] at h; cases h
  | succ n ih =>
    intro l4 μ h
    rw [X1_measure_L12] at h
    refine V_iload (q := 14) dX1_measure_12 rfl rfl ?_
    refine V_aload_n (q := 15) dX1_measure_14 rfl rfl rfl ?_
    refine V_getI (q := 18) fl_X1_34 hk0 rfl rfl dX1_measure_15 rfl ?_
    refine V_icmpge (q := 64) (q2 := 21) dX1_measure_18 (by decide) rfl (fun hc4 => ?_) (fun hc4 => ?_)
    · have h := ifT hc4 h
      exact V_vret rfl h dX1_measure_64
    · have h := ifF hc4 h
      refine V_iload (q := 23) dX1_measure_21 rfl rfl ?_
      refine V_bipush (q := 25) dX1_measure_23 rfl rfl rfl ?_
      refine V_icmpge (q := 64) (q2 := 28) dX1_measure_25 (by decide) rfl (fun hc5 => ?_) (fun hc5 => ?_)
      · have h := ifT hc5 h
        exact V_vret rfl h dX1_measure_64
      · have h := ifF hc5 h
        refine V_aload_n (q := 29) dX1_measure_28 rfl rfl rfl ?_
        refine V_getO (q := 32) (t := _) fl_X1_21 hk0 rfl rfl rfl dX1_measure_29 rfl ?_
        refine V_iload_n (q := 33) dX1_measure_32 rfl rfl rfl ?_
        refine V_bipush (q := 35) dX1_measure_33 rfl rfl rfl ?_
        refine V_imul (q := 36) dX1_measure_35 rfl ?_
        refine V_iload (q := 38) dX1_measure_36 rfl rfl ?_
        refine V_iadd (q := 39) dX1_measure_38 rfl ?_
        refine V_aload_n (q := 40) dX1_measure_39 rfl rfl rfl ?_
        refine V_getC (q := 43) fl_X1_24 hk0 rfl rfl dX1_measure_40 rfl ?_
        refine V_aload_n (q := 44) dX1_measure_43 rfl rfl rfl ?_
        refine V_aload_n (q := 45) dX1_measure_44 rfl rfl rfl ?_
        refine V_getO (q := 48) (t := _) fl_X1_9 hk0 rfl rfl rfl dX1_measure_45 rfl ?_
        refine V_iload (q := 50) dX1_measure_48 rfl rfl ?_
        obtain ⟨hi7, h⟩ := ldA_i h
        refine V_iaload (q := 51) (kdo_1_1 hk0) hi7 dX1_measure_50 rfl ?_
        obtain ⟨v8, μ9, hc10, h⟩ := bd_i h
        refine V_cV1 (q := 54) (v := vI v8) (kX0_placeOf (d - 1) (by omega) hk1 hc10) (by omega) mv_X1_55 hk1 rfl rfl rfl rfl rfl dX1_measure_51 rfl ?_
        obtain ⟨v11, μ12, hc13, h⟩ := bd_i h
        refine V_cV1 (q := 57) (v := vI v11) (kX9_stepsTo (d - 1) (by omega) hc13) (by omega) mv_X1_63 rfl rfl rfl rfl rfl rfl dX1_measure_54 rfl ?_
        obtain ⟨hi15, h⟩ := stA_i h
        refine V_iastore (q := 58) (kdo_1_4 hk0) hi15 dX1_measure_57 rfl ?_
        refine V_iinc (q := 61) dX1_measure_58 rfl (Nat.le_of_ble_eq_true rfl) trivial rfl ?_
        refine V_goto (q := 12) dX1_measure_61 (by decide) ?_
        exact V_weak (ih h) (sb_s rfl (sb_s rfl (sb_s rfl (sb_n (sb_s rfl sb_0)))))
set_option maxHeartbeats 4000000 in
set_option maxRecDepth 100000 in
theorem kX1_measure (d : Nat) (hd : 4 ≤ d) {l0 : Nat} {l1 : Nat} {l2 : Int} {l3 : Int} (hk0 : kD l0 = (11, 7)) (hk1 : kD l1 = (10, 9)) {μ : Mm} {r : Int} {μ' : Mm} (h : X1_measure l0 l1 l2 l3 μ = some (r, μ')) : CC d mX1_measure [vR l0, vR l1, vI l2, vI l3] μ r μ' := by
  unfold X1_measure at h
  refine V_enter (by decide) (Nat.le_of_ble_eq_true rfl) ?_
  show VV d mX1_measure 0 [some (vR l0), some (vR l1), some (vI l2), some (vI l3), none] [] μ r μ'
  refine V_aload_n (q := 1) dX1_measure_0 rfl rfl rfl ?_
  refine V_getC (q := 4) fl_X1_24 hk0 rfl rfl dX1_measure_1 rfl ?_
  refine V_aload_n (q := 5) dX1_measure_4 rfl rfl rfl ?_
  refine V_iload_n (q := 6) dX1_measure_5 rfl rfl rfl ?_
  obtain ⟨v1, μ2, hc3, h⟩ := bd_i h
  refine V_cV0 (q := 9) (kX9_measure (d - 1) (by omega) hk1 hc3) (by omega) mv_X1_58 rfl rfl rfl rfl rfl rfl dX1_measure_6 rfl ?_
  refine V_iconst (q := 10) dX1_measure_9 rfl rfl ?_
  refine V_istore (q := 12) dX1_measure_10 (Nat.le_of_ble_eq_true rfl) trivial rfl ?_
  exact V_weak (kX1_measure_L12 d hd hk0 hk1  FU h) (sb_s rfl (sb_s rfl (sb_s rfl (sb_n (sb_s rfl sb_0)))))
abbrev mX1_prepare : Mth := (yX1_prepare, cX1_prepare, 4, none)
theorem mi_X1_prepare : Cond.instanceMethod yX1_prepare ∈ tG ∧ Cond.selects yX1_prepare.cls yX1_prepare yX1_prepare ∈ tG ∧ Cond.initialized yX1_prepare.cls ∈ tG ∧ Cond.code yX1_prepare cX1_prepare 4 (none) ∈ tG ∧ (yX1_prepare.cls ≠ "java/lang/invoke/MethodHandle" ∧ yX1_prepare.cls ≠ "java/lang/invoke/VarHandle" ∧ (parseMethodDescriptor yX1_prepare.desc).map (fun d => d.parameters.length) = some 2) ∧ 4 ≤ 60 := ⟨(tG_of (List.mem_of_getElem? (i := 813) (by decide +kernel)) (by decide +kernel)), (tG_of (List.mem_of_getElem? (i := 814) (by decide +kernel)) (by decide +kernel)), (tG_of (List.mem_of_getElem? (i := 108) (by decide +kernel)) (by decide +kernel)), (tG_of (List.mem_of_getElem? (i := 815) (by decide +kernel)) (by decide +kernel)), ⟨by decide, by decide, by decide +kernel⟩, by decide⟩
theorem mv_X10_284 : mV RX10 284 mX1_prepare 2 := ⟨(tG_of (List.mem_of_getElem? (i := 812) (by decide +kernel)) (by decide +kernel)), mi_X1_prepare⟩
theorem dX1_prepare_0 : decode cX1_prepare 0 = .ok (.aload_n 0, 1) := by decide +kernel
theorem dX1_prepare_1 : decode cX1_prepare 1 = .ok (.aload_n 2, 1) := by decide +kernel
theorem dX1_prepare_2 : decode cX1_prepare 2 = .ok (.getfield 28, 3) := by decide +kernel
theorem dX1_prepare_5 : decode cX1_prepare 5 = .ok (.putfield 34, 3) := by decide +kernel
theorem dX1_prepare_8 : decode cX1_prepare 8 = .ok (.iconst 0, 1) := by decide +kernel
theorem dX1_prepare_9 : decode cX1_prepare 9 = .ok (.istore_n 3, 1) := by decide +kernel
theorem dX1_prepare_10 : decode cX1_prepare 10 = .ok (.iload_n 3, 1) := by decide +kernel
theorem dX1_prepare_11 : decode cX1_prepare 11 = .ok (.aload_n 0, 1) := by decide +kernel
theorem dX1_prepare_12 : decode cX1_prepare 12 = .ok (.getfield 34, 3) := by decide +kernel
theorem dX1_prepare_15 : decode cX1_prepare 15 = .ok (.if_icmp .ge 43, 3) := by decide +kernel
theorem dX1_prepare_18 : decode cX1_prepare 18 = .ok (.iload_n 3, 1) := by decide +kernel
theorem dX1_prepare_19 : decode cX1_prepare 19 = .ok (.bipush 8, 2) := by decide +kernel
theorem dX1_prepare_21 : decode cX1_prepare 21 = .ok (.if_icmp .ge 37, 3) := by decide +kernel
theorem dX1_prepare_24 : decode cX1_prepare 24 = .ok (.aload_n 0, 1) := by decide +kernel
theorem dX1_prepare_25 : decode cX1_prepare 25 = .ok (.getfield 9, 3) := by decide +kernel
theorem dX1_prepare_28 : decode cX1_prepare 28 = .ok (.iload_n 3, 1) := by decide +kernel
theorem dX1_prepare_29 : decode cX1_prepare 29 = .ok (.aload_n 2, 1) := by decide +kernel
theorem dX1_prepare_30 : decode cX1_prepare 30 = .ok (.getfield 35, 3) := by decide +kernel
theorem dX1_prepare_33 : decode cX1_prepare 33 = .ok (.iload_n 3, 1) := by decide +kernel
theorem dX1_prepare_34 : decode cX1_prepare 34 = .ok (.iaload, 1) := by decide +kernel
theorem dX1_prepare_35 : decode cX1_prepare 35 = .ok (.iastore, 1) := by decide +kernel
theorem dX1_prepare_36 : decode cX1_prepare 36 = .ok (.aload_n 0, 1) := by decide +kernel
theorem dX1_prepare_37 : decode cX1_prepare 37 = .ok (.getfield 18, 3) := by decide +kernel
theorem dX1_prepare_40 : decode cX1_prepare 40 = .ok (.iload_n 3, 1) := by decide +kernel
theorem dX1_prepare_41 : decode cX1_prepare 41 = .ok (.aload_n 1, 1) := by decide +kernel
theorem dX1_prepare_42 : decode cX1_prepare 42 = .ok (.aload_n 0, 1) := by decide +kernel
theorem dX1_prepare_43 : decode cX1_prepare 43 = .ok (.getfield 9, 3) := by decide +kernel
theorem dX1_prepare_46 : decode cX1_prepare 46 = .ok (.iload_n 3, 1) := by decide +kernel
theorem dX1_prepare_47 : decode cX1_prepare 47 = .ok (.iaload, 1) := by decide +kernel
theorem dX1_prepare_48 : decode cX1_prepare 48 = .ok (.invokevirtual 38, 3) := by decide +kernel
theorem dX1_prepare_51 : decode cX1_prepare 51 = .ok (.iastore, 1) := by decide +kernel
theorem dX1_prepare_52 : decode cX1_prepare 52 = .ok (.iinc 3 1, 3) := by decide +kernel
theorem dX1_prepare_55 : decode cX1_prepare 55 = .ok (.goto (-45), 3) := by decide +kernel
theorem dX1_prepare_58 : decode cX1_prepare 58 = .ok (.aload_n 0, 1) := by decide +kernel
theorem dX1_prepare_59 : decode cX1_prepare 59 = .ok (.aload_n 1, 1) := by decide +kernel
theorem dX1_prepare_60 : decode cX1_prepare 60 = .ok (.getfield 44, 3) := by decide +kernel
theorem dX1_prepare_63 : decode cX1_prepare 63 = .ok (.putfield 47, 3) := by decide +kernel
theorem dX1_prepare_66 : decode cX1_prepare 66 = .ok (.aload_n 0, 1) := by decide +kernel
theorem dX1_prepare_67 : decode cX1_prepare 67 = .ok (.aload_n 1, 1) := by decide +kernel
theorem dX1_prepare_68 : decode cX1_prepare 68 = .ok (.bipush 8, 2) := by decide +kernel
theorem dX1_prepare_70 : decode cX1_prepare 70 = .ok (.aload_n 1, 1) := by decide +kernel
theorem dX1_prepare_71 : decode cX1_prepare 71 = .ok (.getfield 48, 3) := by decide +kernel
theorem dX1_prepare_74 : decode cX1_prepare 74 = .ok (.invokevirtual 51, 3) := by decide +kernel
theorem dX1_prepare_77 : decode cX1_prepare 77 = .ok (.iconst 0, 1) := by decide +kernel
theorem dX1_prepare_78 : decode cX1_prepare 78 = .ok (.istore_n 3, 1) := by decide +kernel
theorem dX1_prepare_79 : decode cX1_prepare 79 = .ok (.iload_n 3, 1) := by decide +kernel
theorem dX1_prepare_80 : decode cX1_prepare 80 = .ok (.aload_n 0, 1) := by decide +kernel
theorem dX1_prepare_81 : decode cX1_prepare 81 = .ok (.getfield 34, 3) := by decide +kernel
theorem dX1_prepare_84 : decode cX1_prepare 84 = .ok (.if_icmp .ge 31, 3) := by decide +kernel
theorem dX1_prepare_87 : decode cX1_prepare 87 = .ok (.iload_n 3, 1) := by decide +kernel
theorem dX1_prepare_88 : decode cX1_prepare 88 = .ok (.bipush 8, 2) := by decide +kernel
theorem dX1_prepare_90 : decode cX1_prepare 90 = .ok (.if_icmp .ge 25, 3) := by decide +kernel
theorem dX1_prepare_93 : decode cX1_prepare 93 = .ok (.aload_n 0, 1) := by decide +kernel
theorem dX1_prepare_94 : decode cX1_prepare 94 = .ok (.aload_n 1, 1) := by decide +kernel
theorem dX1_prepare_95 : decode cX1_prepare 95 = .ok (.iload_n 3, 1) := by decide +kernel
theorem dX1_prepare_96 : decode cX1_prepare 96 = .ok (.aload_n 1, 1) := by decide +kernel
theorem dX1_prepare_97 : decode cX1_prepare 97 = .ok (.aload_n 0, 1) := by decide +kernel
theorem dX1_prepare_98 : decode cX1_prepare 98 = .ok (.getfield 9, 3) := by decide +kernel
theorem dX1_prepare_101 : decode cX1_prepare 101 = .ok (.iload_n 3, 1) := by decide +kernel
theorem dX1_prepare_102 : decode cX1_prepare 102 = .ok (.iaload, 1) := by decide +kernel
theorem dX1_prepare_103 : decode cX1_prepare 103 = .ok (.invokevirtual 55, 3) := by decide +kernel
theorem dX1_prepare_106 : decode cX1_prepare 106 = .ok (.invokevirtual 51, 3) := by decide +kernel
theorem dX1_prepare_109 : decode cX1_prepare 109 = .ok (.iinc 3 1, 3) := by decide +kernel
theorem dX1_prepare_112 : decode cX1_prepare 112 = .ok (.goto (-33), 3) := by decide +kernel
theorem dX1_prepare_115 : decode cX1_prepare 115 = .ok (.return_, 1) := by decide +kernel
def X1_prepare_L10 (l0 : Nat) (l1 : Nat) (l2 : Nat) (k58 : Mm → Rs) : Nat → Int → Mm → Rs
  | 0, _, _ => none
  | n + 1, l3, μ => if (μ l0 5) ≤ l3 then (k58 μ) else (if 8 ≤ l3 then (k58 μ) else (ldA μ (l2 + 1) l3 fun v4 => stA μ (l0 + 1) l3 v4 fun μ6 => ldA μ6 (l0 + 1) l3 fun v8 => bd (X0_windOf l1 v8 μ6) fun v10 μ11 => stA μ11 (l0 + 3) l3 v10 fun μ13 => X1_prepare_L10 l0 l1 l2 k58 n (iA l3 1) μ13))
def X1_prepare_L79 (l0 : Nat) (l1 : Nat) : Nat → Int → Mm → Rs
  | 0, _, _ => none
  | n + 1, l3, μ => if (μ l0 5) ≤ l3 then (some (0, μ)) else (if 8 ≤ l3 then (some (0, μ)) else (ldA μ (l0 + 1) l3 fun v22 => bd (X0_placeOf l1 v22 μ) fun v24 μ25 => bd (X1_measure l0 l1 l3 v24 μ25) fun v27 μ28 => X1_prepare_L79 l0 l1 n (iA l3 1) μ28))
def X1_prepare_J58 (l0 : Nat) (l1 : Nat) (μ : Mm) : Rs := sF μ l0 6 (μ l1 7) fun μ16 => bd (X1_measure l0 l1 8 (μ16 l1 3) μ16) fun v17 μ18 => X1_prepare_L79 l0 l1 FU 0 μ18
def X1_prepare (l0 : Nat) (l1 : Nat) (l2 : Nat) (μ : Mm) : Rs := sF μ l0 5 (μ l2 2) fun μ1 => X1_prepare_L10 l0 l1 l2 (fun μ15 => X1_prepare_J58 l0 l1 μ15) FU 0 μ1
set_option maxHeartbeats 4000000 in
set_option maxRecDepth 100000 in
theorem kX1_prepare_L10 (d : Nat) (hd : 5 ≤ d) {l0 : Nat} {l1 : Nat} {l2 : Nat} (hk0 : kD l0 = (11, 7)) (hk1 : kD l1 = (10, 9)) (hk2 : kD l2 = (13, 3)) {k58 : Mm → Rs} {r : Int} {μ' : Mm} (hk_58 : ∀ (μ1 : Mm), k58 μ1 = some (r, μ') → VV d mX1_prepare 58 [some (vR l0), some (vR l1), none, none] [] μ1 r μ') : ∀ (n : Nat) {l3 : Int} {μ : Mm}, X1_prepare_L10 l0 l1 l2 k58 n l3 μ = some (r, μ') → VV d mX1_prepare 10 [some (vR l0), some (vR l1), some (vR l2), some (vI l3)] [] μ r μ' := by
  intro n
  induction n with
  | zero => intro l3 μ h; rw [X1_prepare_L10] at h; cases h
  | succ n ih =>
    intro l3 μ h
    rw [X1_prepare_L10] at h
    refine V_iload_n (q := 11) dX1_prepare_10 rfl rfl rfl ?_
    refine V_aload_n (q := 12) dX1_prepare_11 rfl rfl rfl ?_
    refine V_getI (q := 15) fl_X1_34 hk0 rfl rfl dX1_prepare_12 rfl ?_
    refine V_icmpge (q := 58) (q2 := 18) dX1_prepare_15 (by decide) rfl (fun hc2 => ?_) (fun hc2 => ?_)
    · have h := ifT hc2 h
      exact V_weak (hk_58 _ h) (sb_s rfl (sb_s rfl (sb_n (sb_n sb_0))))
    · have h := ifF hc2 h
      refine V_iload_n (q := 19) dX1_prepare_18 rfl rfl rfl ?_
      refine V_bipush (q := 21) dX1_prepare_19 rfl rfl rfl ?_
      refine V_icmpge (q := 58) (q2 := 24) dX1_prepare_21 (by decide) rfl (fun hc3 => ?_) (fun hc3 => ?_)
      · have h := ifT hc3 h
        exact V_weak (hk_58 _ h) (sb_s rfl (sb_s rfl (sb_n (sb_n sb_0))))
      · have h := ifF hc3 h
        refine V_aload_n (q := 25) dX1_prepare_24 rfl rfl rfl ?_
        refine V_getO (q := 28) (t := _) fl_X1_9 hk0 rfl rfl rfl dX1_prepare_25 rfl ?_
        refine V_iload_n (q := 29) dX1_prepare_28 rfl rfl rfl ?_
        refine V_aload_n (q := 30) dX1_prepare_29 rfl rfl rfl ?_
        refine V_getO (q := 33) (t := _) fl_X1_35 hk2 rfl rfl rfl dX1_prepare_30 rfl ?_
        refine V_iload_n (q := 34) dX1_prepare_33 rfl rfl rfl ?_
        obtain ⟨hi5, h⟩ := ldA_i h
        refine V_iaload (q := 35) (kdo_3_0 hk2) hi5 dX1_prepare_34 rfl ?_
        obtain ⟨hi7, h⟩ := stA_i h
        refine V_iastore (q := 36) (kdo_1_1 hk0) hi7 dX1_prepare_35 rfl ?_
        refine V_aload_n (q := 37) dX1_prepare_36 rfl rfl rfl ?_
        refine V_getO (q := 40) (t := _) fl_X1_18 hk0 rfl rfl rfl dX1_prepare_37 rfl ?_
        refine V_iload_n (q := 41) dX1_prepare_40 rfl rfl rfl ?_
        refine V_aload_n (q := 42) dX1_prepare_41 rfl rfl rfl ?_
        refine V_aload_n (q := 43) dX1_prepare_42 rfl rfl rfl ?_
        refine V_getO (q := 46) (t := _) fl_X1_9 hk0 rfl rfl rfl dX1_prepare_43 rfl ?_
        refine V_iload_n (q := 47) dX1_prepare_46 rfl rfl rfl ?_
        obtain ⟨hi9, h⟩ := ldA_i h
        refine V_iaload (q := 48) (kdo_1_1 hk0) hi9 dX1_prepare_47 rfl ?_
        obtain ⟨v10, μ11, hc12, h⟩ := bd_i h
        refine V_cV1 (q := 51) (v := vI v10) (kX0_windOf (d - 1) (by omega) hk1 hc12) (by omega) mv_X1_38 hk1 rfl rfl rfl rfl rfl dX1_prepare_48 rfl ?_
        obtain ⟨hi14, h⟩ := stA_i h
        refine V_iastore (q := 52) (kdo_1_3 hk0) hi14 dX1_prepare_51 rfl ?_
        refine V_iinc (q := 55) dX1_prepare_52 rfl (Nat.le_of_ble_eq_true rfl) trivial rfl ?_
        refine V_goto (q := 10) dX1_prepare_55 (by decide) ?_
        exact V_weak (ih h) (sb_s rfl (sb_s rfl (sb_s rfl (sb_s rfl sb_0))))
set_option maxHeartbeats 4000000 in
set_option maxRecDepth 100000 in
theorem kX1_prepare_L79 (d : Nat) (hd : 5 ≤ d) {l0 : Nat} {l1 : Nat} (hk0 : kD l0 = (11, 7)) (hk1 : kD l1 = (10, 9)) {r : Int} {μ' : Mm} : ∀ (n : Nat) {l3 : Int} {μ : Mm}, X1_prepare_L79 l0 l1 n l3 μ = some (r, μ') → VV d mX1_prepare 79 [some (vR l0), some (vR l1), none, some (vI l3)] [] μ r μ' := by
  intro n
  induction n with
  | zero => intro l3 μ h; rw [X1_prepare_L79] at h; cases h
  | succ n ih =>
    intro l3 μ h
    rw [X1_prepare_L79] at h
    refine V_iload_n (q := 80) dX1_prepare_79 rfl rfl rfl ?_
    refine V_aload_n (q := 81) dX1_prepare_80 rfl rfl rfl ?_
    refine V_getI (q := 84) fl_X1_34 hk0 rfl rfl dX1_prepare_81 rfl ?_
    refine V_icmpge (q := 115) (q2 := 87) dX1_prepare_84 (by decide) rfl (fun hc20 => ?_) (fun hc20 => ?_)
    · have h := ifT hc20 h
      exact V_vret rfl h dX1_prepare_115
    · have h := ifF hc20 h
      refine V_iload_n (q := 88) dX1_prepare_87 rfl rfl rfl ?_
      refine V_bipush (q := 90) dX1_prepare_88 rfl rfl rfl ?_
      refine V_icmpge (q := 115) (q2 := 93) dX1_prepare_90 (by decide) rfl (fun hc21 => ?_) (fun hc21 => ?_)
      · have h := ifT hc21 h
        exact V_vret rfl h dX1_prepare_115
      · have h := ifF hc21 h
        refine V_aload_n (q := 94) dX1_prepare_93 rfl rfl rfl ?_
        refine V_aload_n (q := 95) dX1_prepare_94 rfl rfl rfl ?_
        refine V_iload_n (q := 96) dX1_prepare_95 rfl rfl rfl ?_
        refine V_aload_n (q := 97) dX1_prepare_96 rfl rfl rfl ?_
        refine V_aload_n (q := 98) dX1_prepare_97 rfl rfl rfl ?_
        refine V_getO (q := 101) (t := _) fl_X1_9 hk0 rfl rfl rfl dX1_prepare_98 rfl ?_
        refine V_iload_n (q := 102) dX1_prepare_101 rfl rfl rfl ?_
        obtain ⟨hi23, h⟩ := ldA_i h
        refine V_iaload (q := 103) (kdo_1_1 hk0) hi23 dX1_prepare_102 rfl ?_
        obtain ⟨v24, μ25, hc26, h⟩ := bd_i h
        refine V_cV1 (q := 106) (v := vI v24) (kX0_placeOf (d - 1) (by omega) hk1 hc26) (by omega) mv_X1_55 hk1 rfl rfl rfl rfl rfl dX1_prepare_103 rfl ?_
        obtain ⟨v27, μ28, hc29, h⟩ := bd_i h
        refine V_cV0 (q := 109) (kX1_measure (d - 1) (by omega) hk0 hk1 hc29) (by omega) mv_X1_51 hk0 rfl rfl rfl rfl rfl dX1_prepare_106 rfl ?_
        refine V_iinc (q := 112) dX1_prepare_109 rfl (Nat.le_of_ble_eq_true rfl) trivial rfl ?_
        refine V_goto (q := 79) dX1_prepare_112 (by decide) ?_
        exact V_weak (ih h) (sb_s rfl (sb_s rfl (sb_n (sb_s rfl sb_0))))
set_option maxHeartbeats 4000000 in
set_option maxRecDepth 100000 in
theorem kX1_prepare_J58 (d : Nat) (hd : 5 ≤ d) {l0 : Nat} {l1 : Nat} (hk0 : kD l0 = (11, 7)) (hk1 : kD l1 = (10, 9)) {μ : Mm} {r : Int} {μ' : Mm} (h : X1_prepare_J58 l0 l1 μ = some (r, μ')) : VV d mX1_prepare 58 [some (vR l0), some (vR l1), none, none] [] μ r μ' := by
  unfold X1_prepare_J58 at h
  refine V_aload_n (q := 59) dX1_prepare_58 rfl rfl rfl ?_
  refine V_aload_n (q := 60) dX1_prepare_59 rfl rfl rfl ?_
  refine V_getI (q := 63) fl_X1_44 hk1 rfl rfl dX1_prepare_60 rfl ?_
  have h := sF_i h
  refine V_putI (q := 66) fl_X1_47 hk0 rfl rfl dX1_prepare_63 rfl ?_
  refine V_aload_n (q := 67) dX1_prepare_66 rfl rfl rfl ?_
  refine V_aload_n (q := 68) dX1_prepare_67 rfl rfl rfl ?_
  refine V_bipush (q := 70) dX1_prepare_68 rfl rfl rfl ?_
  refine V_aload_n (q := 71) dX1_prepare_70 rfl rfl rfl ?_
  refine V_getI (q := 74) fl_X1_48 hk1 rfl rfl dX1_prepare_71 rfl ?_
  obtain ⟨v17, μ18, hc19, h⟩ := bd_i h
  refine V_cV0 (q := 77) (kX1_measure (d - 1) (by omega) hk0 hk1 hc19) (by omega) mv_X1_51 hk0 rfl rfl rfl rfl rfl dX1_prepare_74 rfl ?_
  refine V_iconst (q := 78) dX1_prepare_77 rfl rfl ?_
  refine V_istore_n (q := 79) dX1_prepare_78 rfl (Nat.le_of_ble_eq_true rfl) trivial rfl ?_
  exact V_weak (kX1_prepare_L79 d hd hk0 hk1  FU h) (sb_s rfl (sb_s rfl (sb_n (sb_s rfl sb_0))))
set_option maxHeartbeats 4000000 in
set_option maxRecDepth 100000 in
theorem kX1_prepare (d : Nat) (hd : 5 ≤ d) {l0 : Nat} {l1 : Nat} {l2 : Nat} (hk0 : kD l0 = (11, 7)) (hk1 : kD l1 = (10, 9)) (hk2 : kD l2 = (13, 3)) {μ : Mm} {r : Int} {μ' : Mm} (h : X1_prepare l0 l1 l2 μ = some (r, μ')) : CC d mX1_prepare [vR l0, vR l1, vR l2] μ r μ' := by
  unfold X1_prepare at h
  refine V_enter (by decide) (Nat.le_of_ble_eq_true rfl) ?_
  show VV d mX1_prepare 0 [some (vR l0), some (vR l1), some (vR l2), none] [] μ r μ'
  refine V_aload_n (q := 1) dX1_prepare_0 rfl rfl rfl ?_
  refine V_aload_n (q := 2) dX1_prepare_1 rfl rfl rfl ?_
  refine V_getI (q := 5) fl_X1_28 hk2 rfl rfl dX1_prepare_2 rfl ?_
  have h := sF_i h
  refine V_putI (q := 8) fl_X1_34 hk0 rfl rfl dX1_prepare_5 rfl ?_
  refine V_iconst (q := 9) dX1_prepare_8 rfl rfl ?_
  refine V_istore_n (q := 10) dX1_prepare_9 rfl (Nat.le_of_ble_eq_true rfl) trivial rfl ?_
  refine V_weak (kX1_prepare_L10 d hd hk0 hk1 hk2 (fun μ15 h => ?_) FU h) (sb_s rfl (sb_s rfl (sb_s rfl (sb_s rfl sb_0))))
  exact V_weak (kX1_prepare_J58 d hd hk0 hk1 h) (sb_s rfl (sb_s rfl (sb_n (sb_n sb_0))))
abbrev mX1_standAt : Mth := (yX1_standAt, cX1_standAt, 4, none)
theorem mi_X1_standAt : Cond.instanceMethod yX1_standAt ∈ tG ∧ Cond.selects yX1_standAt.cls yX1_standAt yX1_standAt ∈ tG ∧ Cond.initialized yX1_standAt.cls ∈ tG ∧ Cond.code yX1_standAt cX1_standAt 4 (none) ∈ tG ∧ (yX1_standAt.cls ≠ "java/lang/invoke/MethodHandle" ∧ yX1_standAt.cls ≠ "java/lang/invoke/VarHandle" ∧ (parseMethodDescriptor yX1_standAt.desc).map (fun d => d.parameters.length) = some 3) ∧ 4 ≤ 60 := ⟨(tG_of (List.mem_of_getElem? (i := 1068) (by decide +kernel)) (by decide +kernel)), (tG_of (List.mem_of_getElem? (i := 1069) (by decide +kernel)) (by decide +kernel)), (tG_of (List.mem_of_getElem? (i := 108) (by decide +kernel)) (by decide +kernel)), (tG_of (List.mem_of_getElem? (i := 1070) (by decide +kernel)) (by decide +kernel)), ⟨by decide, by decide, by decide +kernel⟩, by decide⟩
theorem mv_X10_360 : mV RX10 360 mX1_standAt 3 := ⟨(tG_of (List.mem_of_getElem? (i := 1067) (by decide +kernel)) (by decide +kernel)), mi_X1_standAt⟩
theorem dX1_standAt_0 : decode cX1_standAt 0 = .ok (.aload_n 0, 1) := by decide +kernel
theorem dX1_standAt_1 : decode cX1_standAt 1 = .ok (.iload_n 3, 1) := by decide +kernel
theorem dX1_standAt_2 : decode cX1_standAt 2 = .ok (.putfield 47, 3) := by decide +kernel
theorem dX1_standAt_5 : decode cX1_standAt 5 = .ok (.aload_n 0, 1) := by decide +kernel
theorem dX1_standAt_6 : decode cX1_standAt 6 = .ok (.aload_n 1, 1) := by decide +kernel
theorem dX1_standAt_7 : decode cX1_standAt 7 = .ok (.bipush 8, 2) := by decide +kernel
theorem dX1_standAt_9 : decode cX1_standAt 9 = .ok (.iload_n 2, 1) := by decide +kernel
theorem dX1_standAt_10 : decode cX1_standAt 10 = .ok (.invokevirtual 51, 3) := by decide +kernel
theorem dX1_standAt_13 : decode cX1_standAt 13 = .ok (.return_, 1) := by decide +kernel
def X1_standAt (l0 : Nat) (l1 : Nat) (l2 : Int) (l3 : Int) (μ : Mm) : Rs := sF μ l0 6 l3 fun μ1 => bd (X1_measure l0 l1 8 l2 μ1) fun v2 μ3 => some (0, μ3)
set_option maxHeartbeats 4000000 in
set_option maxRecDepth 100000 in
theorem kX1_standAt (d : Nat) (hd : 5 ≤ d) {l0 : Nat} {l1 : Nat} {l2 : Int} {l3 : Int} (hk0 : kD l0 = (11, 7)) (hk1 : kD l1 = (10, 9)) {μ : Mm} {r : Int} {μ' : Mm} (h : X1_standAt l0 l1 l2 l3 μ = some (r, μ')) : CC d mX1_standAt [vR l0, vR l1, vI l2, vI l3] μ r μ' := by
  unfold X1_standAt at h
  refine V_enter (by decide) (Nat.le_of_ble_eq_true rfl) ?_
  show VV d mX1_standAt 0 [some (vR l0), some (vR l1), some (vI l2), some (vI l3)] [] μ r μ'
  refine V_aload_n (q := 1) dX1_standAt_0 rfl rfl rfl ?_
  refine V_iload_n (q := 2) dX1_standAt_1 rfl rfl rfl ?_
  have h := sF_i h
  refine V_putI (q := 5) fl_X1_47 hk0 rfl rfl dX1_standAt_2 rfl ?_
  refine V_aload_n (q := 6) dX1_standAt_5 rfl rfl rfl ?_
  refine V_aload_n (q := 7) dX1_standAt_6 rfl rfl rfl ?_
  refine V_bipush (q := 9) dX1_standAt_7 rfl rfl rfl ?_
  refine V_iload_n (q := 10) dX1_standAt_9 rfl rfl rfl ?_
  obtain ⟨v2, μ3, hc4, h⟩ := bd_i h
  refine V_cV0 (q := 13) (kX1_measure (d - 1) (by omega) hk0 hk1 hc4) (by omega) mv_X1_51 hk0 rfl rfl rfl rfl rfl dX1_standAt_10 rfl ?_
  exact V_vret rfl h dX1_standAt_13
abbrev mX1_copy : Mth := (yX1_copy, cX1_copy, 2, none)
theorem mi_X1_copy : Cond.instanceMethod yX1_copy ∈ tG ∧ Cond.selects yX1_copy.cls yX1_copy yX1_copy ∈ tG ∧ Cond.initialized yX1_copy.cls ∈ tG ∧ Cond.code yX1_copy cX1_copy 2 (none) ∈ tG ∧ (yX1_copy.cls ≠ "java/lang/invoke/MethodHandle" ∧ yX1_copy.cls ≠ "java/lang/invoke/VarHandle" ∧ (parseMethodDescriptor yX1_copy.desc).map (fun d => d.parameters.length) = some 1) ∧ 2 ≤ 60 := ⟨(tG_of (List.mem_of_getElem? (i := 1063) (by decide +kernel)) (by decide +kernel)), (tG_of (List.mem_of_getElem? (i := 1064) (by decide +kernel)) (by decide +kernel)), (tG_of (List.mem_of_getElem? (i := 108) (by decide +kernel)) (by decide +kernel)), (tG_of (List.mem_of_getElem? (i := 1065) (by decide +kernel)) (by decide +kernel)), ⟨by decide, by decide, by decide +kernel⟩, by decide⟩
theorem mv_X10_358 : mV RX10 358 mX1_copy 1 := ⟨(tG_of (List.mem_of_getElem? (i := 1062) (by decide +kernel)) (by decide +kernel)), mi_X1_copy⟩
theorem dX1_copy_0 : decode cX1_copy 0 = .ok (.aload_n 1, 1) := by decide +kernel
theorem dX1_copy_1 : decode cX1_copy 1 = .ok (.getfield 9, 3) := by decide +kernel
theorem dX1_copy_4 : decode cX1_copy 4 = .ok (.iconst 0, 1) := by decide +kernel
theorem dX1_copy_5 : decode cX1_copy 5 = .ok (.aload_n 0, 1) := by decide +kernel
theorem dX1_copy_6 : decode cX1_copy 6 = .ok (.getfield 9, 3) := by decide +kernel
theorem dX1_copy_9 : decode cX1_copy 9 = .ok (.iconst 0, 1) := by decide +kernel
theorem dX1_copy_10 : decode cX1_copy 10 = .ok (.bipush 8, 2) := by decide +kernel
theorem dX1_copy_12 : decode cX1_copy 12 = .ok (.invokestatic 66, 3) := by decide +kernel
theorem dX1_copy_15 : decode cX1_copy 15 = .ok (.aload_n 1, 1) := by decide +kernel
theorem dX1_copy_16 : decode cX1_copy 16 = .ok (.getfield 15, 3) := by decide +kernel
theorem dX1_copy_19 : decode cX1_copy 19 = .ok (.iconst 0, 1) := by decide +kernel
theorem dX1_copy_20 : decode cX1_copy 20 = .ok (.aload_n 0, 1) := by decide +kernel
theorem dX1_copy_21 : decode cX1_copy 21 = .ok (.getfield 15, 3) := by decide +kernel
theorem dX1_copy_24 : decode cX1_copy 24 = .ok (.iconst 0, 1) := by decide +kernel
theorem dX1_copy_25 : decode cX1_copy 25 = .ok (.bipush 8, 2) := by decide +kernel
theorem dX1_copy_27 : decode cX1_copy 27 = .ok (.invokestatic 66, 3) := by decide +kernel
theorem dX1_copy_30 : decode cX1_copy 30 = .ok (.aload_n 1, 1) := by decide +kernel
theorem dX1_copy_31 : decode cX1_copy 31 = .ok (.getfield 18, 3) := by decide +kernel
theorem dX1_copy_34 : decode cX1_copy 34 = .ok (.iconst 0, 1) := by decide +kernel
theorem dX1_copy_35 : decode cX1_copy 35 = .ok (.aload_n 0, 1) := by decide +kernel
theorem dX1_copy_36 : decode cX1_copy 36 = .ok (.getfield 18, 3) := by decide +kernel
theorem dX1_copy_39 : decode cX1_copy 39 = .ok (.iconst 0, 1) := by decide +kernel
theorem dX1_copy_40 : decode cX1_copy 40 = .ok (.bipush 8, 2) := by decide +kernel
theorem dX1_copy_42 : decode cX1_copy 42 = .ok (.invokestatic 66, 3) := by decide +kernel
theorem dX1_copy_45 : decode cX1_copy 45 = .ok (.aload_n 1, 1) := by decide +kernel
theorem dX1_copy_46 : decode cX1_copy 46 = .ok (.getfield 21, 3) := by decide +kernel
theorem dX1_copy_49 : decode cX1_copy 49 = .ok (.iconst 0, 1) := by decide +kernel
theorem dX1_copy_50 : decode cX1_copy 50 = .ok (.aload_n 0, 1) := by decide +kernel
theorem dX1_copy_51 : decode cX1_copy 51 = .ok (.getfield 21, 3) := by decide +kernel
theorem dX1_copy_54 : decode cX1_copy 54 = .ok (.iconst 0, 1) := by decide +kernel
theorem dX1_copy_55 : decode cX1_copy 55 = .ok (.bipush 72, 2) := by decide +kernel
theorem dX1_copy_57 : decode cX1_copy 57 = .ok (.invokestatic 66, 3) := by decide +kernel
theorem dX1_copy_60 : decode cX1_copy 60 = .ok (.aload_n 0, 1) := by decide +kernel
theorem dX1_copy_61 : decode cX1_copy 61 = .ok (.aload_n 1, 1) := by decide +kernel
theorem dX1_copy_62 : decode cX1_copy 62 = .ok (.getfield 34, 3) := by decide +kernel
theorem dX1_copy_65 : decode cX1_copy 65 = .ok (.putfield 34, 3) := by decide +kernel
theorem dX1_copy_68 : decode cX1_copy 68 = .ok (.aload_n 0, 1) := by decide +kernel
theorem dX1_copy_69 : decode cX1_copy 69 = .ok (.aload_n 1, 1) := by decide +kernel
theorem dX1_copy_70 : decode cX1_copy 70 = .ok (.getfield 47, 3) := by decide +kernel
theorem dX1_copy_73 : decode cX1_copy 73 = .ok (.putfield 47, 3) := by decide +kernel
theorem dX1_copy_76 : decode cX1_copy 76 = .ok (.return_, 1) := by decide +kernel
def X1_copy (l0 : Nat) (l1 : Nat) (μ : Mm) : Rs := cpA μ (l1 + 1) (l0 + 1) 8 fun μ1 => cpA μ1 (l1 + 2) (l0 + 2) 8 fun μ3 => cpA μ3 (l1 + 3) (l0 + 3) 8 fun μ5 => cpA μ5 (l1 + 4) (l0 + 4) 72 fun μ7 => sF μ7 l0 5 (μ7 l1 5) fun μ9 => sF μ9 l0 6 (μ9 l1 6) fun μ10 => some (0, μ10)
set_option maxHeartbeats 4000000 in
set_option maxRecDepth 100000 in
theorem kX1_copy (d : Nat) (hd : 1 ≤ d) {l0 : Nat} {l1 : Nat} (hk0 : kD l0 = (11, 7)) (hk1 : kD l1 = (11, 7)) {μ : Mm} {r : Int} {μ' : Mm} (h : X1_copy l0 l1 μ = some (r, μ')) : CC d mX1_copy [vR l0, vR l1] μ r μ' := by
  unfold X1_copy at h
  refine V_enter (by decide) (Nat.le_of_ble_eq_true rfl) ?_
  show VV d mX1_copy 0 [some (vR l0), some (vR l1)] [] μ r μ'
  refine V_aload_n (q := 1) dX1_copy_0 rfl rfl rfl ?_
  refine V_getO (q := 4) (t := _) fl_X1_9 hk1 rfl rfl rfl dX1_copy_1 rfl ?_
  refine V_iconst (q := 5) dX1_copy_4 rfl rfl ?_
  refine V_aload_n (q := 6) dX1_copy_5 rfl rfl rfl ?_
  refine V_getO (q := 9) (t := _) fl_X1_9 hk0 rfl rfl rfl dX1_copy_6 rfl ?_
  refine V_iconst (q := 10) dX1_copy_9 rfl rfl ?_
  refine V_bipush (q := 12) dX1_copy_10 rfl rfl rfl ?_
  obtain ⟨hn2, h⟩ := cpA_i h
  refine V_copy (q := 15) mc_X1_66 (by omega) (kdo_1_1 hk1) (kdo_1_1 hk0) hn2 rfl dX1_copy_12 rfl ?_
  refine V_aload_n (q := 16) dX1_copy_15 rfl rfl rfl ?_
  refine V_getO (q := 19) (t := _) fl_X1_15 hk1 rfl rfl rfl dX1_copy_16 rfl ?_
  refine V_iconst (q := 20) dX1_copy_19 rfl rfl ?_
  refine V_aload_n (q := 21) dX1_copy_20 rfl rfl rfl ?_
  refine V_getO (q := 24) (t := _) fl_X1_15 hk0 rfl rfl rfl dX1_copy_21 rfl ?_
  refine V_iconst (q := 25) dX1_copy_24 rfl rfl ?_
  refine V_bipush (q := 27) dX1_copy_25 rfl rfl rfl ?_
  obtain ⟨hn4, h⟩ := cpA_i h
  refine V_copy (q := 30) mc_X1_66 (by omega) (kdo_1_2 hk1) (kdo_1_2 hk0) hn4 rfl dX1_copy_27 rfl ?_
  refine V_aload_n (q := 31) dX1_copy_30 rfl rfl rfl ?_
  refine V_getO (q := 34) (t := _) fl_X1_18 hk1 rfl rfl rfl dX1_copy_31 rfl ?_
  refine V_iconst (q := 35) dX1_copy_34 rfl rfl ?_
  refine V_aload_n (q := 36) dX1_copy_35 rfl rfl rfl ?_
  refine V_getO (q := 39) (t := _) fl_X1_18 hk0 rfl rfl rfl dX1_copy_36 rfl ?_
  refine V_iconst (q := 40) dX1_copy_39 rfl rfl ?_
  refine V_bipush (q := 42) dX1_copy_40 rfl rfl rfl ?_
  obtain ⟨hn6, h⟩ := cpA_i h
  refine V_copy (q := 45) mc_X1_66 (by omega) (kdo_1_3 hk1) (kdo_1_3 hk0) hn6 rfl dX1_copy_42 rfl ?_
  refine V_aload_n (q := 46) dX1_copy_45 rfl rfl rfl ?_
  refine V_getO (q := 49) (t := _) fl_X1_21 hk1 rfl rfl rfl dX1_copy_46 rfl ?_
  refine V_iconst (q := 50) dX1_copy_49 rfl rfl ?_
  refine V_aload_n (q := 51) dX1_copy_50 rfl rfl rfl ?_
  refine V_getO (q := 54) (t := _) fl_X1_21 hk0 rfl rfl rfl dX1_copy_51 rfl ?_
  refine V_iconst (q := 55) dX1_copy_54 rfl rfl ?_
  refine V_bipush (q := 57) dX1_copy_55 rfl rfl rfl ?_
  obtain ⟨hn8, h⟩ := cpA_i h
  refine V_copy (q := 60) mc_X1_66 (by omega) (kdo_1_4 hk1) (kdo_1_4 hk0) hn8 rfl dX1_copy_57 rfl ?_
  refine V_aload_n (q := 61) dX1_copy_60 rfl rfl rfl ?_
  refine V_aload_n (q := 62) dX1_copy_61 rfl rfl rfl ?_
  refine V_getI (q := 65) fl_X1_34 hk1 rfl rfl dX1_copy_62 rfl ?_
  have h := sF_i h
  refine V_putI (q := 68) fl_X1_34 hk0 rfl rfl dX1_copy_65 rfl ?_
  refine V_aload_n (q := 69) dX1_copy_68 rfl rfl rfl ?_
  refine V_aload_n (q := 70) dX1_copy_69 rfl rfl rfl ?_
  refine V_getI (q := 73) fl_X1_47 hk1 rfl rfl dX1_copy_70 rfl ?_
  have h := sF_i h
  refine V_putI (q := 76) fl_X1_47 hk0 rfl rfl dX1_copy_73 rfl ?_
  exact V_vret rfl h dX1_copy_76
abbrev mX1_allCues : Mth := (yX1_allCues, cX1_allCues, 1, some .int)
theorem mi_X1_allCues : Cond.instanceMethod yX1_allCues ∈ tG ∧ Cond.selects yX1_allCues.cls yX1_allCues yX1_allCues ∈ tG ∧ Cond.initialized yX1_allCues.cls ∈ tG ∧ Cond.code yX1_allCues cX1_allCues 1 (some .int) ∈ tG ∧ (yX1_allCues.cls ≠ "java/lang/invoke/MethodHandle" ∧ yX1_allCues.cls ≠ "java/lang/invoke/VarHandle" ∧ (parseMethodDescriptor yX1_allCues.desc).map (fun d => d.parameters.length) = some 0) ∧ 1 ≤ 60 := ⟨(tG_of (List.mem_of_getElem? (i := 900) (by decide +kernel)) (by decide +kernel)), (tG_of (List.mem_of_getElem? (i := 901) (by decide +kernel)) (by decide +kernel)), (tG_of (List.mem_of_getElem? (i := 108) (by decide +kernel)) (by decide +kernel)), (tG_of (List.mem_of_getElem? (i := 902) (by decide +kernel)) (by decide +kernel)), ⟨by decide, by decide, by decide +kernel⟩, by decide⟩
theorem mv_X10_316 : mV RX10 316 mX1_allCues 0 := ⟨(tG_of (List.mem_of_getElem? (i := 930) (by decide +kernel)) (by decide +kernel)), mi_X1_allCues⟩
theorem mv_X6_57 : mV RX6 57 mX1_allCues 0 := ⟨(tG_of (List.mem_of_getElem? (i := 899) (by decide +kernel)) (by decide +kernel)), mi_X1_allCues⟩
theorem dX1_allCues_0 : decode cX1_allCues 0 = .ok (.iconst 1, 1) := by decide +kernel
theorem dX1_allCues_1 : decode cX1_allCues 1 = .ok (.aload_n 0, 1) := by decide +kernel
theorem dX1_allCues_2 : decode cX1_allCues 2 = .ok (.getfield 34, 3) := by decide +kernel
theorem dX1_allCues_5 : decode cX1_allCues 5 = .ok (.ishl, 1) := by decide +kernel
theorem dX1_allCues_6 : decode cX1_allCues 6 = .ok (.iconst 1, 1) := by decide +kernel
theorem dX1_allCues_7 : decode cX1_allCues 7 = .ok (.isub, 1) := by decide +kernel
theorem dX1_allCues_8 : decode cX1_allCues 8 = .ok (.ireturn, 1) := by decide +kernel
def X1_allCues (l0 : Nat) (μ : Mm) : Rs := some (iS (bL 1 (μ l0 5)) 1, μ)
set_option maxHeartbeats 4000000 in
set_option maxRecDepth 100000 in
theorem kX1_allCues (d : Nat) (hd : 1 ≤ d) {l0 : Nat} (hk0 : kD l0 = (11, 7)) {μ : Mm} {r : Int} {μ' : Mm} (h : X1_allCues l0 μ = some (r, μ')) : CC d mX1_allCues [vR l0] μ r μ' := by
  unfold X1_allCues at h
  refine V_enter (by decide) (Nat.le_of_ble_eq_true rfl) ?_
  show VV d mX1_allCues 0 [some (vR l0)] [] μ r μ'
  refine V_iconst (q := 1) dX1_allCues_0 rfl rfl ?_
  refine V_aload_n (q := 2) dX1_allCues_1 rfl rfl rfl ?_
  refine V_getI (q := 5) fl_X1_34 hk0 rfl rfl dX1_allCues_2 rfl ?_
  refine V_ishl (q := 6) dX1_allCues_5 rfl ?_
  refine V_iconst (q := 7) dX1_allCues_6 rfl rfl ?_
  refine V_isub (q := 8) dX1_allCues_7 rfl ?_
  exact V_iret rfl h dX1_allCues_8
abbrev mX1_stepsBetween : Mth := (yX1_stepsBetween, cX1_stepsBetween, 4, some .int)
theorem mi_X1_stepsBetween : Cond.instanceMethod yX1_stepsBetween ∈ tG ∧ Cond.selects yX1_stepsBetween.cls yX1_stepsBetween yX1_stepsBetween ∈ tG ∧ Cond.initialized yX1_stepsBetween.cls ∈ tG ∧ Cond.code yX1_stepsBetween cX1_stepsBetween 4 (some .int) ∈ tG ∧ (yX1_stepsBetween.cls ≠ "java/lang/invoke/MethodHandle" ∧ yX1_stepsBetween.cls ≠ "java/lang/invoke/VarHandle" ∧ (parseMethodDescriptor yX1_stepsBetween.desc).map (fun d => d.parameters.length) = some 2) ∧ 4 ≤ 60 := ⟨(tG_of (List.mem_of_getElem? (i := 840) (by decide +kernel)) (by decide +kernel)), (tG_of (List.mem_of_getElem? (i := 841) (by decide +kernel)) (by decide +kernel)), (tG_of (List.mem_of_getElem? (i := 108) (by decide +kernel)) (by decide +kernel)), (tG_of (List.mem_of_getElem? (i := 842) (by decide +kernel)) (by decide +kernel)), ⟨by decide, by decide, by decide +kernel⟩, by decide⟩
theorem mv_X1_72 : mV RX1 72 mX1_stepsBetween 2 := ⟨(tG_of (List.mem_of_getElem? (i := 839) (by decide +kernel)) (by decide +kernel)), mi_X1_stepsBetween⟩
theorem mv_X5_48 : mV RX5 48 mX1_stepsBetween 2 := ⟨(tG_of (List.mem_of_getElem? (i := 843) (by decide +kernel)) (by decide +kernel)), mi_X1_stepsBetween⟩
theorem dX1_stepsBetween_0 : decode cX1_stepsBetween 0 = .ok (.iload_n 1, 1) := by decide +kernel
theorem dX1_stepsBetween_1 : decode cX1_stepsBetween 1 = .ok (.bipush 8, 2) := by decide +kernel
theorem dX1_stepsBetween_3 : decode cX1_stepsBetween 3 = .ok (.imul, 1) := by decide +kernel
theorem dX1_stepsBetween_4 : decode cX1_stepsBetween 4 = .ok (.iload_n 2, 1) := by decide +kernel
theorem dX1_stepsBetween_5 : decode cX1_stepsBetween 5 = .ok (.iadd, 1) := by decide +kernel
theorem dX1_stepsBetween_6 : decode cX1_stepsBetween 6 = .ok (.istore_n 3, 1) := by decide +kernel
theorem dX1_stepsBetween_7 : decode cX1_stepsBetween 7 = .ok (.iload_n 3, 1) := by decide +kernel
theorem dX1_stepsBetween_8 : decode cX1_stepsBetween 8 = .ok (.ifCond .lt 21, 3) := by decide +kernel
theorem dX1_stepsBetween_11 : decode cX1_stepsBetween 11 = .ok (.iload_n 3, 1) := by decide +kernel
theorem dX1_stepsBetween_12 : decode cX1_stepsBetween 12 = .ok (.aload_n 0, 1) := by decide +kernel
theorem dX1_stepsBetween_13 : decode cX1_stepsBetween 13 = .ok (.getfield 21, 3) := by decide +kernel
theorem dX1_stepsBetween_16 : decode cX1_stepsBetween 16 = .ok (.arraylength, 1) := by decide +kernel
theorem dX1_stepsBetween_17 : decode cX1_stepsBetween 17 = .ok (.if_icmp .ge 12, 3) := by decide +kernel
theorem dX1_stepsBetween_20 : decode cX1_stepsBetween 20 = .ok (.aload_n 0, 1) := by decide +kernel
theorem dX1_stepsBetween_21 : decode cX1_stepsBetween 21 = .ok (.getfield 21, 3) := by decide +kernel
theorem dX1_stepsBetween_24 : decode cX1_stepsBetween 24 = .ok (.iload_n 3, 1) := by decide +kernel
theorem dX1_stepsBetween_25 : decode cX1_stepsBetween 25 = .ok (.iaload, 1) := by decide +kernel
theorem dX1_stepsBetween_26 : decode cX1_stepsBetween 26 = .ok (.goto 4, 3) := by decide +kernel
theorem dX1_stepsBetween_29 : decode cX1_stepsBetween 29 = .ok (.iconst (-1), 1) := by decide +kernel
theorem dX1_stepsBetween_30 : decode cX1_stepsBetween 30 = .ok (.ireturn, 1) := by decide +kernel
def X1_stepsBetween (l0 : Nat) (l1 : Int) (l2 : Int) (μ : Mm) : Rs := lt_ (iA (iM l1 8) l2) fun v1 => if v1 < 0 then (some ((-1), μ)) else (if ((aN (l0 + 4) : Nat) : Int) ≤ v1 then (some ((-1), μ)) else (ldA μ (l0 + 4) v1 fun v4 => some (v4, μ)))
set_option maxHeartbeats 4000000 in
set_option maxRecDepth 100000 in
theorem kX1_stepsBetween (d : Nat) (hd : 1 ≤ d) {l0 : Nat} {l1 : Int} {l2 : Int} (hk0 : kD l0 = (11, 7)) {μ : Mm} {r : Int} {μ' : Mm} (h : X1_stepsBetween l0 l1 l2 μ = some (r, μ')) : CC d mX1_stepsBetween [vR l0, vI l1, vI l2] μ r μ' := by
  unfold X1_stepsBetween at h
  refine V_enter (by decide) (Nat.le_of_ble_eq_true rfl) ?_
  show VV d mX1_stepsBetween 0 [some (vR l0), some (vI l1), some (vI l2), none] [] μ r μ'
  refine V_iload_n (q := 1) dX1_stepsBetween_0 rfl rfl rfl ?_
  refine V_bipush (q := 3) dX1_stepsBetween_1 rfl rfl rfl ?_
  refine V_imul (q := 4) dX1_stepsBetween_3 rfl ?_
  refine V_iload_n (q := 5) dX1_stepsBetween_4 rfl rfl rfl ?_
  refine V_iadd (q := 6) dX1_stepsBetween_5 rfl ?_
  have h := lt_i h
  refine V_istore_n (q := 7) dX1_stepsBetween_6 rfl (Nat.le_of_ble_eq_true rfl) trivial rfl ?_
  refine V_iload_n (q := 8) dX1_stepsBetween_7 rfl rfl rfl ?_
  refine V_iflt (q := 29) (q2 := 11) dX1_stepsBetween_8 (by decide) rfl (fun hc2 => ?_) (fun hc2 => ?_)
  · have h := ifT hc2 h
    refine V_iconst (q := 30) dX1_stepsBetween_29 rfl rfl ?_
    exact V_iret rfl h dX1_stepsBetween_30
  · have h := ifF hc2 h
    refine V_iload_n (q := 12) dX1_stepsBetween_11 rfl rfl rfl ?_
    refine V_aload_n (q := 13) dX1_stepsBetween_12 rfl rfl rfl ?_
    refine V_getO (q := 16) (t := _) fl_X1_21 hk0 rfl rfl rfl dX1_stepsBetween_13 rfl ?_
    refine V_alen (q := 17) (kdo_1_4 hk0) dX1_stepsBetween_16 rfl ?_
    refine V_icmpge (q := 29) (q2 := 20) dX1_stepsBetween_17 (by decide) rfl (fun hc3 => ?_) (fun hc3 => ?_)
    · have h := ifT hc3 h
      refine V_iconst (q := 30) dX1_stepsBetween_29 rfl rfl ?_
      exact V_iret rfl h dX1_stepsBetween_30
    · have h := ifF hc3 h
      refine V_aload_n (q := 21) dX1_stepsBetween_20 rfl rfl rfl ?_
      refine V_getO (q := 24) (t := _) fl_X1_21 hk0 rfl rfl rfl dX1_stepsBetween_21 rfl ?_
      refine V_iload_n (q := 25) dX1_stepsBetween_24 rfl rfl rfl ?_
      obtain ⟨hi5, h⟩ := ldA_i h
      refine V_iaload (q := 26) (kdo_1_4 hk0) hi5 dX1_stepsBetween_25 rfl ?_
      refine V_goto (q := 30) dX1_stepsBetween_26 (by decide) ?_
      exact V_iret rfl h dX1_stepsBetween_30
abbrev mX1_canBe : Mth := (yX1_canBe, cX1_canBe, 2, some .boolean)
theorem mi_X1_canBe : Cond.instanceMethod yX1_canBe ∈ tG ∧ Cond.selects yX1_canBe.cls yX1_canBe yX1_canBe ∈ tG ∧ Cond.initialized yX1_canBe.cls ∈ tG ∧ Cond.code yX1_canBe cX1_canBe 2 (some .boolean) ∈ tG ∧ (yX1_canBe.cls ≠ "java/lang/invoke/MethodHandle" ∧ yX1_canBe.cls ≠ "java/lang/invoke/VarHandle" ∧ (parseMethodDescriptor yX1_canBe.desc).map (fun d => d.parameters.length) = some 0) ∧ 2 ≤ 60 := ⟨(tG_of (List.mem_of_getElem? (i := 892) (by decide +kernel)) (by decide +kernel)), (tG_of (List.mem_of_getElem? (i := 893) (by decide +kernel)) (by decide +kernel)), (tG_of (List.mem_of_getElem? (i := 108) (by decide +kernel)) (by decide +kernel)), (tG_of (List.mem_of_getElem? (i := 894) (by decide +kernel)) (by decide +kernel)), ⟨by decide, by decide, by decide +kernel⟩, by decide⟩
theorem mv_X6_44 : mV RX6 44 mX1_canBe 0 := ⟨(tG_of (List.mem_of_getElem? (i := 891) (by decide +kernel)) (by decide +kernel)), mi_X1_canBe⟩
theorem mv_X8_35 : mV RX8 35 mX1_canBe 0 := ⟨(tG_of (List.mem_of_getElem? (i := 1035) (by decide +kernel)) (by decide +kernel)), mi_X1_canBe⟩
theorem dX1_canBe_0 : decode cX1_canBe 0 = .ok (.iconst 0, 1) := by decide +kernel
theorem dX1_canBe_1 : decode cX1_canBe 1 = .ok (.istore_n 1, 1) := by decide +kernel
theorem dX1_canBe_2 : decode cX1_canBe 2 = .ok (.iload_n 1, 1) := by decide +kernel
theorem dX1_canBe_3 : decode cX1_canBe 3 = .ok (.aload_n 0, 1) := by decide +kernel
theorem dX1_canBe_4 : decode cX1_canBe 4 = .ok (.getfield 34, 3) := by decide +kernel
theorem dX1_canBe_7 : decode cX1_canBe 7 = .ok (.if_icmp .ge 22, 3) := by decide +kernel
theorem dX1_canBe_10 : decode cX1_canBe 10 = .ok (.aload_n 0, 1) := by decide +kernel
theorem dX1_canBe_11 : decode cX1_canBe 11 = .ok (.bipush 8, 2) := by decide +kernel
theorem dX1_canBe_13 : decode cX1_canBe 13 = .ok (.iload_n 1, 1) := by decide +kernel
theorem dX1_canBe_14 : decode cX1_canBe 14 = .ok (.invokevirtual 72, 3) := by decide +kernel
theorem dX1_canBe_17 : decode cX1_canBe 17 = .ok (.iconst (-1), 1) := by decide +kernel
theorem dX1_canBe_18 : decode cX1_canBe 18 = .ok (.if_icmp .ne 5, 3) := by decide +kernel
theorem dX1_canBe_21 : decode cX1_canBe 21 = .ok (.iconst 0, 1) := by decide +kernel
theorem dX1_canBe_22 : decode cX1_canBe 22 = .ok (.ireturn, 1) := by decide +kernel
theorem dX1_canBe_23 : decode cX1_canBe 23 = .ok (.iinc 1 1, 3) := by decide +kernel
theorem dX1_canBe_26 : decode cX1_canBe 26 = .ok (.goto (-24), 3) := by decide +kernel
theorem dX1_canBe_29 : decode cX1_canBe 29 = .ok (.iconst 1, 1) := by decide +kernel
theorem dX1_canBe_30 : decode cX1_canBe 30 = .ok (.ireturn, 1) := by decide +kernel
def X1_canBe_L2 (l0 : Nat) : Nat → Int → Mm → Rs
  | 0, _, _ => none
  | n + 1, l1, μ => if (μ l0 5) ≤ l1 then (some (1, μ)) else (bd (X1_stepsBetween l0 8 l1 μ) fun v2 μ3 => if v2 = (-1) then (some (0, μ3)) else (X1_canBe_L2 l0 n (iA l1 1) μ3))
def X1_canBe (l0 : Nat) (μ : Mm) : Rs := X1_canBe_L2 l0 FU 0 μ
set_option maxHeartbeats 4000000 in
set_option maxRecDepth 100000 in
theorem kX1_canBe_L2 (d : Nat) (hd : 2 ≤ d) {l0 : Nat} (hk0 : kD l0 = (11, 7)) {r : Int} {μ' : Mm} : ∀ (n : Nat) {l1 : Int} {μ : Mm}, X1_canBe_L2 l0 n l1 μ = some (r, μ') → VV d mX1_canBe 2 [some (vR l0), some (vI l1)] [] μ r μ' := by
  intro n
  induction n with
  | zero => intro l1 μ h; rw [X1_canBe_L2] at h; cases h
  | succ n ih =>
    intro l1 μ h
    rw [X1_canBe_L2] at h
    refine V_iload_n (q := 3) dX1_canBe_2 rfl rfl rfl ?_
    refine V_aload_n (q := 4) dX1_canBe_3 rfl rfl rfl ?_
    refine V_getI (q := 7) fl_X1_34 hk0 rfl rfl dX1_canBe_4 rfl ?_
    refine V_icmpge (q := 29) (q2 := 10) dX1_canBe_7 (by decide) rfl (fun hc1 => ?_) (fun hc1 => ?_)
    · have h := ifT hc1 h
      refine V_iconst (q := 30) dX1_canBe_29 rfl rfl ?_
      exact V_zret rfl (Or.inr rfl) h dX1_canBe_30
    · have h := ifF hc1 h
      refine V_aload_n (q := 11) dX1_canBe_10 rfl rfl rfl ?_
      refine V_bipush (q := 13) dX1_canBe_11 rfl rfl rfl ?_
      refine V_iload_n (q := 14) dX1_canBe_13 rfl rfl rfl ?_
      obtain ⟨v2, μ3, hc4, h⟩ := bd_i h
      refine V_cV1 (q := 17) (v := vI v2) (kX1_stepsBetween (d - 1) (by omega) hk0 hc4) (by omega) mv_X1_72 hk0 rfl rfl rfl rfl rfl dX1_canBe_14 rfl ?_
      refine V_iconst (q := 18) dX1_canBe_17 rfl rfl ?_
      refine V_icmpne (q := 23) (q2 := 21) dX1_canBe_18 (by decide) rfl (fun hc5 => ?_) (fun hc5 => ?_)
      · have h := ifF hc5 h
        refine V_iinc (q := 26) dX1_canBe_23 rfl (Nat.le_of_ble_eq_true rfl) trivial rfl ?_
        refine V_goto (q := 2) dX1_canBe_26 (by decide) ?_
        exact V_weak (ih h) (sb_s rfl (sb_s rfl sb_0))
      · have h := ifT hc5 h
        refine V_iconst (q := 22) dX1_canBe_21 rfl rfl ?_
        exact V_zret rfl (Or.inl rfl) h dX1_canBe_22
set_option maxHeartbeats 4000000 in
set_option maxRecDepth 100000 in
theorem kX1_canBe (d : Nat) (hd : 2 ≤ d) {l0 : Nat} (hk0 : kD l0 = (11, 7)) {μ : Mm} {r : Int} {μ' : Mm} (h : X1_canBe l0 μ = some (r, μ')) : CC d mX1_canBe [vR l0] μ r μ' := by
  unfold X1_canBe at h
  refine V_enter (by decide) (Nat.le_of_ble_eq_true rfl) ?_
  show VV d mX1_canBe 0 [some (vR l0), none] [] μ r μ'
  refine V_iconst (q := 1) dX1_canBe_0 rfl rfl ?_
  refine V_istore_n (q := 2) dX1_canBe_1 rfl (Nat.le_of_ble_eq_true rfl) trivial rfl ?_
  exact V_weak (kX1_canBe_L2 d hd hk0  FU h) (sb_s rfl (sb_s rfl sb_0))
abbrev mX1_comes : Mth := (yX1_comes, cX1_comes, 5, some .int)
theorem mi_X1_comes : Cond.instanceMethod yX1_comes ∈ tG ∧ Cond.selects yX1_comes.cls yX1_comes yX1_comes ∈ tG ∧ Cond.initialized yX1_comes.cls ∈ tG ∧ Cond.code yX1_comes cX1_comes 5 (some .int) ∈ tG ∧ (yX1_comes.cls ≠ "java/lang/invoke/MethodHandle" ∧ yX1_comes.cls ≠ "java/lang/invoke/VarHandle" ∧ (parseMethodDescriptor yX1_comes.desc).map (fun d => d.parameters.length) = some 3) ∧ 5 ≤ 60 := ⟨(tG_of (List.mem_of_getElem? (i := 836) (by decide +kernel)) (by decide +kernel)), (tG_of (List.mem_of_getElem? (i := 837) (by decide +kernel)) (by decide +kernel)), (tG_of (List.mem_of_getElem? (i := 108) (by decide +kernel)) (by decide +kernel)), (tG_of (List.mem_of_getElem? (i := 838) (by decide +kernel)) (by decide +kernel)), ⟨by decide, by decide, by decide +kernel⟩, by decide⟩
theorem mv_X5_45 : mV RX5 45 mX1_comes 3 := ⟨(tG_of (List.mem_of_getElem? (i := 835) (by decide +kernel)) (by decide +kernel)), mi_X1_comes⟩
theorem mv_X6_64 : mV RX6 64 mX1_comes 3 := ⟨(tG_of (List.mem_of_getElem? (i := 907) (by decide +kernel)) (by decide +kernel)), mi_X1_comes⟩
theorem mv_X8_50 : mV RX8 50 mX1_comes 3 := ⟨(tG_of (List.mem_of_getElem? (i := 1044) (by decide +kernel)) (by decide +kernel)), mi_X1_comes⟩
theorem dX1_comes_0 : decode cX1_comes 0 = .ok (.aload_n 0, 1) := by decide +kernel
theorem dX1_comes_1 : decode cX1_comes 1 = .ok (.iload_n 2, 1) := by decide +kernel
theorem dX1_comes_2 : decode cX1_comes 2 = .ok (.iload_n 3, 1) := by decide +kernel
theorem dX1_comes_3 : decode cX1_comes 3 = .ok (.invokevirtual 72, 3) := by decide +kernel
theorem dX1_comes_6 : decode cX1_comes 6 = .ok (.istore 4, 2) := by decide +kernel
theorem dX1_comes_8 : decode cX1_comes 8 = .ok (.iload 4, 2) := by decide +kernel
theorem dX1_comes_10 : decode cX1_comes 10 = .ok (.iconst (-1), 1) := by decide +kernel
theorem dX1_comes_11 : decode cX1_comes 11 = .ok (.if_icmp .ne 7, 3) := by decide +kernel
theorem dX1_comes_14 : decode cX1_comes 14 = .ok (.iconst (-1), 1) := by decide +kernel
theorem dX1_comes_15 : decode cX1_comes 15 = .ok (.goto 12, 3) := by decide +kernel
theorem dX1_comes_18 : decode cX1_comes 18 = .ok (.iload_n 1, 1) := by decide +kernel
theorem dX1_comes_19 : decode cX1_comes 19 = .ok (.iload 4, 2) := by decide +kernel
theorem dX1_comes_21 : decode cX1_comes 21 = .ok (.aload_n 0, 1) := by decide +kernel
theorem dX1_comes_22 : decode cX1_comes 22 = .ok (.getfield 47, 3) := by decide +kernel
theorem dX1_comes_25 : decode cX1_comes 25 = .ok (.imul, 1) := by decide +kernel
theorem dX1_comes_26 : decode cX1_comes 26 = .ok (.iadd, 1) := by decide +kernel
theorem dX1_comes_27 : decode cX1_comes 27 = .ok (.ireturn, 1) := by decide +kernel
def X1_comes (l0 : Nat) (l1 : Int) (l2 : Int) (l3 : Int) (μ : Mm) : Rs := bd (X1_stepsBetween l0 l2 l3 μ) fun v1 μ2 => if v1 = (-1) then (some ((-1), μ2)) else (some (iA l1 (iM v1 (μ2 l0 6)), μ2))
set_option maxHeartbeats 4000000 in
set_option maxRecDepth 100000 in
theorem kX1_comes (d : Nat) (hd : 2 ≤ d) {l0 : Nat} {l1 : Int} {l2 : Int} {l3 : Int} (hk0 : kD l0 = (11, 7)) {μ : Mm} {r : Int} {μ' : Mm} (h : X1_comes l0 l1 l2 l3 μ = some (r, μ')) : CC d mX1_comes [vR l0, vI l1, vI l2, vI l3] μ r μ' := by
  unfold X1_comes at h
  refine V_enter (by decide) (Nat.le_of_ble_eq_true rfl) ?_
  show VV d mX1_comes 0 [some (vR l0), some (vI l1), some (vI l2), some (vI l3), none] [] μ r μ'
  refine V_aload_n (q := 1) dX1_comes_0 rfl rfl rfl ?_
  refine V_iload_n (q := 2) dX1_comes_1 rfl rfl rfl ?_
  refine V_iload_n (q := 3) dX1_comes_2 rfl rfl rfl ?_
  obtain ⟨v1, μ2, hc3, h⟩ := bd_i h
  refine V_cV1 (q := 6) (v := vI v1) (kX1_stepsBetween (d - 1) (by omega) hk0 hc3) (by omega) mv_X1_72 hk0 rfl rfl rfl rfl rfl dX1_comes_3 rfl ?_
  refine V_istore (q := 8) dX1_comes_6 (Nat.le_of_ble_eq_true rfl) trivial rfl ?_
  refine V_iload (q := 10) dX1_comes_8 rfl rfl ?_
  refine V_iconst (q := 11) dX1_comes_10 rfl rfl ?_
  refine V_icmpne (q := 18) (q2 := 14) dX1_comes_11 (by decide) rfl (fun hc4 => ?_) (fun hc4 => ?_)
  · have h := ifF hc4 h
    refine V_iload_n (q := 19) dX1_comes_18 rfl rfl rfl ?_
    refine V_iload (q := 21) dX1_comes_19 rfl rfl ?_
    refine V_aload_n (q := 22) dX1_comes_21 rfl rfl rfl ?_
    refine V_getI (q := 25) fl_X1_47 hk0 rfl rfl dX1_comes_22 rfl ?_
    refine V_imul (q := 26) dX1_comes_25 rfl ?_
    refine V_iadd (q := 27) dX1_comes_26 rfl ?_
    exact V_iret rfl h dX1_comes_27
  · have h := ifT hc4 h
    refine V_iconst (q := 15) dX1_comes_14 rfl rfl ?_
    refine V_goto (q := 27) dX1_comes_15 (by decide) ?_
    exact V_iret rfl h dX1_comes_27
abbrev mX1_wound : Mth := (yX1_wound, cX1_wound, 3, some .int)
theorem mi_X1_wound : Cond.instanceMethod yX1_wound ∈ tG ∧ Cond.selects yX1_wound.cls yX1_wound yX1_wound ∈ tG ∧ Cond.initialized yX1_wound.cls ∈ tG ∧ Cond.code yX1_wound cX1_wound 3 (some .int) ∈ tG ∧ (yX1_wound.cls ≠ "java/lang/invoke/MethodHandle" ∧ yX1_wound.cls ≠ "java/lang/invoke/VarHandle" ∧ (parseMethodDescriptor yX1_wound.desc).map (fun d => d.parameters.length) = some 2) ∧ 3 ≤ 60 := ⟨(tG_of (List.mem_of_getElem? (i := 849) (by decide +kernel)) (by decide +kernel)), (tG_of (List.mem_of_getElem? (i := 850) (by decide +kernel)) (by decide +kernel)), (tG_of (List.mem_of_getElem? (i := 108) (by decide +kernel)) (by decide +kernel)), (tG_of (List.mem_of_getElem? (i := 851) (by decide +kernel)) (by decide +kernel)), ⟨by decide, by decide, by decide +kernel⟩, by decide⟩
theorem mv_X1_76 : mV RX1 76 mX1_wound 2 := ⟨(tG_of (List.mem_of_getElem? (i := 848) (by decide +kernel)) (by decide +kernel)), mi_X1_wound⟩
theorem mv_X5_54 : mV RX5 54 mX1_wound 2 := ⟨(tG_of (List.mem_of_getElem? (i := 853) (by decide +kernel)) (by decide +kernel)), mi_X1_wound⟩
theorem dX1_wound_0 : decode cX1_wound 0 = .ok (.iload_n 1, 1) := by decide +kernel
theorem dX1_wound_1 : decode cX1_wound 1 = .ok (.aload_n 0, 1) := by decide +kernel
theorem dX1_wound_2 : decode cX1_wound 2 = .ok (.getfield 18, 3) := by decide +kernel
theorem dX1_wound_5 : decode cX1_wound 5 = .ok (.iload_n 2, 1) := by decide +kernel
theorem dX1_wound_6 : decode cX1_wound 6 = .ok (.iaload, 1) := by decide +kernel
theorem dX1_wound_7 : decode cX1_wound 7 = .ok (.iadd, 1) := by decide +kernel
theorem dX1_wound_8 : decode cX1_wound 8 = .ok (.ireturn, 1) := by decide +kernel
def X1_wound (l0 : Nat) (l1 : Int) (l2 : Int) (μ : Mm) : Rs := ldA μ (l0 + 3) l2 fun v1 => some (iA l1 v1, μ)
set_option maxHeartbeats 4000000 in
set_option maxRecDepth 100000 in
theorem kX1_wound (d : Nat) (hd : 1 ≤ d) {l0 : Nat} {l1 : Int} {l2 : Int} (hk0 : kD l0 = (11, 7)) {μ : Mm} {r : Int} {μ' : Mm} (h : X1_wound l0 l1 l2 μ = some (r, μ')) : CC d mX1_wound [vR l0, vI l1, vI l2] μ r μ' := by
  unfold X1_wound at h
  refine V_enter (by decide) (Nat.le_of_ble_eq_true rfl) ?_
  show VV d mX1_wound 0 [some (vR l0), some (vI l1), some (vI l2)] [] μ r μ'
  refine V_iload_n (q := 1) dX1_wound_0 rfl rfl rfl ?_
  refine V_aload_n (q := 2) dX1_wound_1 rfl rfl rfl ?_
  refine V_getO (q := 5) (t := _) fl_X1_18 hk0 rfl rfl rfl dX1_wound_2 rfl ?_
  refine V_iload_n (q := 6) dX1_wound_5 rfl rfl rfl ?_
  obtain ⟨hi2, h⟩ := ldA_i h
  refine V_iaload (q := 7) (kdo_1_3 hk0) hi2 dX1_wound_6 rfl ?_
  refine V_iadd (q := 8) dX1_wound_7 rfl ?_
  exact V_iret rfl h dX1_wound_8
abbrev mX1_dones : Mth := (yX1_dones, cX1_dones, 3, some .int)
theorem mi_X1_dones : Cond.instanceMethod yX1_dones ∈ tG ∧ Cond.selects yX1_dones.cls yX1_dones yX1_dones ∈ tG ∧ Cond.initialized yX1_dones.cls ∈ tG ∧ Cond.code yX1_dones cX1_dones 3 (some .int) ∈ tG ∧ (yX1_dones.cls ≠ "java/lang/invoke/MethodHandle" ∧ yX1_dones.cls ≠ "java/lang/invoke/VarHandle" ∧ (parseMethodDescriptor yX1_dones.desc).map (fun d => d.parameters.length) = some 2) ∧ 3 ≤ 60 := ⟨(tG_of (List.mem_of_getElem? (i := 845) (by decide +kernel)) (by decide +kernel)), (tG_of (List.mem_of_getElem? (i := 846) (by decide +kernel)) (by decide +kernel)), (tG_of (List.mem_of_getElem? (i := 108) (by decide +kernel)) (by decide +kernel)), (tG_of (List.mem_of_getElem? (i := 847) (by decide +kernel)) (by decide +kernel)), ⟨by decide, by decide, by decide +kernel⟩, by decide⟩
theorem mv_X5_52 : mV RX5 52 mX1_dones 2 := ⟨(tG_of (List.mem_of_getElem? (i := 844) (by decide +kernel)) (by decide +kernel)), mi_X1_dones⟩
theorem mv_X6_71 : mV RX6 71 mX1_dones 2 := ⟨(tG_of (List.mem_of_getElem? (i := 912) (by decide +kernel)) (by decide +kernel)), mi_X1_dones⟩
theorem mv_X8_57 : mV RX8 57 mX1_dones 2 := ⟨(tG_of (List.mem_of_getElem? (i := 1049) (by decide +kernel)) (by decide +kernel)), mi_X1_dones⟩
theorem dX1_dones_0 : decode cX1_dones 0 = .ok (.aload_n 0, 1) := by decide +kernel
theorem dX1_dones_1 : decode cX1_dones 1 = .ok (.iload_n 1, 1) := by decide +kernel
theorem dX1_dones_2 : decode cX1_dones 2 = .ok (.iload_n 2, 1) := by decide +kernel
theorem dX1_dones_3 : decode cX1_dones 3 = .ok (.invokevirtual 76, 3) := by decide +kernel
theorem dX1_dones_6 : decode cX1_dones 6 = .ok (.aload_n 0, 1) := by decide +kernel
theorem dX1_dones_7 : decode cX1_dones 7 = .ok (.getfield 15, 3) := by decide +kernel
theorem dX1_dones_10 : decode cX1_dones 10 = .ok (.iload_n 2, 1) := by decide +kernel
theorem dX1_dones_11 : decode cX1_dones 11 = .ok (.iaload, 1) := by decide +kernel
theorem dX1_dones_12 : decode cX1_dones 12 = .ok (.invokestatic 79, 3) := by decide +kernel
theorem dX1_dones_15 : decode cX1_dones 15 = .ok (.ireturn, 1) := by decide +kernel
def X1_dones (l0 : Nat) (l1 : Int) (l2 : Int) (μ : Mm) : Rs := bd (X1_wound l0 l1 l2 μ) fun v1 μ2 => ldA μ2 (l0 + 2) l2 fun v4 => some (mX v1 v4, μ2)
set_option maxHeartbeats 4000000 in
set_option maxRecDepth 100000 in
theorem kX1_dones (d : Nat) (hd : 2 ≤ d) {l0 : Nat} {l1 : Int} {l2 : Int} (hk0 : kD l0 = (11, 7)) {μ : Mm} {r : Int} {μ' : Mm} (h : X1_dones l0 l1 l2 μ = some (r, μ')) : CC d mX1_dones [vR l0, vI l1, vI l2] μ r μ' := by
  unfold X1_dones at h
  refine V_enter (by decide) (Nat.le_of_ble_eq_true rfl) ?_
  show VV d mX1_dones 0 [some (vR l0), some (vI l1), some (vI l2)] [] μ r μ'
  refine V_aload_n (q := 1) dX1_dones_0 rfl rfl rfl ?_
  refine V_iload_n (q := 2) dX1_dones_1 rfl rfl rfl ?_
  refine V_iload_n (q := 3) dX1_dones_2 rfl rfl rfl ?_
  obtain ⟨v1, μ2, hc3, h⟩ := bd_i h
  refine V_cV1 (q := 6) (v := vI v1) (kX1_wound (d - 1) (by omega) hk0 hc3) (by omega) mv_X1_76 hk0 rfl rfl rfl rfl rfl dX1_dones_3 rfl ?_
  refine V_aload_n (q := 7) dX1_dones_6 rfl rfl rfl ?_
  refine V_getO (q := 10) (t := _) fl_X1_15 hk0 rfl rfl rfl dX1_dones_7 rfl ?_
  refine V_iload_n (q := 11) dX1_dones_10 rfl rfl rfl ?_
  obtain ⟨hi5, h⟩ := ldA_i h
  refine V_iaload (q := 12) (kdo_1_2 hk0) hi5 dX1_dones_11 rfl ?_
  refine V_mmax (q := 15) mx_X1_79 (by omega) rfl dX1_dones_12 rfl ?_
  exact V_iret rfl h dX1_dones_15
end
section
abbrev mX4_need : Mth := (yX4_need, cX4_need, 2, none)
theorem mi_X4_need : Cond.instanceMethod yX4_need ∈ tG ∧ Cond.selects yX4_need.cls yX4_need yX4_need ∈ tG ∧ Cond.initialized yX4_need.cls ∈ tG ∧ Cond.code yX4_need cX4_need 2 (none) ∈ tG ∧ (yX4_need.cls ≠ "java/lang/invoke/MethodHandle" ∧ yX4_need.cls ≠ "java/lang/invoke/VarHandle" ∧ (parseMethodDescriptor yX4_need.desc).map (fun d => d.parameters.length) = some 1) ∧ 2 ≤ 60 := ⟨(tG_of (List.mem_of_getElem? (i := 586) (by decide +kernel)) (by decide +kernel)), (tG_of (List.mem_of_getElem? (i := 587) (by decide +kernel)) (by decide +kernel)), (tG_of (List.mem_of_getElem? (i := 103) (by decide +kernel)) (by decide +kernel)), (tG_of (List.mem_of_getElem? (i := 588) (by decide +kernel)) (by decide +kernel)), ⟨by decide, by decide, by decide +kernel⟩, by decide⟩
theorem mv_X2_65 : mV RX2 65 mX4_need 1 := ⟨(tG_of (List.mem_of_getElem? (i := 585) (by decide +kernel)) (by decide +kernel)), mi_X4_need⟩
theorem dX4_need_0 : decode cX4_need 0 = .ok (.aload_n 0, 1) := by decide +kernel
theorem dX4_need_1 : decode cX4_need 1 = .ok (.invokevirtual 31, 3) := by decide +kernel
theorem dX4_need_4 : decode cX4_need 4 = .ok (.iload_n 1, 1) := by decide +kernel
theorem dX4_need_5 : decode cX4_need 5 = .ok (.if_icmp .ne 16, 3) := by decide +kernel
theorem dX4_need_8 : decode cX4_need 8 = .ok (.aload_n 0, 1) := by decide +kernel
theorem dX4_need_9 : decode cX4_need 9 = .ok (.dup, 1) := by decide +kernel
theorem dX4_need_10 : decode cX4_need 10 = .ok (.getfield 19, 3) := by decide +kernel
theorem dX4_need_13 : decode cX4_need 13 = .ok (.iconst 1, 1) := by decide +kernel
theorem dX4_need_14 : decode cX4_need 14 = .ok (.iadd, 1) := by decide +kernel
theorem dX4_need_15 : decode cX4_need 15 = .ok (.putfield 19, 3) := by decide +kernel
theorem dX4_need_18 : decode cX4_need 18 = .ok (.goto 11, 3) := by decide +kernel
theorem dX4_need_21 : decode cX4_need 21 = .ok (.aload_n 0, 1) := by decide +kernel
theorem dX4_need_22 : decode cX4_need 22 = .ok (.aload_n 0, 1) := by decide +kernel
theorem dX4_need_23 : decode cX4_need 23 = .ok (.getfield 19, 3) := by decide +kernel
theorem dX4_need_26 : decode cX4_need 26 = .ok (.invokevirtual 35, 3) := by decide +kernel
theorem dX4_need_29 : decode cX4_need 29 = .ok (.return_, 1) := by decide +kernel
def X4_need (l1 : Int) (μ : Mm) : Rs := bd (X4_peek μ) fun v1 μ2 => if v1 = l1 then (sF μ2 3 1 (iA (μ2 3 1) 1) fun μ8 => some (0, μ8)) else (bd (X4_refuseAt (μ2 3 1) μ2) fun v5 μ6 => some (0, μ6))
set_option maxHeartbeats 4000000 in
set_option maxRecDepth 100000 in
theorem kX4_need (d : Nat) (hd : 2 ≤ d) {l1 : Int} {μ : Mm} {r : Int} {μ' : Mm} (h : X4_need l1 μ = some (r, μ')) : CC d mX4_need [vR 3, vI l1] μ r μ' := by
  unfold X4_need at h
  refine V_enter (by decide) (Nat.le_of_ble_eq_true rfl) ?_
  show VV d mX4_need 0 [some (vR 3), some (vI l1)] [] μ r μ'
  refine V_aload_n (q := 1) dX4_need_0 rfl rfl rfl ?_
  obtain ⟨v1, μ2, hc3, h⟩ := bd_i h
  refine V_cV1 (q := 4) (v := vI v1) (kX4_peek (d - 1) (by omega) hc3) (by omega) mv_X4_31 rfl rfl rfl rfl rfl rfl dX4_need_1 rfl ?_
  refine V_iload_n (q := 5) dX4_need_4 rfl rfl rfl ?_
  refine V_icmpne (q := 21) (q2 := 8) dX4_need_5 (by decide) rfl (fun hc4 => ?_) (fun hc4 => ?_)
  · have h := ifF hc4 h
    refine V_aload_n (q := 22) dX4_need_21 rfl rfl rfl ?_
    refine V_aload_n (q := 23) dX4_need_22 rfl rfl rfl ?_
    refine V_getI (q := 26) fl_X4_19 rfl rfl rfl dX4_need_23 rfl ?_
    obtain ⟨v5, μ6, hc7, h⟩ := bd_i h
    refine V_cV0 (q := 29) (kX4_refuseAt (d - 1) (by omega) hc7) (by omega) mv_X4_35 rfl rfl rfl rfl rfl rfl dX4_need_26 rfl ?_
    exact V_vret rfl h dX4_need_29
  · have h := ifT hc4 h
    refine V_aload_n (q := 9) dX4_need_8 rfl rfl rfl ?_
    refine V_dup (q := 10) dX4_need_9 trivial rfl ?_
    refine V_getI (q := 13) fl_X4_19 rfl rfl rfl dX4_need_10 rfl ?_
    refine V_iconst (q := 14) dX4_need_13 rfl rfl ?_
    refine V_iadd (q := 15) dX4_need_14 rfl ?_
    have h := sF_i h
    refine V_putI (q := 18) fl_X4_19 rfl rfl rfl dX4_need_15 rfl ?_
    refine V_goto (q := 29) dX4_need_18 (by decide) ?_
    exact V_vret rfl h dX4_need_29
abbrev mX4_isDigit : Mth := (yX4_isDigit, cX4_isDigit, 1, some .boolean)
theorem mi_X4_isDigit : Cond.static yX4_isDigit ∈ tG ∧ Cond.initialized yX4_isDigit.cls ∈ tG ∧ Cond.code yX4_isDigit cX4_isDigit 1 (some .boolean) ∈ tG ∧ (yX4_isDigit.cls ≠ "java/lang/invoke/MethodHandle" ∧ yX4_isDigit.cls ≠ "java/lang/invoke/VarHandle" ∧ (parseMethodDescriptor yX4_isDigit.desc).map (fun d => d.parameters.length) = some 1) ∧ 1 ≤ 60 := ⟨(tG_of (List.mem_of_getElem? (i := 573) (by decide +kernel)) (by decide +kernel)), (tG_of (List.mem_of_getElem? (i := 103) (by decide +kernel)) (by decide +kernel)), (tG_of (List.mem_of_getElem? (i := 574) (by decide +kernel)) (by decide +kernel)), ⟨by decide, by decide, by decide +kernel⟩, by decide⟩
theorem mv_X2_136 : mS RX2 136 mX4_isDigit 1 := ⟨(tG_of (List.mem_of_getElem? (i := 606) (by decide +kernel)) (by decide +kernel)), mi_X4_isDigit.1, (tG_of (List.mem_of_getElem? (i := 104) (by decide +kernel)) (by decide +kernel)), mi_X4_isDigit.2⟩
theorem mv_X4_39 : mS RX4 39 mX4_isDigit 1 := ⟨(tG_of (List.mem_of_getElem? (i := 572) (by decide +kernel)) (by decide +kernel)), mi_X4_isDigit.1, (tG_of (List.mem_of_getElem? (i := 103) (by decide +kernel)) (by decide +kernel)), mi_X4_isDigit.2⟩
theorem dX4_isDigit_0 : decode cX4_isDigit 0 = .ok (.iload_n 0, 1) := by decide +kernel
theorem dX4_isDigit_1 : decode cX4_isDigit 1 = .ok (.bipush 48, 2) := by decide +kernel
theorem dX4_isDigit_3 : decode cX4_isDigit 3 = .ok (.if_icmp .lt 13, 3) := by decide +kernel
theorem dX4_isDigit_6 : decode cX4_isDigit 6 = .ok (.iload_n 0, 1) := by decide +kernel
theorem dX4_isDigit_7 : decode cX4_isDigit 7 = .ok (.bipush 57, 2) := by decide +kernel
theorem dX4_isDigit_9 : decode cX4_isDigit 9 = .ok (.if_icmp .gt 7, 3) := by decide +kernel
theorem dX4_isDigit_12 : decode cX4_isDigit 12 = .ok (.iconst 1, 1) := by decide +kernel
theorem dX4_isDigit_13 : decode cX4_isDigit 13 = .ok (.goto 4, 3) := by decide +kernel
theorem dX4_isDigit_16 : decode cX4_isDigit 16 = .ok (.iconst 0, 1) := by decide +kernel
theorem dX4_isDigit_17 : decode cX4_isDigit 17 = .ok (.ireturn, 1) := by decide +kernel
def X4_isDigit (l0 : Int) (μ : Mm) : Rs := if l0 < 48 then (some (0, μ)) else (if 57 < l0 then (some (0, μ)) else (some (1, μ)))
set_option maxHeartbeats 4000000 in
set_option maxRecDepth 100000 in
theorem kX4_isDigit (d : Nat) (hd : 1 ≤ d) {l0 : Int} {μ : Mm} {r : Int} {μ' : Mm} (h : X4_isDigit l0 μ = some (r, μ')) : CC d mX4_isDigit [vI l0] μ r μ' := by
  unfold X4_isDigit at h
  refine V_enter (by decide) (Nat.le_of_ble_eq_true rfl) ?_
  show VV d mX4_isDigit 0 [some (vI l0)] [] μ r μ'
  refine V_iload_n (q := 1) dX4_isDigit_0 rfl rfl rfl ?_
  refine V_bipush (q := 3) dX4_isDigit_1 rfl rfl rfl ?_
  refine V_icmplt (q := 16) (q2 := 6) dX4_isDigit_3 (by decide) rfl (fun hc1 => ?_) (fun hc1 => ?_)
  · have h := ifT hc1 h
    refine V_iconst (q := 17) dX4_isDigit_16 rfl rfl ?_
    exact V_zret rfl (Or.inl rfl) h dX4_isDigit_17
  · have h := ifF hc1 h
    refine V_iload_n (q := 7) dX4_isDigit_6 rfl rfl rfl ?_
    refine V_bipush (q := 9) dX4_isDigit_7 rfl rfl rfl ?_
    refine V_icmpgt (q := 16) (q2 := 12) dX4_isDigit_9 (by decide) rfl (fun hc2 => ?_) (fun hc2 => ?_)
    · have h := ifT hc2 h
      refine V_iconst (q := 17) dX4_isDigit_16 rfl rfl ?_
      exact V_zret rfl (Or.inl rfl) h dX4_isDigit_17
    · have h := ifF hc2 h
      refine V_iconst (q := 13) dX4_isDigit_12 rfl rfl ?_
      refine V_goto (q := 17) dX4_isDigit_13 (by decide) ?_
      exact V_zret rfl (Or.inr rfl) h dX4_isDigit_17
abbrev mX4_number : Mth := (yX4_number, cX4_number, 4, some .int)
theorem mi_X4_number : Cond.instanceMethod yX4_number ∈ tG ∧ Cond.selects yX4_number.cls yX4_number yX4_number ∈ tG ∧ Cond.initialized yX4_number.cls ∈ tG ∧ Cond.code yX4_number cX4_number 4 (some .int) ∈ tG ∧ (yX4_number.cls ≠ "java/lang/invoke/MethodHandle" ∧ yX4_number.cls ≠ "java/lang/invoke/VarHandle" ∧ (parseMethodDescriptor yX4_number.desc).map (fun d => d.parameters.length) = some 1) ∧ 4 ≤ 60 := ⟨(tG_of (List.mem_of_getElem? (i := 569) (by decide +kernel)) (by decide +kernel)), (tG_of (List.mem_of_getElem? (i := 570) (by decide +kernel)) (by decide +kernel)), (tG_of (List.mem_of_getElem? (i := 103) (by decide +kernel)) (by decide +kernel)), (tG_of (List.mem_of_getElem? (i := 571) (by decide +kernel)) (by decide +kernel)), ⟨by decide, by decide, by decide +kernel⟩, by decide⟩
theorem mv_X2_139 : mV RX2 139 mX4_number 1 := ⟨(tG_of (List.mem_of_getElem? (i := 607) (by decide +kernel)) (by decide +kernel)), mi_X4_number⟩
theorem mv_X3_52 : mV RX3 52 mX4_number 1 := ⟨(tG_of (List.mem_of_getElem? (i := 568) (by decide +kernel)) (by decide +kernel)), mi_X4_number⟩
theorem dX4_number_0 : decode cX4_number 0 = .ok (.aload_n 0, 1) := by decide +kernel
theorem dX4_number_1 : decode cX4_number 1 = .ok (.invokevirtual 31, 3) := by decide +kernel
theorem dX4_number_4 : decode cX4_number 4 = .ok (.invokestatic 39, 3) := by decide +kernel
theorem dX4_number_7 : decode cX4_number 7 = .ok (.ifCond .ne 13, 3) := by decide +kernel
theorem dX4_number_10 : decode cX4_number 10 = .ok (.aload_n 0, 1) := by decide +kernel
theorem dX4_number_11 : decode cX4_number 11 = .ok (.aload_n 0, 1) := by decide +kernel
theorem dX4_number_12 : decode cX4_number 12 = .ok (.getfield 19, 3) := by decide +kernel
theorem dX4_number_15 : decode cX4_number 15 = .ok (.invokevirtual 35, 3) := by decide +kernel
theorem dX4_number_18 : decode cX4_number 18 = .ok (.iconst 0, 1) := by decide +kernel
theorem dX4_number_19 : decode cX4_number 19 = .ok (.ireturn, 1) := by decide +kernel
theorem dX4_number_20 : decode cX4_number 20 = .ok (.iconst 0, 1) := by decide +kernel
theorem dX4_number_21 : decode cX4_number 21 = .ok (.istore_n 2, 1) := by decide +kernel
theorem dX4_number_22 : decode cX4_number 22 = .ok (.iconst 0, 1) := by decide +kernel
theorem dX4_number_23 : decode cX4_number 23 = .ok (.istore_n 3, 1) := by decide +kernel
theorem dX4_number_24 : decode cX4_number 24 = .ok (.iload_n 3, 1) := by decide +kernel
theorem dX4_number_25 : decode cX4_number 25 = .ok (.iload_n 1, 1) := by decide +kernel
theorem dX4_number_26 : decode cX4_number 26 = .ok (.if_icmp .ge 72, 3) := by decide +kernel
theorem dX4_number_29 : decode cX4_number 29 = .ok (.aload_n 0, 1) := by decide +kernel
theorem dX4_number_30 : decode cX4_number 30 = .ok (.getfield 19, 3) := by decide +kernel
theorem dX4_number_33 : decode cX4_number 33 = .ok (.aload_n 0, 1) := by decide +kernel
theorem dX4_number_34 : decode cX4_number 34 = .ok (.getfield 9, 3) := by decide +kernel
theorem dX4_number_37 : decode cX4_number 37 = .ok (.getfield 22, 3) := by decide +kernel
theorem dX4_number_40 : decode cX4_number 40 = .ok (.if_icmp .ge 58, 3) := by decide +kernel
theorem dX4_number_43 : decode cX4_number 43 = .ok (.aload_n 0, 1) := by decide +kernel
theorem dX4_number_44 : decode cX4_number 44 = .ok (.getfield 9, 3) := by decide +kernel
theorem dX4_number_47 : decode cX4_number 47 = .ok (.getfield 27, 3) := by decide +kernel
theorem dX4_number_50 : decode cX4_number 50 = .ok (.aload_n 0, 1) := by decide +kernel
theorem dX4_number_51 : decode cX4_number 51 = .ok (.getfield 19, 3) := by decide +kernel
theorem dX4_number_54 : decode cX4_number 54 = .ok (.iaload, 1) := by decide +kernel
theorem dX4_number_55 : decode cX4_number 55 = .ok (.invokestatic 39, 3) := by decide +kernel
theorem dX4_number_58 : decode cX4_number 58 = .ok (.ifCond .eq 40, 3) := by decide +kernel
theorem dX4_number_61 : decode cX4_number 61 = .ok (.bipush 10, 2) := by decide +kernel
theorem dX4_number_63 : decode cX4_number 63 = .ok (.iload_n 2, 1) := by decide +kernel
theorem dX4_number_64 : decode cX4_number 64 = .ok (.imul, 1) := by decide +kernel
theorem dX4_number_65 : decode cX4_number 65 = .ok (.aload_n 0, 1) := by decide +kernel
theorem dX4_number_66 : decode cX4_number 66 = .ok (.getfield 9, 3) := by decide +kernel
theorem dX4_number_69 : decode cX4_number 69 = .ok (.getfield 27, 3) := by decide +kernel
theorem dX4_number_72 : decode cX4_number 72 = .ok (.aload_n 0, 1) := by decide +kernel
theorem dX4_number_73 : decode cX4_number 73 = .ok (.getfield 19, 3) := by decide +kernel
theorem dX4_number_76 : decode cX4_number 76 = .ok (.iaload, 1) := by decide +kernel
theorem dX4_number_77 : decode cX4_number 77 = .ok (.iadd, 1) := by decide +kernel
theorem dX4_number_78 : decode cX4_number 78 = .ok (.bipush 48, 2) := by decide +kernel
theorem dX4_number_80 : decode cX4_number 80 = .ok (.isub, 1) := by decide +kernel
theorem dX4_number_81 : decode cX4_number 81 = .ok (.istore_n 2, 1) := by decide +kernel
theorem dX4_number_82 : decode cX4_number 82 = .ok (.aload_n 0, 1) := by decide +kernel
theorem dX4_number_83 : decode cX4_number 83 = .ok (.dup, 1) := by decide +kernel
theorem dX4_number_84 : decode cX4_number 84 = .ok (.getfield 19, 3) := by decide +kernel
theorem dX4_number_87 : decode cX4_number 87 = .ok (.iconst 1, 1) := by decide +kernel
theorem dX4_number_88 : decode cX4_number 88 = .ok (.iadd, 1) := by decide +kernel
theorem dX4_number_89 : decode cX4_number 89 = .ok (.putfield 19, 3) := by decide +kernel
theorem dX4_number_92 : decode cX4_number 92 = .ok (.iinc 3 1, 3) := by decide +kernel
theorem dX4_number_95 : decode cX4_number 95 = .ok (.goto (-71), 3) := by decide +kernel
theorem dX4_number_98 : decode cX4_number 98 = .ok (.iload_n 2, 1) := by decide +kernel
theorem dX4_number_99 : decode cX4_number 99 = .ok (.ireturn, 1) := by decide +kernel
def X4_number_L24 (l1 : Int) : Nat → Int → Int → Mm → Rs
  | 0, _, _, _ => none
  | n + 1, l2, l3, μ => if l1 ≤ l3 then (some (l2, μ)) else (mR μ 3 0 (17, 2) fun v9 => if (μ v9 1) ≤ (μ 3 1) then (some (l2, μ)) else (mR μ 3 0 (17, 2) fun v12 => ldA μ (v12 + 1) (μ 3 1) fun v14 => bd (X4_isDigit v14 μ) fun v16 μ17 => if v16 = 0 then (some (l2, μ17)) else (mR μ17 3 0 (17, 2) fun v20 => ldA μ17 (v20 + 1) (μ17 3 1) fun v22 => lt_ (iS (iA (iM 10 l2) v22) 48) fun v24 => sF μ17 3 1 (iA (μ17 3 1) 1) fun μ25 => X4_number_L24 l1 n v24 (iA l3 1) μ25)))
def X4_number (l1 : Int) (μ : Mm) : Rs := bd (X4_peek μ) fun v1 μ2 => bd (X4_isDigit v1 μ2) fun v4 μ5 => if v4 = 0 then (bd (X4_refuseAt (μ5 3 1) μ5) fun v26 μ27 => some (0, μ27)) else (X4_number_L24 l1 FU 0 0 μ5)
set_option maxHeartbeats 4000000 in
set_option maxRecDepth 100000 in
theorem kX4_number_L24 (d : Nat) (hd : 2 ≤ d) {l1 : Int} {r : Int} {μ' : Mm} : ∀ (n : Nat) {l2 l3 : Int} {μ : Mm}, X4_number_L24 l1 n l2 l3 μ = some (r, μ') → VV d mX4_number 24 [some (vR 3), some (vI l1), some (vI l2), some (vI l3)] [] μ r μ' := by
  intro n
  induction n with
  | zero => intro l2 l3 μ h; rw [X4_number_L24] at h; cases h
  | succ n ih =>
    intro l2 l3 μ h
    rw [X4_number_L24] at h
    refine V_iload_n (q := 25) dX4_number_24 rfl rfl rfl ?_
    refine V_iload_n (q := 26) dX4_number_25 rfl rfl rfl ?_
    refine V_icmpge (q := 98) (q2 := 29) dX4_number_26 (by decide) rfl (fun hc8 => ?_) (fun hc8 => ?_)
    · have h := ifT hc8 h
      refine V_iload_n (q := 99) dX4_number_98 rfl rfl rfl ?_
      exact V_iret rfl h dX4_number_99
    · have h := ifF hc8 h
      refine V_aload_n (q := 30) dX4_number_29 rfl rfl rfl ?_
      refine V_getI (q := 33) fl_X4_19 rfl rfl rfl dX4_number_30 rfl ?_
      refine V_aload_n (q := 34) dX4_number_33 rfl rfl rfl ?_
      obtain ⟨hm10, h⟩ := mR_i h
      refine V_getM (q := 37) fl_X4_9 rfl rfl rfl dX4_number_34 rfl ?_
      refine V_getI (q := 40) fl_X4_22 hm10 rfl rfl dX4_number_37 rfl ?_
      refine V_icmpge (q := 98) (q2 := 43) dX4_number_40 (by decide) rfl (fun hc11 => ?_) (fun hc11 => ?_)
      · have h := ifT hc11 h
        refine V_iload_n (q := 99) dX4_number_98 rfl rfl rfl ?_
        exact V_iret rfl h dX4_number_99
      · have h := ifF hc11 h
        refine V_aload_n (q := 44) dX4_number_43 rfl rfl rfl ?_
        obtain ⟨hm13, h⟩ := mR_i h
        refine V_getM (q := 47) fl_X4_9 rfl rfl rfl dX4_number_44 rfl ?_
        refine V_getO (q := 50) (t := _) fl_X4_27 hm13 rfl rfl rfl dX4_number_47 rfl ?_
        refine V_aload_n (q := 51) dX4_number_50 rfl rfl rfl ?_
        refine V_getI (q := 54) fl_X4_19 rfl rfl rfl dX4_number_51 rfl ?_
        obtain ⟨hi15, h⟩ := ldA_i h
        refine V_iaload (q := 55) (kdo_7_0 hm13) hi15 dX4_number_54 rfl ?_
        obtain ⟨v16, μ17, hc18, h⟩ := bd_i h
        refine V_cS1 (q := 58) (v := vI v16) (kX4_isDigit (d - 1) (by omega) hc18) (by omega) mv_X4_39 rfl rfl rfl rfl dX4_number_55 rfl ?_
        refine V_ifeq (q := 98) (q2 := 61) dX4_number_58 (by decide) rfl (fun hc19 => ?_) (fun hc19 => ?_)
        · have h := ifT hc19 h
          refine V_iload_n (q := 99) dX4_number_98 rfl rfl rfl ?_
          exact V_iret rfl h dX4_number_99
        · have h := ifF hc19 h
          refine V_bipush (q := 63) dX4_number_61 rfl rfl rfl ?_
          refine V_iload_n (q := 64) dX4_number_63 rfl rfl rfl ?_
          refine V_imul (q := 65) dX4_number_64 rfl ?_
          refine V_aload_n (q := 66) dX4_number_65 rfl rfl rfl ?_
          obtain ⟨hm21, h⟩ := mR_i h
          refine V_getM (q := 69) fl_X4_9 rfl rfl rfl dX4_number_66 rfl ?_
          refine V_getO (q := 72) (t := _) fl_X4_27 hm21 rfl rfl rfl dX4_number_69 rfl ?_
          refine V_aload_n (q := 73) dX4_number_72 rfl rfl rfl ?_
          refine V_getI (q := 76) fl_X4_19 rfl rfl rfl dX4_number_73 rfl ?_
          obtain ⟨hi23, h⟩ := ldA_i h
          refine V_iaload (q := 77) (kdo_7_0 hm21) hi23 dX4_number_76 rfl ?_
          refine V_iadd (q := 78) dX4_number_77 rfl ?_
          refine V_bipush (q := 80) dX4_number_78 rfl rfl rfl ?_
          refine V_isub (q := 81) dX4_number_80 rfl ?_
          have h := lt_i h
          refine V_istore_n (q := 82) dX4_number_81 rfl (Nat.le_of_ble_eq_true rfl) trivial rfl ?_
          refine V_aload_n (q := 83) dX4_number_82 rfl rfl rfl ?_
          refine V_dup (q := 84) dX4_number_83 trivial rfl ?_
          refine V_getI (q := 87) fl_X4_19 rfl rfl rfl dX4_number_84 rfl ?_
          refine V_iconst (q := 88) dX4_number_87 rfl rfl ?_
          refine V_iadd (q := 89) dX4_number_88 rfl ?_
          have h := sF_i h
          refine V_putI (q := 92) fl_X4_19 rfl rfl rfl dX4_number_89 rfl ?_
          refine V_iinc (q := 95) dX4_number_92 rfl (Nat.le_of_ble_eq_true rfl) trivial rfl ?_
          refine V_goto (q := 24) dX4_number_95 (by decide) ?_
          exact V_weak (ih h) (sb_s rfl (sb_s rfl (sb_s rfl (sb_s rfl sb_0))))
set_option maxHeartbeats 4000000 in
set_option maxRecDepth 100000 in
theorem kX4_number (d : Nat) (hd : 2 ≤ d) {l1 : Int} {μ : Mm} {r : Int} {μ' : Mm} (h : X4_number l1 μ = some (r, μ')) : CC d mX4_number [vR 3, vI l1] μ r μ' := by
  unfold X4_number at h
  refine V_enter (by decide) (Nat.le_of_ble_eq_true rfl) ?_
  show VV d mX4_number 0 [some (vR 3), some (vI l1), none, none] [] μ r μ'
  refine V_aload_n (q := 1) dX4_number_0 rfl rfl rfl ?_
  obtain ⟨v1, μ2, hc3, h⟩ := bd_i h
  refine V_cV1 (q := 4) (v := vI v1) (kX4_peek (d - 1) (by omega) hc3) (by omega) mv_X4_31 rfl rfl rfl rfl rfl rfl dX4_number_1 rfl ?_
  obtain ⟨v4, μ5, hc6, h⟩ := bd_i h
  refine V_cS1 (q := 7) (v := vI v4) (kX4_isDigit (d - 1) (by omega) hc6) (by omega) mv_X4_39 rfl rfl rfl rfl dX4_number_4 rfl ?_
  refine V_ifne (q := 20) (q2 := 10) dX4_number_7 (by decide) rfl (fun hc7 => ?_) (fun hc7 => ?_)
  · have h := ifF hc7 h
    refine V_iconst (q := 21) dX4_number_20 rfl rfl ?_
    refine V_istore_n (q := 22) dX4_number_21 rfl (Nat.le_of_ble_eq_true rfl) trivial rfl ?_
    refine V_iconst (q := 23) dX4_number_22 rfl rfl ?_
    refine V_istore_n (q := 24) dX4_number_23 rfl (Nat.le_of_ble_eq_true rfl) trivial rfl ?_
    exact V_weak (kX4_number_L24 d hd  FU h) (sb_s rfl (sb_s rfl (sb_s rfl (sb_s rfl sb_0))))
  · have h := ifT hc7 h
    refine V_aload_n (q := 11) dX4_number_10 rfl rfl rfl ?_
    refine V_aload_n (q := 12) dX4_number_11 rfl rfl rfl ?_
    refine V_getI (q := 15) fl_X4_19 rfl rfl rfl dX4_number_12 rfl ?_
    obtain ⟨v26, μ27, hc28, h⟩ := bd_i h
    refine V_cV0 (q := 18) (kX4_refuseAt (d - 1) (by omega) hc28) (by omega) mv_X4_35 rfl rfl rfl rfl rfl rfl dX4_number_15 rfl ?_
    refine V_iconst (q := 19) dX4_number_18 rfl rfl ?_
    exact V_iret rfl h dX4_number_19
abbrev mX2_letter : Mth := (yX2_letter, cX2_letter, 3, some .int)
theorem mi_X2_letter : Cond.instanceMethod yX2_letter ∈ tG ∧ Cond.selects yX2_letter.cls yX2_letter yX2_letter ∈ tG ∧ Cond.initialized yX2_letter.cls ∈ tG ∧ Cond.code yX2_letter cX2_letter 3 (some .int) ∈ tG ∧ (yX2_letter.cls ≠ "java/lang/invoke/MethodHandle" ∧ yX2_letter.cls ≠ "java/lang/invoke/VarHandle" ∧ (parseMethodDescriptor yX2_letter.desc).map (fun d => d.parameters.length) = some 1) ∧ 3 ≤ 60 := ⟨(tG_of (List.mem_of_getElem? (i := 611) (by decide +kernel)) (by decide +kernel)), (tG_of (List.mem_of_getElem? (i := 9) (by decide +kernel)) (by decide +kernel)), (tG_of (List.mem_of_getElem? (i := 104) (by decide +kernel)) (by decide +kernel)), (tG_of (List.mem_of_getElem? (i := 612) (by decide +kernel)) (by decide +kernel)), ⟨by decide, by decide, by decide +kernel⟩, by decide⟩
theorem mv_X2_141 : mV RX2 141 mX2_letter 1 := ⟨(tG_of (List.mem_of_getElem? (i := 609) (by decide +kernel)) (by decide +kernel)), mi_X2_letter⟩
theorem dX2_letter_0 : decode cX2_letter 0 = .ok (.iconst 0, 1) := by decide +kernel
theorem dX2_letter_1 : decode cX2_letter 1 = .ok (.istore_n 2, 1) := by decide +kernel
theorem dX2_letter_2 : decode cX2_letter 2 = .ok (.iload_n 1, 1) := by decide +kernel
theorem dX2_letter_3 : decode cX2_letter 3 = .ok (.lookupswitch 89 #[(99, 73), (107, 57), (108, 81), (110, 65), (116, 49)], 49) := by decide +kernel
theorem dX2_letter_52 : decode cX2_letter 52 = .ok (.aload_n 0, 1) := by decide +kernel
theorem dX2_letter_53 : decode cX2_letter 53 = .ok (.getfield 40, 3) := by decide +kernel
theorem dX2_letter_56 : decode cX2_letter 56 = .ok (.istore_n 2, 1) := by decide +kernel
theorem dX2_letter_57 : decode cX2_letter 57 = .ok (.goto 51, 3) := by decide +kernel
theorem dX2_letter_60 : decode cX2_letter 60 = .ok (.aload_n 0, 1) := by decide +kernel
theorem dX2_letter_61 : decode cX2_letter 61 = .ok (.getfield 43, 3) := by decide +kernel
theorem dX2_letter_64 : decode cX2_letter 64 = .ok (.istore_n 2, 1) := by decide +kernel
theorem dX2_letter_65 : decode cX2_letter 65 = .ok (.goto 43, 3) := by decide +kernel
theorem dX2_letter_68 : decode cX2_letter 68 = .ok (.aload_n 0, 1) := by decide +kernel
theorem dX2_letter_69 : decode cX2_letter 69 = .ok (.getfield 25, 3) := by decide +kernel
theorem dX2_letter_72 : decode cX2_letter 72 = .ok (.istore_n 2, 1) := by decide +kernel
theorem dX2_letter_73 : decode cX2_letter 73 = .ok (.goto 35, 3) := by decide +kernel
theorem dX2_letter_76 : decode cX2_letter 76 = .ok (.aload_n 0, 1) := by decide +kernel
theorem dX2_letter_77 : decode cX2_letter 77 = .ok (.getfield 49, 3) := by decide +kernel
theorem dX2_letter_80 : decode cX2_letter 80 = .ok (.istore_n 2, 1) := by decide +kernel
theorem dX2_letter_81 : decode cX2_letter 81 = .ok (.goto 27, 3) := by decide +kernel
theorem dX2_letter_84 : decode cX2_letter 84 = .ok (.aload_n 0, 1) := by decide +kernel
theorem dX2_letter_85 : decode cX2_letter 85 = .ok (.getfield 33, 3) := by decide +kernel
theorem dX2_letter_88 : decode cX2_letter 88 = .ok (.istore_n 2, 1) := by decide +kernel
theorem dX2_letter_89 : decode cX2_letter 89 = .ok (.goto 19, 3) := by decide +kernel
theorem dX2_letter_92 : decode cX2_letter 92 = .ok (.aload_n 0, 1) := by decide +kernel
theorem dX2_letter_93 : decode cX2_letter 93 = .ok (.getfield 9, 3) := by decide +kernel
theorem dX2_letter_96 : decode cX2_letter 96 = .ok (.aload_n 0, 1) := by decide +kernel
theorem dX2_letter_97 : decode cX2_letter 97 = .ok (.getfield 9, 3) := by decide +kernel
theorem dX2_letter_100 : decode cX2_letter 100 = .ok (.getfield 90, 3) := by decide +kernel
theorem dX2_letter_103 : decode cX2_letter 103 = .ok (.invokevirtual 105, 3) := by decide +kernel
theorem dX2_letter_106 : decode cX2_letter 106 = .ok (.iconst 0, 1) := by decide +kernel
theorem dX2_letter_107 : decode cX2_letter 107 = .ok (.ireturn, 1) := by decide +kernel
theorem dX2_letter_108 : decode cX2_letter 108 = .ok (.aload_n 0, 1) := by decide +kernel
theorem dX2_letter_109 : decode cX2_letter 109 = .ok (.getfield 9, 3) := by decide +kernel
theorem dX2_letter_112 : decode cX2_letter 112 = .ok (.invokevirtual 108, 3) := by decide +kernel
theorem dX2_letter_115 : decode cX2_letter 115 = .ok (.iload_n 2, 1) := by decide +kernel
theorem dX2_letter_116 : decode cX2_letter 116 = .ok (.ireturn, 1) := by decide +kernel
def X2_letter (l1 : Int) (μ : Mm) : Rs := if l1 = 99 then (bd (X4_pass μ) fun v2 μ3 => some (μ 4 4, μ3)) else (if l1 = 107 then (bd (X4_pass μ) fun v6 μ7 => some (μ 4 2, μ7)) else (if l1 = 108 then (bd (X4_pass μ) fun v10 μ11 => some (μ 4 5, μ11)) else (if l1 = 110 then (bd (X4_pass μ) fun v14 μ15 => some (μ 4 3, μ15)) else (if l1 = 116 then (bd (X4_pass μ) fun v18 μ19 => some (μ 4 1, μ19)) else (bd (X4_refuseAt (μ 3 1) μ) fun v21 μ22 => some (0, μ22))))))
set_option maxHeartbeats 4000000 in
set_option maxRecDepth 100000 in
theorem kX2_letter (d : Nat) (hd : 2 ≤ d) {l1 : Int} {μ : Mm} {r : Int} {μ' : Mm} (h : X2_letter l1 μ = some (r, μ')) : CC d mX2_letter [vR 4, vI l1] μ r μ' := by
  unfold X2_letter at h
  refine V_enter (by decide) (Nat.le_of_ble_eq_true rfl) ?_
  show VV d mX2_letter 0 [some (vR 4), some (vI l1), none] [] μ r μ'
  refine V_iconst (q := 1) dX2_letter_0 rfl rfl ?_
  refine V_istore_n (q := 2) dX2_letter_1 rfl (Nat.le_of_ble_eq_true rfl) trivial rfl ?_
  refine V_iload_n (q := 3) dX2_letter_2 rfl rfl rfl ?_
  refine V_ls1 (q := 76) 99 dX2_letter_3 rfl rfl (by decide) (fun hc1 => ?_) (fun hc1 => ?_)
  · have h := ifT hc1 h
    refine V_aload_n (q := 77) dX2_letter_76 rfl rfl rfl ?_
    refine V_getI (q := 80) fl_X2_49 rfl rfl rfl dX2_letter_77 rfl ?_
    refine V_istore_n (q := 81) dX2_letter_80 rfl (Nat.le_of_ble_eq_true rfl) trivial rfl ?_
    refine V_goto (q := 108) dX2_letter_81 (by decide) ?_
    refine V_aload_n (q := 109) dX2_letter_108 rfl rfl rfl ?_
    refine V_getC (q := 112) fl_X2_9 rfl rfl rfl dX2_letter_109 rfl ?_
    obtain ⟨v2, μ3, hc4, h⟩ := bd_i h
    refine V_cV0 (q := 115) (kX4_pass (d - 1) (by omega) hc4) (by omega) mv_X2_108 rfl rfl rfl rfl rfl rfl dX2_letter_112 rfl ?_
    refine V_iload_n (q := 116) dX2_letter_115 rfl rfl rfl ?_
    exact V_iret rfl h dX2_letter_116
  · have h := ifF hc1 h
    refine V_ls1 (q := 60) 107 dX2_letter_3 rfl rfl (by decide) (fun hc5 => ?_) (fun hc5 => ?_)
    · have h := ifT hc5 h
      refine V_aload_n (q := 61) dX2_letter_60 rfl rfl rfl ?_
      refine V_getI (q := 64) fl_X2_43 rfl rfl rfl dX2_letter_61 rfl ?_
      refine V_istore_n (q := 65) dX2_letter_64 rfl (Nat.le_of_ble_eq_true rfl) trivial rfl ?_
      refine V_goto (q := 108) dX2_letter_65 (by decide) ?_
      refine V_aload_n (q := 109) dX2_letter_108 rfl rfl rfl ?_
      refine V_getC (q := 112) fl_X2_9 rfl rfl rfl dX2_letter_109 rfl ?_
      obtain ⟨v6, μ7, hc8, h⟩ := bd_i h
      refine V_cV0 (q := 115) (kX4_pass (d - 1) (by omega) hc8) (by omega) mv_X2_108 rfl rfl rfl rfl rfl rfl dX2_letter_112 rfl ?_
      refine V_iload_n (q := 116) dX2_letter_115 rfl rfl rfl ?_
      exact V_iret rfl h dX2_letter_116
    · have h := ifF hc5 h
      refine V_ls1 (q := 84) 108 dX2_letter_3 rfl rfl (by decide) (fun hc9 => ?_) (fun hc9 => ?_)
      · have h := ifT hc9 h
        refine V_aload_n (q := 85) dX2_letter_84 rfl rfl rfl ?_
        refine V_getI (q := 88) fl_X2_33 rfl rfl rfl dX2_letter_85 rfl ?_
        refine V_istore_n (q := 89) dX2_letter_88 rfl (Nat.le_of_ble_eq_true rfl) trivial rfl ?_
        refine V_goto (q := 108) dX2_letter_89 (by decide) ?_
        refine V_aload_n (q := 109) dX2_letter_108 rfl rfl rfl ?_
        refine V_getC (q := 112) fl_X2_9 rfl rfl rfl dX2_letter_109 rfl ?_
        obtain ⟨v10, μ11, hc12, h⟩ := bd_i h
        refine V_cV0 (q := 115) (kX4_pass (d - 1) (by omega) hc12) (by omega) mv_X2_108 rfl rfl rfl rfl rfl rfl dX2_letter_112 rfl ?_
        refine V_iload_n (q := 116) dX2_letter_115 rfl rfl rfl ?_
        exact V_iret rfl h dX2_letter_116
      · have h := ifF hc9 h
        refine V_ls1 (q := 68) 110 dX2_letter_3 rfl rfl (by decide) (fun hc13 => ?_) (fun hc13 => ?_)
        · have h := ifT hc13 h
          refine V_aload_n (q := 69) dX2_letter_68 rfl rfl rfl ?_
          refine V_getI (q := 72) fl_X2_25 rfl rfl rfl dX2_letter_69 rfl ?_
          refine V_istore_n (q := 73) dX2_letter_72 rfl (Nat.le_of_ble_eq_true rfl) trivial rfl ?_
          refine V_goto (q := 108) dX2_letter_73 (by decide) ?_
          refine V_aload_n (q := 109) dX2_letter_108 rfl rfl rfl ?_
          refine V_getC (q := 112) fl_X2_9 rfl rfl rfl dX2_letter_109 rfl ?_
          obtain ⟨v14, μ15, hc16, h⟩ := bd_i h
          refine V_cV0 (q := 115) (kX4_pass (d - 1) (by omega) hc16) (by omega) mv_X2_108 rfl rfl rfl rfl rfl rfl dX2_letter_112 rfl ?_
          refine V_iload_n (q := 116) dX2_letter_115 rfl rfl rfl ?_
          exact V_iret rfl h dX2_letter_116
        · have h := ifF hc13 h
          refine V_ls1 (q := 52) 116 dX2_letter_3 rfl rfl (by decide) (fun hc17 => ?_) (fun hc17 => ?_)
          · have h := ifT hc17 h
            refine V_aload_n (q := 53) dX2_letter_52 rfl rfl rfl ?_
            refine V_getI (q := 56) fl_X2_40 rfl rfl rfl dX2_letter_53 rfl ?_
            refine V_istore_n (q := 57) dX2_letter_56 rfl (Nat.le_of_ble_eq_true rfl) trivial rfl ?_
            refine V_goto (q := 108) dX2_letter_57 (by decide) ?_
            refine V_aload_n (q := 109) dX2_letter_108 rfl rfl rfl ?_
            refine V_getC (q := 112) fl_X2_9 rfl rfl rfl dX2_letter_109 rfl ?_
            obtain ⟨v18, μ19, hc20, h⟩ := bd_i h
            refine V_cV0 (q := 115) (kX4_pass (d - 1) (by omega) hc20) (by omega) mv_X2_108 rfl rfl rfl rfl rfl rfl dX2_letter_112 rfl ?_
            refine V_iload_n (q := 116) dX2_letter_115 rfl rfl rfl ?_
            exact V_iret rfl h dX2_letter_116
          · have h := ifF hc17 h
            refine V_ls (q := 92) (off := 89) dX2_letter_3 rfl (by simp [Op.lookupswitch.offset, Ne.symm hc1, Ne.symm hc5, Ne.symm hc9, Ne.symm hc13, Ne.symm hc17]) (by decide) ?_
            refine V_aload_n (q := 93) dX2_letter_92 rfl rfl rfl ?_
            refine V_getC (q := 96) fl_X2_9 rfl rfl rfl dX2_letter_93 rfl ?_
            refine V_aload_n (q := 97) dX2_letter_96 rfl rfl rfl ?_
            refine V_getC (q := 100) fl_X2_9 rfl rfl rfl dX2_letter_97 rfl ?_
            refine V_getI (q := 103) fl_X2_90 rfl rfl rfl dX2_letter_100 rfl ?_
            obtain ⟨v21, μ22, hc23, h⟩ := bd_i h
            refine V_cV0 (q := 106) (kX4_refuseAt (d - 1) (by omega) hc23) (by omega) mv_X2_105 rfl rfl rfl rfl rfl rfl dX2_letter_103 rfl ?_
            refine V_iconst (q := 107) dX2_letter_106 rfl rfl ?_
            exact V_iret rfl h dX2_letter_107
abbrev mX2_held : Mth := (yX2_held, cX2_held, 2, some .long)
theorem mi_X2_held : Cond.static yX2_held ∈ tG ∧ Cond.initialized yX2_held.cls ∈ tG ∧ Cond.code yX2_held cX2_held 2 (some .long) ∈ tG ∧ (yX2_held.cls ≠ "java/lang/invoke/MethodHandle" ∧ yX2_held.cls ≠ "java/lang/invoke/VarHandle" ∧ (parseMethodDescriptor yX2_held.desc).map (fun d => d.parameters.length) = some 1) ∧ 2 ≤ 60 := ⟨(tG_of (List.mem_of_getElem? (i := 616) (by decide +kernel)) (by decide +kernel)), (tG_of (List.mem_of_getElem? (i := 104) (by decide +kernel)) (by decide +kernel)), (tG_of (List.mem_of_getElem? (i := 617) (by decide +kernel)) (by decide +kernel)), ⟨by decide, by decide, by decide +kernel⟩, by decide⟩
theorem mv_X2_120 : mS RX2 120 mX2_held 1 := ⟨(tG_of (List.mem_of_getElem? (i := 615) (by decide +kernel)) (by decide +kernel)), mi_X2_held.1, (tG_of (List.mem_of_getElem? (i := 104) (by decide +kernel)) (by decide +kernel)), mi_X2_held.2⟩
theorem dX2_held_0 : decode cX2_held 0 = .ok (.ldc2_w 127, 3) := by decide +kernel
theorem dX2_held_3 : decode cX2_held 3 = .ok (.ldc2_w 129, 3) := by decide +kernel
theorem dX2_held_6 : decode cX2_held 6 = .ok (.lload_n 0, 1) := by decide +kernel
theorem dX2_held_7 : decode cX2_held 7 = .ok (.invokestatic 131, 3) := by decide +kernel
theorem dX2_held_10 : decode cX2_held 10 = .ok (.invokestatic 134, 3) := by decide +kernel
theorem dX2_held_13 : decode cX2_held 13 = .ok (.lreturn, 1) := by decide +kernel
def X2_held (l0 : Int) (μ : Mm) : Rs := some (mX (-1000000) (mN 1000000 l0), μ)
set_option maxHeartbeats 4000000 in
set_option maxRecDepth 100000 in
theorem kX2_held (d : Nat) (hd : 1 ≤ d) {l0 : Int} {μ : Mm} {r : Int} {μ' : Mm} (h : X2_held l0 μ = some (r, μ')) : CC d mX2_held [vL l0] μ r μ' := by
  unfold X2_held at h
  refine V_enter (by decide) (Nat.le_of_ble_eq_true rfl) ?_
  show VV d mX2_held 0 [some (vL l0), none] [] μ r μ'
  refine V_ldc2 (q := 3) (n := -1000000) dX2_held_0 (by unfold rL; omega) kc_X2_127 rfl ?_
  refine V_ldc2 (q := 6) (n := 1000000) dX2_held_3 (by unfold rL; omega) kc_X2_129 rfl ?_
  refine V_lload_n (q := 7) dX2_held_6 rfl rfl rfl ?_
  refine V_lmin (q := 10) mx_X2_131 (by omega) rfl dX2_held_7 rfl ?_
  refine V_lmax (q := 13) mx_X2_134 (by omega) rfl dX2_held_10 rfl ?_
  exact V_lret rfl h dX2_held_13
abbrev mX2_atom : Mth := (yX2_atom, cX2_atom, 4, some .int)
theorem mi_X2_atom : Cond.instanceMethod yX2_atom ∈ tG ∧ Cond.selects yX2_atom.cls yX2_atom yX2_atom ∈ tG ∧ Cond.initialized yX2_atom.cls ∈ tG ∧ Cond.code yX2_atom cX2_atom 4 (some .int) ∈ tG ∧ (yX2_atom.cls ≠ "java/lang/invoke/MethodHandle" ∧ yX2_atom.cls ≠ "java/lang/invoke/VarHandle" ∧ (parseMethodDescriptor yX2_atom.desc).map (fun d => d.parameters.length) = some 1) ∧ 4 ≤ 60 := ⟨(tG_of (List.mem_of_getElem? (i := 604) (by decide +kernel)) (by decide +kernel)), (tG_of (List.mem_of_getElem? (i := 8) (by decide +kernel)) (by decide +kernel)), (tG_of (List.mem_of_getElem? (i := 104) (by decide +kernel)) (by decide +kernel)), (tG_of (List.mem_of_getElem? (i := 605) (by decide +kernel)) (by decide +kernel)), ⟨by decide, by decide, by decide +kernel⟩, by decide⟩
theorem mv_X2_124 : mV RX2 124 mX2_atom 1 := ⟨(tG_of (List.mem_of_getElem? (i := 602) (by decide +kernel)) (by decide +kernel)), mi_X2_atom⟩
abbrev mX2_term : Mth := (yX2_term, cX2_term, 6, some .int)
theorem mi_X2_term : Cond.instanceMethod yX2_term ∈ tG ∧ Cond.selects yX2_term.cls yX2_term yX2_term ∈ tG ∧ Cond.initialized yX2_term.cls ∈ tG ∧ Cond.code yX2_term cX2_term 6 (some .int) ∈ tG ∧ (yX2_term.cls ≠ "java/lang/invoke/MethodHandle" ∧ yX2_term.cls ≠ "java/lang/invoke/VarHandle" ∧ (parseMethodDescriptor yX2_term.desc).map (fun d => d.parameters.length) = some 1) ∧ 6 ≤ 60 := ⟨(tG_of (List.mem_of_getElem? (i := 600) (by decide +kernel)) (by decide +kernel)), (tG_of (List.mem_of_getElem? (i := 7) (by decide +kernel)) (by decide +kernel)), (tG_of (List.mem_of_getElem? (i := 104) (by decide +kernel)) (by decide +kernel)), (tG_of (List.mem_of_getElem? (i := 601) (by decide +kernel)) (by decide +kernel)), ⟨by decide, by decide, by decide +kernel⟩, by decide⟩
theorem mv_X2_117 : mV RX2 117 mX2_term 1 := ⟨(tG_of (List.mem_of_getElem? (i := 598) (by decide +kernel)) (by decide +kernel)), mi_X2_term⟩
abbrev mX2_sum : Mth := (yX2_sum, cX2_sum, 5, some .int)
theorem mi_X2_sum : Cond.instanceMethod yX2_sum ∈ tG ∧ Cond.selects yX2_sum.cls yX2_sum yX2_sum ∈ tG ∧ Cond.initialized yX2_sum.cls ∈ tG ∧ Cond.code yX2_sum cX2_sum 5 (some .int) ∈ tG ∧ (yX2_sum.cls ≠ "java/lang/invoke/MethodHandle" ∧ yX2_sum.cls ≠ "java/lang/invoke/VarHandle" ∧ (parseMethodDescriptor yX2_sum.desc).map (fun d => d.parameters.length) = some 1) ∧ 5 ≤ 60 := ⟨(tG_of (List.mem_of_getElem? (i := 596) (by decide +kernel)) (by decide +kernel)), (tG_of (List.mem_of_getElem? (i := 6) (by decide +kernel)) (by decide +kernel)), (tG_of (List.mem_of_getElem? (i := 104) (by decide +kernel)) (by decide +kernel)), (tG_of (List.mem_of_getElem? (i := 597) (by decide +kernel)) (by decide +kernel)), ⟨by decide, by decide, by decide +kernel⟩, by decide⟩
theorem mv_X2_77 : mV RX2 77 mX2_sum 1 := ⟨(tG_of (List.mem_of_getElem? (i := 594) (by decide +kernel)) (by decide +kernel)), mi_X2_sum⟩
theorem dX2_atom_0 : decode cX2_atom 0 = .ok (.aload_n 0, 1) := by decide +kernel
theorem dX2_atom_1 : decode cX2_atom 1 = .ok (.getfield 9, 3) := by decide +kernel
theorem dX2_atom_4 : decode cX2_atom 4 = .ok (.invokevirtual 87, 3) := by decide +kernel
theorem dX2_atom_7 : decode cX2_atom 7 = .ok (.istore_n 2, 1) := by decide +kernel
theorem dX2_atom_8 : decode cX2_atom 8 = .ok (.iload_n 2, 1) := by decide +kernel
theorem dX2_atom_9 : decode cX2_atom 9 = .ok (.invokestatic 136, 3) := by decide +kernel
theorem dX2_atom_12 : decode cX2_atom 12 = .ok (.ifCond .eq 12, 3) := by decide +kernel
theorem dX2_atom_15 : decode cX2_atom 15 = .ok (.aload_n 0, 1) := by decide +kernel
theorem dX2_atom_16 : decode cX2_atom 16 = .ok (.getfield 9, 3) := by decide +kernel
theorem dX2_atom_19 : decode cX2_atom 19 = .ok (.iconst 4, 1) := by decide +kernel
theorem dX2_atom_20 : decode cX2_atom 20 = .ok (.invokevirtual 139, 3) := by decide +kernel
theorem dX2_atom_23 : decode cX2_atom 23 = .ok (.ireturn, 1) := by decide +kernel
theorem dX2_atom_24 : decode cX2_atom 24 = .ok (.iload_n 2, 1) := by decide +kernel
theorem dX2_atom_25 : decode cX2_atom 25 = .ok (.bipush 91, 2) := by decide +kernel
theorem dX2_atom_27 : decode cX2_atom 27 = .ok (.if_icmp .ne 35, 3) := by decide +kernel
theorem dX2_atom_30 : decode cX2_atom 30 = .ok (.iload_n 1, 1) := by decide +kernel
theorem dX2_atom_31 : decode cX2_atom 31 = .ok (.bipush 6, 2) := by decide +kernel
theorem dX2_atom_33 : decode cX2_atom 33 = .ok (.if_icmp .ge 29, 3) := by decide +kernel
theorem dX2_atom_36 : decode cX2_atom 36 = .ok (.aload_n 0, 1) := by decide +kernel
theorem dX2_atom_37 : decode cX2_atom 37 = .ok (.getfield 9, 3) := by decide +kernel
theorem dX2_atom_40 : decode cX2_atom 40 = .ok (.invokevirtual 108, 3) := by decide +kernel
theorem dX2_atom_43 : decode cX2_atom 43 = .ok (.aload_n 0, 1) := by decide +kernel
theorem dX2_atom_44 : decode cX2_atom 44 = .ok (.iload_n 1, 1) := by decide +kernel
theorem dX2_atom_45 : decode cX2_atom 45 = .ok (.iconst 1, 1) := by decide +kernel
theorem dX2_atom_46 : decode cX2_atom 46 = .ok (.iadd, 1) := by decide +kernel
theorem dX2_atom_47 : decode cX2_atom 47 = .ok (.invokevirtual 77, 3) := by decide +kernel
theorem dX2_atom_50 : decode cX2_atom 50 = .ok (.istore_n 3, 1) := by decide +kernel
theorem dX2_atom_51 : decode cX2_atom 51 = .ok (.aload_n 0, 1) := by decide +kernel
theorem dX2_atom_52 : decode cX2_atom 52 = .ok (.getfield 9, 3) := by decide +kernel
theorem dX2_atom_55 : decode cX2_atom 55 = .ok (.bipush 93, 2) := by decide +kernel
theorem dX2_atom_57 : decode cX2_atom 57 = .ok (.invokevirtual 65, 3) := by decide +kernel
theorem dX2_atom_60 : decode cX2_atom 60 = .ok (.iload_n 3, 1) := by decide +kernel
theorem dX2_atom_61 : decode cX2_atom 61 = .ok (.ireturn, 1) := by decide +kernel
theorem dX2_atom_62 : decode cX2_atom 62 = .ok (.aload_n 0, 1) := by decide +kernel
theorem dX2_atom_63 : decode cX2_atom 63 = .ok (.iload_n 2, 1) := by decide +kernel
theorem dX2_atom_64 : decode cX2_atom 64 = .ok (.invokevirtual 141, 3) := by decide +kernel
theorem dX2_atom_67 : decode cX2_atom 67 = .ok (.ireturn, 1) := by decide +kernel
def X2_atom_o (rec : Int → Mm → Rs) (l1 : Int) (μ : Mm) : Rs := bd (X4_peek μ) fun v1 μ2 => bd (X4_isDigit v1 μ2) fun v4 μ5 => if v4 = 0 then (if v1 = 91 then (if 6 ≤ l1 then (bd (X2_letter v1 μ5) fun v13 μ14 => some (v13, μ14)) else (bd (X4_pass μ5) fun v16 μ17 => bd (rec (iA l1 1) μ17) fun v19 μ20 => bd (X4_need 93 μ20) fun v22 μ23 => some (v19, μ23))) else (bd (X2_letter v1 μ5) fun v9 μ10 => some (v9, μ10))) else (bd (X4_number 4 μ5) fun v25 μ26 => some (v25, μ26))
set_option maxHeartbeats 4000000 in
set_option maxRecDepth 100000 in
theorem kX2_atom (d : Nat) {d0 : Nat} (hd : d0 + 2 ≤ d) {rec : Int → Mm → Rs} (hrec : ∀ {q1 : Int} {μ1 : Mm} {r1 : Int} {μ2 : Mm}, rec q1 μ1 = some (r1, μ2) → CC d0 mX2_sum [vR 4, vI q1] μ1 r1 μ2) (hb : 5 ≤ d) {l1 : Int} {μ : Mm} {r : Int} {μ' : Mm} (h : X2_atom_o rec l1 μ = some (r, μ')) : CC d mX2_atom [vR 4, vI l1] μ r μ' := by
  unfold X2_atom_o at h
  refine V_enter (by decide) (Nat.le_of_ble_eq_true rfl) ?_
  show VV d mX2_atom 0 [some (vR 4), some (vI l1), none, none] [] μ r μ'
  refine V_aload_n (q := 1) dX2_atom_0 rfl rfl rfl ?_
  refine V_getC (q := 4) fl_X2_9 rfl rfl rfl dX2_atom_1 rfl ?_
  obtain ⟨v1, μ2, hc3, h⟩ := bd_i h
  refine V_cV1 (q := 7) (v := vI v1) (kX4_peek (d - 1) (by omega) hc3) (by omega) mv_X2_87 rfl rfl rfl rfl rfl rfl dX2_atom_4 rfl ?_
  refine V_istore_n (q := 8) dX2_atom_7 rfl (Nat.le_of_ble_eq_true rfl) trivial rfl ?_
  refine V_iload_n (q := 9) dX2_atom_8 rfl rfl rfl ?_
  obtain ⟨v4, μ5, hc6, h⟩ := bd_i h
  refine V_cS1 (q := 12) (v := vI v4) (kX4_isDigit (d - 1) (by omega) hc6) (by omega) mv_X2_136 rfl rfl rfl rfl dX2_atom_9 rfl ?_
  refine V_ifeq (q := 24) (q2 := 15) dX2_atom_12 (by decide) rfl (fun hc7 => ?_) (fun hc7 => ?_)
  · have h := ifT hc7 h
    refine V_iload_n (q := 25) dX2_atom_24 rfl rfl rfl ?_
    refine V_bipush (q := 27) dX2_atom_25 rfl rfl rfl ?_
    refine V_icmpne (q := 62) (q2 := 30) dX2_atom_27 (by decide) rfl (fun hc8 => ?_) (fun hc8 => ?_)
    · have h := ifF hc8 h
      refine V_aload_n (q := 63) dX2_atom_62 rfl rfl rfl ?_
      refine V_iload_n (q := 64) dX2_atom_63 rfl rfl rfl ?_
      obtain ⟨v9, μ10, hc11, h⟩ := bd_i h
      refine V_cV1 (q := 67) (v := vI v9) (kX2_letter (d - 1) (by omega) hc11) (by omega) mv_X2_141 rfl rfl rfl rfl rfl rfl dX2_atom_64 rfl ?_
      exact V_iret rfl h dX2_atom_67
    · have h := ifT hc8 h
      refine V_iload_n (q := 31) dX2_atom_30 rfl rfl rfl ?_
      refine V_bipush (q := 33) dX2_atom_31 rfl rfl rfl ?_
      refine V_icmpge (q := 62) (q2 := 36) dX2_atom_33 (by decide) rfl (fun hc12 => ?_) (fun hc12 => ?_)
      · have h := ifT hc12 h
        refine V_aload_n (q := 63) dX2_atom_62 rfl rfl rfl ?_
        refine V_iload_n (q := 64) dX2_atom_63 rfl rfl rfl ?_
        obtain ⟨v13, μ14, hc15, h⟩ := bd_i h
        refine V_cV1 (q := 67) (v := vI v13) (kX2_letter (d - 1) (by omega) hc15) (by omega) mv_X2_141 rfl rfl rfl rfl rfl rfl dX2_atom_64 rfl ?_
        exact V_iret rfl h dX2_atom_67
      · have h := ifF hc12 h
        refine V_aload_n (q := 37) dX2_atom_36 rfl rfl rfl ?_
        refine V_getC (q := 40) fl_X2_9 rfl rfl rfl dX2_atom_37 rfl ?_
        obtain ⟨v16, μ17, hc18, h⟩ := bd_i h
        refine V_cV0 (q := 43) (kX4_pass (d - 1) (by omega) hc18) (by omega) mv_X2_108 rfl rfl rfl rfl rfl rfl dX2_atom_40 rfl ?_
        refine V_aload_n (q := 44) dX2_atom_43 rfl rfl rfl ?_
        refine V_iload_n (q := 45) dX2_atom_44 rfl rfl rfl ?_
        refine V_iconst (q := 46) dX2_atom_45 rfl rfl ?_
        refine V_iadd (q := 47) dX2_atom_46 rfl ?_
        obtain ⟨v19, μ20, hc21, h⟩ := bd_i h
        refine V_cV1 (q := 50) (v := vI v19) (hrec hc21) (by omega) mv_X2_77 rfl rfl rfl rfl rfl rfl dX2_atom_47 rfl ?_
        refine V_istore_n (q := 51) dX2_atom_50 rfl (Nat.le_of_ble_eq_true rfl) trivial rfl ?_
        refine V_aload_n (q := 52) dX2_atom_51 rfl rfl rfl ?_
        refine V_getC (q := 55) fl_X2_9 rfl rfl rfl dX2_atom_52 rfl ?_
        refine V_bipush (q := 57) dX2_atom_55 rfl rfl rfl ?_
        obtain ⟨v22, μ23, hc24, h⟩ := bd_i h
        refine V_cV0 (q := 60) (kX4_need (d - 1) (by omega) hc24) (by omega) mv_X2_65 rfl rfl rfl rfl rfl rfl dX2_atom_57 rfl ?_
        refine V_iload_n (q := 61) dX2_atom_60 rfl rfl rfl ?_
        exact V_iret rfl h dX2_atom_61
  · have h := ifF hc7 h
    refine V_aload_n (q := 16) dX2_atom_15 rfl rfl rfl ?_
    refine V_getC (q := 19) fl_X2_9 rfl rfl rfl dX2_atom_16 rfl ?_
    refine V_iconst (q := 20) dX2_atom_19 rfl rfl ?_
    obtain ⟨v25, μ26, hc27, h⟩ := bd_i h
    refine V_cV1 (q := 23) (v := vI v25) (kX4_number (d - 1) (by omega) hc27) (by omega) mv_X2_139 rfl rfl rfl rfl rfl rfl dX2_atom_20 rfl ?_
    exact V_iret rfl h dX2_atom_23
theorem dX2_term_0 : decode cX2_term 0 = .ok (.aload_n 0, 1) := by decide +kernel
theorem dX2_term_1 : decode cX2_term 1 = .ok (.iload_n 1, 1) := by decide +kernel
theorem dX2_term_2 : decode cX2_term 2 = .ok (.invokevirtual 124, 3) := by decide +kernel
theorem dX2_term_5 : decode cX2_term 5 = .ok (.i2l, 1) := by decide +kernel
theorem dX2_term_6 : decode cX2_term 6 = .ok (.lstore_n 2, 1) := by decide +kernel
theorem dX2_term_7 : decode cX2_term 7 = .ok (.iconst 0, 1) := by decide +kernel
theorem dX2_term_8 : decode cX2_term 8 = .ok (.istore 4, 2) := by decide +kernel
theorem dX2_term_10 : decode cX2_term 10 = .ok (.iload 4, 2) := by decide +kernel
theorem dX2_term_12 : decode cX2_term 12 = .ok (.sipush 160, 3) := by decide +kernel
theorem dX2_term_15 : decode cX2_term 15 = .ok (.if_icmp .ge 73, 3) := by decide +kernel
theorem dX2_term_18 : decode cX2_term 18 = .ok (.aload_n 0, 1) := by decide +kernel
theorem dX2_term_19 : decode cX2_term 19 = .ok (.getfield 9, 3) := by decide +kernel
theorem dX2_term_22 : decode cX2_term 22 = .ok (.bipush 42, 2) := by decide +kernel
theorem dX2_term_24 : decode cX2_term 24 = .ok (.invokevirtual 81, 3) := by decide +kernel
theorem dX2_term_27 : decode cX2_term 27 = .ok (.ifCond .eq 18, 3) := by decide +kernel
theorem dX2_term_30 : decode cX2_term 30 = .ok (.lload_n 2, 1) := by decide +kernel
theorem dX2_term_31 : decode cX2_term 31 = .ok (.aload_n 0, 1) := by decide +kernel
theorem dX2_term_32 : decode cX2_term 32 = .ok (.iload_n 1, 1) := by decide +kernel
theorem dX2_term_33 : decode cX2_term 33 = .ok (.invokevirtual 124, 3) := by decide +kernel
theorem dX2_term_36 : decode cX2_term 36 = .ok (.i2l, 1) := by decide +kernel
theorem dX2_term_37 : decode cX2_term 37 = .ok (.lmul, 1) := by decide +kernel
theorem dX2_term_38 : decode cX2_term 38 = .ok (.invokestatic 120, 3) := by decide +kernel
theorem dX2_term_41 : decode cX2_term 41 = .ok (.lstore_n 2, 1) := by decide +kernel
theorem dX2_term_42 : decode cX2_term 42 = .ok (.goto 40, 3) := by decide +kernel
theorem dX2_term_45 : decode cX2_term 45 = .ok (.aload_n 0, 1) := by decide +kernel
theorem dX2_term_46 : decode cX2_term 46 = .ok (.getfield 9, 3) := by decide +kernel
theorem dX2_term_49 : decode cX2_term 49 = .ok (.bipush 47, 2) := by decide +kernel
theorem dX2_term_51 : decode cX2_term 51 = .ok (.invokevirtual 81, 3) := by decide +kernel
theorem dX2_term_54 : decode cX2_term 54 = .ok (.ifCond .eq 34, 3) := by decide +kernel
theorem dX2_term_57 : decode cX2_term 57 = .ok (.aload_n 0, 1) := by decide +kernel
theorem dX2_term_58 : decode cX2_term 58 = .ok (.iload_n 1, 1) := by decide +kernel
theorem dX2_term_59 : decode cX2_term 59 = .ok (.invokevirtual 124, 3) := by decide +kernel
theorem dX2_term_62 : decode cX2_term 62 = .ok (.istore 5, 2) := by decide +kernel
theorem dX2_term_64 : decode cX2_term 64 = .ok (.iload 5, 2) := by decide +kernel
theorem dX2_term_66 : decode cX2_term 66 = .ok (.ifCond .ne 7, 3) := by decide +kernel
theorem dX2_term_69 : decode cX2_term 69 = .ok (.lconst 0, 1) := by decide +kernel
theorem dX2_term_70 : decode cX2_term 70 = .ok (.goto 11, 3) := by decide +kernel
theorem dX2_term_73 : decode cX2_term 73 = .ok (.lload_n 2, 1) := by decide +kernel
theorem dX2_term_74 : decode cX2_term 74 = .ok (.iload 5, 2) := by decide +kernel
theorem dX2_term_76 : decode cX2_term 76 = .ok (.i2l, 1) := by decide +kernel
theorem dX2_term_77 : decode cX2_term 77 = .ok (.ldiv, 1) := by decide +kernel
theorem dX2_term_78 : decode cX2_term 78 = .ok (.invokestatic 120, 3) := by decide +kernel
theorem dX2_term_81 : decode cX2_term 81 = .ok (.lstore_n 2, 1) := by decide +kernel
theorem dX2_term_82 : decode cX2_term 82 = .ok (.iinc 4 1, 3) := by decide +kernel
theorem dX2_term_85 : decode cX2_term 85 = .ok (.goto (-75), 3) := by decide +kernel
theorem dX2_term_88 : decode cX2_term 88 = .ok (.lload_n 2, 1) := by decide +kernel
theorem dX2_term_89 : decode cX2_term 89 = .ok (.l2i, 1) := by decide +kernel
theorem dX2_term_90 : decode cX2_term 90 = .ok (.ireturn, 1) := by decide +kernel
def X2_term_L10 (rec : Int → Mm → Rs) (l1 : Int) : Nat → Int → Int → Mm → Rs
  | 0, _, _, _ => none
  | n + 1, l2, l4, μ => if 160 ≤ l4 then (some (wI l2, μ)) else (bd (X4_take 42 μ) fun v5 μ6 => if v5 = 0 then (bd (X4_take 47 μ6) fun v9 μ10 => if v9 = 0 then (some (wI l2, μ10)) else (bd (X2_atom_o rec l1 μ10) fun v13 μ14 => if v13 = 0 then (X2_term_L10 rec l1 n 0 (iA l4 1) μ14) else (dZ v13 (bd (X2_held (lD l2 v13) μ14) fun v18 μ19 => X2_term_L10 rec l1 n v18 (iA l4 1) μ19)))) else (bd (X2_atom_o rec l1 μ6) fun v21 μ22 => bd (X2_held (lM l2 v21) μ22) fun v24 μ25 => X2_term_L10 rec l1 n v24 (iA l4 1) μ25))
def X2_term_o (rec : Int → Mm → Rs) (l1 : Int) (μ : Mm) : Rs := bd (X2_atom_o rec l1 μ) fun v1 μ2 => X2_term_L10 rec l1 FU v1 0 μ2
set_option maxHeartbeats 4000000 in
set_option maxRecDepth 100000 in
theorem kX2_term_L10 (d : Nat) {d0 : Nat} (hd : d0 + 3 ≤ d) {rec : Int → Mm → Rs} (hrec : ∀ {q1 : Int} {μ1 : Mm} {r1 : Int} {μ2 : Mm}, rec q1 μ1 = some (r1, μ2) → CC d0 mX2_sum [vR 4, vI q1] μ1 r1 μ2) (hb : 6 ≤ d) {l1 : Int} {r : Int} {μ' : Mm} : ∀ (n : Nat) {l2 l4 : Int} {μ : Mm}, X2_term_L10 rec l1 n l2 l4 μ = some (r, μ') → VV d mX2_term 10 [some (vR 4), some (vI l1), some (vL l2), none, some (vI l4), none] [] μ r μ' := by
  intro n
  induction n with
  | zero => intro l2 l4 μ h; rw [X2_term_L10] at h; cases h
  | succ n ih =>
    intro l2 l4 μ h
    rw [X2_term_L10] at h
    refine V_iload (q := 12) dX2_term_10 rfl rfl ?_
    refine V_sipush (q := 15) dX2_term_12 rfl rfl rfl ?_
    refine V_icmpge (q := 88) (q2 := 18) dX2_term_15 (by decide) rfl (fun hc4 => ?_) (fun hc4 => ?_)
    · have h := ifT hc4 h
      refine V_lload_n (q := 89) dX2_term_88 rfl rfl rfl ?_
      refine V_l2i (q := 90) dX2_term_89 rfl ?_
      exact V_iret rfl h dX2_term_90
    · have h := ifF hc4 h
      refine V_aload_n (q := 19) dX2_term_18 rfl rfl rfl ?_
      refine V_getC (q := 22) fl_X2_9 rfl rfl rfl dX2_term_19 rfl ?_
      refine V_bipush (q := 24) dX2_term_22 rfl rfl rfl ?_
      obtain ⟨v5, μ6, hc7, h⟩ := bd_i h
      refine V_cV1 (q := 27) (v := vI v5) (kX4_take (d - 1) (by omega) hc7) (by omega) mv_X2_81 rfl rfl rfl rfl rfl rfl dX2_term_24 rfl ?_
      refine V_ifeq (q := 45) (q2 := 30) dX2_term_27 (by decide) rfl (fun hc8 => ?_) (fun hc8 => ?_)
      · have h := ifT hc8 h
        refine V_aload_n (q := 46) dX2_term_45 rfl rfl rfl ?_
        refine V_getC (q := 49) fl_X2_9 rfl rfl rfl dX2_term_46 rfl ?_
        refine V_bipush (q := 51) dX2_term_49 rfl rfl rfl ?_
        obtain ⟨v9, μ10, hc11, h⟩ := bd_i h
        refine V_cV1 (q := 54) (v := vI v9) (kX4_take (d - 1) (by omega) hc11) (by omega) mv_X2_81 rfl rfl rfl rfl rfl rfl dX2_term_51 rfl ?_
        refine V_ifeq (q := 88) (q2 := 57) dX2_term_54 (by decide) rfl (fun hc12 => ?_) (fun hc12 => ?_)
        · have h := ifT hc12 h
          refine V_lload_n (q := 89) dX2_term_88 rfl rfl rfl ?_
          refine V_l2i (q := 90) dX2_term_89 rfl ?_
          exact V_iret rfl h dX2_term_90
        · have h := ifF hc12 h
          refine V_aload_n (q := 58) dX2_term_57 rfl rfl rfl ?_
          refine V_iload_n (q := 59) dX2_term_58 rfl rfl rfl ?_
          obtain ⟨v13, μ14, hc15, h⟩ := bd_i h
          refine V_cV1 (q := 62) (v := vI v13) (kX2_atom (d - 1) (by omega) hrec (by omega) hc15) (by omega) mv_X2_124 rfl rfl rfl rfl rfl rfl dX2_term_59 rfl ?_
          refine V_istore (q := 64) dX2_term_62 (Nat.le_of_ble_eq_true rfl) trivial rfl ?_
          refine V_iload (q := 66) dX2_term_64 rfl rfl ?_
          refine V_ifne (q := 73) (q2 := 69) dX2_term_66 (by decide) rfl (fun hc16 => ?_) (fun hc16 => ?_)
          · have h := ifF hc16 h
            refine V_lload_n (q := 74) dX2_term_73 rfl rfl rfl ?_
            refine V_iload (q := 76) dX2_term_74 rfl rfl ?_
            refine V_i2l (q := 77) dX2_term_76 rfl ?_
            obtain ⟨hz17, h⟩ := dZ_i h
            refine V_ldiv (q := 78) dX2_term_77 hz17 rfl ?_
            obtain ⟨v18, μ19, hc20, h⟩ := bd_i h
            refine V_cS1 (q := 81) (v := vL v18) (kX2_held (d - 1) (by omega) hc20) (by omega) mv_X2_120 rfl rfl rfl rfl dX2_term_78 rfl ?_
            refine V_lstore_n (q := 82) dX2_term_81 rfl (Nat.le_of_ble_eq_true rfl) trivial rfl ?_
            refine V_iinc (q := 85) dX2_term_82 rfl (Nat.le_of_ble_eq_true rfl) trivial rfl ?_
            refine V_goto (q := 10) dX2_term_85 (by decide) ?_
            exact V_weak (ih h) (sb_s rfl (sb_s rfl (sb_s rfl (sb_n (sb_s rfl (sb_n sb_0))))))
          · have h := ifT hc16 h
            refine V_lconst (q := 70) dX2_term_69 rfl ?_
            refine V_goto (q := 81) dX2_term_70 (by decide) ?_
            refine V_lstore_n (q := 82) dX2_term_81 rfl (Nat.le_of_ble_eq_true rfl) trivial rfl ?_
            refine V_iinc (q := 85) dX2_term_82 rfl (Nat.le_of_ble_eq_true rfl) trivial rfl ?_
            refine V_goto (q := 10) dX2_term_85 (by decide) ?_
            exact V_weak (ih h) (sb_s rfl (sb_s rfl (sb_s rfl (sb_n (sb_s rfl (sb_n sb_0))))))
      · have h := ifF hc8 h
        refine V_lload_n (q := 31) dX2_term_30 rfl rfl rfl ?_
        refine V_aload_n (q := 32) dX2_term_31 rfl rfl rfl ?_
        refine V_iload_n (q := 33) dX2_term_32 rfl rfl rfl ?_
        obtain ⟨v21, μ22, hc23, h⟩ := bd_i h
        refine V_cV1 (q := 36) (v := vI v21) (kX2_atom (d - 1) (by omega) hrec (by omega) hc23) (by omega) mv_X2_124 rfl rfl rfl rfl rfl rfl dX2_term_33 rfl ?_
        refine V_i2l (q := 37) dX2_term_36 rfl ?_
        refine V_lmul (q := 38) dX2_term_37 rfl ?_
        obtain ⟨v24, μ25, hc26, h⟩ := bd_i h
        refine V_cS1 (q := 41) (v := vL v24) (kX2_held (d - 1) (by omega) hc26) (by omega) mv_X2_120 rfl rfl rfl rfl dX2_term_38 rfl ?_
        refine V_lstore_n (q := 42) dX2_term_41 rfl (Nat.le_of_ble_eq_true rfl) trivial rfl ?_
        refine V_goto (q := 82) dX2_term_42 (by decide) ?_
        refine V_iinc (q := 85) dX2_term_82 rfl (Nat.le_of_ble_eq_true rfl) trivial rfl ?_
        refine V_goto (q := 10) dX2_term_85 (by decide) ?_
        exact V_weak (ih h) (sb_s rfl (sb_s rfl (sb_s rfl (sb_n (sb_s rfl (sb_n sb_0))))))
set_option maxHeartbeats 4000000 in
set_option maxRecDepth 100000 in
theorem kX2_term (d : Nat) {d0 : Nat} (hd : d0 + 3 ≤ d) {rec : Int → Mm → Rs} (hrec : ∀ {q1 : Int} {μ1 : Mm} {r1 : Int} {μ2 : Mm}, rec q1 μ1 = some (r1, μ2) → CC d0 mX2_sum [vR 4, vI q1] μ1 r1 μ2) (hb : 6 ≤ d) {l1 : Int} {μ : Mm} {r : Int} {μ' : Mm} (h : X2_term_o rec l1 μ = some (r, μ')) : CC d mX2_term [vR 4, vI l1] μ r μ' := by
  unfold X2_term_o at h
  refine V_enter (by decide) (Nat.le_of_ble_eq_true rfl) ?_
  show VV d mX2_term 0 [some (vR 4), some (vI l1), none, none, none, none] [] μ r μ'
  refine V_aload_n (q := 1) dX2_term_0 rfl rfl rfl ?_
  refine V_iload_n (q := 2) dX2_term_1 rfl rfl rfl ?_
  obtain ⟨v1, μ2, hc3, h⟩ := bd_i h
  refine V_cV1 (q := 5) (v := vI v1) (kX2_atom (d - 1) (by omega) hrec (by omega) hc3) (by omega) mv_X2_124 rfl rfl rfl rfl rfl rfl dX2_term_2 rfl ?_
  refine V_i2l (q := 6) dX2_term_5 rfl ?_
  refine V_lstore_n (q := 7) dX2_term_6 rfl (Nat.le_of_ble_eq_true rfl) trivial rfl ?_
  refine V_iconst (q := 8) dX2_term_7 rfl rfl ?_
  refine V_istore (q := 10) dX2_term_8 (Nat.le_of_ble_eq_true rfl) trivial rfl ?_
  exact V_weak (kX2_term_L10 d hd hrec hb  FU h) (sb_s rfl (sb_s rfl (sb_s rfl (sb_n (sb_s rfl (sb_n sb_0))))))
theorem dX2_sum_0 : decode cX2_sum 0 = .ok (.aload_n 0, 1) := by decide +kernel
theorem dX2_sum_1 : decode cX2_sum 1 = .ok (.iload_n 1, 1) := by decide +kernel
theorem dX2_sum_2 : decode cX2_sum 2 = .ok (.invokevirtual 117, 3) := by decide +kernel
theorem dX2_sum_5 : decode cX2_sum 5 = .ok (.i2l, 1) := by decide +kernel
theorem dX2_sum_6 : decode cX2_sum 6 = .ok (.lstore_n 2, 1) := by decide +kernel
theorem dX2_sum_7 : decode cX2_sum 7 = .ok (.iconst 0, 1) := by decide +kernel
theorem dX2_sum_8 : decode cX2_sum 8 = .ok (.istore 4, 2) := by decide +kernel
theorem dX2_sum_10 : decode cX2_sum 10 = .ok (.iload 4, 2) := by decide +kernel
theorem dX2_sum_12 : decode cX2_sum 12 = .ok (.sipush 160, 3) := by decide +kernel
theorem dX2_sum_15 : decode cX2_sum 15 = .ok (.if_icmp .ge 60, 3) := by decide +kernel
theorem dX2_sum_18 : decode cX2_sum 18 = .ok (.aload_n 0, 1) := by decide +kernel
theorem dX2_sum_19 : decode cX2_sum 19 = .ok (.getfield 9, 3) := by decide +kernel
theorem dX2_sum_22 : decode cX2_sum 22 = .ok (.bipush 43, 2) := by decide +kernel
theorem dX2_sum_24 : decode cX2_sum 24 = .ok (.invokevirtual 81, 3) := by decide +kernel
theorem dX2_sum_27 : decode cX2_sum 27 = .ok (.ifCond .eq 18, 3) := by decide +kernel
theorem dX2_sum_30 : decode cX2_sum 30 = .ok (.lload_n 2, 1) := by decide +kernel
theorem dX2_sum_31 : decode cX2_sum 31 = .ok (.aload_n 0, 1) := by decide +kernel
theorem dX2_sum_32 : decode cX2_sum 32 = .ok (.iload_n 1, 1) := by decide +kernel
theorem dX2_sum_33 : decode cX2_sum 33 = .ok (.invokevirtual 117, 3) := by decide +kernel
theorem dX2_sum_36 : decode cX2_sum 36 = .ok (.i2l, 1) := by decide +kernel
theorem dX2_sum_37 : decode cX2_sum 37 = .ok (.ladd, 1) := by decide +kernel
theorem dX2_sum_38 : decode cX2_sum 38 = .ok (.invokestatic 120, 3) := by decide +kernel
theorem dX2_sum_41 : decode cX2_sum 41 = .ok (.lstore_n 2, 1) := by decide +kernel
theorem dX2_sum_42 : decode cX2_sum 42 = .ok (.goto 27, 3) := by decide +kernel
theorem dX2_sum_45 : decode cX2_sum 45 = .ok (.aload_n 0, 1) := by decide +kernel
theorem dX2_sum_46 : decode cX2_sum 46 = .ok (.getfield 9, 3) := by decide +kernel
theorem dX2_sum_49 : decode cX2_sum 49 = .ok (.bipush 45, 2) := by decide +kernel
theorem dX2_sum_51 : decode cX2_sum 51 = .ok (.invokevirtual 81, 3) := by decide +kernel
theorem dX2_sum_54 : decode cX2_sum 54 = .ok (.ifCond .eq 21, 3) := by decide +kernel
theorem dX2_sum_57 : decode cX2_sum 57 = .ok (.lload_n 2, 1) := by decide +kernel
theorem dX2_sum_58 : decode cX2_sum 58 = .ok (.aload_n 0, 1) := by decide +kernel
theorem dX2_sum_59 : decode cX2_sum 59 = .ok (.iload_n 1, 1) := by decide +kernel
theorem dX2_sum_60 : decode cX2_sum 60 = .ok (.invokevirtual 117, 3) := by decide +kernel
theorem dX2_sum_63 : decode cX2_sum 63 = .ok (.i2l, 1) := by decide +kernel
theorem dX2_sum_64 : decode cX2_sum 64 = .ok (.lsub, 1) := by decide +kernel
theorem dX2_sum_65 : decode cX2_sum 65 = .ok (.invokestatic 120, 3) := by decide +kernel
theorem dX2_sum_68 : decode cX2_sum 68 = .ok (.lstore_n 2, 1) := by decide +kernel
theorem dX2_sum_69 : decode cX2_sum 69 = .ok (.iinc 4 1, 3) := by decide +kernel
theorem dX2_sum_72 : decode cX2_sum 72 = .ok (.goto (-62), 3) := by decide +kernel
theorem dX2_sum_75 : decode cX2_sum 75 = .ok (.lload_n 2, 1) := by decide +kernel
theorem dX2_sum_76 : decode cX2_sum 76 = .ok (.l2i, 1) := by decide +kernel
theorem dX2_sum_77 : decode cX2_sum 77 = .ok (.ireturn, 1) := by decide +kernel
def X2_sum_L10 (rec : Int → Mm → Rs) (l1 : Int) : Nat → Int → Int → Mm → Rs
  | 0, _, _, _ => none
  | n + 1, l2, l4, μ => if 160 ≤ l4 then (some (wI l2, μ)) else (bd (X4_take 43 μ) fun v5 μ6 => if v5 = 0 then (bd (X4_take 45 μ6) fun v9 μ10 => if v9 = 0 then (some (wI l2, μ10)) else (bd (X2_term_o rec l1 μ10) fun v13 μ14 => bd (X2_held (lS l2 v13) μ14) fun v16 μ17 => X2_sum_L10 rec l1 n v16 (iA l4 1) μ17)) else (bd (X2_term_o rec l1 μ6) fun v19 μ20 => bd (X2_held (lA l2 v19) μ20) fun v22 μ23 => X2_sum_L10 rec l1 n v22 (iA l4 1) μ23))
def X2_sum : Nat → Int → Mm → Rs
  | 0, _, _ => none
  | n + 1, l1, μ => bd (X2_term_o (fun w0 μq => X2_sum n w0 μq) l1 μ) fun v1 μ2 => X2_sum_L10 (fun w0 μq => X2_sum n w0 μq) l1 FU v1 0 μ2
set_option maxHeartbeats 4000000 in
set_option maxRecDepth 100000 in
theorem kX2_sum_L10 (d : Nat) {d0 : Nat} (hd : d0 + 1 ≤ d) (hb : 4 ≤ d) {rec : Int → Mm → Rs} (hrec : ∀ {q1 : Int} {μ1 : Mm} {r1 : Int} {μ2 : Mm}, rec q1 μ1 = some (r1, μ2) → CC d0 mX2_sum [vR 4, vI q1] μ1 r1 μ2) {l1 : Int} {r : Int} {μ' : Mm} : ∀ (n : Nat) {l2 l4 : Int} {μ : Mm}, X2_sum_L10 rec l1 n l2 l4 μ = some (r, μ') → VV d mX2_sum 10 [some (vR 4), some (vI l1), some (vL l2), none, some (vI l4)] [] μ r μ' := by
  intro n
  induction n with
  | zero => intro l2 l4 μ h; rw [X2_sum_L10] at h; cases h
  | succ n ih =>
    intro l2 l4 μ h
    rw [X2_sum_L10] at h
    refine V_iload (q := 12) dX2_sum_10 rfl rfl ?_
    refine V_sipush (q := 15) dX2_sum_12 rfl rfl rfl ?_
    refine V_icmpge (q := 75) (q2 := 18) dX2_sum_15 (by decide) rfl (fun hc4 => ?_) (fun hc4 => ?_)
    · have h := ifT hc4 h
      refine V_lload_n (q := 76) dX2_sum_75 rfl rfl rfl ?_
      refine V_l2i (q := 77) dX2_sum_76 rfl ?_
      exact V_iret rfl h dX2_sum_77
    · have h := ifF hc4 h
      refine V_aload_n (q := 19) dX2_sum_18 rfl rfl rfl ?_
      refine V_getC (q := 22) fl_X2_9 rfl rfl rfl dX2_sum_19 rfl ?_
      refine V_bipush (q := 24) dX2_sum_22 rfl rfl rfl ?_
      obtain ⟨v5, μ6, hc7, h⟩ := bd_i h
      refine V_cV1 (q := 27) (v := vI v5) (kX4_take (d - 1) (by omega) hc7) (by omega) mv_X2_81 rfl rfl rfl rfl rfl rfl dX2_sum_24 rfl ?_
      refine V_ifeq (q := 45) (q2 := 30) dX2_sum_27 (by decide) rfl (fun hc8 => ?_) (fun hc8 => ?_)
      · have h := ifT hc8 h
        refine V_aload_n (q := 46) dX2_sum_45 rfl rfl rfl ?_
        refine V_getC (q := 49) fl_X2_9 rfl rfl rfl dX2_sum_46 rfl ?_
        refine V_bipush (q := 51) dX2_sum_49 rfl rfl rfl ?_
        obtain ⟨v9, μ10, hc11, h⟩ := bd_i h
        refine V_cV1 (q := 54) (v := vI v9) (kX4_take (d - 1) (by omega) hc11) (by omega) mv_X2_81 rfl rfl rfl rfl rfl rfl dX2_sum_51 rfl ?_
        refine V_ifeq (q := 75) (q2 := 57) dX2_sum_54 (by decide) rfl (fun hc12 => ?_) (fun hc12 => ?_)
        · have h := ifT hc12 h
          refine V_lload_n (q := 76) dX2_sum_75 rfl rfl rfl ?_
          refine V_l2i (q := 77) dX2_sum_76 rfl ?_
          exact V_iret rfl h dX2_sum_77
        · have h := ifF hc12 h
          refine V_lload_n (q := 58) dX2_sum_57 rfl rfl rfl ?_
          refine V_aload_n (q := 59) dX2_sum_58 rfl rfl rfl ?_
          refine V_iload_n (q := 60) dX2_sum_59 rfl rfl rfl ?_
          obtain ⟨v13, μ14, hc15, h⟩ := bd_i h
          refine V_cV1 (q := 63) (v := vI v13) (kX2_term (d - 1) (by omega) hrec (by omega) hc15) (by omega) mv_X2_117 rfl rfl rfl rfl rfl rfl dX2_sum_60 rfl ?_
          refine V_i2l (q := 64) dX2_sum_63 rfl ?_
          refine V_lsub (q := 65) dX2_sum_64 rfl ?_
          obtain ⟨v16, μ17, hc18, h⟩ := bd_i h
          refine V_cS1 (q := 68) (v := vL v16) (kX2_held (d - 1) (by omega) hc18) (by omega) mv_X2_120 rfl rfl rfl rfl dX2_sum_65 rfl ?_
          refine V_lstore_n (q := 69) dX2_sum_68 rfl (Nat.le_of_ble_eq_true rfl) trivial rfl ?_
          refine V_iinc (q := 72) dX2_sum_69 rfl (Nat.le_of_ble_eq_true rfl) trivial rfl ?_
          refine V_goto (q := 10) dX2_sum_72 (by decide) ?_
          exact V_weak (ih h) (sb_s rfl (sb_s rfl (sb_s rfl (sb_n (sb_s rfl sb_0)))))
      · have h := ifF hc8 h
        refine V_lload_n (q := 31) dX2_sum_30 rfl rfl rfl ?_
        refine V_aload_n (q := 32) dX2_sum_31 rfl rfl rfl ?_
        refine V_iload_n (q := 33) dX2_sum_32 rfl rfl rfl ?_
        obtain ⟨v19, μ20, hc21, h⟩ := bd_i h
        refine V_cV1 (q := 36) (v := vI v19) (kX2_term (d - 1) (by omega) hrec (by omega) hc21) (by omega) mv_X2_117 rfl rfl rfl rfl rfl rfl dX2_sum_33 rfl ?_
        refine V_i2l (q := 37) dX2_sum_36 rfl ?_
        refine V_ladd (q := 38) dX2_sum_37 rfl ?_
        obtain ⟨v22, μ23, hc24, h⟩ := bd_i h
        refine V_cS1 (q := 41) (v := vL v22) (kX2_held (d - 1) (by omega) hc24) (by omega) mv_X2_120 rfl rfl rfl rfl dX2_sum_38 rfl ?_
        refine V_lstore_n (q := 42) dX2_sum_41 rfl (Nat.le_of_ble_eq_true rfl) trivial rfl ?_
        refine V_goto (q := 69) dX2_sum_42 (by decide) ?_
        refine V_iinc (q := 72) dX2_sum_69 rfl (Nat.le_of_ble_eq_true rfl) trivial rfl ?_
        refine V_goto (q := 10) dX2_sum_72 (by decide) ?_
        exact V_weak (ih h) (sb_s rfl (sb_s rfl (sb_s rfl (sb_n (sb_s rfl sb_0)))))
set_option maxHeartbeats 4000000 in
set_option maxRecDepth 100000 in
theorem kX2_sum : ∀ (n d : Nat) (hd : 10 * n + 13 ≤ d) {l1 : Int} {μ : Mm} {r : Int} {μ' : Mm} (h : X2_sum n l1 μ = some (r, μ')), CC d mX2_sum [vR 4, vI l1] μ r μ' := by
  intro n
  induction n with
  | zero => intro d hd l1   μ r μ' h; rw [X2_sum] at h; cases h
  | succ n ih =>
    intro d hd l1   μ r μ' h
    have hb : 4 ≤ d := by omega
    obtain ⟨d0, hd0⟩ : ∃ z, z = 10 * n + 13 := ⟨_, rfl⟩
    have hd : d0 + 10 ≤ d := by omega
    have hrec : ∀ {q1 : Int} {μ1 : Mm} {r1 : Int} {μ2 : Mm}, ((fun w0 μq => X2_sum n w0 μq)) q1 μ1 = some (r1, μ2) → CC d0 mX2_sum [vR 4, vI q1] μ1 r1 μ2 := fun h1 => ih d0 (by omega) h1
    rw [X2_sum] at h
    refine V_enter (by decide) (Nat.le_of_ble_eq_true rfl) ?_
    show VV d mX2_sum 0 [some (vR 4), some (vI l1), none, none, none] [] μ r μ'
    refine V_aload_n (q := 1) dX2_sum_0 rfl rfl rfl ?_
    refine V_iload_n (q := 2) dX2_sum_1 rfl rfl rfl ?_
    obtain ⟨v1, μ2, hc3, h⟩ := bd_i h
    refine V_cV1 (q := 5) (v := vI v1) (kX2_term (d - 1) (by omega) hrec (by omega) hc3) (by omega) mv_X2_117 rfl rfl rfl rfl rfl rfl dX2_sum_2 rfl ?_
    refine V_i2l (q := 6) dX2_sum_5 rfl ?_
    refine V_lstore_n (q := 7) dX2_sum_6 rfl (Nat.le_of_ble_eq_true rfl) trivial rfl ?_
    refine V_iconst (q := 8) dX2_sum_7 rfl rfl ?_
    refine V_istore (q := 10) dX2_sum_8 (Nat.le_of_ble_eq_true rfl) trivial rfl ?_
    exact V_weak (kX2_sum_L10 d (by omega) hb hrec  FU h) (sb_s rfl (sb_s rfl (sb_s rfl (sb_n (sb_s rfl sb_0)))))
theorem kX2_atom_c (d : Nat) (hd : 135 ≤ d) {l1 : Int} {μ : Mm} {r : Int} {μ' : Mm} (h : X2_atom_o (X2_sum RD) l1 μ = some (r, μ')) : CC d mX2_atom [vR 4, vI l1] μ r μ' := kX2_atom (d0 := 10 * RD + 13) d (by unfold RD; omega) (fun h1 => kX2_sum RD _ (Nat.le_refl _) h1) (by omega) h
theorem kX2_term_c (d : Nat) (hd : 136 ≤ d) {l1 : Int} {μ : Mm} {r : Int} {μ' : Mm} (h : X2_term_o (X2_sum RD) l1 μ = some (r, μ')) : CC d mX2_term [vR 4, vI l1] μ r μ' := kX2_term (d0 := 10 * RD + 13) d (by unfold RD; omega) (fun h1 => kX2_sum RD _ (Nat.le_refl _) h1) (by omega) h
abbrev mX2_isComparison : Mth := (yX2_isComparison, cX2_isComparison, 1, some .boolean)
theorem mi_X2_isComparison : Cond.static yX2_isComparison ∈ tG ∧ Cond.initialized yX2_isComparison.cls ∈ tG ∧ Cond.code yX2_isComparison cX2_isComparison 1 (some .boolean) ∈ tG ∧ (yX2_isComparison.cls ≠ "java/lang/invoke/MethodHandle" ∧ yX2_isComparison.cls ≠ "java/lang/invoke/VarHandle" ∧ (parseMethodDescriptor yX2_isComparison.desc).map (fun d => d.parameters.length) = some 1) ∧ 1 ≤ 60 := ⟨(tG_of (List.mem_of_getElem? (i := 627) (by decide +kernel)) (by decide +kernel)), (tG_of (List.mem_of_getElem? (i := 104) (by decide +kernel)) (by decide +kernel)), (tG_of (List.mem_of_getElem? (i := 628) (by decide +kernel)) (by decide +kernel)), ⟨by decide, by decide, by decide +kernel⟩, by decide⟩
theorem mv_X2_93 : mS RX2 93 mX2_isComparison 1 := ⟨(tG_of (List.mem_of_getElem? (i := 626) (by decide +kernel)) (by decide +kernel)), mi_X2_isComparison.1, (tG_of (List.mem_of_getElem? (i := 104) (by decide +kernel)) (by decide +kernel)), mi_X2_isComparison.2⟩
theorem dX2_isComparison_0 : decode cX2_isComparison 0 = .ok (.iload_n 0, 1) := by decide +kernel
theorem dX2_isComparison_1 : decode cX2_isComparison 1 = .ok (.bipush 61, 2) := by decide +kernel
theorem dX2_isComparison_3 : decode cX2_isComparison 3 = .ok (.if_icmp .eq 15, 3) := by decide +kernel
theorem dX2_isComparison_6 : decode cX2_isComparison 6 = .ok (.iload_n 0, 1) := by decide +kernel
theorem dX2_isComparison_7 : decode cX2_isComparison 7 = .ok (.bipush 60, 2) := by decide +kernel
theorem dX2_isComparison_9 : decode cX2_isComparison 9 = .ok (.if_icmp .eq 9, 3) := by decide +kernel
theorem dX2_isComparison_12 : decode cX2_isComparison 12 = .ok (.iload_n 0, 1) := by decide +kernel
theorem dX2_isComparison_13 : decode cX2_isComparison 13 = .ok (.bipush 62, 2) := by decide +kernel
theorem dX2_isComparison_15 : decode cX2_isComparison 15 = .ok (.if_icmp .ne 7, 3) := by decide +kernel
theorem dX2_isComparison_18 : decode cX2_isComparison 18 = .ok (.iconst 1, 1) := by decide +kernel
theorem dX2_isComparison_19 : decode cX2_isComparison 19 = .ok (.goto 4, 3) := by decide +kernel
theorem dX2_isComparison_22 : decode cX2_isComparison 22 = .ok (.iconst 0, 1) := by decide +kernel
theorem dX2_isComparison_23 : decode cX2_isComparison 23 = .ok (.ireturn, 1) := by decide +kernel
def X2_isComparison (l0 : Int) (μ : Mm) : Rs := if l0 = 61 then (some (1, μ)) else (if l0 = 60 then (some (1, μ)) else (if l0 = 62 then (some (1, μ)) else (some (0, μ))))
set_option maxHeartbeats 4000000 in
set_option maxRecDepth 100000 in
theorem kX2_isComparison (d : Nat) (hd : 1 ≤ d) {l0 : Int} {μ : Mm} {r : Int} {μ' : Mm} (h : X2_isComparison l0 μ = some (r, μ')) : CC d mX2_isComparison [vI l0] μ r μ' := by
  unfold X2_isComparison at h
  refine V_enter (by decide) (Nat.le_of_ble_eq_true rfl) ?_
  show VV d mX2_isComparison 0 [some (vI l0)] [] μ r μ'
  refine V_iload_n (q := 1) dX2_isComparison_0 rfl rfl rfl ?_
  refine V_bipush (q := 3) dX2_isComparison_1 rfl rfl rfl ?_
  refine V_icmpeq (q := 18) (q2 := 6) dX2_isComparison_3 (by decide) rfl (fun hc1 => ?_) (fun hc1 => ?_)
  · have h := ifT hc1 h
    refine V_iconst (q := 19) dX2_isComparison_18 rfl rfl ?_
    refine V_goto (q := 23) dX2_isComparison_19 (by decide) ?_
    exact V_zret rfl (Or.inr rfl) h dX2_isComparison_23
  · have h := ifF hc1 h
    refine V_iload_n (q := 7) dX2_isComparison_6 rfl rfl rfl ?_
    refine V_bipush (q := 9) dX2_isComparison_7 rfl rfl rfl ?_
    refine V_icmpeq (q := 18) (q2 := 12) dX2_isComparison_9 (by decide) rfl (fun hc2 => ?_) (fun hc2 => ?_)
    · have h := ifT hc2 h
      refine V_iconst (q := 19) dX2_isComparison_18 rfl rfl ?_
      refine V_goto (q := 23) dX2_isComparison_19 (by decide) ?_
      exact V_zret rfl (Or.inr rfl) h dX2_isComparison_23
    · have h := ifF hc2 h
      refine V_iload_n (q := 13) dX2_isComparison_12 rfl rfl rfl ?_
      refine V_bipush (q := 15) dX2_isComparison_13 rfl rfl rfl ?_
      refine V_icmpne (q := 22) (q2 := 18) dX2_isComparison_15 (by decide) rfl (fun hc3 => ?_) (fun hc3 => ?_)
      · have h := ifF hc3 h
        refine V_iconst (q := 23) dX2_isComparison_22 rfl rfl ?_
        exact V_zret rfl (Or.inl rfl) h dX2_isComparison_23
      · have h := ifT hc3 h
        refine V_iconst (q := 19) dX2_isComparison_18 rfl rfl ?_
        refine V_goto (q := 23) dX2_isComparison_19 (by decide) ?_
        exact V_zret rfl (Or.inr rfl) h dX2_isComparison_23
abbrev mX2_startsCondition : Mth := (yX2_startsCondition, cX2_startsCondition, 4, some .boolean)
theorem mi_X2_startsCondition : Cond.instanceMethod yX2_startsCondition ∈ tG ∧ Cond.selects yX2_startsCondition.cls yX2_startsCondition yX2_startsCondition ∈ tG ∧ Cond.initialized yX2_startsCondition.cls ∈ tG ∧ Cond.code yX2_startsCondition cX2_startsCondition 4 (some .boolean) ∈ tG ∧ (yX2_startsCondition.cls ≠ "java/lang/invoke/MethodHandle" ∧ yX2_startsCondition.cls ≠ "java/lang/invoke/VarHandle" ∧ (parseMethodDescriptor yX2_startsCondition.desc).map (fun d => d.parameters.length) = some 0) ∧ 4 ≤ 60 := ⟨(tG_of (List.mem_of_getElem? (i := 591) (by decide +kernel)) (by decide +kernel)), (tG_of (List.mem_of_getElem? (i := 5) (by decide +kernel)) (by decide +kernel)), (tG_of (List.mem_of_getElem? (i := 104) (by decide +kernel)) (by decide +kernel)), (tG_of (List.mem_of_getElem? (i := 592) (by decide +kernel)) (by decide +kernel)), ⟨by decide, by decide, by decide +kernel⟩, by decide⟩
theorem mv_X2_69 : mV RX2 69 mX2_startsCondition 0 := ⟨(tG_of (List.mem_of_getElem? (i := 589) (by decide +kernel)) (by decide +kernel)), mi_X2_startsCondition⟩
theorem dX2_startsCondition_0 : decode cX2_startsCondition 0 = .ok (.aload_n 0, 1) := by decide +kernel
theorem dX2_startsCondition_1 : decode cX2_startsCondition 1 = .ok (.getfield 9, 3) := by decide +kernel
theorem dX2_startsCondition_4 : decode cX2_startsCondition 4 = .ok (.invokevirtual 87, 3) := by decide +kernel
theorem dX2_startsCondition_7 : decode cX2_startsCondition 7 = .ok (.istore_n 1, 1) := by decide +kernel
theorem dX2_startsCondition_8 : decode cX2_startsCondition 8 = .ok (.iload_n 1, 1) := by decide +kernel
theorem dX2_startsCondition_9 : decode cX2_startsCondition 9 = .ok (.bipush 33, 2) := by decide +kernel
theorem dX2_startsCondition_11 : decode cX2_startsCondition 11 = .ok (.if_icmp .eq 9, 3) := by decide +kernel
theorem dX2_startsCondition_14 : decode cX2_startsCondition 14 = .ok (.iload_n 1, 1) := by decide +kernel
theorem dX2_startsCondition_15 : decode cX2_startsCondition 15 = .ok (.bipush 40, 2) := by decide +kernel
theorem dX2_startsCondition_17 : decode cX2_startsCondition 17 = .ok (.if_icmp .ne 5, 3) := by decide +kernel
theorem dX2_startsCondition_20 : decode cX2_startsCondition 20 = .ok (.iconst 1, 1) := by decide +kernel
theorem dX2_startsCondition_21 : decode cX2_startsCondition 21 = .ok (.ireturn, 1) := by decide +kernel
theorem dX2_startsCondition_22 : decode cX2_startsCondition 22 = .ok (.aload_n 0, 1) := by decide +kernel
theorem dX2_startsCondition_23 : decode cX2_startsCondition 23 = .ok (.getfield 9, 3) := by decide +kernel
theorem dX2_startsCondition_26 : decode cX2_startsCondition 26 = .ok (.getfield 90, 3) := by decide +kernel
theorem dX2_startsCondition_29 : decode cX2_startsCondition 29 = .ok (.istore_n 2, 1) := by decide +kernel
theorem dX2_startsCondition_30 : decode cX2_startsCondition 30 = .ok (.aload_n 0, 1) := by decide +kernel
theorem dX2_startsCondition_31 : decode cX2_startsCondition 31 = .ok (.iconst 0, 1) := by decide +kernel
theorem dX2_startsCondition_32 : decode cX2_startsCondition 32 = .ok (.invokevirtual 77, 3) := by decide +kernel
theorem dX2_startsCondition_35 : decode cX2_startsCondition 35 = .ok (.pop, 1) := by decide +kernel
theorem dX2_startsCondition_36 : decode cX2_startsCondition 36 = .ok (.aload_n 0, 1) := by decide +kernel
theorem dX2_startsCondition_37 : decode cX2_startsCondition 37 = .ok (.getfield 9, 3) := by decide +kernel
theorem dX2_startsCondition_40 : decode cX2_startsCondition 40 = .ok (.invokevirtual 87, 3) := by decide +kernel
theorem dX2_startsCondition_43 : decode cX2_startsCondition 43 = .ok (.invokestatic 93, 3) := by decide +kernel
theorem dX2_startsCondition_46 : decode cX2_startsCondition 46 = .ok (.istore_n 3, 1) := by decide +kernel
theorem dX2_startsCondition_47 : decode cX2_startsCondition 47 = .ok (.aload_n 0, 1) := by decide +kernel
theorem dX2_startsCondition_48 : decode cX2_startsCondition 48 = .ok (.getfield 9, 3) := by decide +kernel
theorem dX2_startsCondition_51 : decode cX2_startsCondition 51 = .ok (.iload_n 2, 1) := by decide +kernel
theorem dX2_startsCondition_52 : decode cX2_startsCondition 52 = .ok (.putfield 90, 3) := by decide +kernel
theorem dX2_startsCondition_55 : decode cX2_startsCondition 55 = .ok (.iload_n 3, 1) := by decide +kernel
theorem dX2_startsCondition_56 : decode cX2_startsCondition 56 = .ok (.ireturn, 1) := by decide +kernel
def X2_startsCondition (μ : Mm) : Rs := bd (X4_peek μ) fun v1 μ2 => if v1 = 33 then (some (1, μ2)) else (if v1 = 40 then (some (1, μ2)) else (bd (X2_sum RD 0 μ2) fun v6 μ7 => bd (X4_peek μ7) fun v9 μ10 => bd (X2_isComparison v9 μ10) fun v12 μ13 => sF μ13 3 1 (μ2 3 1) fun μ15 => rZ v12 μ15))
set_option maxHeartbeats 4000000 in
set_option maxRecDepth 100000 in
theorem kX2_startsCondition (d : Nat) (hd : 134 ≤ d) {μ : Mm} {r : Int} {μ' : Mm} (h : X2_startsCondition μ = some (r, μ')) : CC d mX2_startsCondition [vR 4] μ r μ' := by
  unfold X2_startsCondition at h
  refine V_enter (by decide) (Nat.le_of_ble_eq_true rfl) ?_
  show VV d mX2_startsCondition 0 [some (vR 4), none, none, none] [] μ r μ'
  refine V_aload_n (q := 1) dX2_startsCondition_0 rfl rfl rfl ?_
  refine V_getC (q := 4) fl_X2_9 rfl rfl rfl dX2_startsCondition_1 rfl ?_
  obtain ⟨v1, μ2, hc3, h⟩ := bd_i h
  refine V_cV1 (q := 7) (v := vI v1) (kX4_peek (d - 1) (by omega) hc3) (by omega) mv_X2_87 rfl rfl rfl rfl rfl rfl dX2_startsCondition_4 rfl ?_
  refine V_istore_n (q := 8) dX2_startsCondition_7 rfl (Nat.le_of_ble_eq_true rfl) trivial rfl ?_
  refine V_iload_n (q := 9) dX2_startsCondition_8 rfl rfl rfl ?_
  refine V_bipush (q := 11) dX2_startsCondition_9 rfl rfl rfl ?_
  refine V_icmpeq (q := 20) (q2 := 14) dX2_startsCondition_11 (by decide) rfl (fun hc4 => ?_) (fun hc4 => ?_)
  · have h := ifT hc4 h
    refine V_iconst (q := 21) dX2_startsCondition_20 rfl rfl ?_
    exact V_zret rfl (Or.inr rfl) h dX2_startsCondition_21
  · have h := ifF hc4 h
    refine V_iload_n (q := 15) dX2_startsCondition_14 rfl rfl rfl ?_
    refine V_bipush (q := 17) dX2_startsCondition_15 rfl rfl rfl ?_
    refine V_icmpne (q := 22) (q2 := 20) dX2_startsCondition_17 (by decide) rfl (fun hc5 => ?_) (fun hc5 => ?_)
    · have h := ifF hc5 h
      refine V_aload_n (q := 23) dX2_startsCondition_22 rfl rfl rfl ?_
      refine V_getC (q := 26) fl_X2_9 rfl rfl rfl dX2_startsCondition_23 rfl ?_
      refine V_getI (q := 29) fl_X2_90 rfl rfl rfl dX2_startsCondition_26 rfl ?_
      refine V_istore_n (q := 30) dX2_startsCondition_29 rfl (Nat.le_of_ble_eq_true rfl) trivial rfl ?_
      refine V_aload_n (q := 31) dX2_startsCondition_30 rfl rfl rfl ?_
      refine V_iconst (q := 32) dX2_startsCondition_31 rfl rfl ?_
      obtain ⟨v6, μ7, hc8, h⟩ := bd_i h
      refine V_cV1 (q := 35) (v := vI v6) (kX2_sum RD (d - 1) (by unfold RD; omega) hc8) (by omega) mv_X2_77 rfl rfl rfl rfl rfl rfl dX2_startsCondition_32 rfl ?_
      refine V_pop (q := 36) dX2_startsCondition_35 trivial rfl ?_
      refine V_aload_n (q := 37) dX2_startsCondition_36 rfl rfl rfl ?_
      refine V_getC (q := 40) fl_X2_9 rfl rfl rfl dX2_startsCondition_37 rfl ?_
      obtain ⟨v9, μ10, hc11, h⟩ := bd_i h
      refine V_cV1 (q := 43) (v := vI v9) (kX4_peek (d - 1) (by omega) hc11) (by omega) mv_X2_87 rfl rfl rfl rfl rfl rfl dX2_startsCondition_40 rfl ?_
      obtain ⟨v12, μ13, hc14, h⟩ := bd_i h
      refine V_cS1 (q := 46) (v := vI v12) (kX2_isComparison (d - 1) (by omega) hc14) (by omega) mv_X2_93 rfl rfl rfl rfl dX2_startsCondition_43 rfl ?_
      refine V_istore_n (q := 47) dX2_startsCondition_46 rfl (Nat.le_of_ble_eq_true rfl) trivial rfl ?_
      refine V_aload_n (q := 48) dX2_startsCondition_47 rfl rfl rfl ?_
      refine V_getC (q := 51) fl_X2_9 rfl rfl rfl dX2_startsCondition_48 rfl ?_
      refine V_iload_n (q := 52) dX2_startsCondition_51 rfl rfl rfl ?_
      have h := sF_i h
      refine V_putI (q := 55) fl_X2_90 rfl rfl rfl dX2_startsCondition_52 rfl ?_
      refine V_iload_n (q := 56) dX2_startsCondition_55 rfl rfl rfl ?_
      obtain ⟨hz16, h⟩ := rZ_i h
      exact V_zret rfl hz16 h dX2_startsCondition_56
    · have h := ifT hc5 h
      refine V_iconst (q := 21) dX2_startsCondition_20 rfl rfl ?_
      exact V_zret rfl (Or.inr rfl) h dX2_startsCondition_21
abbrev mX2_comparison : Mth := (yX2_comparison, cX2_comparison, 5, some .boolean)
theorem mi_X2_comparison : Cond.instanceMethod yX2_comparison ∈ tG ∧ Cond.selects yX2_comparison.cls yX2_comparison yX2_comparison ∈ tG ∧ Cond.initialized yX2_comparison.cls ∈ tG ∧ Cond.code yX2_comparison cX2_comparison 5 (some .boolean) ∈ tG ∧ (yX2_comparison.cls ≠ "java/lang/invoke/MethodHandle" ∧ yX2_comparison.cls ≠ "java/lang/invoke/VarHandle" ∧ (parseMethodDescriptor yX2_comparison.desc).map (fun d => d.parameters.length) = some 1) ∧ 5 ≤ 60 := ⟨(tG_of (List.mem_of_getElem? (i := 643) (by decide +kernel)) (by decide +kernel)), (tG_of (List.mem_of_getElem? (i := 13) (by decide +kernel)) (by decide +kernel)), (tG_of (List.mem_of_getElem? (i := 104) (by decide +kernel)) (by decide +kernel)), (tG_of (List.mem_of_getElem? (i := 644) (by decide +kernel)) (by decide +kernel)), ⟨by decide, by decide, by decide +kernel⟩, by decide⟩
theorem mv_X2_102 : mV RX2 102 mX2_comparison 1 := ⟨(tG_of (List.mem_of_getElem? (i := 641) (by decide +kernel)) (by decide +kernel)), mi_X2_comparison⟩
theorem dX2_comparison_0 : decode cX2_comparison 0 = .ok (.aload_n 0, 1) := by decide +kernel
theorem dX2_comparison_1 : decode cX2_comparison 1 = .ok (.iload_n 1, 1) := by decide +kernel
theorem dX2_comparison_2 : decode cX2_comparison 2 = .ok (.invokevirtual 77, 3) := by decide +kernel
theorem dX2_comparison_5 : decode cX2_comparison 5 = .ok (.istore_n 2, 1) := by decide +kernel
theorem dX2_comparison_6 : decode cX2_comparison 6 = .ok (.aload_n 0, 1) := by decide +kernel
theorem dX2_comparison_7 : decode cX2_comparison 7 = .ok (.getfield 9, 3) := by decide +kernel
theorem dX2_comparison_10 : decode cX2_comparison 10 = .ok (.invokevirtual 87, 3) := by decide +kernel
theorem dX2_comparison_13 : decode cX2_comparison 13 = .ok (.istore_n 3, 1) := by decide +kernel
theorem dX2_comparison_14 : decode cX2_comparison 14 = .ok (.iload_n 3, 1) := by decide +kernel
theorem dX2_comparison_15 : decode cX2_comparison 15 = .ok (.invokestatic 93, 3) := by decide +kernel
theorem dX2_comparison_18 : decode cX2_comparison 18 = .ok (.ifCond .ne 19, 3) := by decide +kernel
theorem dX2_comparison_21 : decode cX2_comparison 21 = .ok (.aload_n 0, 1) := by decide +kernel
theorem dX2_comparison_22 : decode cX2_comparison 22 = .ok (.getfield 9, 3) := by decide +kernel
theorem dX2_comparison_25 : decode cX2_comparison 25 = .ok (.aload_n 0, 1) := by decide +kernel
theorem dX2_comparison_26 : decode cX2_comparison 26 = .ok (.getfield 9, 3) := by decide +kernel
theorem dX2_comparison_29 : decode cX2_comparison 29 = .ok (.getfield 90, 3) := by decide +kernel
theorem dX2_comparison_32 : decode cX2_comparison 32 = .ok (.invokevirtual 105, 3) := by decide +kernel
theorem dX2_comparison_35 : decode cX2_comparison 35 = .ok (.iconst 0, 1) := by decide +kernel
theorem dX2_comparison_36 : decode cX2_comparison 36 = .ok (.ireturn, 1) := by decide +kernel
theorem dX2_comparison_37 : decode cX2_comparison 37 = .ok (.aload_n 0, 1) := by decide +kernel
theorem dX2_comparison_38 : decode cX2_comparison 38 = .ok (.getfield 9, 3) := by decide +kernel
theorem dX2_comparison_41 : decode cX2_comparison 41 = .ok (.invokevirtual 108, 3) := by decide +kernel
theorem dX2_comparison_44 : decode cX2_comparison 44 = .ok (.aload_n 0, 1) := by decide +kernel
theorem dX2_comparison_45 : decode cX2_comparison 45 = .ok (.iload_n 1, 1) := by decide +kernel
theorem dX2_comparison_46 : decode cX2_comparison 46 = .ok (.invokevirtual 77, 3) := by decide +kernel
theorem dX2_comparison_49 : decode cX2_comparison 49 = .ok (.istore 4, 2) := by decide +kernel
theorem dX2_comparison_51 : decode cX2_comparison 51 = .ok (.iload_n 3, 1) := by decide +kernel
theorem dX2_comparison_52 : decode cX2_comparison 52 = .ok (.bipush 61, 2) := by decide +kernel
theorem dX2_comparison_54 : decode cX2_comparison 54 = .ok (.if_icmp .ne 15, 3) := by decide +kernel
theorem dX2_comparison_57 : decode cX2_comparison 57 = .ok (.iload_n 2, 1) := by decide +kernel
theorem dX2_comparison_58 : decode cX2_comparison 58 = .ok (.iload 4, 2) := by decide +kernel
theorem dX2_comparison_60 : decode cX2_comparison 60 = .ok (.if_icmp .ne 7, 3) := by decide +kernel
theorem dX2_comparison_63 : decode cX2_comparison 63 = .ok (.iconst 1, 1) := by decide +kernel
theorem dX2_comparison_64 : decode cX2_comparison 64 = .ok (.goto 4, 3) := by decide +kernel
theorem dX2_comparison_67 : decode cX2_comparison 67 = .ok (.iconst 0, 1) := by decide +kernel
theorem dX2_comparison_68 : decode cX2_comparison 68 = .ok (.ireturn, 1) := by decide +kernel
theorem dX2_comparison_69 : decode cX2_comparison 69 = .ok (.iload_n 3, 1) := by decide +kernel
theorem dX2_comparison_70 : decode cX2_comparison 70 = .ok (.bipush 60, 2) := by decide +kernel
theorem dX2_comparison_72 : decode cX2_comparison 72 = .ok (.if_icmp .ne 17, 3) := by decide +kernel
theorem dX2_comparison_75 : decode cX2_comparison 75 = .ok (.iload_n 2, 1) := by decide +kernel
theorem dX2_comparison_76 : decode cX2_comparison 76 = .ok (.iload 4, 2) := by decide +kernel
theorem dX2_comparison_78 : decode cX2_comparison 78 = .ok (.if_icmp .ge 7, 3) := by decide +kernel
theorem dX2_comparison_81 : decode cX2_comparison 81 = .ok (.iconst 1, 1) := by decide +kernel
theorem dX2_comparison_82 : decode cX2_comparison 82 = .ok (.goto 18, 3) := by decide +kernel
theorem dX2_comparison_85 : decode cX2_comparison 85 = .ok (.iconst 0, 1) := by decide +kernel
theorem dX2_comparison_86 : decode cX2_comparison 86 = .ok (.goto 14, 3) := by decide +kernel
theorem dX2_comparison_89 : decode cX2_comparison 89 = .ok (.iload_n 2, 1) := by decide +kernel
theorem dX2_comparison_90 : decode cX2_comparison 90 = .ok (.iload 4, 2) := by decide +kernel
theorem dX2_comparison_92 : decode cX2_comparison 92 = .ok (.if_icmp .le 7, 3) := by decide +kernel
theorem dX2_comparison_95 : decode cX2_comparison 95 = .ok (.iconst 1, 1) := by decide +kernel
theorem dX2_comparison_96 : decode cX2_comparison 96 = .ok (.goto 4, 3) := by decide +kernel
theorem dX2_comparison_99 : decode cX2_comparison 99 = .ok (.iconst 0, 1) := by decide +kernel
theorem dX2_comparison_100 : decode cX2_comparison 100 = .ok (.ireturn, 1) := by decide +kernel
def X2_comparison (l1 : Int) (μ : Mm) : Rs := bd (X2_sum RD l1 μ) fun v1 μ2 => bd (X4_peek μ2) fun v4 μ5 => bd (X2_isComparison v4 μ5) fun v7 μ8 => if v7 = 0 then (bd (X4_refuseAt (μ8 3 1) μ8) fun v22 μ23 => some (0, μ23)) else (bd (X4_pass μ8) fun v11 μ12 => bd (X2_sum RD l1 μ12) fun v14 μ15 => if v4 = 61 then (if v1 = v14 then (some (1, μ15)) else (some (0, μ15))) else (if v4 = 60 then (if v14 ≤ v1 then (some (0, μ15)) else (some (1, μ15))) else (if v1 ≤ v14 then (some (0, μ15)) else (some (1, μ15)))))
set_option maxHeartbeats 4000000 in
set_option maxRecDepth 100000 in
theorem kX2_comparison (d : Nat) (hd : 134 ≤ d) {l1 : Int} {μ : Mm} {r : Int} {μ' : Mm} (h : X2_comparison l1 μ = some (r, μ')) : CC d mX2_comparison [vR 4, vI l1] μ r μ' := by
  unfold X2_comparison at h
  refine V_enter (by decide) (Nat.le_of_ble_eq_true rfl) ?_
  show VV d mX2_comparison 0 [some (vR 4), some (vI l1), none, none, none] [] μ r μ'
  refine V_aload_n (q := 1) dX2_comparison_0 rfl rfl rfl ?_
  refine V_iload_n (q := 2) dX2_comparison_1 rfl rfl rfl ?_
  obtain ⟨v1, μ2, hc3, h⟩ := bd_i h
  refine V_cV1 (q := 5) (v := vI v1) (kX2_sum RD (d - 1) (by unfold RD; omega) hc3) (by omega) mv_X2_77 rfl rfl rfl rfl rfl rfl dX2_comparison_2 rfl ?_
  refine V_istore_n (q := 6) dX2_comparison_5 rfl (Nat.le_of_ble_eq_true rfl) trivial rfl ?_
  refine V_aload_n (q := 7) dX2_comparison_6 rfl rfl rfl ?_
  refine V_getC (q := 10) fl_X2_9 rfl rfl rfl dX2_comparison_7 rfl ?_
  obtain ⟨v4, μ5, hc6, h⟩ := bd_i h
  refine V_cV1 (q := 13) (v := vI v4) (kX4_peek (d - 1) (by omega) hc6) (by omega) mv_X2_87 rfl rfl rfl rfl rfl rfl dX2_comparison_10 rfl ?_
  refine V_istore_n (q := 14) dX2_comparison_13 rfl (Nat.le_of_ble_eq_true rfl) trivial rfl ?_
  refine V_iload_n (q := 15) dX2_comparison_14 rfl rfl rfl ?_
  obtain ⟨v7, μ8, hc9, h⟩ := bd_i h
  refine V_cS1 (q := 18) (v := vI v7) (kX2_isComparison (d - 1) (by omega) hc9) (by omega) mv_X2_93 rfl rfl rfl rfl dX2_comparison_15 rfl ?_
  refine V_ifne (q := 37) (q2 := 21) dX2_comparison_18 (by decide) rfl (fun hc10 => ?_) (fun hc10 => ?_)
  · have h := ifF hc10 h
    refine V_aload_n (q := 38) dX2_comparison_37 rfl rfl rfl ?_
    refine V_getC (q := 41) fl_X2_9 rfl rfl rfl dX2_comparison_38 rfl ?_
    obtain ⟨v11, μ12, hc13, h⟩ := bd_i h
    refine V_cV0 (q := 44) (kX4_pass (d - 1) (by omega) hc13) (by omega) mv_X2_108 rfl rfl rfl rfl rfl rfl dX2_comparison_41 rfl ?_
    refine V_aload_n (q := 45) dX2_comparison_44 rfl rfl rfl ?_
    refine V_iload_n (q := 46) dX2_comparison_45 rfl rfl rfl ?_
    obtain ⟨v14, μ15, hc16, h⟩ := bd_i h
    refine V_cV1 (q := 49) (v := vI v14) (kX2_sum RD (d - 1) (by unfold RD; omega) hc16) (by omega) mv_X2_77 rfl rfl rfl rfl rfl rfl dX2_comparison_46 rfl ?_
    refine V_istore (q := 51) dX2_comparison_49 (Nat.le_of_ble_eq_true rfl) trivial rfl ?_
    refine V_iload_n (q := 52) dX2_comparison_51 rfl rfl rfl ?_
    refine V_bipush (q := 54) dX2_comparison_52 rfl rfl rfl ?_
    refine V_icmpne (q := 69) (q2 := 57) dX2_comparison_54 (by decide) rfl (fun hc17 => ?_) (fun hc17 => ?_)
    · have h := ifF hc17 h
      refine V_iload_n (q := 70) dX2_comparison_69 rfl rfl rfl ?_
      refine V_bipush (q := 72) dX2_comparison_70 rfl rfl rfl ?_
      refine V_icmpne (q := 89) (q2 := 75) dX2_comparison_72 (by decide) rfl (fun hc18 => ?_) (fun hc18 => ?_)
      · have h := ifF hc18 h
        refine V_iload_n (q := 90) dX2_comparison_89 rfl rfl rfl ?_
        refine V_iload (q := 92) dX2_comparison_90 rfl rfl ?_
        refine V_icmple (q := 99) (q2 := 95) dX2_comparison_92 (by decide) rfl (fun hc19 => ?_) (fun hc19 => ?_)
        · have h := ifT hc19 h
          refine V_iconst (q := 100) dX2_comparison_99 rfl rfl ?_
          exact V_zret rfl (Or.inl rfl) h dX2_comparison_100
        · have h := ifF hc19 h
          refine V_iconst (q := 96) dX2_comparison_95 rfl rfl ?_
          refine V_goto (q := 100) dX2_comparison_96 (by decide) ?_
          exact V_zret rfl (Or.inr rfl) h dX2_comparison_100
      · have h := ifT hc18 h
        refine V_iload_n (q := 76) dX2_comparison_75 rfl rfl rfl ?_
        refine V_iload (q := 78) dX2_comparison_76 rfl rfl ?_
        refine V_icmpge (q := 85) (q2 := 81) dX2_comparison_78 (by decide) rfl (fun hc20 => ?_) (fun hc20 => ?_)
        · have h := ifT hc20 h
          refine V_iconst (q := 86) dX2_comparison_85 rfl rfl ?_
          refine V_goto (q := 100) dX2_comparison_86 (by decide) ?_
          exact V_zret rfl (Or.inl rfl) h dX2_comparison_100
        · have h := ifF hc20 h
          refine V_iconst (q := 82) dX2_comparison_81 rfl rfl ?_
          refine V_goto (q := 100) dX2_comparison_82 (by decide) ?_
          exact V_zret rfl (Or.inr rfl) h dX2_comparison_100
    · have h := ifT hc17 h
      refine V_iload_n (q := 58) dX2_comparison_57 rfl rfl rfl ?_
      refine V_iload (q := 60) dX2_comparison_58 rfl rfl ?_
      refine V_icmpne (q := 67) (q2 := 63) dX2_comparison_60 (by decide) rfl (fun hc21 => ?_) (fun hc21 => ?_)
      · have h := ifF hc21 h
        refine V_iconst (q := 68) dX2_comparison_67 rfl rfl ?_
        exact V_zret rfl (Or.inl rfl) h dX2_comparison_68
      · have h := ifT hc21 h
        refine V_iconst (q := 64) dX2_comparison_63 rfl rfl ?_
        refine V_goto (q := 68) dX2_comparison_64 (by decide) ?_
        exact V_zret rfl (Or.inr rfl) h dX2_comparison_68
  · have h := ifT hc10 h
    refine V_aload_n (q := 22) dX2_comparison_21 rfl rfl rfl ?_
    refine V_getC (q := 25) fl_X2_9 rfl rfl rfl dX2_comparison_22 rfl ?_
    refine V_aload_n (q := 26) dX2_comparison_25 rfl rfl rfl ?_
    refine V_getC (q := 29) fl_X2_9 rfl rfl rfl dX2_comparison_26 rfl ?_
    refine V_getI (q := 32) fl_X2_90 rfl rfl rfl dX2_comparison_29 rfl ?_
    obtain ⟨v22, μ23, hc24, h⟩ := bd_i h
    refine V_cV0 (q := 35) (kX4_refuseAt (d - 1) (by omega) hc24) (by omega) mv_X2_105 rfl rfl rfl rfl rfl rfl dX2_comparison_32 rfl ?_
    refine V_iconst (q := 36) dX2_comparison_35 rfl rfl ?_
    exact V_zret rfl (Or.inl rfl) h dX2_comparison_36
abbrev mX2_truth : Mth := (yX2_truth, cX2_truth, 4, some .boolean)
theorem mi_X2_truth : Cond.instanceMethod yX2_truth ∈ tG ∧ Cond.selects yX2_truth.cls yX2_truth yX2_truth ∈ tG ∧ Cond.initialized yX2_truth.cls ∈ tG ∧ Cond.code yX2_truth cX2_truth 4 (some .boolean) ∈ tG ∧ (yX2_truth.cls ≠ "java/lang/invoke/MethodHandle" ∧ yX2_truth.cls ≠ "java/lang/invoke/VarHandle" ∧ (parseMethodDescriptor yX2_truth.desc).map (fun d => d.parameters.length) = some 1) ∧ 4 ≤ 60 := ⟨(tG_of (List.mem_of_getElem? (i := 635) (by decide +kernel)) (by decide +kernel)), (tG_of (List.mem_of_getElem? (i := 11) (by decide +kernel)) (by decide +kernel)), (tG_of (List.mem_of_getElem? (i := 104) (by decide +kernel)) (by decide +kernel)), (tG_of (List.mem_of_getElem? (i := 636) (by decide +kernel)) (by decide +kernel)), ⟨by decide, by decide, by decide +kernel⟩, by decide⟩
theorem mv_X2_96 : mV RX2 96 mX2_truth 1 := ⟨(tG_of (List.mem_of_getElem? (i := 633) (by decide +kernel)) (by decide +kernel)), mi_X2_truth⟩
abbrev mX2_condition : Mth := (yX2_condition, cX2_condition, 4, some .boolean)
theorem mi_X2_condition : Cond.instanceMethod yX2_condition ∈ tG ∧ Cond.selects yX2_condition.cls yX2_condition yX2_condition ∈ tG ∧ Cond.initialized yX2_condition.cls ∈ tG ∧ Cond.code yX2_condition cX2_condition 4 (some .boolean) ∈ tG ∧ (yX2_condition.cls ≠ "java/lang/invoke/MethodHandle" ∧ yX2_condition.cls ≠ "java/lang/invoke/VarHandle" ∧ (parseMethodDescriptor yX2_condition.desc).map (fun d => d.parameters.length) = some 1) ∧ 4 ≤ 60 := ⟨(tG_of (List.mem_of_getElem? (i := 631) (by decide +kernel)) (by decide +kernel)), (tG_of (List.mem_of_getElem? (i := 10) (by decide +kernel)) (by decide +kernel)), (tG_of (List.mem_of_getElem? (i := 104) (by decide +kernel)) (by decide +kernel)), (tG_of (List.mem_of_getElem? (i := 632) (by decide +kernel)) (by decide +kernel)), ⟨by decide, by decide, by decide +kernel⟩, by decide⟩
theorem mv_X2_73 : mV RX2 73 mX2_condition 1 := ⟨(tG_of (List.mem_of_getElem? (i := 629) (by decide +kernel)) (by decide +kernel)), mi_X2_condition⟩
abbrev mX2_enclosed : Mth := (yX2_enclosed, cX2_enclosed, 3, some .boolean)
theorem mi_X2_enclosed : Cond.instanceMethod yX2_enclosed ∈ tG ∧ Cond.selects yX2_enclosed.cls yX2_enclosed yX2_enclosed ∈ tG ∧ Cond.initialized yX2_enclosed.cls ∈ tG ∧ Cond.code yX2_enclosed cX2_enclosed 3 (some .boolean) ∈ tG ∧ (yX2_enclosed.cls ≠ "java/lang/invoke/MethodHandle" ∧ yX2_enclosed.cls ≠ "java/lang/invoke/VarHandle" ∧ (parseMethodDescriptor yX2_enclosed.desc).map (fun d => d.parameters.length) = some 1) ∧ 3 ≤ 60 := ⟨(tG_of (List.mem_of_getElem? (i := 651) (by decide +kernel)) (by decide +kernel)), (tG_of (List.mem_of_getElem? (i := 15) (by decide +kernel)) (by decide +kernel)), (tG_of (List.mem_of_getElem? (i := 104) (by decide +kernel)) (by decide +kernel)), (tG_of (List.mem_of_getElem? (i := 652) (by decide +kernel)) (by decide +kernel)), ⟨by decide, by decide, by decide +kernel⟩, by decide⟩
theorem mv_X2_114 : mV RX2 114 mX2_enclosed 1 := ⟨(tG_of (List.mem_of_getElem? (i := 649) (by decide +kernel)) (by decide +kernel)), mi_X2_enclosed⟩
abbrev mX2_denied : Mth := (yX2_denied, cX2_denied, 2, some .boolean)
theorem mi_X2_denied : Cond.instanceMethod yX2_denied ∈ tG ∧ Cond.selects yX2_denied.cls yX2_denied yX2_denied ∈ tG ∧ Cond.initialized yX2_denied.cls ∈ tG ∧ Cond.code yX2_denied cX2_denied 2 (some .boolean) ∈ tG ∧ (yX2_denied.cls ≠ "java/lang/invoke/MethodHandle" ∧ yX2_denied.cls ≠ "java/lang/invoke/VarHandle" ∧ (parseMethodDescriptor yX2_denied.desc).map (fun d => d.parameters.length) = some 1) ∧ 2 ≤ 60 := ⟨(tG_of (List.mem_of_getElem? (i := 647) (by decide +kernel)) (by decide +kernel)), (tG_of (List.mem_of_getElem? (i := 14) (by decide +kernel)) (by decide +kernel)), (tG_of (List.mem_of_getElem? (i := 104) (by decide +kernel)) (by decide +kernel)), (tG_of (List.mem_of_getElem? (i := 648) (by decide +kernel)) (by decide +kernel)), ⟨by decide, by decide, by decide +kernel⟩, by decide⟩
theorem mv_X2_111 : mV RX2 111 mX2_denied 1 := ⟨(tG_of (List.mem_of_getElem? (i := 645) (by decide +kernel)) (by decide +kernel)), mi_X2_denied⟩
abbrev mX2_unit : Mth := (yX2_unit, cX2_unit, 3, some .boolean)
theorem mi_X2_unit : Cond.instanceMethod yX2_unit ∈ tG ∧ Cond.selects yX2_unit.cls yX2_unit yX2_unit ∈ tG ∧ Cond.initialized yX2_unit.cls ∈ tG ∧ Cond.code yX2_unit cX2_unit 3 (some .boolean) ∈ tG ∧ (yX2_unit.cls ≠ "java/lang/invoke/MethodHandle" ∧ yX2_unit.cls ≠ "java/lang/invoke/VarHandle" ∧ (parseMethodDescriptor yX2_unit.desc).map (fun d => d.parameters.length) = some 1) ∧ 3 ≤ 60 := ⟨(tG_of (List.mem_of_getElem? (i := 639) (by decide +kernel)) (by decide +kernel)), (tG_of (List.mem_of_getElem? (i := 12) (by decide +kernel)) (by decide +kernel)), (tG_of (List.mem_of_getElem? (i := 104) (by decide +kernel)) (by decide +kernel)), (tG_of (List.mem_of_getElem? (i := 640) (by decide +kernel)) (by decide +kernel)), ⟨by decide, by decide, by decide +kernel⟩, by decide⟩
theorem mv_X2_99 : mV RX2 99 mX2_unit 1 := ⟨(tG_of (List.mem_of_getElem? (i := 637) (by decide +kernel)) (by decide +kernel)), mi_X2_unit⟩
theorem dX2_truth_0 : decode cX2_truth 0 = .ok (.aload_n 0, 1) := by decide +kernel
theorem dX2_truth_1 : decode cX2_truth 1 = .ok (.iload_n 1, 1) := by decide +kernel
theorem dX2_truth_2 : decode cX2_truth 2 = .ok (.invokevirtual 99, 3) := by decide +kernel
theorem dX2_truth_5 : decode cX2_truth 5 = .ok (.istore_n 2, 1) := by decide +kernel
theorem dX2_truth_6 : decode cX2_truth 6 = .ok (.iconst 0, 1) := by decide +kernel
theorem dX2_truth_7 : decode cX2_truth 7 = .ok (.istore_n 3, 1) := by decide +kernel
theorem dX2_truth_8 : decode cX2_truth 8 = .ok (.iload_n 3, 1) := by decide +kernel
theorem dX2_truth_9 : decode cX2_truth 9 = .ok (.sipush 160, 3) := by decide +kernel
theorem dX2_truth_12 : decode cX2_truth 12 = .ok (.if_icmp .ge 39, 3) := by decide +kernel
theorem dX2_truth_15 : decode cX2_truth 15 = .ok (.aload_n 0, 1) := by decide +kernel
theorem dX2_truth_16 : decode cX2_truth 16 = .ok (.getfield 9, 3) := by decide +kernel
theorem dX2_truth_19 : decode cX2_truth 19 = .ok (.bipush 38, 2) := by decide +kernel
theorem dX2_truth_21 : decode cX2_truth 21 = .ok (.invokevirtual 81, 3) := by decide +kernel
theorem dX2_truth_24 : decode cX2_truth 24 = .ok (.ifCond .eq 27, 3) := by decide +kernel
theorem dX2_truth_27 : decode cX2_truth 27 = .ok (.aload_n 0, 1) := by decide +kernel
theorem dX2_truth_28 : decode cX2_truth 28 = .ok (.iload_n 1, 1) := by decide +kernel
theorem dX2_truth_29 : decode cX2_truth 29 = .ok (.invokevirtual 99, 3) := by decide +kernel
theorem dX2_truth_32 : decode cX2_truth 32 = .ok (.ifCond .eq 11, 3) := by decide +kernel
theorem dX2_truth_35 : decode cX2_truth 35 = .ok (.iload_n 2, 1) := by decide +kernel
theorem dX2_truth_36 : decode cX2_truth 36 = .ok (.ifCond .eq 7, 3) := by decide +kernel
theorem dX2_truth_39 : decode cX2_truth 39 = .ok (.iconst 1, 1) := by decide +kernel
theorem dX2_truth_40 : decode cX2_truth 40 = .ok (.goto 4, 3) := by decide +kernel
theorem dX2_truth_43 : decode cX2_truth 43 = .ok (.iconst 0, 1) := by decide +kernel
theorem dX2_truth_44 : decode cX2_truth 44 = .ok (.istore_n 2, 1) := by decide +kernel
theorem dX2_truth_45 : decode cX2_truth 45 = .ok (.iinc 3 1, 3) := by decide +kernel
theorem dX2_truth_48 : decode cX2_truth 48 = .ok (.goto (-40), 3) := by decide +kernel
theorem dX2_truth_51 : decode cX2_truth 51 = .ok (.iload_n 2, 1) := by decide +kernel
theorem dX2_truth_52 : decode cX2_truth 52 = .ok (.ireturn, 1) := by decide +kernel
def X2_truth_L8 (rec : Int → Mm → Rs) (l1 : Int) : Nat → Int → Int → Mm → Rs
  | 0, _, _, _ => none
  | n + 1, l2, l3, μ => if 160 ≤ l3 then (rZ l2 μ) else (bd (X4_take 38 μ) fun v6 μ7 => if v6 = 0 then (rZ l2 μ7) else (bd (rec l1 μ7) fun v11 μ12 => if v11 = 0 then (X2_truth_L8 rec l1 n 0 (iA l3 1) μ12) else (if l2 = 0 then (X2_truth_L8 rec l1 n 0 (iA l3 1) μ12) else (X2_truth_L8 rec l1 n 1 (iA l3 1) μ12))))
def X2_truth_o (rec : Int → Mm → Rs) (l1 : Int) (μ : Mm) : Rs := bd (rec l1 μ) fun v1 μ2 => X2_truth_L8 rec l1 FU v1 0 μ2
set_option maxHeartbeats 4000000 in
set_option maxRecDepth 100000 in
theorem kX2_truth_L8 (d : Nat) {d0 : Nat} (hd : d0 + 2 ≤ d) {rec : Int → Mm → Rs} (hrec : ∀ {q1 : Int} {μ1 : Mm} {r1 : Int} {μ2 : Mm}, rec q1 μ1 = some (r1, μ2) → CC d0 mX2_unit [vR 4, vI q1] μ1 r1 μ2) (hb : 137 ≤ d) {l1 : Int} {r : Int} {μ' : Mm} : ∀ (n : Nat) {l2 l3 : Int} {μ : Mm}, X2_truth_L8 rec l1 n l2 l3 μ = some (r, μ') → VV d mX2_truth 8 [some (vR 4), some (vI l1), some (vI l2), some (vI l3)] [] μ r μ' := by
  intro n
  induction n with
  | zero => intro l2 l3 μ h; rw [X2_truth_L8] at h; cases h
  | succ n ih =>
    intro l2 l3 μ h
    rw [X2_truth_L8] at h
    refine V_iload_n (q := 9) dX2_truth_8 rfl rfl rfl ?_
    refine V_sipush (q := 12) dX2_truth_9 rfl rfl rfl ?_
    refine V_icmpge (q := 51) (q2 := 15) dX2_truth_12 (by decide) rfl (fun hc4 => ?_) (fun hc4 => ?_)
    · have h := ifT hc4 h
      refine V_iload_n (q := 52) dX2_truth_51 rfl rfl rfl ?_
      obtain ⟨hz5, h⟩ := rZ_i h
      exact V_zret rfl hz5 h dX2_truth_52
    · have h := ifF hc4 h
      refine V_aload_n (q := 16) dX2_truth_15 rfl rfl rfl ?_
      refine V_getC (q := 19) fl_X2_9 rfl rfl rfl dX2_truth_16 rfl ?_
      refine V_bipush (q := 21) dX2_truth_19 rfl rfl rfl ?_
      obtain ⟨v6, μ7, hc8, h⟩ := bd_i h
      refine V_cV1 (q := 24) (v := vI v6) (kX4_take (d - 1) (by omega) hc8) (by omega) mv_X2_81 rfl rfl rfl rfl rfl rfl dX2_truth_21 rfl ?_
      refine V_ifeq (q := 51) (q2 := 27) dX2_truth_24 (by decide) rfl (fun hc9 => ?_) (fun hc9 => ?_)
      · have h := ifT hc9 h
        refine V_iload_n (q := 52) dX2_truth_51 rfl rfl rfl ?_
        obtain ⟨hz10, h⟩ := rZ_i h
        exact V_zret rfl hz10 h dX2_truth_52
      · have h := ifF hc9 h
        refine V_aload_n (q := 28) dX2_truth_27 rfl rfl rfl ?_
        refine V_iload_n (q := 29) dX2_truth_28 rfl rfl rfl ?_
        obtain ⟨v11, μ12, hc13, h⟩ := bd_i h
        refine V_cV1 (q := 32) (v := vI v11) (hrec hc13) (by omega) mv_X2_99 rfl rfl rfl rfl rfl rfl dX2_truth_29 rfl ?_
        refine V_ifeq (q := 43) (q2 := 35) dX2_truth_32 (by decide) rfl (fun hc14 => ?_) (fun hc14 => ?_)
        · have h := ifT hc14 h
          refine V_iconst (q := 44) dX2_truth_43 rfl rfl ?_
          refine V_istore_n (q := 45) dX2_truth_44 rfl (Nat.le_of_ble_eq_true rfl) trivial rfl ?_
          refine V_iinc (q := 48) dX2_truth_45 rfl (Nat.le_of_ble_eq_true rfl) trivial rfl ?_
          refine V_goto (q := 8) dX2_truth_48 (by decide) ?_
          exact V_weak (ih h) (sb_s rfl (sb_s rfl (sb_s rfl (sb_s rfl sb_0))))
        · have h := ifF hc14 h
          refine V_iload_n (q := 36) dX2_truth_35 rfl rfl rfl ?_
          refine V_ifeq (q := 43) (q2 := 39) dX2_truth_36 (by decide) rfl (fun hc15 => ?_) (fun hc15 => ?_)
          · have h := ifT hc15 h
            refine V_iconst (q := 44) dX2_truth_43 rfl rfl ?_
            refine V_istore_n (q := 45) dX2_truth_44 rfl (Nat.le_of_ble_eq_true rfl) trivial rfl ?_
            refine V_iinc (q := 48) dX2_truth_45 rfl (Nat.le_of_ble_eq_true rfl) trivial rfl ?_
            refine V_goto (q := 8) dX2_truth_48 (by decide) ?_
            exact V_weak (ih h) (sb_s rfl (sb_s rfl (sb_s rfl (sb_s rfl sb_0))))
          · have h := ifF hc15 h
            refine V_iconst (q := 40) dX2_truth_39 rfl rfl ?_
            refine V_goto (q := 44) dX2_truth_40 (by decide) ?_
            refine V_istore_n (q := 45) dX2_truth_44 rfl (Nat.le_of_ble_eq_true rfl) trivial rfl ?_
            refine V_iinc (q := 48) dX2_truth_45 rfl (Nat.le_of_ble_eq_true rfl) trivial rfl ?_
            refine V_goto (q := 8) dX2_truth_48 (by decide) ?_
            exact V_weak (ih h) (sb_s rfl (sb_s rfl (sb_s rfl (sb_s rfl sb_0))))
set_option maxHeartbeats 4000000 in
set_option maxRecDepth 100000 in
theorem kX2_truth (d : Nat) {d0 : Nat} (hd : d0 + 2 ≤ d) {rec : Int → Mm → Rs} (hrec : ∀ {q1 : Int} {μ1 : Mm} {r1 : Int} {μ2 : Mm}, rec q1 μ1 = some (r1, μ2) → CC d0 mX2_unit [vR 4, vI q1] μ1 r1 μ2) (hb : 137 ≤ d) {l1 : Int} {μ : Mm} {r : Int} {μ' : Mm} (h : X2_truth_o rec l1 μ = some (r, μ')) : CC d mX2_truth [vR 4, vI l1] μ r μ' := by
  unfold X2_truth_o at h
  refine V_enter (by decide) (Nat.le_of_ble_eq_true rfl) ?_
  show VV d mX2_truth 0 [some (vR 4), some (vI l1), none, none] [] μ r μ'
  refine V_aload_n (q := 1) dX2_truth_0 rfl rfl rfl ?_
  refine V_iload_n (q := 2) dX2_truth_1 rfl rfl rfl ?_
  obtain ⟨v1, μ2, hc3, h⟩ := bd_i h
  refine V_cV1 (q := 5) (v := vI v1) (hrec hc3) (by omega) mv_X2_99 rfl rfl rfl rfl rfl rfl dX2_truth_2 rfl ?_
  refine V_istore_n (q := 6) dX2_truth_5 rfl (Nat.le_of_ble_eq_true rfl) trivial rfl ?_
  refine V_iconst (q := 7) dX2_truth_6 rfl rfl ?_
  refine V_istore_n (q := 8) dX2_truth_7 rfl (Nat.le_of_ble_eq_true rfl) trivial rfl ?_
  exact V_weak (kX2_truth_L8 d hd hrec hb  FU h) (sb_s rfl (sb_s rfl (sb_s rfl (sb_s rfl sb_0))))
theorem dX2_condition_0 : decode cX2_condition 0 = .ok (.aload_n 0, 1) := by decide +kernel
theorem dX2_condition_1 : decode cX2_condition 1 = .ok (.iload_n 1, 1) := by decide +kernel
theorem dX2_condition_2 : decode cX2_condition 2 = .ok (.invokevirtual 96, 3) := by decide +kernel
theorem dX2_condition_5 : decode cX2_condition 5 = .ok (.istore_n 2, 1) := by decide +kernel
theorem dX2_condition_6 : decode cX2_condition 6 = .ok (.iconst 0, 1) := by decide +kernel
theorem dX2_condition_7 : decode cX2_condition 7 = .ok (.istore_n 3, 1) := by decide +kernel
theorem dX2_condition_8 : decode cX2_condition 8 = .ok (.iload_n 3, 1) := by decide +kernel
theorem dX2_condition_9 : decode cX2_condition 9 = .ok (.sipush 160, 3) := by decide +kernel
theorem dX2_condition_12 : decode cX2_condition 12 = .ok (.if_icmp .ge 39, 3) := by decide +kernel
theorem dX2_condition_15 : decode cX2_condition 15 = .ok (.aload_n 0, 1) := by decide +kernel
theorem dX2_condition_16 : decode cX2_condition 16 = .ok (.getfield 9, 3) := by decide +kernel
theorem dX2_condition_19 : decode cX2_condition 19 = .ok (.bipush 124, 2) := by decide +kernel
theorem dX2_condition_21 : decode cX2_condition 21 = .ok (.invokevirtual 81, 3) := by decide +kernel
theorem dX2_condition_24 : decode cX2_condition 24 = .ok (.ifCond .eq 27, 3) := by decide +kernel
theorem dX2_condition_27 : decode cX2_condition 27 = .ok (.aload_n 0, 1) := by decide +kernel
theorem dX2_condition_28 : decode cX2_condition 28 = .ok (.iload_n 1, 1) := by decide +kernel
theorem dX2_condition_29 : decode cX2_condition 29 = .ok (.invokevirtual 96, 3) := by decide +kernel
theorem dX2_condition_32 : decode cX2_condition 32 = .ok (.ifCond .ne 7, 3) := by decide +kernel
theorem dX2_condition_35 : decode cX2_condition 35 = .ok (.iload_n 2, 1) := by decide +kernel
theorem dX2_condition_36 : decode cX2_condition 36 = .ok (.ifCond .eq 7, 3) := by decide +kernel
theorem dX2_condition_39 : decode cX2_condition 39 = .ok (.iconst 1, 1) := by decide +kernel
theorem dX2_condition_40 : decode cX2_condition 40 = .ok (.goto 4, 3) := by decide +kernel
theorem dX2_condition_43 : decode cX2_condition 43 = .ok (.iconst 0, 1) := by decide +kernel
theorem dX2_condition_44 : decode cX2_condition 44 = .ok (.istore_n 2, 1) := by decide +kernel
theorem dX2_condition_45 : decode cX2_condition 45 = .ok (.iinc 3 1, 3) := by decide +kernel
theorem dX2_condition_48 : decode cX2_condition 48 = .ok (.goto (-40), 3) := by decide +kernel
theorem dX2_condition_51 : decode cX2_condition 51 = .ok (.iload_n 2, 1) := by decide +kernel
theorem dX2_condition_52 : decode cX2_condition 52 = .ok (.ireturn, 1) := by decide +kernel
def X2_condition_L8 (rec : Int → Mm → Rs) (l1 : Int) : Nat → Int → Int → Mm → Rs
  | 0, _, _, _ => none
  | n + 1, l2, l3, μ => if 160 ≤ l3 then (rZ l2 μ) else (bd (X4_take 124 μ) fun v6 μ7 => if v6 = 0 then (rZ l2 μ7) else (bd (X2_truth_o rec l1 μ7) fun v11 μ12 => if v11 = 0 then (if l2 = 0 then (X2_condition_L8 rec l1 n 0 (iA l3 1) μ12) else (X2_condition_L8 rec l1 n 1 (iA l3 1) μ12)) else (X2_condition_L8 rec l1 n 1 (iA l3 1) μ12)))
def X2_condition_o (rec : Int → Mm → Rs) (l1 : Int) (μ : Mm) : Rs := bd (X2_truth_o rec l1 μ) fun v1 μ2 => X2_condition_L8 rec l1 FU v1 0 μ2
set_option maxHeartbeats 4000000 in
set_option maxRecDepth 100000 in
theorem kX2_condition_L8 (d : Nat) {d0 : Nat} (hd : d0 + 3 ≤ d) {rec : Int → Mm → Rs} (hrec : ∀ {q1 : Int} {μ1 : Mm} {r1 : Int} {μ2 : Mm}, rec q1 μ1 = some (r1, μ2) → CC d0 mX2_unit [vR 4, vI q1] μ1 r1 μ2) (hb : 138 ≤ d) {l1 : Int} {r : Int} {μ' : Mm} : ∀ (n : Nat) {l2 l3 : Int} {μ : Mm}, X2_condition_L8 rec l1 n l2 l3 μ = some (r, μ') → VV d mX2_condition 8 [some (vR 4), some (vI l1), some (vI l2), some (vI l3)] [] μ r μ' := by
  intro n
  induction n with
  | zero => intro l2 l3 μ h; rw [X2_condition_L8] at h; cases h
  | succ n ih =>
    intro l2 l3 μ h
    rw [X2_condition_L8] at h
    refine V_iload_n (q := 9) dX2_condition_8 rfl rfl rfl ?_
    refine V_sipush (q := 12) dX2_condition_9 rfl rfl rfl ?_
    refine V_icmpge (q := 51) (q2 := 15) dX2_condition_12 (by decide) rfl (fun hc4 => ?_) (fun hc4 => ?_)
    · have h := ifT hc4 h
      refine V_iload_n (q := 52) dX2_condition_51 rfl rfl rfl ?_
      obtain ⟨hz5, h⟩ := rZ_i h
      exact V_zret rfl hz5 h dX2_condition_52
    · have h := ifF hc4 h
      refine V_aload_n (q := 16) dX2_condition_15 rfl rfl rfl ?_
      refine V_getC (q := 19) fl_X2_9 rfl rfl rfl dX2_condition_16 rfl ?_
      refine V_bipush (q := 21) dX2_condition_19 rfl rfl rfl ?_
      obtain ⟨v6, μ7, hc8, h⟩ := bd_i h
      refine V_cV1 (q := 24) (v := vI v6) (kX4_take (d - 1) (by omega) hc8) (by omega) mv_X2_81 rfl rfl rfl rfl rfl rfl dX2_condition_21 rfl ?_
      refine V_ifeq (q := 51) (q2 := 27) dX2_condition_24 (by decide) rfl (fun hc9 => ?_) (fun hc9 => ?_)
      · have h := ifT hc9 h
        refine V_iload_n (q := 52) dX2_condition_51 rfl rfl rfl ?_
        obtain ⟨hz10, h⟩ := rZ_i h
        exact V_zret rfl hz10 h dX2_condition_52
      · have h := ifF hc9 h
        refine V_aload_n (q := 28) dX2_condition_27 rfl rfl rfl ?_
        refine V_iload_n (q := 29) dX2_condition_28 rfl rfl rfl ?_
        obtain ⟨v11, μ12, hc13, h⟩ := bd_i h
        refine V_cV1 (q := 32) (v := vI v11) (kX2_truth (d - 1) (by omega) hrec (by omega) hc13) (by omega) mv_X2_96 rfl rfl rfl rfl rfl rfl dX2_condition_29 rfl ?_
        refine V_ifne (q := 39) (q2 := 35) dX2_condition_32 (by decide) rfl (fun hc14 => ?_) (fun hc14 => ?_)
        · have h := ifF hc14 h
          refine V_iconst (q := 40) dX2_condition_39 rfl rfl ?_
          refine V_goto (q := 44) dX2_condition_40 (by decide) ?_
          refine V_istore_n (q := 45) dX2_condition_44 rfl (Nat.le_of_ble_eq_true rfl) trivial rfl ?_
          refine V_iinc (q := 48) dX2_condition_45 rfl (Nat.le_of_ble_eq_true rfl) trivial rfl ?_
          refine V_goto (q := 8) dX2_condition_48 (by decide) ?_
          exact V_weak (ih h) (sb_s rfl (sb_s rfl (sb_s rfl (sb_s rfl sb_0))))
        · have h := ifT hc14 h
          refine V_iload_n (q := 36) dX2_condition_35 rfl rfl rfl ?_
          refine V_ifeq (q := 43) (q2 := 39) dX2_condition_36 (by decide) rfl (fun hc15 => ?_) (fun hc15 => ?_)
          · have h := ifT hc15 h
            refine V_iconst (q := 44) dX2_condition_43 rfl rfl ?_
            refine V_istore_n (q := 45) dX2_condition_44 rfl (Nat.le_of_ble_eq_true rfl) trivial rfl ?_
            refine V_iinc (q := 48) dX2_condition_45 rfl (Nat.le_of_ble_eq_true rfl) trivial rfl ?_
            refine V_goto (q := 8) dX2_condition_48 (by decide) ?_
            exact V_weak (ih h) (sb_s rfl (sb_s rfl (sb_s rfl (sb_s rfl sb_0))))
          · have h := ifF hc15 h
            refine V_iconst (q := 40) dX2_condition_39 rfl rfl ?_
            refine V_goto (q := 44) dX2_condition_40 (by decide) ?_
            refine V_istore_n (q := 45) dX2_condition_44 rfl (Nat.le_of_ble_eq_true rfl) trivial rfl ?_
            refine V_iinc (q := 48) dX2_condition_45 rfl (Nat.le_of_ble_eq_true rfl) trivial rfl ?_
            refine V_goto (q := 8) dX2_condition_48 (by decide) ?_
            exact V_weak (ih h) (sb_s rfl (sb_s rfl (sb_s rfl (sb_s rfl sb_0))))
set_option maxHeartbeats 4000000 in
set_option maxRecDepth 100000 in
theorem kX2_condition (d : Nat) {d0 : Nat} (hd : d0 + 3 ≤ d) {rec : Int → Mm → Rs} (hrec : ∀ {q1 : Int} {μ1 : Mm} {r1 : Int} {μ2 : Mm}, rec q1 μ1 = some (r1, μ2) → CC d0 mX2_unit [vR 4, vI q1] μ1 r1 μ2) (hb : 138 ≤ d) {l1 : Int} {μ : Mm} {r : Int} {μ' : Mm} (h : X2_condition_o rec l1 μ = some (r, μ')) : CC d mX2_condition [vR 4, vI l1] μ r μ' := by
  unfold X2_condition_o at h
  refine V_enter (by decide) (Nat.le_of_ble_eq_true rfl) ?_
  show VV d mX2_condition 0 [some (vR 4), some (vI l1), none, none] [] μ r μ'
  refine V_aload_n (q := 1) dX2_condition_0 rfl rfl rfl ?_
  refine V_iload_n (q := 2) dX2_condition_1 rfl rfl rfl ?_
  obtain ⟨v1, μ2, hc3, h⟩ := bd_i h
  refine V_cV1 (q := 5) (v := vI v1) (kX2_truth (d - 1) (by omega) hrec (by omega) hc3) (by omega) mv_X2_96 rfl rfl rfl rfl rfl rfl dX2_condition_2 rfl ?_
  refine V_istore_n (q := 6) dX2_condition_5 rfl (Nat.le_of_ble_eq_true rfl) trivial rfl ?_
  refine V_iconst (q := 7) dX2_condition_6 rfl rfl ?_
  refine V_istore_n (q := 8) dX2_condition_7 rfl (Nat.le_of_ble_eq_true rfl) trivial rfl ?_
  exact V_weak (kX2_condition_L8 d hd hrec hb  FU h) (sb_s rfl (sb_s rfl (sb_s rfl (sb_s rfl sb_0))))
theorem dX2_enclosed_0 : decode cX2_enclosed 0 = .ok (.aload_n 0, 1) := by decide +kernel
theorem dX2_enclosed_1 : decode cX2_enclosed 1 = .ok (.iload_n 1, 1) := by decide +kernel
theorem dX2_enclosed_2 : decode cX2_enclosed 2 = .ok (.invokevirtual 73, 3) := by decide +kernel
theorem dX2_enclosed_5 : decode cX2_enclosed 5 = .ok (.istore_n 2, 1) := by decide +kernel
theorem dX2_enclosed_6 : decode cX2_enclosed 6 = .ok (.aload_n 0, 1) := by decide +kernel
theorem dX2_enclosed_7 : decode cX2_enclosed 7 = .ok (.getfield 9, 3) := by decide +kernel
theorem dX2_enclosed_10 : decode cX2_enclosed 10 = .ok (.bipush 41, 2) := by decide +kernel
theorem dX2_enclosed_12 : decode cX2_enclosed 12 = .ok (.invokevirtual 65, 3) := by decide +kernel
theorem dX2_enclosed_15 : decode cX2_enclosed 15 = .ok (.iload_n 2, 1) := by decide +kernel
theorem dX2_enclosed_16 : decode cX2_enclosed 16 = .ok (.ireturn, 1) := by decide +kernel
def X2_enclosed_o (rec : Int → Mm → Rs) (l1 : Int) (μ : Mm) : Rs := bd (X2_condition_o rec l1 μ) fun v1 μ2 => bd (X4_need 41 μ2) fun v4 μ5 => rZ v1 μ5
set_option maxHeartbeats 4000000 in
set_option maxRecDepth 100000 in
theorem kX2_enclosed (d : Nat) {d0 : Nat} (hd : d0 + 4 ≤ d) {rec : Int → Mm → Rs} (hrec : ∀ {q1 : Int} {μ1 : Mm} {r1 : Int} {μ2 : Mm}, rec q1 μ1 = some (r1, μ2) → CC d0 mX2_unit [vR 4, vI q1] μ1 r1 μ2) (hb : 139 ≤ d) {l1 : Int} {μ : Mm} {r : Int} {μ' : Mm} (h : X2_enclosed_o rec l1 μ = some (r, μ')) : CC d mX2_enclosed [vR 4, vI l1] μ r μ' := by
  unfold X2_enclosed_o at h
  refine V_enter (by decide) (Nat.le_of_ble_eq_true rfl) ?_
  show VV d mX2_enclosed 0 [some (vR 4), some (vI l1), none] [] μ r μ'
  refine V_aload_n (q := 1) dX2_enclosed_0 rfl rfl rfl ?_
  refine V_iload_n (q := 2) dX2_enclosed_1 rfl rfl rfl ?_
  obtain ⟨v1, μ2, hc3, h⟩ := bd_i h
  refine V_cV1 (q := 5) (v := vI v1) (kX2_condition (d - 1) (by omega) hrec (by omega) hc3) (by omega) mv_X2_73 rfl rfl rfl rfl rfl rfl dX2_enclosed_2 rfl ?_
  refine V_istore_n (q := 6) dX2_enclosed_5 rfl (Nat.le_of_ble_eq_true rfl) trivial rfl ?_
  refine V_aload_n (q := 7) dX2_enclosed_6 rfl rfl rfl ?_
  refine V_getC (q := 10) fl_X2_9 rfl rfl rfl dX2_enclosed_7 rfl ?_
  refine V_bipush (q := 12) dX2_enclosed_10 rfl rfl rfl ?_
  obtain ⟨v4, μ5, hc6, h⟩ := bd_i h
  refine V_cV0 (q := 15) (kX4_need (d - 1) (by omega) hc6) (by omega) mv_X2_65 rfl rfl rfl rfl rfl rfl dX2_enclosed_12 rfl ?_
  refine V_iload_n (q := 16) dX2_enclosed_15 rfl rfl rfl ?_
  obtain ⟨hz7, h⟩ := rZ_i h
  exact V_zret rfl hz7 h dX2_enclosed_16
theorem dX2_denied_0 : decode cX2_denied 0 = .ok (.aload_n 0, 1) := by decide +kernel
theorem dX2_denied_1 : decode cX2_denied 1 = .ok (.iload_n 1, 1) := by decide +kernel
theorem dX2_denied_2 : decode cX2_denied 2 = .ok (.invokevirtual 99, 3) := by decide +kernel
theorem dX2_denied_5 : decode cX2_denied 5 = .ok (.ifCond .ne 7, 3) := by decide +kernel
theorem dX2_denied_8 : decode cX2_denied 8 = .ok (.iconst 1, 1) := by decide +kernel
theorem dX2_denied_9 : decode cX2_denied 9 = .ok (.goto 4, 3) := by decide +kernel
theorem dX2_denied_12 : decode cX2_denied 12 = .ok (.iconst 0, 1) := by decide +kernel
theorem dX2_denied_13 : decode cX2_denied 13 = .ok (.ireturn, 1) := by decide +kernel
def X2_denied_o (rec : Int → Mm → Rs) (l1 : Int) (μ : Mm) : Rs := bd (rec l1 μ) fun v1 μ2 => if v1 = 0 then (some (1, μ2)) else (some (0, μ2))
set_option maxHeartbeats 4000000 in
set_option maxRecDepth 100000 in
theorem kX2_denied (d : Nat) {d0 : Nat} (hd : d0 + 2 ≤ d) {rec : Int → Mm → Rs} (hrec : ∀ {q1 : Int} {μ1 : Mm} {r1 : Int} {μ2 : Mm}, rec q1 μ1 = some (r1, μ2) → CC d0 mX2_unit [vR 4, vI q1] μ1 r1 μ2) (hb : 137 ≤ d) {l1 : Int} {μ : Mm} {r : Int} {μ' : Mm} (h : X2_denied_o rec l1 μ = some (r, μ')) : CC d mX2_denied [vR 4, vI l1] μ r μ' := by
  unfold X2_denied_o at h
  refine V_enter (by decide) (Nat.le_of_ble_eq_true rfl) ?_
  show VV d mX2_denied 0 [some (vR 4), some (vI l1)] [] μ r μ'
  refine V_aload_n (q := 1) dX2_denied_0 rfl rfl rfl ?_
  refine V_iload_n (q := 2) dX2_denied_1 rfl rfl rfl ?_
  obtain ⟨v1, μ2, hc3, h⟩ := bd_i h
  refine V_cV1 (q := 5) (v := vI v1) (hrec hc3) (by omega) mv_X2_99 rfl rfl rfl rfl rfl rfl dX2_denied_2 rfl ?_
  refine V_ifne (q := 12) (q2 := 8) dX2_denied_5 (by decide) rfl (fun hc4 => ?_) (fun hc4 => ?_)
  · have h := ifF hc4 h
    refine V_iconst (q := 13) dX2_denied_12 rfl rfl ?_
    exact V_zret rfl (Or.inl rfl) h dX2_denied_13
  · have h := ifT hc4 h
    refine V_iconst (q := 9) dX2_denied_8 rfl rfl ?_
    refine V_goto (q := 13) dX2_denied_9 (by decide) ?_
    exact V_zret rfl (Or.inr rfl) h dX2_denied_13
end
