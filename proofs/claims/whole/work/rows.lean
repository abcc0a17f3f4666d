section
-- ===== PART A: goes FIRST, ahead of the names: the tables' words, and 'selects' of the private methods out of them =====
/-- a private method of a class that the tables say can be made, by its rows of tables_1 -/
def lw_okq (q : MethodName × Nat) : Prop := (q.1.cls ≠ "java/lang/invoke/MethodHandle" ∧ q.1.cls ≠ "java/lang/invoke/VarHandle") ∧ Cond.instantiable q.1.cls q.2 ∈ tables_1 ∧ Cond.privateMethod q.1 ∈ tables_1 ∧ Cond.instanceMethod q.1 ∈ tables_1
theorem lw_p0 : lw_okq (⟨"PalletNets", "refuse", "(I)I"⟩, 15) := ⟨⟨by decide +kernel, by decide +kernel⟩, List.mem_of_getElem? (i := 14) (by decide +kernel), List.mem_of_getElem? (i := 261) (by decide +kernel), List.mem_of_getElem? (i := 262) (by decide +kernel)⟩
theorem lw_p1 : lw_okq (⟨"PalletNets", "save", "()V"⟩, 15) := ⟨⟨by decide +kernel, by decide +kernel⟩, List.mem_of_getElem? (i := 14) (by decide +kernel), List.mem_of_getElem? (i := 265) (by decide +kernel), List.mem_of_getElem? (i := 266) (by decide +kernel)⟩
theorem lw_p2 : lw_okq (⟨"PalletNets", "keep", "(LPalletNets$State;)V"⟩, 15) := ⟨⟨by decide +kernel, by decide +kernel⟩, List.mem_of_getElem? (i := 14) (by decide +kernel), List.mem_of_getElem? (i := 269) (by decide +kernel), List.mem_of_getElem? (i := 270) (by decide +kernel)⟩
theorem lw_p3 : lw_okq (⟨"PalletNets", "renew", "()V"⟩, 15) := ⟨⟨by decide +kernel, by decide +kernel⟩, List.mem_of_getElem? (i := 14) (by decide +kernel), List.mem_of_getElem? (i := 289) (by decide +kernel), List.mem_of_getElem? (i := 290) (by decide +kernel)⟩
theorem lw_p4 : lw_okq (⟨"PalletNets", "forget", "()V"⟩, 15) := ⟨⟨by decide +kernel, by decide +kernel⟩, List.mem_of_getElem? (i := 14) (by decide +kernel), List.mem_of_getElem? (i := 297) (by decide +kernel), List.mem_of_getElem? (i := 298) (by decide +kernel)⟩
theorem lw_p5 : lw_okq (⟨"PalletNets", "isStep", "(I)Z"⟩, 15) := ⟨⟨by decide +kernel, by decide +kernel⟩, List.mem_of_getElem? (i := 14) (by decide +kernel), List.mem_of_getElem? (i := 313) (by decide +kernel), List.mem_of_getElem? (i := 314) (by decide +kernel)⟩
theorem lw_p6 : lw_okq (⟨"PalletNets", "isPlace", "(I)Z"⟩, 15) := ⟨⟨by decide +kernel, by decide +kernel⟩, List.mem_of_getElem? (i := 14) (by decide +kernel), List.mem_of_getElem? (i := 317) (by decide +kernel), List.mem_of_getElem? (i := 318) (by decide +kernel)⟩
theorem lw_p7 : lw_okq (⟨"PalletNets", "homeSearch", "()LPalletNets$Search;"⟩, 15) := ⟨⟨by decide +kernel, by decide +kernel⟩, List.mem_of_getElem? (i := 14) (by decide +kernel), List.mem_of_getElem? (i := 379) (by decide +kernel), List.mem_of_getElem? (i := 380) (by decide +kernel)⟩
theorem lw_p8 : lw_okq (⟨"PalletNets$Search", "enter", "(JI)I"⟩, 7) := ⟨⟨by decide +kernel, by decide +kernel⟩, List.mem_of_getElem? (i := 92) (by decide +kernel), List.mem_of_getElem? (i := 395) (by decide +kernel), List.mem_of_getElem? (i := 396) (by decide +kernel)⟩
theorem lw_p9 : lw_okq (⟨"PalletNets$Search", "slotOf", "(J)I"⟩, 7) := ⟨⟨by decide +kernel, by decide +kernel⟩, List.mem_of_getElem? (i := 92) (by decide +kernel), List.mem_of_getElem? (i := 399) (by decide +kernel), List.mem_of_getElem? (i := 400) (by decide +kernel)⟩
theorem lw_p10 : lw_okq (⟨"PalletNets$State", "bars", "(IJJ)Z"⟩, 12) := ⟨⟨by decide +kernel, by decide +kernel⟩, List.mem_of_getElem? (i := 22) (by decide +kernel), List.mem_of_getElem? (i := 419) (by decide +kernel), List.mem_of_getElem? (i := 420) (by decide +kernel)⟩
theorem lw_p11 : lw_okq (⟨"PalletNets", "analyse", "()V"⟩, 15) := ⟨⟨by decide +kernel, by decide +kernel⟩, List.mem_of_getElem? (i := 14) (by decide +kernel), List.mem_of_getElem? (i := 441) (by decide +kernel), List.mem_of_getElem? (i := 442) (by decide +kernel)⟩
theorem lw_p12 : lw_okq (⟨"PalletNets$Invariants", "balance", "(JJ)V"⟩, 7) := ⟨⟨by decide +kernel, by decide +kernel⟩, List.mem_of_getElem? (i := 124) (by decide +kernel), List.mem_of_getElem? (i := 452) (by decide +kernel), List.mem_of_getElem? (i := 453) (by decide +kernel)⟩
theorem lw_p13 : lw_okq (⟨"PalletNets$Invariants", "addCombined", "(IJIJ)V"⟩, 7) := ⟨⟨by decide +kernel, by decide +kernel⟩, List.mem_of_getElem? (i := 124) (by decide +kernel), List.mem_of_getElem? (i := 461) (by decide +kernel), List.mem_of_getElem? (i := 462) (by decide +kernel)⟩
theorem lw_p14 : lw_okq (⟨"PalletNets$Invariants", "areAdjacent", "(II)Z"⟩, 7) := ⟨⟨by decide +kernel, by decide +kernel⟩, List.mem_of_getElem? (i := 124) (by decide +kernel), List.mem_of_getElem? (i := 468) (by decide +kernel), List.mem_of_getElem? (i := 469) (by decide +kernel)⟩
theorem lw_p15 : lw_okq (⟨"PalletNets$Invariants", "exchange", "()V"⟩, 7) := ⟨⟨by decide +kernel, by decide +kernel⟩, List.mem_of_getElem? (i := 124) (by decide +kernel), List.mem_of_getElem? (i := 472) (by decide +kernel), List.mem_of_getElem? (i := 473) (by decide +kernel)⟩
def lw_privs_1 : List (MethodName × Nat) := [(⟨"PalletNets", "refuse", "(I)I"⟩, 15), (⟨"PalletNets", "save", "()V"⟩, 15), (⟨"PalletNets", "keep", "(LPalletNets$State;)V"⟩, 15), (⟨"PalletNets", "renew", "()V"⟩, 15), (⟨"PalletNets", "forget", "()V"⟩, 15), (⟨"PalletNets", "isStep", "(I)Z"⟩, 15), (⟨"PalletNets", "isPlace", "(I)Z"⟩, 15), (⟨"PalletNets", "homeSearch", "()LPalletNets$Search;"⟩, 15), (⟨"PalletNets$Search", "enter", "(JI)I"⟩, 7), (⟨"PalletNets$Search", "slotOf", "(J)I"⟩, 7), (⟨"PalletNets$State", "bars", "(IJJ)Z"⟩, 12), (⟨"PalletNets", "analyse", "()V"⟩, 15), (⟨"PalletNets$Invariants", "balance", "(JJ)V"⟩, 7), (⟨"PalletNets$Invariants", "addCombined", "(IJIJ)V"⟩, 7), (⟨"PalletNets$Invariants", "areAdjacent", "(II)Z"⟩, 7), (⟨"PalletNets$Invariants", "exchange", "()V"⟩, 7)]
theorem lw_r1 : ∀ q ∈ lw_privs_1, lw_okq q := List.forall_mem_cons.mpr ⟨lw_p0, List.forall_mem_cons.mpr ⟨lw_p1, List.forall_mem_cons.mpr ⟨lw_p2, List.forall_mem_cons.mpr ⟨lw_p3, List.forall_mem_cons.mpr ⟨lw_p4, List.forall_mem_cons.mpr ⟨lw_p5, List.forall_mem_cons.mpr ⟨lw_p6, List.forall_mem_cons.mpr ⟨lw_p7, List.forall_mem_cons.mpr ⟨lw_p8, List.forall_mem_cons.mpr ⟨lw_p9, List.forall_mem_cons.mpr ⟨lw_p10, List.forall_mem_cons.mpr ⟨lw_p11, List.forall_mem_cons.mpr ⟨lw_p12, List.forall_mem_cons.mpr ⟨lw_p13, List.forall_mem_cons.mpr ⟨lw_p14, List.forall_mem_cons.mpr ⟨lw_p15, fun _ h => absurd h List.not_mem_nil⟩⟩⟩⟩⟩⟩⟩⟩⟩⟩⟩⟩⟩⟩⟩⟩
theorem lw_p16 : lw_okq (⟨"PalletNets$Invariants", "orderBySupport", "()V"⟩, 7) := ⟨⟨by decide +kernel, by decide +kernel⟩, List.mem_of_getElem? (i := 124) (by decide +kernel), List.mem_of_getElem? (i := 476) (by decide +kernel), List.mem_of_getElem? (i := 477) (by decide +kernel)⟩
theorem lw_p17 : lw_okq (⟨"PalletNets$Siphons", "holdsFormer", "(I)Z"⟩, 6) := ⟨⟨by decide +kernel, by decide +kernel⟩, List.mem_of_getElem? (i := 156) (by decide +kernel), List.mem_of_getElem? (i := 496) (by decide +kernel), List.mem_of_getElem? (i := 497) (by decide +kernel)⟩
theorem lw_p18 : lw_okq (⟨"PalletNets$Siphons", "orderBySize", "()V"⟩, 6) := ⟨⟨by decide +kernel, by decide +kernel⟩, List.mem_of_getElem? (i := 156) (by decide +kernel), List.mem_of_getElem? (i := 500) (by decide +kernel), List.mem_of_getElem? (i := 501) (by decide +kernel)⟩
theorem lw_p19 : lw_okq (⟨"PalletNets", "hindrance", "(I)I"⟩, 15) := ⟨⟨by decide +kernel, by decide +kernel⟩, List.mem_of_getElem? (i := 14) (by decide +kernel), List.mem_of_getElem? (i := 548) (by decide +kernel), List.mem_of_getElem? (i := 549) (by decide +kernel)⟩
theorem lw_p20 : lw_okq (⟨"PalletNets", "chosen", "(I)I"⟩, 15) := ⟨⟨by decide +kernel, by decide +kernel⟩, List.mem_of_getElem? (i := 14) (by decide +kernel), List.mem_of_getElem? (i := 563) (by decide +kernel), List.mem_of_getElem? (i := 564) (by decide +kernel)⟩
theorem lw_p21 : lw_okq (⟨"PalletNets", "isSafe", "(I)Z"⟩, 15) := ⟨⟨by decide +kernel, by decide +kernel⟩, List.mem_of_getElem? (i := 14) (by decide +kernel), List.mem_of_getElem? (i := 610) (by decide +kernel), List.mem_of_getElem? (i := 611) (by decide +kernel)⟩
theorem lw_p22 : lw_okq (⟨"PalletNets", "isSet", "(I)Z"⟩, 15) := ⟨⟨by decide +kernel, by decide +kernel⟩, List.mem_of_getElem? (i := 14) (by decide +kernel), List.mem_of_getElem? (i := 618) (by decide +kernel), List.mem_of_getElem? (i := 619) (by decide +kernel)⟩
theorem lw_p23 : lw_okq (⟨"PalletNets", "isGuard", "(I)Z"⟩, 15) := ⟨⟨by decide +kernel, by decide +kernel⟩, List.mem_of_getElem? (i := 14) (by decide +kernel), List.mem_of_getElem? (i := 648) (by decide +kernel), List.mem_of_getElem? (i := 649) (by decide +kernel)⟩
theorem lw_p24 : lw_okq (⟨"PalletNets$Search", "shorten", "(LPalletNets$State;I)Z"⟩, 7) := ⟨⟨by decide +kernel, by decide +kernel⟩, List.mem_of_getElem? (i := 92) (by decide +kernel), List.mem_of_getElem? (i := 685) (by decide +kernel), List.mem_of_getElem? (i := 686) (by decide +kernel)⟩
theorem lw_p25 : lw_okq (⟨"PalletNets$Search", "wayOver", "(LPalletNets$State;II)I"⟩, 7) := ⟨⟨by decide +kernel, by decide +kernel⟩, List.mem_of_getElem? (i := 92) (by decide +kernel), List.mem_of_getElem? (i := 689) (by decide +kernel), List.mem_of_getElem? (i := 690) (by decide +kernel)⟩
theorem lw_p26 : lw_okq (⟨"PalletNets$Reader", "skipSpaces", "()V"⟩, 5) := ⟨⟨by decide +kernel, by decide +kernel⟩, List.mem_of_getElem? (i := 183) (by decide +kernel), List.mem_of_getElem? (i := 734) (by decide +kernel), List.mem_of_getElem? (i := 735) (by decide +kernel)⟩
theorem lw_p27 : lw_okq (⟨"PalletNets$Reader", "readOrder", "(LPalletNets$State;)V"⟩, 5) := ⟨⟨by decide +kernel, by decide +kernel⟩, List.mem_of_getElem? (i := 183) (by decide +kernel), List.mem_of_getElem? (i := 738) (by decide +kernel), List.mem_of_getElem? (i := 739) (by decide +kernel)⟩
theorem lw_p28 : lw_okq (⟨"PalletNets$Reader", "next", "()I"⟩, 5) := ⟨⟨by decide +kernel, by decide +kernel⟩, List.mem_of_getElem? (i := 183) (by decide +kernel), List.mem_of_getElem? (i := 742) (by decide +kernel), List.mem_of_getElem? (i := 743) (by decide +kernel)⟩
theorem lw_p29 : lw_okq (⟨"PalletNets$Reader", "readPlace", "(LPalletNets$State;)V"⟩, 5) := ⟨⟨by decide +kernel, by decide +kernel⟩, List.mem_of_getElem? (i := 183) (by decide +kernel), List.mem_of_getElem? (i := 746) (by decide +kernel), List.mem_of_getElem? (i := 747) (by decide +kernel)⟩
theorem lw_p30 : lw_okq (⟨"PalletNets$Reader", "readDigit", "(II)I"⟩, 5) := ⟨⟨by decide +kernel, by decide +kernel⟩, List.mem_of_getElem? (i := 183) (by decide +kernel), List.mem_of_getElem? (i := 750) (by decide +kernel), List.mem_of_getElem? (i := 751) (by decide +kernel)⟩
theorem lw_p31 : lw_okq (⟨"PalletNets$Reader", "fail", "(I)V"⟩, 5) := ⟨⟨by decide +kernel, by decide +kernel⟩, List.mem_of_getElem? (i := 183) (by decide +kernel), List.mem_of_getElem? (i := 755) (by decide +kernel), List.mem_of_getElem? (i := 756) (by decide +kernel)⟩
def lw_privs_2 : List (MethodName × Nat) := [(⟨"PalletNets$Invariants", "orderBySupport", "()V"⟩, 7), (⟨"PalletNets$Siphons", "holdsFormer", "(I)Z"⟩, 6), (⟨"PalletNets$Siphons", "orderBySize", "()V"⟩, 6), (⟨"PalletNets", "hindrance", "(I)I"⟩, 15), (⟨"PalletNets", "chosen", "(I)I"⟩, 15), (⟨"PalletNets", "isSafe", "(I)Z"⟩, 15), (⟨"PalletNets", "isSet", "(I)Z"⟩, 15), (⟨"PalletNets", "isGuard", "(I)Z"⟩, 15), (⟨"PalletNets$Search", "shorten", "(LPalletNets$State;I)Z"⟩, 7), (⟨"PalletNets$Search", "wayOver", "(LPalletNets$State;II)I"⟩, 7), (⟨"PalletNets$Reader", "skipSpaces", "()V"⟩, 5), (⟨"PalletNets$Reader", "readOrder", "(LPalletNets$State;)V"⟩, 5), (⟨"PalletNets$Reader", "next", "()I"⟩, 5), (⟨"PalletNets$Reader", "readPlace", "(LPalletNets$State;)V"⟩, 5), (⟨"PalletNets$Reader", "readDigit", "(II)I"⟩, 5), (⟨"PalletNets$Reader", "fail", "(I)V"⟩, 5)]
theorem lw_r2 : ∀ q ∈ lw_privs_2, lw_okq q := List.forall_mem_cons.mpr ⟨lw_p16, List.forall_mem_cons.mpr ⟨lw_p17, List.forall_mem_cons.mpr ⟨lw_p18, List.forall_mem_cons.mpr ⟨lw_p19, List.forall_mem_cons.mpr ⟨lw_p20, List.forall_mem_cons.mpr ⟨lw_p21, List.forall_mem_cons.mpr ⟨lw_p22, List.forall_mem_cons.mpr ⟨lw_p23, List.forall_mem_cons.mpr ⟨lw_p24, List.forall_mem_cons.mpr ⟨lw_p25, List.forall_mem_cons.mpr ⟨lw_p26, List.forall_mem_cons.mpr ⟨lw_p27, List.forall_mem_cons.mpr ⟨lw_p28, List.forall_mem_cons.mpr ⟨lw_p29, List.forall_mem_cons.mpr ⟨lw_p30, List.forall_mem_cons.mpr ⟨lw_p31, fun _ h => absurd h List.not_mem_nil⟩⟩⟩⟩⟩⟩⟩⟩⟩⟩⟩⟩⟩⟩⟩⟩
theorem lw_p32 : lw_okq (⟨"PalletNets$Reader", "expect", "(I)V"⟩, 5) := ⟨⟨by decide +kernel, by decide +kernel⟩, List.mem_of_getElem? (i := 183) (by decide +kernel), List.mem_of_getElem? (i := 762) (by decide +kernel), List.mem_of_getElem? (i := 763) (by decide +kernel)⟩
theorem lw_p33 : lw_okq (⟨"PalletNets$Reader", "readStep", "(LPalletNets$State;)V"⟩, 5) := ⟨⟨by decide +kernel, by decide +kernel⟩, List.mem_of_getElem? (i := 183) (by decide +kernel), List.mem_of_getElem? (i := 768) (by decide +kernel), List.mem_of_getElem? (i := 769) (by decide +kernel)⟩
theorem lw_p34 : lw_okq (⟨"PalletNets$Reader", "readArcs", "(I)J"⟩, 5) := ⟨⟨by decide +kernel, by decide +kernel⟩, List.mem_of_getElem? (i := 183) (by decide +kernel), List.mem_of_getElem? (i := 772) (by decide +kernel), List.mem_of_getElem? (i := 773) (by decide +kernel)⟩
theorem lw_p35 : lw_okq (⟨"PalletNets$Reader", "readLine", "(LPalletNets$State;)V"⟩, 5) := ⟨⟨by decide +kernel, by decide +kernel⟩, List.mem_of_getElem? (i := 183) (by decide +kernel), List.mem_of_getElem? (i := 779) (by decide +kernel), List.mem_of_getElem? (i := 780) (by decide +kernel)⟩
theorem lw_p36 : lw_okq (⟨"PalletNets$Reader", "readGuard", "(LPalletNets$State;)V"⟩, 5) := ⟨⟨by decide +kernel, by decide +kernel⟩, List.mem_of_getElem? (i := 183) (by decide +kernel), List.mem_of_getElem? (i := 785) (by decide +kernel), List.mem_of_getElem? (i := 786) (by decide +kernel)⟩
theorem lw_p37 : lw_okq (⟨"PalletNetsModel", "bad", "()I"⟩, 30) := ⟨⟨by decide +kernel, by decide +kernel⟩, List.mem_of_getElem? (i := 813) (by decide +kernel), List.mem_of_getElem? (i := 918) (by decide +kernel), List.mem_of_getElem? (i := 919) (by decide +kernel)⟩
theorem lw_p38 : lw_okq (⟨"PalletNetsModel", "full", "()I"⟩, 30) := ⟨⟨by decide +kernel, by decide +kernel⟩, List.mem_of_getElem? (i := 813) (by decide +kernel), List.mem_of_getElem? (i := 922) (by decide +kernel), List.mem_of_getElem? (i := 923) (by decide +kernel)⟩
theorem lw_p39 : lw_okq (⟨"PalletNetsModel", "keepsState", "()V"⟩, 30) := ⟨⟨by decide +kernel, by decide +kernel⟩, List.mem_of_getElem? (i := 813) (by decide +kernel), List.mem_of_getElem? (i := 926) (by decide +kernel), List.mem_of_getElem? (i := 927) (by decide +kernel)⟩
theorem lw_p40 : lw_okq (⟨"PalletNetsModel", "isStep", "(I)Z"⟩, 30) := ⟨⟨by decide +kernel, by decide +kernel⟩, List.mem_of_getElem? (i := 813) (by decide +kernel), List.mem_of_getElem? (i := 947) (by decide +kernel), List.mem_of_getElem? (i := 948) (by decide +kernel)⟩
theorem lw_p41 : lw_okq (⟨"PalletNetsModel", "isPlace", "(I)Z"⟩, 30) := ⟨⟨by decide +kernel, by decide +kernel⟩, List.mem_of_getElem? (i := 813) (by decide +kernel), List.mem_of_getElem? (i := 951) (by decide +kernel), List.mem_of_getElem? (i := 952) (by decide +kernel)⟩
theorem lw_p42 : lw_okq (⟨"PalletNetsModel", "draws", "(I)I"⟩, 30) := ⟨⟨by decide +kernel, by decide +kernel⟩, List.mem_of_getElem? (i := 813) (by decide +kernel), List.mem_of_getElem? (i := 975) (by decide +kernel), List.mem_of_getElem? (i := 976) (by decide +kernel)⟩
theorem lw_p43 : lw_okq (⟨"PalletNetsModel", "searches", "(JI)V"⟩, 30) := ⟨⟨by decide +kernel, by decide +kernel⟩, List.mem_of_getElem? (i := 813) (by decide +kernel), List.mem_of_getElem? (i := 986) (by decide +kernel), List.mem_of_getElem? (i := 987) (by decide +kernel)⟩
theorem lw_p44 : lw_okq (⟨"PalletNetsModel", "why", "(JII)I"⟩, 30) := ⟨⟨by decide +kernel, by decide +kernel⟩, List.mem_of_getElem? (i := 813) (by decide +kernel), List.mem_of_getElem? (i := 990) (by decide +kernel), List.mem_of_getElem? (i := 991) (by decide +kernel)⟩
theorem lw_p45 : lw_okq (⟨"PalletNetsModel", "roomFor", "(JI)I"⟩, 30) := ⟨⟨by decide +kernel, by decide +kernel⟩, List.mem_of_getElem? (i := 813) (by decide +kernel), List.mem_of_getElem? (i := 994) (by decide +kernel), List.mem_of_getElem? (i := 995) (by decide +kernel)⟩
theorem lw_p46 : lw_okq (⟨"PalletNetsModel", "bars", "(IJI)Z"⟩, 30) := ⟨⟨by decide +kernel, by decide +kernel⟩, List.mem_of_getElem? (i := 813) (by decide +kernel), List.mem_of_getElem? (i := 1002) (by decide +kernel), List.mem_of_getElem? (i := 1003) (by decide +kernel)⟩
theorem lw_p47 : lw_okq (⟨"PalletNetsModel", "together", "(JI)I"⟩, 30) := ⟨⟨by decide +kernel, by decide +kernel⟩, List.mem_of_getElem? (i := 813) (by decide +kernel), List.mem_of_getElem? (i := 1006) (by decide +kernel), List.mem_of_getElem? (i := 1007) (by decide +kernel)⟩
def lw_privs_3 : List (MethodName × Nat) := [(⟨"PalletNets$Reader", "expect", "(I)V"⟩, 5), (⟨"PalletNets$Reader", "readStep", "(LPalletNets$State;)V"⟩, 5), (⟨"PalletNets$Reader", "readArcs", "(I)J"⟩, 5), (⟨"PalletNets$Reader", "readLine", "(LPalletNets$State;)V"⟩, 5), (⟨"PalletNets$Reader", "readGuard", "(LPalletNets$State;)V"⟩, 5), (⟨"PalletNetsModel", "bad", "()I"⟩, 30), (⟨"PalletNetsModel", "full", "()I"⟩, 30), (⟨"PalletNetsModel", "keepsState", "()V"⟩, 30), (⟨"PalletNetsModel", "isStep", "(I)Z"⟩, 30), (⟨"PalletNetsModel", "isPlace", "(I)Z"⟩, 30), (⟨"PalletNetsModel", "draws", "(I)I"⟩, 30), (⟨"PalletNetsModel", "searches", "(JI)V"⟩, 30), (⟨"PalletNetsModel", "why", "(JII)I"⟩, 30), (⟨"PalletNetsModel", "roomFor", "(JI)I"⟩, 30), (⟨"PalletNetsModel", "bars", "(IJI)Z"⟩, 30), (⟨"PalletNetsModel", "together", "(JI)I"⟩, 30)]
theorem lw_r3 : ∀ q ∈ lw_privs_3, lw_okq q := List.forall_mem_cons.mpr ⟨lw_p32, List.forall_mem_cons.mpr ⟨lw_p33, List.forall_mem_cons.mpr ⟨lw_p34, List.forall_mem_cons.mpr ⟨lw_p35, List.forall_mem_cons.mpr ⟨lw_p36, List.forall_mem_cons.mpr ⟨lw_p37, List.forall_mem_cons.mpr ⟨lw_p38, List.forall_mem_cons.mpr ⟨lw_p39, List.forall_mem_cons.mpr ⟨lw_p40, List.forall_mem_cons.mpr ⟨lw_p41, List.forall_mem_cons.mpr ⟨lw_p42, List.forall_mem_cons.mpr ⟨lw_p43, List.forall_mem_cons.mpr ⟨lw_p44, List.forall_mem_cons.mpr ⟨lw_p45, List.forall_mem_cons.mpr ⟨lw_p46, List.forall_mem_cons.mpr ⟨lw_p47, fun _ h => absurd h List.not_mem_nil⟩⟩⟩⟩⟩⟩⟩⟩⟩⟩⟩⟩⟩⟩⟩⟩
theorem lw_p48 : lw_okq (⟨"PalletNetsModel", "behind", "(JI)J"⟩, 30) := ⟨⟨by decide +kernel, by decide +kernel⟩, List.mem_of_getElem? (i := 813) (by decide +kernel), List.mem_of_getElem? (i := 1013) (by decide +kernel), List.mem_of_getElem? (i := 1014) (by decide +kernel)⟩
theorem lw_p49 : lw_okq (⟨"PalletNetsModel", "placeIn", "(J)I"⟩, 30) := ⟨⟨by decide +kernel, by decide +kernel⟩, List.mem_of_getElem? (i := 813) (by decide +kernel), List.mem_of_getElem? (i := 1017) (by decide +kernel), List.mem_of_getElem? (i := 1018) (by decide +kernel)⟩
theorem lw_p50 : lw_okq (⟨"PalletNetsModel", "stepIs", "(II)I"⟩, 30) := ⟨⟨by decide +kernel, by decide +kernel⟩, List.mem_of_getElem? (i := 813) (by decide +kernel), List.mem_of_getElem? (i := 1033) (by decide +kernel), List.mem_of_getElem? (i := 1034) (by decide +kernel)⟩
theorem lw_p51 : lw_okq (⟨"PalletNetsModel", "standing", "(I)I"⟩, 30) := ⟨⟨by decide +kernel, by decide +kernel⟩, List.mem_of_getElem? (i := 813) (by decide +kernel), List.mem_of_getElem? (i := 1041) (by decide +kernel), List.mem_of_getElem? (i := 1042) (by decide +kernel)⟩
theorem lw_p52 : lw_okq (⟨"PalletNetsModel", "tokensFrom", "(I)J"⟩, 30) := ⟨⟨by decide +kernel, by decide +kernel⟩, List.mem_of_getElem? (i := 813) (by decide +kernel), List.mem_of_getElem? (i := 1045) (by decide +kernel), List.mem_of_getElem? (i := 1046) (by decide +kernel)⟩
theorem lw_p53 : lw_okq (⟨"PalletNetsModel", "no", "()I"⟩, 30) := ⟨⟨by decide +kernel, by decide +kernel⟩, List.mem_of_getElem? (i := 813) (by decide +kernel), List.mem_of_getElem? (i := 1053) (by decide +kernel), List.mem_of_getElem? (i := 1054) (by decide +kernel)⟩
theorem lw_p54 : lw_okq (⟨"PalletNetsModel", "lets", "(I)V"⟩, 30) := ⟨⟨by decide +kernel, by decide +kernel⟩, List.mem_of_getElem? (i := 813) (by decide +kernel), List.mem_of_getElem? (i := 1057) (by decide +kernel), List.mem_of_getElem? (i := 1058) (by decide +kernel)⟩
theorem lw_p55 : lw_okq (⟨"PalletNetsModel", "canMany", "()I"⟩, 30) := ⟨⟨by decide +kernel, by decide +kernel⟩, List.mem_of_getElem? (i := 813) (by decide +kernel), List.mem_of_getElem? (i := 1061) (by decide +kernel), List.mem_of_getElem? (i := 1062) (by decide +kernel)⟩
theorem lw_p56 : lw_okq (⟨"PalletNetsModel", "chosen", "(I)I"⟩, 30) := ⟨⟨by decide +kernel, by decide +kernel⟩, List.mem_of_getElem? (i := 813) (by decide +kernel), List.mem_of_getElem? (i := 1069) (by decide +kernel), List.mem_of_getElem? (i := 1070) (by decide +kernel)⟩
theorem lw_p57 : lw_okq (⟨"PalletNetsModel", "placesSet", "()I"⟩, 30) := ⟨⟨by decide +kernel, by decide +kernel⟩, List.mem_of_getElem? (i := 813) (by decide +kernel), List.mem_of_getElem? (i := 1077) (by decide +kernel), List.mem_of_getElem? (i := 1078) (by decide +kernel)⟩
theorem lw_p58 : lw_okq (⟨"PalletNetsModel", "laySums", "()V"⟩, 30) := ⟨⟨by decide +kernel, by decide +kernel⟩, List.mem_of_getElem? (i := 813) (by decide +kernel), List.mem_of_getElem? (i := 1097) (by decide +kernel), List.mem_of_getElem? (i := 1098) (by decide +kernel)⟩
theorem lw_p59 : lw_okq (⟨"PalletNetsModel", "isSum", "(I)Z"⟩, 30) := ⟨⟨by decide +kernel, by decide +kernel⟩, List.mem_of_getElem? (i := 813) (by decide +kernel), List.mem_of_getElem? (i := 1101) (by decide +kernel), List.mem_of_getElem? (i := 1102) (by decide +kernel)⟩
theorem lw_p60 : lw_okq (⟨"PalletNetsModel", "solves", "(I)I"⟩, 30) := ⟨⟨by decide +kernel, by decide +kernel⟩, List.mem_of_getElem? (i := 813) (by decide +kernel), List.mem_of_getElem? (i := 1105) (by decide +kernel), List.mem_of_getElem? (i := 1106) (by decide +kernel)⟩
theorem lw_p61 : lw_okq (⟨"PalletNetsModel", "shortens", "(I)V"⟩, 30) := ⟨⟨by decide +kernel, by decide +kernel⟩, List.mem_of_getElem? (i := 813) (by decide +kernel), List.mem_of_getElem? (i := 1109) (by decide +kernel), List.mem_of_getElem? (i := 1110) (by decide +kernel)⟩
theorem lw_p62 : lw_okq (⟨"PalletNetsModel", "swaps", "(II)V"⟩, 30) := ⟨⟨by decide +kernel, by decide +kernel⟩, List.mem_of_getElem? (i := 813) (by decide +kernel), List.mem_of_getElem? (i := 1116) (by decide +kernel), List.mem_of_getElem? (i := 1117) (by decide +kernel)⟩
theorem lw_p63 : lw_okq (⟨"PalletNetsModel", "takesOff", "(III)V"⟩, 30) := ⟨⟨by decide +kernel, by decide +kernel⟩, List.mem_of_getElem? (i := 813) (by decide +kernel), List.mem_of_getElem? (i := 1120) (by decide +kernel), List.mem_of_getElem? (i := 1121) (by decide +kernel)⟩
def lw_privs_4 : List (MethodName × Nat) := [(⟨"PalletNetsModel", "behind", "(JI)J"⟩, 30), (⟨"PalletNetsModel", "placeIn", "(J)I"⟩, 30), (⟨"PalletNetsModel", "stepIs", "(II)I"⟩, 30), (⟨"PalletNetsModel", "standing", "(I)I"⟩, 30), (⟨"PalletNetsModel", "tokensFrom", "(I)J"⟩, 30), (⟨"PalletNetsModel", "no", "()I"⟩, 30), (⟨"PalletNetsModel", "lets", "(I)V"⟩, 30), (⟨"PalletNetsModel", "canMany", "()I"⟩, 30), (⟨"PalletNetsModel", "chosen", "(I)I"⟩, 30), (⟨"PalletNetsModel", "placesSet", "()I"⟩, 30), (⟨"PalletNetsModel", "laySums", "()V"⟩, 30), (⟨"PalletNetsModel", "isSum", "(I)Z"⟩, 30), (⟨"PalletNetsModel", "solves", "(I)I"⟩, 30), (⟨"PalletNetsModel", "shortens", "(I)V"⟩, 30), (⟨"PalletNetsModel", "swaps", "(II)V"⟩, 30), (⟨"PalletNetsModel", "takesOff", "(III)V"⟩, 30)]
theorem lw_r4 : ∀ q ∈ lw_privs_4, lw_okq q := List.forall_mem_cons.mpr ⟨lw_p48, List.forall_mem_cons.mpr ⟨lw_p49, List.forall_mem_cons.mpr ⟨lw_p50, List.forall_mem_cons.mpr ⟨lw_p51, List.forall_mem_cons.mpr ⟨lw_p52, List.forall_mem_cons.mpr ⟨lw_p53, List.forall_mem_cons.mpr ⟨lw_p54, List.forall_mem_cons.mpr ⟨lw_p55, List.forall_mem_cons.mpr ⟨lw_p56, List.forall_mem_cons.mpr ⟨lw_p57, List.forall_mem_cons.mpr ⟨lw_p58, List.forall_mem_cons.mpr ⟨lw_p59, List.forall_mem_cons.mpr ⟨lw_p60, List.forall_mem_cons.mpr ⟨lw_p61, List.forall_mem_cons.mpr ⟨lw_p62, List.forall_mem_cons.mpr ⟨lw_p63, fun _ h => absurd h List.not_mem_nil⟩⟩⟩⟩⟩⟩⟩⟩⟩⟩⟩⟩⟩⟩⟩⟩
theorem lw_p64 : lw_okq (⟨"PalletNetsModel", "worth", "(IJ)I"⟩, 30) := ⟨⟨by decide +kernel, by decide +kernel⟩, List.mem_of_getElem? (i := 813) (by decide +kernel), List.mem_of_getElem? (i := 1135) (by decide +kernel), List.mem_of_getElem? (i := 1136) (by decide +kernel)⟩
theorem lw_p65 : lw_okq (⟨"PalletNetsModel", "bound", "(I)I"⟩, 30) := ⟨⟨by decide +kernel, by decide +kernel⟩, List.mem_of_getElem? (i := 813) (by decide +kernel), List.mem_of_getElem? (i := 1143) (by decide +kernel), List.mem_of_getElem? (i := 1144) (by decide +kernel)⟩
theorem lw_p66 : lw_okq (⟨"PalletNetsModel", "extreme", "(IZ)I"⟩, 30) := ⟨⟨by decide +kernel, by decide +kernel⟩, List.mem_of_getElem? (i := 813) (by decide +kernel), List.mem_of_getElem? (i := 1147) (by decide +kernel), List.mem_of_getElem? (i := 1148) (by decide +kernel)⟩
theorem lw_p67 : lw_okq (⟨"PalletNetsModel", "searchesHome", "()V"⟩, 30) := ⟨⟨by decide +kernel, by decide +kernel⟩, List.mem_of_getElem? (i := 813) (by decide +kernel), List.mem_of_getElem? (i := 1151) (by decide +kernel), List.mem_of_getElem? (i := 1152) (by decide +kernel)⟩
theorem lw_p68 : lw_okq (⟨"PalletNetsModel", "layStucks", "()V"⟩, 30) := ⟨⟨by decide +kernel, by decide +kernel⟩, List.mem_of_getElem? (i := 813) (by decide +kernel), List.mem_of_getElem? (i := 1159) (by decide +kernel), List.mem_of_getElem? (i := 1160) (by decide +kernel)⟩
theorem lw_p69 : lw_okq (⟨"PalletNetsModel", "layArcs", "()V"⟩, 30) := ⟨⟨by decide +kernel, by decide +kernel⟩, List.mem_of_getElem? (i := 813) (by decide +kernel), List.mem_of_getElem? (i := 1163) (by decide +kernel), List.mem_of_getElem? (i := 1164) (by decide +kernel)⟩
theorem lw_p70 : lw_okq (⟨"PalletNetsModel", "isStuck", "(I)Z"⟩, 30) := ⟨⟨by decide +kernel, by decide +kernel⟩, List.mem_of_getElem? (i := 813) (by decide +kernel), List.mem_of_getElem? (i := 1167) (by decide +kernel), List.mem_of_getElem? (i := 1168) (by decide +kernel)⟩
theorem lw_p71 : lw_okq (⟨"PalletNetsModel", "isLeast", "(I)Z"⟩, 30) := ⟨⟨by decide +kernel, by decide +kernel⟩, List.mem_of_getElem? (i := 813) (by decide +kernel), List.mem_of_getElem? (i := 1171) (by decide +kernel), List.mem_of_getElem? (i := 1172) (by decide +kernel)⟩
theorem lw_p72 : lw_okq (⟨"PalletNetsModel", "held", "(I)I"⟩, 30) := ⟨⟨by decide +kernel, by decide +kernel⟩, List.mem_of_getElem? (i := 813) (by decide +kernel), List.mem_of_getElem? (i := 1179) (by decide +kernel), List.mem_of_getElem? (i := 1180) (by decide +kernel)⟩
theorem lw_p73 : lw_okq (⟨"PalletNetsModel", "isKept", "(I)Z"⟩, 30) := ⟨⟨by decide +kernel, by decide +kernel⟩, List.mem_of_getElem? (i := 813) (by decide +kernel), List.mem_of_getElem? (i := 1183) (by decide +kernel), List.mem_of_getElem? (i := 1184) (by decide +kernel)⟩
theorem lw_p74 : lw_okq (⟨"PalletNetsModel", "isSafe", "(I)Z"⟩, 30) := ⟨⟨by decide +kernel, by decide +kernel⟩, List.mem_of_getElem? (i := 813) (by decide +kernel), List.mem_of_getElem? (i := 1187) (by decide +kernel), List.mem_of_getElem? (i := 1188) (by decide +kernel)⟩
theorem lw_p75 : lw_okq (⟨"PalletNetsModel", "fewest", "(I)I"⟩, 30) := ⟨⟨by decide +kernel, by decide +kernel⟩, List.mem_of_getElem? (i := 813) (by decide +kernel), List.mem_of_getElem? (i := 1191) (by decide +kernel), List.mem_of_getElem? (i := 1192) (by decide +kernel)⟩
theorem lw_p76 : lw_okq (⟨"PalletNetsModel", "isGuarded", "(I)Z"⟩, 30) := ⟨⟨by decide +kernel, by decide +kernel⟩, List.mem_of_getElem? (i := 813) (by decide +kernel), List.mem_of_getElem? (i := 1210) (by decide +kernel), List.mem_of_getElem? (i := 1211) (by decide +kernel)⟩
theorem lw_p77 : lw_okq (⟨"PalletNetsModel", "barredBy", "(I)I"⟩, 30) := ⟨⟨by decide +kernel, by decide +kernel⟩, List.mem_of_getElem? (i := 813) (by decide +kernel), List.mem_of_getElem? (i := 1222) (by decide +kernel), List.mem_of_getElem? (i := 1223) (by decide +kernel)⟩
theorem lw_p78 : lw_okq (⟨"PalletNetsModel", "isNeedless", "(I)Z"⟩, 30) := ⟨⟨by decide +kernel, by decide +kernel⟩, List.mem_of_getElem? (i := 813) (by decide +kernel), List.mem_of_getElem? (i := 1226) (by decide +kernel), List.mem_of_getElem? (i := 1227) (by decide +kernel)⟩
theorem lw_p79 : lw_okq (⟨"PalletNetsModel", "allIs", "(I)I"⟩, 30) := ⟨⟨by decide +kernel, by decide +kernel⟩, List.mem_of_getElem? (i := 813) (by decide +kernel), List.mem_of_getElem? (i := 1234) (by decide +kernel), List.mem_of_getElem? (i := 1235) (by decide +kernel)⟩
def lw_privs_5 : List (MethodName × Nat) := [(⟨"PalletNetsModel", "worth", "(IJ)I"⟩, 30), (⟨"PalletNetsModel", "bound", "(I)I"⟩, 30), (⟨"PalletNetsModel", "extreme", "(IZ)I"⟩, 30), (⟨"PalletNetsModel", "searchesHome", "()V"⟩, 30), (⟨"PalletNetsModel", "layStucks", "()V"⟩, 30), (⟨"PalletNetsModel", "layArcs", "()V"⟩, 30), (⟨"PalletNetsModel", "isStuck", "(I)Z"⟩, 30), (⟨"PalletNetsModel", "isLeast", "(I)Z"⟩, 30), (⟨"PalletNetsModel", "held", "(I)I"⟩, 30), (⟨"PalletNetsModel", "isKept", "(I)Z"⟩, 30), (⟨"PalletNetsModel", "isSafe", "(I)Z"⟩, 30), (⟨"PalletNetsModel", "fewest", "(I)I"⟩, 30), (⟨"PalletNetsModel", "isGuarded", "(I)Z"⟩, 30), (⟨"PalletNetsModel", "barredBy", "(I)I"⟩, 30), (⟨"PalletNetsModel", "isNeedless", "(I)Z"⟩, 30), (⟨"PalletNetsModel", "allIs", "(I)I"⟩, 30)]
theorem lw_r5 : ∀ q ∈ lw_privs_5, lw_okq q := List.forall_mem_cons.mpr ⟨lw_p64, List.forall_mem_cons.mpr ⟨lw_p65, List.forall_mem_cons.mpr ⟨lw_p66, List.forall_mem_cons.mpr ⟨lw_p67, List.forall_mem_cons.mpr ⟨lw_p68, List.forall_mem_cons.mpr ⟨lw_p69, List.forall_mem_cons.mpr ⟨lw_p70, List.forall_mem_cons.mpr ⟨lw_p71, List.forall_mem_cons.mpr ⟨lw_p72, List.forall_mem_cons.mpr ⟨lw_p73, List.forall_mem_cons.mpr ⟨lw_p74, List.forall_mem_cons.mpr ⟨lw_p75, List.forall_mem_cons.mpr ⟨lw_p76, List.forall_mem_cons.mpr ⟨lw_p77, List.forall_mem_cons.mpr ⟨lw_p78, List.forall_mem_cons.mpr ⟨lw_p79, fun _ h => absurd h List.not_mem_nil⟩⟩⟩⟩⟩⟩⟩⟩⟩⟩⟩⟩⟩⟩⟩⟩
theorem lw_p80 : lw_okq (⟨"PalletNetsModel", "isClosed", "()Z"⟩, 30) := ⟨⟨by decide +kernel, by decide +kernel⟩, List.mem_of_getElem? (i := 813) (by decide +kernel), List.mem_of_getElem? (i := 1238) (by decide +kernel), List.mem_of_getElem? (i := 1239) (by decide +kernel)⟩
theorem lw_p81 : lw_okq (⟨"PalletNetsModel", "layWays", "()V"⟩, 30) := ⟨⟨by decide +kernel, by decide +kernel⟩, List.mem_of_getElem? (i := 813) (by decide +kernel), List.mem_of_getElem? (i := 1242) (by decide +kernel), List.mem_of_getElem? (i := 1243) (by decide +kernel)⟩
theorem lw_p82 : lw_okq (⟨"PalletNetsModel", "layNext", "()V"⟩, 30) := ⟨⟨by decide +kernel, by decide +kernel⟩, List.mem_of_getElem? (i := 813) (by decide +kernel), List.mem_of_getElem? (i := 1246) (by decide +kernel), List.mem_of_getElem? (i := 1247) (by decide +kernel)⟩
theorem lw_p83 : lw_okq (⟨"PalletNetsModel", "leads", "(II)I"⟩, 30) := ⟨⟨by decide +kernel, by decide +kernel⟩, List.mem_of_getElem? (i := 813) (by decide +kernel), List.mem_of_getElem? (i := 1250) (by decide +kernel), List.mem_of_getElem? (i := 1251) (by decide +kernel)⟩
theorem lw_p84 : lw_okq (⟨"PalletNetsModel", "canAt", "(I)I"⟩, 30) := ⟨⟨by decide +kernel, by decide +kernel⟩, List.mem_of_getElem? (i := 813) (by decide +kernel), List.mem_of_getElem? (i := 1254) (by decide +kernel), List.mem_of_getElem? (i := 1255) (by decide +kernel)⟩
theorem lw_p85 : lw_okq (⟨"PalletNetsModel", "layFar", "()V"⟩, 30) := ⟨⟨by decide +kernel, by decide +kernel⟩, List.mem_of_getElem? (i := 813) (by decide +kernel), List.mem_of_getElem? (i := 1267) (by decide +kernel), List.mem_of_getElem? (i := 1268) (by decide +kernel)⟩
theorem lw_p86 : lw_okq (⟨"PalletNetsModel", "look", "()I"⟩, 30) := ⟨⟨by decide +kernel, by decide +kernel⟩, List.mem_of_getElem? (i := 813) (by decide +kernel), List.mem_of_getElem? (i := 1283) (by decide +kernel), List.mem_of_getElem? (i := 1284) (by decide +kernel)⟩
theorem lw_p87 : lw_okq (⟨"PalletNetsModel", "readsOrder", "()Z"⟩, 30) := ⟨⟨by decide +kernel, by decide +kernel⟩, List.mem_of_getElem? (i := 813) (by decide +kernel), List.mem_of_getElem? (i := 1287) (by decide +kernel), List.mem_of_getElem? (i := 1288) (by decide +kernel)⟩
theorem lw_p88 : lw_okq (⟨"PalletNetsModel", "take", "()I"⟩, 30) := ⟨⟨by decide +kernel, by decide +kernel⟩, List.mem_of_getElem? (i := 813) (by decide +kernel), List.mem_of_getElem? (i := 1291) (by decide +kernel), List.mem_of_getElem? (i := 1292) (by decide +kernel)⟩
theorem lw_p89 : lw_okq (⟨"PalletNetsModel", "readsPlace", "()Z"⟩, 30) := ⟨⟨by decide +kernel, by decide +kernel⟩, List.mem_of_getElem? (i := 813) (by decide +kernel), List.mem_of_getElem? (i := 1295) (by decide +kernel), List.mem_of_getElem? (i := 1296) (by decide +kernel)⟩
theorem lw_p90 : lw_okq (⟨"PalletNetsModel", "readsStep", "()Z"⟩, 30) := ⟨⟨by decide +kernel, by decide +kernel⟩, List.mem_of_getElem? (i := 813) (by decide +kernel), List.mem_of_getElem? (i := 1299) (by decide +kernel), List.mem_of_getElem? (i := 1300) (by decide +kernel)⟩
theorem lw_p91 : lw_okq (⟨"PalletNetsModel", "readsArcs", "(I)I"⟩, 30) := ⟨⟨by decide +kernel, by decide +kernel⟩, List.mem_of_getElem? (i := 813) (by decide +kernel), List.mem_of_getElem? (i := 1303) (by decide +kernel), List.mem_of_getElem? (i := 1304) (by decide +kernel)⟩
theorem lw_p92 : lw_okq (⟨"PalletNetsModel", "isThere", "(I)Z"⟩, 30) := ⟨⟨by decide +kernel, by decide +kernel⟩, List.mem_of_getElem? (i := 813) (by decide +kernel), List.mem_of_getElem? (i := 1307) (by decide +kernel), List.mem_of_getElem? (i := 1308) (by decide +kernel)⟩
theorem lw_p93 : lw_okq (⟨"PalletNetsModel", "readsLine", "()Z"⟩, 30) := ⟨⟨by decide +kernel, by decide +kernel⟩, List.mem_of_getElem? (i := 813) (by decide +kernel), List.mem_of_getElem? (i := 1311) (by decide +kernel), List.mem_of_getElem? (i := 1312) (by decide +kernel)⟩
theorem lw_p94 : lw_okq (⟨"PalletNetsModel", "readsGuard", "()Z"⟩, 30) := ⟨⟨by decide +kernel, by decide +kernel⟩, List.mem_of_getElem? (i := 813) (by decide +kernel), List.mem_of_getElem? (i := 1315) (by decide +kernel), List.mem_of_getElem? (i := 1316) (by decide +kernel)⟩
theorem lw_p95 : lw_okq (⟨"PalletNetsModel", "toldOf", "(I)I"⟩, 30) := ⟨⟨by decide +kernel, by decide +kernel⟩, List.mem_of_getElem? (i := 813) (by decide +kernel), List.mem_of_getElem? (i := 1327) (by decide +kernel), List.mem_of_getElem? (i := 1328) (by decide +kernel)⟩
def lw_privs_6 : List (MethodName × Nat) := [(⟨"PalletNetsModel", "isClosed", "()Z"⟩, 30), (⟨"PalletNetsModel", "layWays", "()V"⟩, 30), (⟨"PalletNetsModel", "layNext", "()V"⟩, 30), (⟨"PalletNetsModel", "leads", "(II)I"⟩, 30), (⟨"PalletNetsModel", "canAt", "(I)I"⟩, 30), (⟨"PalletNetsModel", "layFar", "()V"⟩, 30), (⟨"PalletNetsModel", "look", "()I"⟩, 30), (⟨"PalletNetsModel", "readsOrder", "()Z"⟩, 30), (⟨"PalletNetsModel", "take", "()I"⟩, 30), (⟨"PalletNetsModel", "readsPlace", "()Z"⟩, 30), (⟨"PalletNetsModel", "readsStep", "()Z"⟩, 30), (⟨"PalletNetsModel", "readsArcs", "(I)I"⟩, 30), (⟨"PalletNetsModel", "isThere", "(I)Z"⟩, 30), (⟨"PalletNetsModel", "readsLine", "()Z"⟩, 30), (⟨"PalletNetsModel", "readsGuard", "()Z"⟩, 30), (⟨"PalletNetsModel", "toldOf", "(I)I"⟩, 30)]
theorem lw_r6 : ∀ q ∈ lw_privs_6, lw_okq q := List.forall_mem_cons.mpr ⟨lw_p80, List.forall_mem_cons.mpr ⟨lw_p81, List.forall_mem_cons.mpr ⟨lw_p82, List.forall_mem_cons.mpr ⟨lw_p83, List.forall_mem_cons.mpr ⟨lw_p84, List.forall_mem_cons.mpr ⟨lw_p85, List.forall_mem_cons.mpr ⟨lw_p86, List.forall_mem_cons.mpr ⟨lw_p87, List.forall_mem_cons.mpr ⟨lw_p88, List.forall_mem_cons.mpr ⟨lw_p89, List.forall_mem_cons.mpr ⟨lw_p90, List.forall_mem_cons.mpr ⟨lw_p91, List.forall_mem_cons.mpr ⟨lw_p92, List.forall_mem_cons.mpr ⟨lw_p93, List.forall_mem_cons.mpr ⟨lw_p94, List.forall_mem_cons.mpr ⟨lw_p95, fun _ h => absurd h List.not_mem_nil⟩⟩⟩⟩⟩⟩⟩⟩⟩⟩⟩⟩⟩⟩⟩⟩
def lw_privs : List (MethodName × Nat) := lw_privs_1 ++ (lw_privs_2 ++ (lw_privs_3 ++ (lw_privs_4 ++ (lw_privs_5 ++ (lw_privs_6)))))
def lw_tbl : List Cond := k2_sels lw_privs ++ tables_1
theorem lw_privs_ok : ∀ q ∈ lw_privs, lw_okq q := by
  show ∀ q ∈ lw_privs_1 ++ (lw_privs_2 ++ (lw_privs_3 ++ (lw_privs_4 ++ (lw_privs_5 ++ (lw_privs_6))))), lw_okq q
  exact List.forall_mem_append.mpr ⟨lw_r1, List.forall_mem_append.mpr ⟨lw_r2, List.forall_mem_append.mpr ⟨lw_r3, List.forall_mem_append.mpr ⟨lw_r4, List.forall_mem_append.mpr ⟨lw_r5, lw_r6⟩⟩⟩⟩⟩
end
section
/-! THE ABSTRACT MACHINE: a typed memory, straight instructions as effects, blocks, a run by fuel, and the total 'kW'. Nothing here speaks of the class. -/
/-- memory: int, long and reference slots, by cell and place -/
abbrev km_M : Type := (Nat → Nat → Int32) × (Nat → Nat → Int64) × (Nat → Nat → Nat)
abbrev km_L : Type := List (Option Value)
/-- an instruction with what its operands mean: length, three numbers, an int, a long, a switch's pairs -/
abbrev km_I : Type := Instr × Nat × Nat × Nat × Nat × Int32 × Int64 × List (Int32 × Nat)
/-- a block: its pc, which locals live there, its instructions -/
abbrev km_B : Type := Nat × List Bool × List km_I
/-- a method: its locals, whether it answers a boolean, its blocks -/
abbrev km_P : Type := Nat × Bool × List km_B
abbrev km_K : Type := Option Value → km_M → Prop
def km_up {α : Type} (f : Nat → Nat → α) (a k : Nat) (v : α) : Nat → Nat → α := fun b j => if b = a ∧ j = k then v else f b j
def km_cp {α : Type} (f : Nat → Nat → α) (a b sp dp n : Nat) : Nat → Nat → α := fun c j => if c = b then va_cpy (f a) (f b) sp dp n j else f c j
def km_get : km_L → Nat → Option Value
  | [], _ => none
  | x :: _, 0 => x
  | _ :: r, n + 1 => km_get r n
def km_set : km_L → Nat → Option Value → km_L
  | [], _, _ => []
  | _ :: r, 0, v => v :: r
  | x :: r, n + 1, v => x :: km_set r n v
def km_kill : km_L → Nat → km_L
  | lv, 0 => lv
  | lv, i + 1 => match km_get lv i with
    | some (.long _) => km_set lv i none
    | _ => lv
def km_st1 (lv : km_L) (i : Nat) (v : Value) : km_L := km_set (km_kill lv i) i (some v)
def km_st2 (lv : km_L) (i : Nat) (v : Value) : km_L := km_set (km_set (km_kill lv i) i (some v)) (i + 1) none
def km_len : km_L → Nat
  | [] => 0
  | _ :: r => km_len r + 1
def km_wd : List Value → Nat
  | [] => 0
  | .long _ :: r => km_wd r + 2
  | .double _ :: r => km_wd r + 2
  | _ :: r => km_wd r + 1
def km_mask : List Bool → km_L → km_L
  | _, [] => []
  | [], _ :: r => none :: km_mask [] r
  | true :: b, x :: r => x :: km_mask b r
  | false :: b, _ :: r => none :: km_mask b r
def km_ent : Nat → List Value → km_L
  | 0, _ => []
  | n + 1, [] => none :: km_ent n []
  | n + 1, .long x :: r => some (.long x) :: (match n with
    | 0 => []
    | k + 1 => none :: km_ent k r)
  | n + 1, v :: r => some v :: km_ent n r
def km_ld (z : Nat) (M : km_M) (a y : Nat) : Value := match z with
  | 1 => .long (M.2.1 a y)
  | 2 => .ref (M.2.2 a y)
  | _ => .int (M.1 a y)
def km_and : List Prop → Prop → Prop
  | [], Q => Q
  | p :: r, Q => p ∧ km_and r Q
theorem km_and_iff {ps : List Prop} {Q : Prop} : km_and ps Q ↔ (∀ p ∈ ps, p) ∧ Q := by
  induction ps with
  | nil => simp [km_and]
  | cons p r ih => simp only [km_and, ih, List.forall_mem_cons, and_assoc]
/-- the effect of a straight instruction: what it asks, and locals, stack and memory behind it -/
def kS (sh : Nat → Nat × Nat) : km_I → km_L → List Value → km_M → Option (List Prop × km_L × List Value × km_M)
  | (i, n, x, y, z, c, w, t), lv, st, M => match i with
    | .iconst _ => some ([], lv, .int c :: st, M)
    | .bipush _ => some ([], lv, .int c :: st, M)
    | .sipush _ => some ([], lv, .int c :: st, M)
    | .ldc _ => some ([], lv, .int c :: st, M)
    | .ldc_w _ => some ([], lv, .int c :: st, M)
    | .lconst _ => some ([], lv, .long w :: st, M)
    | .ldc2_w _ => some ([], lv, .long w :: st, M)
    | .iload _ => match km_get lv x with
      | some (.int v) => some ([], lv, .int v :: st, M)
      | _ => none
    | .iload_n _ => match km_get lv x with
      | some (.int v) => some ([], lv, .int v :: st, M)
      | _ => none
    | .lload _ => match km_get lv x with
      | some (.long v) => some ([], lv, .long v :: st, M)
      | _ => none
    | .lload_n _ => match km_get lv x with
      | some (.long v) => some ([], lv, .long v :: st, M)
      | _ => none
    | .aload _ => match km_get lv x with
      | some (.ref v) => some ([], lv, .ref v :: st, M)
      | _ => none
    | .aload_n _ => match km_get lv x with
      | some (.ref v) => some ([], lv, .ref v :: st, M)
      | _ => none
    | .istore _ => match st with
      | .int v :: s => match Nat.blt x (km_len lv) with
        | true => some ([], km_st1 lv x (.int v), s, M)
        | false => none
      | _ => none
    | .istore_n _ => match st with
      | .int v :: s => match Nat.blt x (km_len lv) with
        | true => some ([], km_st1 lv x (.int v), s, M)
        | false => none
      | _ => none
    | .astore _ => match st with
      | .ref v :: s => match Nat.blt x (km_len lv) with
        | true => some ([], km_st1 lv x (.ref v), s, M)
        | false => none
      | _ => none
    | .astore_n _ => match st with
      | .ref v :: s => match Nat.blt x (km_len lv) with
        | true => some ([], km_st1 lv x (.ref v), s, M)
        | false => none
      | _ => none
    | .lstore _ => match st with
      | .long v :: s => match Nat.blt (x + 1) (km_len lv) with
        | true => some ([], km_st2 lv x (.long v), s, M)
        | false => none
      | _ => none
    | .lstore_n _ => match st with
      | .long v :: s => match Nat.blt (x + 1) (km_len lv) with
        | true => some ([], km_st2 lv x (.long v), s, M)
        | false => none
      | _ => none
    | .iinc _ _ => match km_get lv x with
      | some (.int v) => match Nat.blt x (km_len lv) with
        | true => some ([], km_st1 lv x (.int (v + c)), st, M)
        | false => none
      | _ => none
    | .iadd => match st with
      | .int b :: .int a :: s => some ([], lv, .int (a + b) :: s, M)
      | _ => none
    | .isub => match st with
      | .int b :: .int a :: s => some ([], lv, .int (a - b) :: s, M)
      | _ => none
    | .imul => match st with
      | .int b :: .int a :: s => some ([], lv, .int (a * b) :: s, M)
      | _ => none
    | .iand => match st with
      | .int b :: .int a :: s => some ([], lv, .int (a &&& b) :: s, M)
      | _ => none
    | .ior => match st with
      | .int b :: .int a :: s => some ([], lv, .int (a ||| b) :: s, M)
      | _ => none
    | .ixor => match st with
      | .int b :: .int a :: s => some ([], lv, .int (a ^^^ b) :: s, M)
      | _ => none
    | .idiv => match st with
      | .int b :: .int a :: s => some ([¬ b = 0], lv, .int (a / b) :: s, M)
      | _ => none
    | .irem => match st with
      | .int b :: .int a :: s => some ([¬ b = 0], lv, .int (a - a / b * b) :: s, M)
      | _ => none
    | .ishl => match st with
      | .int b :: .int a :: s => some ([], lv, .int (a <<< (b &&& 31)) :: s, M)
      | _ => none
    | .ishr => match st with
      | .int b :: .int a :: s => some ([], lv, .int (a >>> (b &&& 31)) :: s, M)
      | _ => none
    | .iushr => match st with
      | .int b :: .int a :: s => some ([], lv, .int (a.toUInt32 >>> (b.toUInt32 &&& Int32.toUInt32 31)).toInt32 :: s, M)
      | _ => none
    | .ladd => match st with
      | .long b :: .long a :: s => some ([], lv, .long (a + b) :: s, M)
      | _ => none
    | .lsub => match st with
      | .long b :: .long a :: s => some ([], lv, .long (a - b) :: s, M)
      | _ => none
    | .lmul => match st with
      | .long b :: .long a :: s => some ([], lv, .long (a * b) :: s, M)
      | _ => none
    | .land => match st with
      | .long b :: .long a :: s => some ([], lv, .long (a &&& b) :: s, M)
      | _ => none
    | .lor => match st with
      | .long b :: .long a :: s => some ([], lv, .long (a ||| b) :: s, M)
      | _ => none
    | .lxor => match st with
      | .long b :: .long a :: s => some ([], lv, .long (a ^^^ b) :: s, M)
      | _ => none
    | .ldiv => match st with
      | .long b :: .long a :: s => some ([¬ b = 0], lv, .long (a / b) :: s, M)
      | _ => none
    | .lrem => match st with
      | .long b :: .long a :: s => some ([¬ b = 0], lv, .long (a - a / b * b) :: s, M)
      | _ => none
    | .lneg => match st with
      | .long a :: s => some ([], lv, .long (-a) :: s, M)
      | _ => none
    | .lshl => match st with
      | .int b :: .long a :: s => some ([], lv, .long (a <<< (b.toInt64 &&& 63)) :: s, M)
      | _ => none
    | .lshr => match st with
      | .int b :: .long a :: s => some ([], lv, .long (a >>> (b.toInt64 &&& 63)) :: s, M)
      | _ => none
    | .lushr => match st with
      | .int b :: .long a :: s => some ([], lv, .long (a.toUInt64 >>> (b.toInt64.toUInt64 &&& Int64.toUInt64 63)).toInt64 :: s, M)
      | _ => none
    | .lcmp => match st with
      | .long b :: .long a :: s => some ([], lv, .int (lg_cmp a b) :: s, M)
      | _ => none
    | .i2l => match st with
      | .int a :: s => some ([], lv, .long a.toInt64 :: s, M)
      | _ => none
    | .l2i => match st with
      | .long a :: s => some ([], lv, .int a.toInt32 :: s, M)
      | _ => none
    | .dup => match st with
      | .int a :: s => some ([], lv, .int a :: .int a :: s, M)
      | .ref a :: s => some ([], lv, .ref a :: .ref a :: s, M)
      | _ => none
    | .dup2 => match st with
      | .int b :: .ref a :: s => some ([], lv, .int b :: .ref a :: .int b :: .ref a :: s, M)
      | _ => none
    | .pop => match st with
      | .int a :: s => some ([], lv, s, M)
      | .ref a :: s => some ([], lv, s, M)
      | _ => none
    | .getfield _ => match st with
      | .ref a :: s => some ([(sh a).1 = x], lv, km_ld z M a y :: s, M)
      | _ => none
    | .putfield _ => match z, st with
      | 0, .int v :: .ref a :: s => some ([(sh a).1 = x], lv, s, (km_up M.1 a y v, M.2.1, M.2.2))
      | 1, .long v :: .ref a :: s => some ([(sh a).1 = x], lv, s, (M.1, km_up M.2.1 a y v, M.2.2))
      | 2, .ref v :: .ref a :: s => some ([(sh a).1 = x], lv, s, (M.1, M.2.1, km_up M.2.2 a y v))
      | 3, .int v :: .ref a :: s => some ([(sh a).1 = x, v = 0 ∨ v = 1], lv, s, (km_up M.1 a y v, M.2.1, M.2.2))
      | _, _ => none
    | .iaload => match st with
      | .int j :: .ref a :: s => some ([(sh a).1 = 10, vp_in j (sh a).2], lv, .int (M.1 a j.toNatClampNeg) :: s, M)
      | _ => none
    | .laload => match st with
      | .int j :: .ref a :: s => some ([(sh a).1 = 11, vp_in j (sh a).2], lv, .long (M.2.1 a j.toNatClampNeg) :: s, M)
      | _ => none
    | .baload => match st with
      | .int j :: .ref a :: s => some ([(sh a).1 = 12, vp_in j (sh a).2], lv, .int (M.1 a j.toNatClampNeg) :: s, M)
      | _ => none
    | .aaload => match st with
      | .int j :: .ref a :: s => some ([(sh a).1 = x, x = 13 ∨ x = 14, vp_in j (sh a).2], lv, .ref (M.2.2 a j.toNatClampNeg) :: s, M)
      | _ => none
    | .iastore => match st with
      | .int v :: .int j :: .ref a :: s => some ([(sh a).1 = 10, vp_in j (sh a).2], lv, s, (km_up M.1 a j.toNatClampNeg v, M.2.1, M.2.2))
      | _ => none
    | .lastore => match st with
      | .long v :: .int j :: .ref a :: s => some ([(sh a).1 = 11, vp_in j (sh a).2], lv, s, (M.1, km_up M.2.1 a j.toNatClampNeg v, M.2.2))
      | _ => none
    | .bastore => match st with
      | .int v :: .int j :: .ref a :: s => some ([(sh a).1 = 12, vp_in j (sh a).2, v = 0 ∨ v = 1], lv, s, (km_up M.1 a j.toNatClampNeg v, M.2.1, M.2.2))
      | _ => none
    | .aastore => match st with
      | .ref v :: .int j :: .ref a :: s => some ([(sh a).1 = x, (x = 13 ∧ (sh v).1 = 4) ∨ (x = 14 ∧ (sh v).1 = 11), vp_in j (sh a).2], lv, s, (M.1, M.2.1, km_up M.2.2 a j.toNatClampNeg v))
      | _ => none
    | .arraylength => match st with
      | .ref a :: s => some ([(sh a).1 = x, x = 10 ∨ x = 11], lv, .int (Int32.ofNat (sh a).2) :: s, M)
      | _ => none
    | .invokestatic _ => match z, st with
      | 10, .int k :: .int dp :: .ref b :: .int sp :: .ref a :: s => match Nat.ble (km_wd s) 8 with
        | true => some ([(sh a).1 = 10, (sh b).1 = 10, ¬ sp < 0, ¬ dp < 0, ¬ k < 0, sp.toNatClampNeg + k.toNatClampNeg ≤ (sh a).2, dp.toNatClampNeg + k.toNatClampNeg ≤ (sh b).2], lv, s, (km_cp M.1 a b sp.toNatClampNeg dp.toNatClampNeg k.toNatClampNeg, M.2.1, M.2.2))
        | false => none
      | 11, .int k :: .int dp :: .ref b :: .int sp :: .ref a :: s => match Nat.ble (km_wd s) 8 with
        | true => some ([(sh a).1 = 11, (sh b).1 = 11, ¬ sp < 0, ¬ dp < 0, ¬ k < 0, sp.toNatClampNeg + k.toNatClampNeg ≤ (sh a).2, dp.toNatClampNeg + k.toNatClampNeg ≤ (sh b).2], lv, s, (M.1, km_cp M.2.1 a b sp.toNatClampNeg dp.toNatClampNeg k.toNatClampNeg, M.2.2))
        | false => none
      | _, _ => none
    | _ => none
/-- a branch: when it is taken, when not, and the stack behind it -/
def kQ : Instr → List Value → Option (Prop × Prop × List Value)
  | .if_icmp .eq _, .int b :: .int a :: s => some (a = b, ¬ a = b, s)
  | .if_icmp .ne _, .int b :: .int a :: s => some (¬ a = b, a = b, s)
  | .if_icmp .lt _, .int b :: .int a :: s => some (a < b, ¬ a < b, s)
  | .if_icmp .ge _, .int b :: .int a :: s => some (b ≤ a, ¬ b ≤ a, s)
  | .if_icmp .gt _, .int b :: .int a :: s => some (b < a, ¬ b < a, s)
  | .if_icmp .le _, .int b :: .int a :: s => some (a ≤ b, ¬ a ≤ b, s)
  | .ifCond .eq _, .int a :: s => some (a = 0, ¬ a = 0, s)
  | .ifCond .ne _, .int a :: s => some (¬ a = 0, a = 0, s)
  | .ifCond .lt _, .int a :: s => some (a < 0, ¬ a < 0, s)
  | .ifCond .ge _, .int a :: s => some (0 ≤ a, ¬ 0 ≤ a, s)
  | .ifCond .gt _, .int a :: s => some (0 < a, ¬ 0 < a, s)
  | .ifCond .le _, .int a :: s => some (a ≤ 0, ¬ a ≤ 0, s)
  | _, _ => none
/-- a switch: by its pairs, then by none of them -/
def kT (lv : km_L) (s : List Value) (v : Int32) : List (Int32 × Nat) → Nat → List Prop → List (Prop × Nat × km_L × List Value)
  | [], d, ns => [(km_and ns True, d, lv, s)]
  | (k, t) :: r, d, ns => (v = k, t, lv, s) :: kT lv s v r d ((¬ v = k) :: ns)
/-- the callee's arguments off the stack -/
def kZ : Nat → List Value → List Value → Option (List Value × List Value)
  | 0, st, acc => some (acc, st)
  | n + 1, v :: s, acc => kZ n s (v :: acc)
  | _ + 1, [], _ => none
abbrev km_J : Type := List (Prop × Nat × km_L × List Value)
/-- how a block ends: it goes on, it branches, it returns, it calls -/
abbrev km_O : Type := (Nat × km_L × List Value) ⊕ km_J ⊕ (List Prop × Option Value) ⊕ (List Prop × Nat × List Value × Nat × km_L × List Value)
def kO (sh : Nat → Nat × Nat) (rz : Bool) : km_I → Nat → km_L → List Value → Option km_O
  | (i, n, x, y, z, c, w, t), pc, lv, st => match i with
    | .goto _ => some (.inl (x, lv, st))
    | .if_icmp _ _ => match kQ i st with
      | some (P, Q, s) => some (.inr (.inl [(P, x, lv, s), (Q, pc + n, lv, s)]))
      | none => none
    | .ifCond _ _ => match kQ i st with
      | some (P, Q, s) => some (.inr (.inl [(P, x, lv, s), (Q, pc + n, lv, s)]))
      | none => none
    | .tableswitch _ _ _ _ => match st with
      | .int v :: s => some (.inr (.inl (kT lv s v t x [])))
      | _ => none
    | .lookupswitch _ _ => match st with
      | .int v :: s => some (.inr (.inl (kT lv s v t x [])))
      | _ => none
    | .ireturn => match st with
      | [.int v] => match rz with
        | true => some (.inr (.inr (.inl ([v = 0 ∨ v = 1], some (.int v)))))
        | false => some (.inr (.inr (.inl ([], some (.int v)))))
      | _ => none
    | .lreturn => match st with
      | [.long v] => some (.inr (.inr (.inl ([], some (.long v)))))
      | _ => none
    | .areturn => match st with
      | [.ref v] => some (.inr (.inr (.inl ([], some (.ref v)))))
      | _ => none
    | .return_ => match st with
      | [] => some (.inr (.inr (.inl ([], none))))
      | _ => none
    | .invokevirtual _ => match kZ y st [] with
      | some (.ref a :: as, s) => match Nat.ble (km_wd s) 8 with
        | true => some (.inr (.inr (.inr ([(sh a).1 = z], x, .ref a :: as, pc + n, lv, s))))
        | false => none
      | _ => none
    | .invokestatic _ => match kZ y st [] with
      | some (as, s) => match Nat.ble (km_wd s) 8 with
        | true => some (.inr (.inr (.inr ([], x, as, pc + n, lv, s))))
        | false => none
      | none => none
    | _ => none
abbrev km_G : Type := Nat → km_L → List Value → km_M → Prop
abbrev km_C : Type := Nat → List Value → km_M → km_K → Prop
/-- one branch holds, and goes on -/
def kJo (G : km_G) (M : km_M) : km_J → Prop
  | [] => False
  | j :: r => (j.1 ∧ G j.2.1 j.2.2.1 j.2.2.2 M) ∨ kJo G M r
/-- every branch that holds goes on -/
def kJa (G : km_G) (M : km_M) : km_J → Prop
  | [] => True
  | [j] => j.1 → G j.2.1 j.2.2.1 j.2.2.2 M
  | j :: r => (j.1 → G j.2.1 j.2.2.1 j.2.2.2 M) ∧ kJa G M r
def kX (Jm : km_G → km_M → km_J → Prop) (G : km_G) (Rt : km_K) (Cl : km_C) (o : km_O) (M : km_M) : Prop := match o with
  | .inl (pc, lv, s) => G pc lv s M
  | .inr (.inl js) => Jm G M js
  | .inr (.inr (.inl (ps, v))) => km_and ps (Rt v M)
  | .inr (.inr (.inr (ps, m, as, pc, lv, s))) => km_and ps (Cl m as M (fun v M1 => G pc lv (v.toList ++ s) M1))
def kB (sh : Nat → Nat × Nat) (rz : Bool) (Jm : km_G → km_M → km_J → Prop) (G : km_G) (Rt : km_K) (Cl : km_C) : List km_I → Nat → km_L → List Value → km_M → Prop
  | [], pc, lv, st, M => G pc lv st M
  | it :: r, pc, lv, st, M => match kS sh it lv st M with
    | some (ps, lv', st', M') => km_and ps (kB sh rz Jm G Rt Cl r (pc + it.2.1) lv' st' M')
    | none => match kO sh rz it pc lv st with
      | some o => kX Jm G Rt Cl o M
      | none => False
def kF : Nat → List km_B → Option km_B
  | _, [] => none
  | pc, b :: r => match Nat.beq pc b.1 with
    | true => some b
    | false => kF pc r
def kMk (P : km_P) (pc : Nat) : List Bool := match kF pc P.2.2 with
  | some b => b.2.1
  | none => []
def kIn (P : km_P) (as : List Value) : km_L := km_mask (kMk P 0) (km_ent P.1 as)
def kEq (v : Option Value) (M : km_M) : km_K := fun v' M' => v' = v ∧ M' = M
/-- a run by fuel -/
def kG (sh : Nat → Nat × Nat) (pg : Nat → km_P) : Nat → Nat → Nat → km_L → List Value → km_M → km_K → Prop
  | 0, _, _, _, _, _, _ => False
  | f + 1, mid, pc, lv, st, M, K => match kF pc (pg mid).2.2 with
    | none => False
    | some b => kB sh (pg mid).2.1 kJo (fun pc lv st M => kG sh pg f mid pc (km_mask (kMk (pg mid) pc) lv) st M K) K (fun m as M' K' => ∃ v M1, kG sh pg f m 0 (kIn (pg m) as) [] M' (kEq v M1) ∧ K' v M1) b.2.2 pc lv st M
/-- it ends, and K holds of the answer and the memory -/
def kW (sh : Nat → Nat × Nat) (pg : Nat → km_P) (mid pc : Nat) (lv : km_L) (st : List Value) (M : km_M) (K : km_K) : Prop := ∃ f, kG sh pg f mid pc lv st M K
def kC (sh : Nat → Nat × Nat) (pg : Nat → km_P) (mid : Nat) (as : List Value) (M : km_M) (K : km_K) : Prop := kW sh pg mid 0 (kIn (pg mid) as) [] M K
end
section
/-! LAWS OF THE ABSTRACT MACHINE: more fuel, a weaker end, one answer, and the rule by which a block is run -/
theorem kJo_mono {G G' : km_G} {M : km_M} (hG : ∀ pc lv st M, G pc lv st M → G' pc lv st M) : ∀ {js : km_J}, kJo G M js → kJo G' M js
  | [], h => h.elim
  | _ :: _, h => h.elim (fun q => Or.inl ⟨q.1, hG _ _ _ _ q.2⟩) (fun q => Or.inr (kJo_mono hG q))
theorem km_and_mono {ps : List Prop} {Q Q' : Prop} (f : Q → Q') (h : km_and ps Q) : km_and ps Q' := km_and_iff.mpr ⟨(km_and_iff.mp h).1, f (km_and_iff.mp h).2⟩
theorem kX_mono {G G' : km_G} {Rt Rt' : km_K} {Cl Cl' : km_C} (hG : ∀ pc lv st M, G pc lv st M → G' pc lv st M) (hR : ∀ v M, Rt v M → Rt' v M) (hC : ∀ m as M (K1 K2 : km_K), (∀ v M1, K1 v M1 → K2 v M1) → Cl m as M K1 → Cl' m as M K2) :
    ∀ (o : km_O) (M : km_M), kX kJo G Rt Cl o M → kX kJo G' Rt' Cl' o M
  | .inl (pc, lv, s), M, h => hG _ _ _ _ h
  | .inr (.inl js), M, h => kJo_mono hG h
  | .inr (.inr (.inl (ps, v))), M, h => km_and_mono (hR _ _) h
  | .inr (.inr (.inr (ps, m, as, pc, lv, s))), M, h => km_and_mono (hC _ _ _ _ _ (fun _ _ => hG _ _ _ _)) h
theorem kB_mono {sh : Nat → Nat × Nat} {rz : Bool} {G G' : km_G} {Rt Rt' : km_K} {Cl Cl' : km_C} (hG : ∀ pc lv st M, G pc lv st M → G' pc lv st M) (hR : ∀ v M, Rt v M → Rt' v M) (hC : ∀ m as M (K1 K2 : km_K), (∀ v M1, K1 v M1 → K2 v M1) → Cl m as M K1 → Cl' m as M K2) :
    ∀ (cs : List km_I) (pc : Nat) (lv : km_L) (st : List Value) (M : km_M), kB sh rz kJo G Rt Cl cs pc lv st M → kB sh rz kJo G' Rt' Cl' cs pc lv st M
  | [], pc, lv, st, M, h => hG _ _ _ _ h
  | it :: r, pc, lv, st, M, h => by
    unfold kB at h ⊢
    cases hs : kS sh it lv st M with
    | some q =>
      obtain ⟨ps, lv', st', M'⟩ := q
      rw [hs] at h
      exact km_and_mono (kB_mono hG hR hC r _ _ _ _) h
    | none =>
      rw [hs] at h
      cases ho : kO sh rz it pc lv st with
      | some o =>
        rw [ho] at h
        exact kX_mono hG hR hC o M h
      | none =>
        rw [ho] at h
        exact h
theorem kG_mono {sh : Nat → Nat × Nat} {pg : Nat → km_P} : ∀ (f f' : Nat), f ≤ f' → ∀ (mid pc : Nat) (lv : km_L) (st : List Value) (M : km_M) (K K' : km_K), (∀ v M1, K v M1 → K' v M1) → kG sh pg f mid pc lv st M K → kG sh pg f' mid pc lv st M K'
  | 0, _, _, _, _, _, _, _, _, _, _, h => h.elim
  | f + 1, 0, hf, _, _, _, _, _, _, _, _, _ => absurd hf (by omega)
  | f + 1, f' + 1, hf, mid, pc, lv, st, M, K, K', hK, h => by
    unfold kG at h ⊢
    cases hb : kF pc (pg mid).2.2 with
    | none => rw [hb] at h; exact h
    | some b =>
      rw [hb] at h
      refine kB_mono (fun pc lv st M q => kG_mono f f' (by omega) _ _ _ _ _ _ _ hK q) hK (fun m as M K1 K2 hk q => ?_) _ _ _ _ _ h
      obtain ⟨v, M1, q1, q2⟩ := q
      exact ⟨v, M1, kG_mono f f' (by omega) _ _ _ _ _ _ _ (fun _ _ q => q) q1, hk _ _ q2⟩
theorem kJo_exact {G : km_K → km_G} {K : km_K} {M : km_M} (hG : ∀ pc lv st M, G K pc lv st M → ∃ v M1, G (kEq v M1) pc lv st M ∧ K v M1) : ∀ {js : km_J}, kJo (G K) M js → ∃ v M1, kJo (G (kEq v M1)) M js ∧ K v M1
  | [], h => h.elim
  | _ :: _, h => by
    rcases h with ⟨h1, h2⟩ | h
    · obtain ⟨v, M1, q1, q2⟩ := hG _ _ _ _ h2
      exact ⟨v, M1, Or.inl ⟨h1, q1⟩, q2⟩
    · obtain ⟨v, M1, q1, q2⟩ := kJo_exact hG h
      exact ⟨v, M1, Or.inr q1, q2⟩
theorem kX_exact {G : km_K → km_G} {K : km_K} {Cl : km_C} (hG : ∀ pc lv st M, G K pc lv st M → ∃ v M1, G (kEq v M1) pc lv st M ∧ K v M1) (hC : ∀ m as M K', Cl m as M K' → ∃ v M1, K' v M1 ∧ ∀ K'' : km_K, K'' v M1 → Cl m as M K'') :
    ∀ (o : km_O) (M : km_M), kX kJo (G K) K Cl o M → ∃ v M1, kX kJo (G (kEq v M1)) (kEq v M1) Cl o M ∧ K v M1
  | .inl (pc, lv, s), M, h => hG _ _ _ _ h
  | .inr (.inl js), M, h => kJo_exact hG h
  | .inr (.inr (.inl (ps, v))), M, h => ⟨v, M, km_and_mono (fun _ => ⟨rfl, rfl⟩) h, (km_and_iff.mp h).2⟩
  | .inr (.inr (.inr (ps, m, as, pc, lv, s))), M, h => by
    obtain ⟨v0, M0, q1, q2⟩ := hC _ _ _ _ (km_and_iff.mp h).2
    obtain ⟨v, M1, q3, q4⟩ := hG _ _ _ _ q1
    exact ⟨v, M1, km_and_mono (fun _ => q2 _ q3) h, q4⟩
theorem kB_exact {sh : Nat → Nat × Nat} {rz : Bool} {G : km_K → km_G} {K : km_K} {Cl : km_C} (hG : ∀ pc lv st M, G K pc lv st M → ∃ v M1, G (kEq v M1) pc lv st M ∧ K v M1) (hC : ∀ m as M K', Cl m as M K' → ∃ v M1, K' v M1 ∧ ∀ K'' : km_K, K'' v M1 → Cl m as M K'') :
    ∀ (cs : List km_I) (pc : Nat) (lv : km_L) (st : List Value) (M : km_M), kB sh rz kJo (G K) K Cl cs pc lv st M → ∃ v M1, kB sh rz kJo (G (kEq v M1)) (kEq v M1) Cl cs pc lv st M ∧ K v M1
  | [], pc, lv, st, M, h => hG _ _ _ _ h
  | it :: r, pc, lv, st, M, h => by
    unfold kB at h
    cases hs : kS sh it lv st M with
    | some q =>
      obtain ⟨ps, lv', st', M'⟩ := q
      rw [hs] at h
      obtain ⟨v, M1, q1, q2⟩ := kB_exact hG hC r _ _ _ _ (km_and_iff.mp h).2
      refine ⟨v, M1, ?_, q2⟩
      unfold kB
      rw [hs]
      exact km_and_mono (fun _ => q1) h
    | none =>
      rw [hs] at h
      cases ho : kO sh rz it pc lv st with
      | some o =>
        rw [ho] at h
        obtain ⟨v, M1, q1, q2⟩ := kX_exact hG hC o M h
        refine ⟨v, M1, ?_, q2⟩
        unfold kB
        rw [hs, ho]
        exact q1
      | none =>
        rw [ho] at h
        exact h.elim
theorem kG_exact {sh : Nat → Nat × Nat} {pg : Nat → km_P} : ∀ (f mid pc : Nat) (lv : km_L) (st : List Value) (M : km_M) (K : km_K), kG sh pg f mid pc lv st M K → ∃ v M1, kG sh pg f mid pc lv st M (kEq v M1) ∧ K v M1
  | 0, _, _, _, _, _, _, h => h.elim
  | f + 1, mid, pc, lv, st, M, K, h => by
    unfold kG at h
    cases hb : kF pc (pg mid).2.2 with
    | none => rw [hb] at h; exact h.elim
    | some b =>
      rw [hb] at h
      obtain ⟨v, M1, q1, q2⟩ := kB_exact (G := fun K pc lv st M => kG sh pg f mid pc (km_mask (kMk (pg mid) pc) lv) st M K) (fun pc lv st M q => kG_exact f _ _ _ _ _ _ q) (fun m as M K' q => by
        obtain ⟨v, M1, q1, q2⟩ := q
        exact ⟨v, M1, q2, fun K'' q3 => ⟨v, M1, q1, q3⟩⟩) _ _ _ _ _ h
      refine ⟨v, M1, ?_, q2⟩
      unfold kG
      rw [hb]
      exact q1
/-- a branch or a switch has always one way that holds -/
theorem kT_some {lv : km_L} {s : List Value} {v : Int32} : ∀ (t : List (Int32 × Nat)) (d : Nat) (ns : List Prop), (∀ n ∈ ns, n) → ∃ j ∈ kT lv s v t d ns, j.1
  | [], d, ns, h => ⟨_, List.mem_cons_self, km_and_iff.mpr ⟨h, trivial⟩⟩
  | (k, t) :: r, d, ns, h => by
    by_cases hk : v = k
    · exact ⟨_, List.mem_cons_self, hk⟩
    · obtain ⟨j, h1, h2⟩ := kT_some r d ((¬ v = k) :: ns) (fun n hn => (List.mem_cons.mp hn).elim (fun e => e ▸ hk) (h n))
      exact ⟨j, List.mem_cons_of_mem _ h1, h2⟩
theorem kQ_some {i : Instr} {st s : List Value} {P Q : Prop} (h : kQ i st = some (P, Q, s)) : P ∨ Q := by
  unfold kQ at h
  split at h <;> first | (cases h; first | exact Classical.em _ | exact (Classical.em _).symm) | cases h
theorem kO_some {sh : Nat → Nat × Nat} {rz : Bool} {it : km_I} {pc : Nat} {lv : km_L} {st : List Value} {js : km_J} (h : kO sh rz it pc lv st = some (.inr (.inl js))) : ∃ j ∈ js, j.1 := by
  obtain ⟨i, n, x, y, z, c, w, t⟩ := it
  unfold kO at h
  dsimp only at h
  split at h
  · cases h
  · split at h
    · rename_i hq
      cases h
      rcases kQ_some hq with q | q
      · exact ⟨_, List.mem_cons_self, q⟩
      · exact ⟨_, List.mem_cons_of_mem _ List.mem_cons_self, q⟩
    · cases h
  · split at h
    · rename_i hq
      cases h
      rcases kQ_some hq with q | q
      · exact ⟨_, List.mem_cons_self, q⟩
      · exact ⟨_, List.mem_cons_of_mem _ List.mem_cons_self, q⟩
    · cases h
  · split at h
    · cases h
      exact kT_some _ _ _ (fun n hn => by cases hn)
    · cases h
  · split at h
    · cases h
      exact kT_some _ _ _ (fun n hn => by cases hn)
    · cases h
  all_goals (first | cases h | (split at h <;> first | cases h | (split at h <;> cases h)))
theorem kJa_at {G : km_G} {M : km_M} : ∀ {js : km_J}, kJa G M js → ∀ j ∈ js, j.1 → G j.2.1 j.2.2.1 j.2.2.2 M
  | [], _, j, hj, _ => by cases hj
  | [j0], h, j, hj, q => by
    rw [List.mem_singleton] at hj
    subst hj
    exact h q
  | j0 :: j1 :: r, h, j, hj, q => by
    rcases List.mem_cons.mp hj with e | hj
    · subst e
      exact h.1 q
    · exact kJa_at (js := j1 :: r) h.2 j hj q
theorem kJo_in {G : km_G} {M : km_M} : ∀ {js : km_J} {j : Prop × Nat × km_L × List Value}, j ∈ js → j.1 → G j.2.1 j.2.2.1 j.2.2.2 M → kJo G M js
  | [], _, h, _, _ => by cases h
  | j0 :: r, j, h, q, g => by
    rcases List.mem_cons.mp h with e | h
    · subst e
      exact Or.inl ⟨q, g⟩
    · exact Or.inr (kJo_in h q g)
/-- fuel for a block: enough for each of its ends -/
theorem kX_fuel {G : Nat → km_G} {K : km_K} {Cl : Nat → km_C} (mG : ∀ f f', f ≤ f' → ∀ pc lv st M, G f pc lv st M → G f' pc lv st M)
    (hC : ∀ f m as M (K' : km_K), (∃ v M1, K' v M1 ∧ ∀ K'' : km_K, K'' v M1 → ∀ f', f ≤ f' → Cl f' m as M K'') → True)
    {sh : Nat → Nat × Nat} {rz : Bool} {it : km_I} {pc : Nat} {lv : km_L} {st : List Value} {C : km_C}
    (cC : ∀ m as M (K' : km_K), C m as M K' → ∃ f v M1, K' v M1 ∧ ∀ (K'' : km_K) f', K'' v M1 → f ≤ f' → Cl f' m as M K'') :
    ∀ (o : km_O) (M : km_M), kO sh rz it pc lv st = some o → kX kJa (fun pc lv st M => ∃ f, G f pc lv st M) K C o M → ∃ f, kX kJo (G f) K (Cl f) o M
  | .inl (pc, lv, s), M, _, h => h
  | .inr (.inl js), M, ho, h => by
    obtain ⟨j, h1, h2⟩ := kO_some ho
    obtain ⟨f, q⟩ := kJa_at h j h1 h2
    exact ⟨f, kJo_in h1 h2 q⟩
  | .inr (.inr (.inl (ps, v))), M, _, h => ⟨0, h⟩
  | .inr (.inr (.inr (ps, m, as, pc, lv, s))), M, _, h => by
    obtain ⟨f, v, M1, ⟨f2, q1⟩, q2⟩ := cC _ _ _ _ (km_and_iff.mp h).2
    exact ⟨max f f2, km_and_mono (fun _ => q2 _ _ (mG f2 _ (Nat.le_max_right _ _) _ _ _ _ q1) (Nat.le_max_left _ _)) h⟩
theorem kB_fuel {G : Nat → km_G} {K : km_K} {Cl : Nat → km_C} (mG : ∀ f f', f ≤ f' → ∀ pc lv st M, G f pc lv st M → G f' pc lv st M)
    {sh : Nat → Nat × Nat} {rz : Bool} {C : km_C}
    (cC : ∀ m as M (K' : km_K), C m as M K' → ∃ f v M1, K' v M1 ∧ ∀ (K'' : km_K) f', K'' v M1 → f ≤ f' → Cl f' m as M K'') :
    ∀ (cs : List km_I) (pc : Nat) (lv : km_L) (st : List Value) (M : km_M), kB sh rz kJa (fun pc lv st M => ∃ f, G f pc lv st M) K C cs pc lv st M → ∃ f, kB sh rz kJo (G f) K (Cl f) cs pc lv st M
  | [], pc, lv, st, M, h => h
  | it :: r, pc, lv, st, M, h => by
    unfold kB at h
    cases hs : kS sh it lv st M with
    | some q =>
      obtain ⟨ps, lv', st', M'⟩ := q
      rw [hs] at h
      obtain ⟨f, q1⟩ := kB_fuel mG cC r _ _ _ _ (km_and_iff.mp h).2
      refine ⟨f, ?_⟩
      unfold kB
      rw [hs]
      exact km_and_mono (fun _ => q1) h
    | none =>
      rw [hs] at h
      cases ho : kO sh rz it pc lv st with
      | some o =>
        rw [ho] at h
        obtain ⟨f, q1⟩ := kX_fuel mG (fun _ _ _ _ _ _ => trivial) cC o M ho h
        refine ⟨f, ?_⟩
        unfold kB
        rw [hs, ho]
        exact q1
      | none =>
        rw [ho] at h
        exact h.elim
/-- THE RULE: a block is run, each of its ends by kW and kC -/
theorem kW_block {sh : Nat → Nat × Nat} {pg : Nat → km_P} {mid pc : Nat} {lv : km_L} {st : List Value} {M : km_M} {K : km_K} {b : km_B} (hb : kF pc (pg mid).2.2 = some b)
    (h : kB sh (pg mid).2.1 kJa (fun pc lv st M => kW sh pg mid pc (km_mask (kMk (pg mid) pc) lv) st M K) K (kC sh pg) b.2.2 pc lv st M) : kW sh pg mid pc lv st M K := by
  obtain ⟨f, q⟩ := kB_fuel (G := fun f pc lv st M => kG sh pg f mid pc (km_mask (kMk (pg mid) pc) lv) st M K) (Cl := fun f m as M' K' => ∃ v M1, kG sh pg f m 0 (kIn (pg m) as) [] M' (kEq v M1) ∧ K' v M1)
    (fun f f' hf pc lv st M q => kG_mono f f' hf _ _ _ _ _ _ _ (fun _ _ q => q) q)
    (fun m as M K' q => by
      obtain ⟨f, q⟩ := q
      obtain ⟨v, M1, q1, q2⟩ := kG_exact _ _ _ _ _ _ _ q
      exact ⟨f, v, M1, q2, fun K'' f' q3 hf => ⟨v, M1, kG_mono f f' hf _ _ _ _ _ _ _ (fun _ _ q => q) q1, q3⟩⟩) _ _ _ _ _ h
  refine ⟨f + 1, ?_⟩
  unfold kG
  rw [hb]
  exact q
theorem kW_mono {sh : Nat → Nat × Nat} {pg : Nat → km_P} {mid pc : Nat} {lv : km_L} {st : List Value} {M : km_M} {K K' : km_K} (hK : ∀ v M1, K v M1 → K' v M1) (h : kW sh pg mid pc lv st M K) : kW sh pg mid pc lv st M K' := by
  obtain ⟨f, q⟩ := h
  exact ⟨f, kG_mono f f (Nat.le_refl f) _ _ _ _ _ _ _ hK q⟩
theorem kC_mono {sh : Nat → Nat × Nat} {pg : Nat → km_P} {mid : Nat} {as : List Value} {M : km_M} {K K' : km_K} (h : kC sh pg mid as M K) (hK : ∀ v M1, K v M1 → K' v M1) : kC sh pg mid as M K' := kW_mono hK h
end
