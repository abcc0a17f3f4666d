section
-- ===== PART A: goes FIRST, ahead of the names: the tables' words, and 'selects' of the private methods out of them =====
/-- a private method of a class that the tables say can be made, by its rows of tables_1 -/
def lw_okq (q : MethodName × Nat) : Prop := (q.1.cls ≠ "java/lang/invoke/MethodHandle" ∧ q.1.cls ≠ "java/lang/invoke/VarHandle") ∧ Cond.instantiable q.1.cls q.2 ∈ tables_1 ∧ Cond.privateMethod q.1 ∈ tables_1 ∧ Cond.instanceMethod q.1 ∈ tables_1
theorem lw_p0 : lw_okq (⟨"PalletNets", "refuse", "(I)I"⟩, 15) := ⟨⟨by decide +kernel, by decide +kernel⟩, List.mem_of_getElem? (i := 14) (by decide +kernel), List.mem_of_getElem? (i := 261) (by decide +kernel), List.mem_of_getElem? (i := 262) (by decide +kernel)⟩
theorem lw_p1 : lw_okq (⟨"PalletNets", "save", "()V"⟩, 15) := ⟨⟨by decide +kernel, by decide +kernel⟩, List.mem_of_getElem? (i := 14) (by decide +kernel), List.mem_of_getElem? (i := 265) (by decide +kernel), List.mem_of_getElem? (i := 266) (by decide +kernel)⟩
theorem lw_p2 : lw_okq (⟨"PalletNets", "keep", "(LPalletNets$State;)V"⟩, 15) := ⟨⟨by decide +kernel, by decide +kernel⟩, List.mem_of_getElem? (i := 14) (by decide +kernel), List.mem_of_getElem? (i := 269) (by decide +kernel), List.mem_of_getElem? (i := 270) (by decide +kernel)⟩
theorem lw_p3 : lw_okq (⟨"PalletNets", "renew", "()V"⟩, 15) := ⟨⟨by decide +kernel, by decide +kernel⟩, List.mem_of_getElem? (i := 14) (by decide +kernel), List.mem_of_getElem? (i := 289) (by decide +kernel), List.mem_of_getElem? (i := 290) (by decide +kernel)⟩
theorem lw_p4 : lw_okq (⟨"PalletNets", "forget", "()V"⟩, 15) := ⟨⟨by decide +kernel, by decide +kernel⟩, List.mem_of_getElem? (i := 14) (by decide +kernel), List.mem_of_getElem? (i := 297) (by decide +kernel), List.mem_of_getElem? (i := 298) (by decide +kernel)⟩
theorem lw_p5 : lw_okq (⟨"PalletNets", "isStep", "(I)Z"⟩, 15) := ⟨⟨by decide +kernel, by decide +kernel⟩, List.mem_of_getElem? (i := 14) (by decide +kernel), List.mem_of_getElem? (i := 313) (by decide +kernel), List.mem_of_getElem? (i := 314) (by decide +kernel)⟩
theorem lw_p6 : lw_okq (⟨"PalletNets", "isPlace", "(I)Z"⟩, 15) := ⟨⟨by decide +kernel, by decide +kernel⟩, List.mem_of_getElem? (i := 14) (by decide +kernel), List.mem_of_getElem? (i := 317) (by decide +kernel), List.mem_of_getElem? (i := 318) (by decide +kernel)⟩
theorem lw_p7 : lw_okq (⟨"PalletNets", "homeSearch", "()LPalletNets$Search;"⟩, 15) := ⟨⟨by decide +kernel, by decide +kernel⟩, List.mem_of_getElem? (i := 14) (by decide +kernel), List.mem_of_getElem? (i := 379) (by decide +kernel), List.mem_of_getElem? (i := 380) (by decide +kernel)⟩
theorem lw_p8 : lw_okq (⟨"PalletNets$Search", "enter", "(JI)I"⟩, 7) := ⟨⟨by decide +kernel, by decide +kernel⟩, List.mem_of_getElem? (i := 92) (by decide +kernel), List.mem_of_getElem? (i := 395) (by decide +kernel), List.mem_of_getElem? (i := 396) (by decide +kernel)⟩
theorem lw_p9 : lw_okq (⟨"PalletNets$Search", "slotOf", "(J)I"⟩, 7) := ⟨⟨by decide +kernel, by decide +kernel⟩, List.mem_of_getElem? (i := 92) (by decide +kernel), List.mem_of_getElem? (i := 399) (by decide +kernel), List.mem_of_getElem? (i := 400) (by decide +kernel)⟩
theorem lw_p10 : lw_okq (⟨"PalletNets$State", "bars", "(IJJ)Z"⟩, 12) := ⟨⟨by decide +kernel, by decide +kernel⟩, List.mem_of_getElem? (i := 22) (by decide +kernel), List.mem_of_getElem? (i := 419) (by decide +kernel), List.mem_of_getElem? (i := 420) (by decide +kernel)⟩
theorem lw_p11 : lw_okq (⟨"PalletNets", "analyse", "()V"⟩, 15) := ⟨⟨by decide +kernel, by decide +kernel⟩, List.mem_of_getElem? (i := 14) (by decide +kernel), List.mem_of_getElem? (i := 441) (by decide +kernel), List.mem_of_getElem? (i := 442) (by decide +kernel)⟩
theorem lw_p12 : lw_okq (⟨"PalletNets$Invariants", "balance", "(JJ)V"⟩, 7) := ⟨⟨by decide +kernel, by decide +kernel⟩, List.mem_of_getElem? (i := 124) (by decide +kernel), List.mem_of_getElem? (i := 452) (by decide +kernel), List.mem_of_getElem? (i := 453) (by decide +kernel)⟩
theorem lw_p13 : lw_okq (⟨"PalletNets$Invariants", "addCombined", "(IJIJ)V"⟩, 7) := ⟨⟨by decide +kernel, by decide +kernel⟩, List.mem_of_getElem? (i := 124) (by decide +kernel), List.mem_of_getElem? (i := 461) (by decide +kernel), List.mem_of_getElem? (i := 462) (by decide +kernel)⟩
theorem lw_p14 : lw_okq (⟨"PalletNets$Invariants", "areAdjacent", "(II)Z"⟩, 7) := ⟨⟨by decide +kernel, by decide +kernel⟩, List.mem_of_getElem? (i := 124) (by decide +kernel), List.mem_of_getElem? (i := 468) (by decide +kernel), List.mem_of_getElem? (i := 469) (by decide +kernel)⟩
theorem lw_p15 : lw_okq (⟨"PalletNets$Invariants", "exchange", "()V"⟩, 7) := ⟨⟨by decide +kernel, by decide +kernel⟩, List.mem_of_getElem? (i := 124) (by decide +kernel), List.mem_of_getElem? (i := 472) (by decide +kernel), List.mem_of_getElem? (i := 473) (by decide +kernel)⟩
def lw_privs_1 : List (MethodName × Nat) := [(⟨"PalletNets", "refuse", "(I)I"⟩, 15), (⟨"PalletNets", "save", "()V"⟩, 15), (⟨"PalletNets", "keep", "(LPalletNets$State;)V"⟩, 15), (⟨"PalletNets", "renew", "()V"⟩, 15), (⟨"PalletNets", "forget", "()V"⟩, 15), (⟨"PalletNets", "isStep", "(I)Z"⟩, 15), (⟨"PalletNets", "isPlace", "(I)Z"⟩, 15), (⟨"PalletNets", "homeSearch", "()LPalletNets$Search;"⟩, 15), (⟨"PalletNets$Search", "enter", "(JI)I"⟩, 7), (⟨"PalletNets$Search", "slotOf", "(J)I"⟩, 7), (⟨"PalletNets$State", "bars", "(IJJ)Z"⟩, 12), (⟨"PalletNets", "analyse", "()V"⟩, 15), (⟨"PalletNets$Invariants", "balance", "(JJ)V"⟩, 7), (⟨"PalletNets$Invariants", "addCombined", "(IJIJ)V"⟩, 7), (⟨"PalletNets$Invariants", "areAdjacent", "(II)Z"⟩, 7), (⟨"PalletNets$Invariants", "exchange", "()V"⟩, 7)]
theorem lw_r1 : ∀ q ∈ lw_privs_1, lw_okq q := List.forall_mem_cons.mpr ⟨lw_p0, List.forall_mem_cons.mpr ⟨lw_p1, List.forall_mem_cons.mpr ⟨lw_p2, List.forall_mem_cons.mpr ⟨lw_p3, List.forall_mem_cons.mpr ⟨lw_p4, List.forall_mem_cons.mpr ⟨lw_p5, List.forall_mem_cons.mpr ⟨lw_p6, List.forall_mem_cons.mpr ⟨lw_p7, List.forall_mem_cons.mpr ⟨lw_p8, List.forall_mem_cons.mpr ⟨lw_p9, List.forall_mem_cons.mpr ⟨lw_p10, List.forall_mem_cons.mpr ⟨lw_p11, List.forall_mem_cons.mpr ⟨lw_p12, List.forall_mem_cons.mpr ⟨lw_p13, List.forall_mem_cons.mpr ⟨lw_p14, List.forall_mem_cons.mpr ⟨lw_p15, fun _ h => absurd h List.not_mem_nil⟩⟩⟩⟩⟩⟩⟩⟩⟩⟩⟩⟩⟩⟩⟩⟩
theorem lw_p16 : lw_okq (⟨"PalletNets$Invariants", "orderBySupport", "()V"⟩, 7) := ⟨⟨by decide +kernel, by decide +kernel⟩, List.mem_of_getElem? (i := 124) (by decide +kernel), List.mem_of_getElem? (i := 476) (by decide +kernel), List.mem_of_getElem? (i := 477) (by decide +kernel)⟩
theorem lw_p17 : lw_okq (⟨"PalletNets$Siphons", "holdsFormer", "(I)Z"⟩, 6) := ⟨⟨by decide +kernel, by decide +kernel⟩, List.mem_of_getElem? (i := 156) (by decide +kernel), List.mem_of_getElem? (i := 496) (by decide +kernel), List.mem_of_getElem? (i := 497) (by decide +kernel)⟩
theorem lw_p18 : lw_okq (⟨"PalletNets$Siphons", "orderBySize", "()V"⟩, 6) := ⟨⟨by decide +kernel, by decide +kernel⟩, List.mem_of_getElem? (i := 156) (by decide +kernel), List.mem_of_getElem? (i := 500) (by decide +kernel), List.mem_of_getElem? (i := 501) (by decide +kernel)⟩
theorem lw_p19 : lw_okq (⟨"PalletNets", "hindrance", "(I)I"⟩, 15) := ⟨⟨by decide +kernel, by decide +kernel⟩, List.mem_of_getElem? (i := 14) (by decide +kernel), List.mem_of_getElem? (i := 548) (by decide +kernel), List.mem_of_getElem? (i := 549) (by decide +kernel)⟩
theorem lw_p20 : lw_okq (⟨"PalletNets", "chosen", "(I)I"⟩, 15) := ⟨⟨by decide +kernel, by decide +kernel⟩, List.mem_of_getElem? (i := 14) (by decide +kernel), List.mem_of_getElem? (i := 563) (by decide +kernel), List.mem_of_getElem? (i := 564) (by decide +kernel)⟩
theorem lw_p21 : lw_okq (⟨"PalletNets", "isSafe", "(I)Z"⟩, 15) := ⟨⟨by decide +kernel, by decide +kernel⟩, List.mem_of_getElem? (i := 14) (by decide +kernel), List.mem_of_getElem? (i := 610) (by decide +kernel), List.mem_of_getElem? (i := 611) (by decide +kernel)⟩
theorem lw_p22 : lw_okq (⟨"PalletNets", "isSet", "(I)Z"⟩, 15) := ⟨⟨by decide +kernel, by decide +kernel⟩, List.mem_of_getElem? (i := 14) (by decide +kernel), List.mem_of_getElem? (i := 618) (by decide +kernel), List.mem_of_getElem? (i := 619) (by decide +kernel)⟩
theorem lw_p23 : lw_okq (⟨"PalletNets", "isGuard", "(I)Z"⟩, 15) := ⟨⟨by decide +kernel, by decide +kernel⟩, List.mem_of_getElem? (i := 14) (by decide +kernel), List.mem_of_getElem? (i := 648) (by decide +kernel), List.mem_of_getElem? (i := 649) (by decide +kernel)⟩
theorem lw_p24 : lw_okq (⟨"PalletNets$Search", "shorten", "(LPalletNets$State;I)Z"⟩, 7) := ⟨⟨by decide +kernel, by decide +kernel⟩, List.mem_of_getElem? (i := 92) (by decide +kernel), List.mem_of_getElem? (i := 685) (by decide +kernel), List.mem_of_getElem? (i := 686) (by decide +kernel)⟩
theorem lw_p25 : lw_okq (⟨"PalletNets$Search", "wayOver", "(LPalletNets$State;II)I"⟩, 7) := ⟨⟨by decide +kernel, by decide +kernel⟩, List.mem_of_getElem? (i := 92) (by decide +kernel), List.mem_of_getElem? (i := 689) (by decide +kernel), List.mem_of_getElem? (i := 690) (by decide +kernel)⟩
theorem lw_p26 : lw_okq (⟨"PalletNets$Reader", "skipSpaces", "()V"⟩, 5) := ⟨⟨by decide +kernel, by decide +kernel⟩, List.mem_of_getElem? (i := 183) (by decide +kernel), List.mem_of_getElem? (i := 734) (by decide +kernel), List.mem_of_getElem? (i := 735) (by decide +kernel)⟩
theorem lw_p27 : lw_okq (⟨"PalletNets$Reader", "readOrder", "(LPalletNets$State;)V"⟩, 5) := ⟨⟨by decide +kernel, by decide +kernel⟩, List.mem_of_getElem? (i := 183) (by decide +kernel), List.mem_of_getElem? (i := 738) (by decide +kernel), List.mem_of_getElem? (i := 739) (by decide +kernel)⟩
theorem lw_p28 : lw_okq (⟨"PalletNets$Reader", "next", "()I"⟩, 5) := ⟨⟨by decide +kernel, by decide +kernel⟩, List.mem_of_getElem? (i := 183) (by decide +kernel), List.mem_of_getElem? (i := 742) (by decide +kernel), List.mem_of_getElem? (i := 743) (by decide +kernel)⟩
theorem lw_p29 : lw_okq (⟨"PalletNets$Reader", "readPlace", "(LPalletNets$State;)V"⟩, 5) := ⟨⟨by decide +kernel, by decide +kernel⟩, List.mem_of_getElem? (i := 183) (by decide +kernel), List.mem_of_getElem? (i := 746) (by decide +kernel), List.mem_of_getElem? (i := 747) (by decide +kernel)⟩
theorem lw_p30 : lw_okq (⟨"PalletNets$Reader", "readDigit", "(II)I"⟩, 5) := ⟨⟨by decide +kernel, by decide +kernel⟩, List.mem_of_getElem? (i := 183) (by decide +kernel), List.mem_of_getElem? (i := 750) (by decide +kernel), List.mem_of_getElem? (i := 751) (by decide +kernel)⟩
theorem lw_p31 : lw_okq (⟨"PalletNets$Reader", "fail", "(I)V"⟩, 5) := ⟨⟨by decide +kernel, by decide +kernel⟩, List.mem_of_getElem? (i := 183) (by decide +kernel), List.mem_of_getElem? (i := 755) (by decide +kernel), List.mem_of_getElem? (i := 756) (by decide +kernel)⟩
def lw_privs_2 : List (MethodName × Nat) := [(⟨"PalletNets$Invariants", "orderBySupport", "()V"⟩, 7), (⟨"PalletNets$Siphons", "holdsFormer", "(I)Z"⟩, 6), (⟨"PalletNets$Siphons", "orderBySize", "()V"⟩, 6), (⟨"PalletNets", "hindrance", "(I)I"⟩, 15), (⟨"PalletNets", "chosen", "(I)I"⟩, 15), (⟨"PalletNets", "isSafe", "(I)Z"⟩, 15), (⟨"PalletNets", "isSet", "(I)Z"⟩, 15), (⟨"PalletNets", "isGuard", "(I)Z"⟩, 15), (⟨"PalletNets$Search", "shorten", "(LPalletNets$State;I)Z"⟩, 7), (⟨"PalletNets$Search", "wayOver", "(LPalletNets$State;II)I"⟩, 7), (⟨"PalletNets$Reader", "skipSpaces", "()V"⟩, 5), (⟨"PalletNets$Reader", "readOrder", "(LPalletNets$State;)V"⟩, 5), (⟨"PalletNets$Reader", "next", "()I"⟩, 5), (⟨"PalletNets$Reader", "readPlace", "(LPalletNets$State;)V"⟩, 5), (⟨"PalletNets$Reader", "readDigit", "(II)I"⟩, 5), (⟨"PalletNets$Reader", "fail", "(I)V"⟩, 5)]
theorem lw_r2 : ∀ q ∈ lw_privs_2, lw_okq q := List.forall_mem_cons.mpr ⟨lw_p16, List.forall_mem_cons.mpr ⟨lw_p17, List.forall_mem_cons.mpr ⟨lw_p18, List.forall_mem_cons.mpr ⟨lw_p19, List.forall_mem_cons.mpr ⟨lw_p20, List.forall_mem_cons.mpr ⟨lw_p21, List.forall_mem_cons.mpr ⟨lw_p22, List.forall_mem_cons.mpr ⟨lw_p23, List.forall_mem_cons.mpr ⟨lw_p24, List.forall_mem_cons.mpr ⟨lw_p25, List.forall_mem_cons.mpr ⟨lw_p26, List.forall_mem_cons.mpr ⟨lw_p27, List.forall_mem_cons.mpr ⟨lw_p28, List.forall_mem_cons.mpr ⟨lw_p29, List.forall_mem_cons.mpr ⟨lw_p30, List.forall_mem_cons.mpr ⟨lw_p31, fun _ h => absurd h List.not_mem_nil⟩⟩⟩⟩⟩⟩⟩⟩⟩⟩⟩⟩⟩⟩⟩⟩
theorem lw_p32 : lw_okq (⟨"PalletNets$Reader", "expect", "(I)V"⟩, 5) := ⟨⟨by decide +kernel, by decide +kernel⟩, List.mem_of_getElem? (i := 183) (by decide +kernel), List.mem_of_getElem? (i := 762) (by decide +kernel), List.mem_of_getElem? (i := 763) (by decide +kernel)⟩
theorem lw_p33 : lw_okq (⟨"PalletNets$Reader", "readStep", "(LPalletNets$State;)V"⟩, 5) := ⟨⟨by decide +kernel, by decide +kernel⟩, List.mem_of_getElem? (i := 183) (by decide +kernel), List.mem_of_getElem? (i := 768) (by decide +kernel), List.mem_of_getElem? (i := 769) (by decide +kernel)⟩
theorem lw_p34 : lw_okq (⟨"PalletNets$Reader", "readArcs", "(I)J"⟩, 5) := ⟨⟨by decide +kernel, by decide +kernel⟩, List.mem_of_getElem? (i := 183) (by decide +kernel), List.mem_of_getElem? (i := 772) (by decide +kernel), List.mem_of_getElem? (i := 773) (by decide +kernel)⟩
theorem lw_p35 : lw_okq (⟨"PalletNets$Reader", "readLine", "(LPalletNets$State;)V"⟩, 5) := ⟨⟨by decide +kernel, by decide +kernel⟩, List.mem_of_getElem? (i := 183) (by decide +kernel), List.mem_of_getElem? (i := 779) (by decide +kernel), List.mem_of_getElem? (i := 780) (by decide +kernel)⟩
theorem lw_p36 : lw_okq (⟨"PalletNets$Reader", "readGuard", "(LPalletNets$State;)V"⟩, 5) := ⟨⟨by decide +kernel, by decide +kernel⟩, List.mem_of_getElem? (i := 183) (by decide +kernel), List.mem_of_getElem? (i := 785) (by decide +kernel), List.mem_of_getElem? (i := 786) (by decide +kernel)⟩
theorem lw_p37 : lw_okq (⟨"PalletNetsModel", "bad", "()I"⟩, 30) := ⟨⟨by decide +kernel, by decide +kernel⟩, List.mem_of_getElem? (i := 813) (by decide +kernel), List.mem_of_getElem? (i := 918) (by decide +kernel), List.mem_of_getElem? (i := 919) (by decide +kernel)⟩
theorem lw_p38 : lw_okq (⟨"PalletNetsModel", "full", "()I"⟩, 30) := ⟨⟨by decide +kernel, by decide +kernel⟩, List.mem_of_getElem? (i := 813) (by decide +kernel), List.mem_of_getElem? (i := 922) (by decide +kernel), List.mem_of_getElem? (i := 923) (by decide +kernel)⟩
theorem lw_p39 : lw_okq (⟨"PalletNetsModel", "keepsState", "()V"⟩, 30) := ⟨⟨by decide +kernel, by decide +kernel⟩, List.mem_of_getElem? (i := 813) (by decide +kernel), List.mem_of_getElem? (i := 926) (by decide +kernel), List.mem_of_getElem? (i := 927) (by decide +kernel)⟩
theorem lw_p40 : lw_okq (⟨"PalletNetsModel", "isStep", "(I)Z"⟩, 30) := ⟨⟨by decide +kernel, by decide +kernel⟩, List.mem_of_getElem? (i := 813) (by decide +kernel), List.mem_of_getElem? (i := 947) (by decide +kernel), List.mem_of_getElem? (i := 948) (by decide +kernel)⟩
theorem lw_p41 : lw_okq (⟨"PalletNetsModel", "isPlace", "(I)Z"⟩, 30) := ⟨⟨by decide +kernel, by decide +kernel⟩, List.mem_of_getElem? (i := 813) (by decide +kernel), List.mem_of_getElem? (i := 951) (by decide +kernel), List.mem_of_getElem? (i := 952) (by decide +kernel)⟩
theorem lw_p42 : lw_okq (⟨"PalletNetsModel", "draws", "(I)I"⟩, 30) := ⟨⟨by decide +kernel, by decide +kernel⟩, List.mem_of_getElem? (i := 813) (by decide +kernel), List.mem_of_getElem? (i := 975) (by decide +kernel), List.mem_of_getElem? (i := 976) (by decide +kernel)⟩
theorem lw_p43 : lw_okq (⟨"PalletNetsModel", "searches", "(JI)V"⟩, 30) := ⟨⟨by decide +kernel, by decide +kernel⟩, List.mem_of_getElem? (i := 813) (by decide +kernel), List.mem_of_getElem? (i := 986) (by decide +kernel), List.mem_of_getElem? (i := 987) (by decide +kernel)⟩
theorem lw_p44 : lw_okq (⟨"PalletNetsModel", "why", "(JII)I"⟩, 30) := ⟨⟨by decide +kernel, by decide +kernel⟩, List.mem_of_getElem? (i := 813) (by decide +kernel), List.mem_of_getElem? (i := 990) (by decide +kernel), List.mem_of_getElem? (i := 991) (by decide +kernel)⟩
theorem lw_p45 : lw_okq (⟨"PalletNetsModel", "roomFor", "(JI)I"⟩, 30) := ⟨⟨by decide +kernel, by decide +kernel⟩, List.mem_of_getElem? (i := 813) (by decide +kernel), List.mem_of_getElem? (i := 994) (by decide +kernel), List.mem_of_getElem? (i := 995) (by decide +kernel)⟩
theorem lw_p46 : lw_okq (⟨"PalletNetsModel", "bars", "(IJI)Z"⟩, 30) := ⟨⟨by decide +kernel, by decide +kernel⟩, List.mem_of_getElem? (i := 813) (by decide +kernel), List.mem_of_getElem? (i := 1002) (by decide +kernel), List.mem_of_getElem? (i := 1003) (by decide +kernel)⟩
theorem lw_p47 : lw_okq (⟨"PalletNetsModel", "together", "(JI)I"⟩, 30) := ⟨⟨by decide +kernel, by decide +kernel⟩, List.mem_of_getElem? (i := 813) (by decide +kernel), List.mem_of_getElem? (i := 1006) (by decide +kernel), List.mem_of_getElem? (i := 1007) (by decide +kernel)⟩
def lw_privs_3 : List (MethodName × Nat) := [(⟨"PalletNets$Reader", "expect", "(I)V"⟩, 5), (⟨"PalletNets$Reader", "readStep", "(LPalletNets$State;)V"⟩, 5), (⟨"PalletNets$Reader", "readArcs", "(I)J"⟩, 5), (⟨"PalletNets$Reader", "readLine", "(LPalletNets$State;)V"⟩, 5), (⟨"PalletNets$Reader", "readGuard", "(LPalletNets$State;)V"⟩, 5), (⟨"PalletNetsModel", "bad", "()I"⟩, 30), (⟨"PalletNetsModel", "full", "()I"⟩, 30), (⟨"PalletNetsModel", "keepsState", "()V"⟩, 30), (⟨"PalletNetsModel", "isStep", "(I)Z"⟩, 30), (⟨"PalletNetsModel", "isPlace", "(I)Z"⟩, 30), (⟨"PalletNetsModel", "draws", "(I)I"⟩, 30), (⟨"PalletNetsModel", "searches", "(JI)V"⟩, 30), (⟨"PalletNetsModel", "why", "(JII)I"⟩, 30), (⟨"PalletNetsModel", "roomFor", "(JI)I"⟩, 30), (⟨"PalletNetsModel", "bars", "(IJI)Z"⟩, 30), (⟨"PalletNetsModel", "together", "(JI)I"⟩, 30)]
theorem lw_r3 : ∀ q ∈ lw_privs_3, lw_okq q := List.forall_mem_cons.mpr ⟨lw_p32, List.forall_mem_cons.mpr ⟨lw_p33, List.forall_mem_cons.mpr ⟨lw_p34, List.forall_mem_cons.mpr ⟨lw_p35, List.forall_mem_cons.mpr ⟨lw_p36, List.forall_mem_cons.mpr ⟨lw_p37, List.forall_mem_cons.mpr ⟨lw_p38, List.forall_mem_cons.mpr ⟨lw_p39, List.forall_mem_cons.mpr ⟨lw_p40, List.forall_mem_cons.mpr ⟨lw_p41, List.forall_mem_cons.mpr ⟨lw_p42, List.forall_mem_cons.mpr ⟨lw_p43, List.forall_mem_cons.mpr ⟨lw_p44, List.forall_mem_cons.mpr ⟨lw_p45, List.forall_mem_cons.mpr ⟨lw_p46, List.forall_mem_cons.mpr ⟨lw_p47, fun _ h => absurd h List.not_mem_nil⟩⟩⟩⟩⟩⟩⟩⟩⟩⟩⟩⟩⟩⟩⟩⟩
theorem lw_p48 : lw_okq (⟨"PalletNetsModel", "behind", "(JI)J"⟩, 30) := ⟨⟨by decide +kernel, by decide +kernel⟩, List.mem_of_getElem? (i := 813) (by decide +kernel), List.mem_of_getElem? (i := 1013) (by decide +kernel), List.mem_of_getElem? (i := 1014) (by decide +kernel)⟩
theorem lw_p49 : lw_okq (⟨"PalletNetsModel", "placeIn", "(J)I"⟩, 30) := ⟨⟨by decide +kernel, by decide +kernel⟩, List.mem_of_getElem? (i := 813) (by decide +kernel), List.mem_of_getElem? (i := 1017) (by decide +kernel), List.mem_of_getElem? (i := 1018) (by decide +kernel)⟩
theorem lw_p50 : lw_okq (⟨"PalletNetsModel", "stepIs", "(II)I"⟩, 30) := ⟨⟨by decide +kernel, by decide +kernel⟩, List.mem_of_getElem? (i := 813) (by decide +kernel), List.mem_of_getElem? (i := 1033) (by decide +kernel), List.mem_of_getElem? (i := 1034) (by decide +kernel)⟩
theorem lw_p51 : lw_okq (⟨"PalletNetsModel", "standing", "(I)I"⟩, 30) := ⟨⟨by decide +kernel, by decide +kernel⟩, List.mem_of_getElem? (i := 813) (by decide +kernel), List.mem_of_getElem? (i := 1041) (by decide +kernel), List.mem_of_getElem? (i := 1042) (by decide +kernel)⟩
theorem lw_p52 : lw_okq (⟨"PalletNetsModel", "tokensFrom", "(I)J"⟩, 30) := ⟨⟨by decide +kernel, by decide +kernel⟩, List.mem_of_getElem? (i := 813) (by decide +kernel), List.mem_of_getElem? (i := 1045) (by decide +kernel), List.mem_of_getElem? (i := 1046) (by decide +kernel)⟩
theorem lw_p53 : lw_okq (⟨"PalletNetsModel", "no", "()I"⟩, 30) := ⟨⟨by decide +kernel, by decide +kernel⟩, List.mem_of_getElem? (i := 813) (by decide +kernel), List.mem_of_getElem? (i := 1053) (by decide +kernel), List.mem_of_getElem? (i := 1054) (by decide +kernel)⟩
theorem lw_p54 : lw_okq (⟨"PalletNetsModel", "lets", "(I)V"⟩, 30) := ⟨⟨by decide +kernel, by decide +kernel⟩, List.mem_of_getElem? (i := 813) (by decide +kernel), List.mem_of_getElem? (i := 1057) (by decide +kernel), List.mem_of_getElem? (i := 1058) (by decide +kernel)⟩
theorem lw_p55 : lw_okq (⟨"PalletNetsModel", "canMany", "()I"⟩, 30) := ⟨⟨by decide +kernel, by decide +kernel⟩, List.mem_of_getElem? (i := 813) (by decide +kernel), List.mem_of_getElem? (i := 1061) (by decide +kernel), List.mem_of_getElem? (i := 1062) (by decide +kernel)⟩
theorem lw_p56 : lw_okq (⟨"PalletNetsModel", "chosen", "(I)I"⟩, 30) := ⟨⟨by decide +kernel, by decide +kernel⟩, List.mem_of_getElem? (i := 813) (by decide +kernel), List.mem_of_getElem? (i := 1069) (by decide +kernel), List.mem_of_getElem? (i := 1070) (by decide +kernel)⟩
theorem lw_p57 : lw_okq (⟨"PalletNetsModel", "placesSet", "()I"⟩, 30) := ⟨⟨by decide +kernel, by decide +kernel⟩, List.mem_of_getElem? (i := 813) (by decide +kernel), List.mem_of_getElem? (i := 1077) (by decide +kernel), List.mem_of_getElem? (i := 1078) (by decide +kernel)⟩
theorem lw_p58 : lw_okq (⟨"PalletNetsModel", "laySums", "()V"⟩, 30) := ⟨⟨by decide +kernel, by decide +kernel⟩, List.mem_of_getElem? (i := 813) (by decide +kernel), List.mem_of_getElem? (i := 1097) (by decide +kernel), List.mem_of_getElem? (i := 1098) (by decide +kernel)⟩
theorem lw_p59 : lw_okq (⟨"PalletNetsModel", "isSum", "(I)Z"⟩, 30) := ⟨⟨by decide +kernel, by decide +kernel⟩, List.mem_of_getElem? (i := 813) (by decide +kernel), List.mem_of_getElem? (i := 1101) (by decide +kernel), List.mem_of_getElem? (i := 1102) (by decide +kernel)⟩
theorem lw_p60 : lw_okq (⟨"PalletNetsModel", "solves", "(I)I"⟩, 30) := ⟨⟨by decide +kernel, by decide +kernel⟩, List.mem_of_getElem? (i := 813) (by decide +kernel), List.mem_of_getElem? (i := 1105) (by decide +kernel), List.mem_of_getElem? (i := 1106) (by decide +kernel)⟩
theorem lw_p61 : lw_okq (⟨"PalletNetsModel", "shortens", "(I)V"⟩, 30) := ⟨⟨by decide +kernel, by decide +kernel⟩, List.mem_of_getElem? (i := 813) (by decide +kernel), List.mem_of_getElem? (i := 1109) (by decide +kernel), List.mem_of_getElem? (i := 1110) (by decide +kernel)⟩
theorem lw_p62 : lw_okq (⟨"PalletNetsModel", "swaps", "(II)V"⟩, 30) := ⟨⟨by decide +kernel, by decide +kernel⟩, List.mem_of_getElem? (i := 813) (by decide +kernel), List.mem_of_getElem? (i := 1116) (by decide +kernel), List.mem_of_getElem? (i := 1117) (by decide +kernel)⟩
theorem lw_p63 : lw_okq (⟨"PalletNetsModel", "takesOff", "(III)V"⟩, 30) := ⟨⟨by decide +kernel, by decide +kernel⟩, List.mem_of_getElem? (i := 813) (by decide +kernel), List.mem_of_getElem? (i := 1120) (by decide +kernel), List.mem_of_getElem? (i := 1121) (by decide +kernel)⟩
def lw_privs_4 : List (MethodName × Nat) := [(⟨"PalletNetsModel", "behind", "(JI)J"⟩, 30), (⟨"PalletNetsModel", "placeIn", "(J)I"⟩, 30), (⟨"PalletNetsModel", "stepIs", "(II)I"⟩, 30), (⟨"PalletNetsModel", "standing", "(I)I"⟩, 30), (⟨"PalletNetsModel", "tokensFrom", "(I)J"⟩, 30), (⟨"PalletNetsModel", "no", "()I"⟩, 30), (⟨"PalletNetsModel", "lets", "(I)V"⟩, 30), (⟨"PalletNetsModel", "canMany", "()I"⟩, 30), (⟨"PalletNetsModel", "chosen", "(I)I"⟩, 30), (⟨"PalletNetsModel", "placesSet", "()I"⟩, 30), (⟨"PalletNetsModel", "laySums", "()V"⟩, 30), (⟨"PalletNetsModel", "isSum", "(I)Z"⟩, 30), (⟨"PalletNetsModel", "solves", "(I)I"⟩, 30), (⟨"PalletNetsModel", "shortens", "(I)V"⟩, 30), (⟨"PalletNetsModel", "swaps", "(II)V"⟩, 30), (⟨"PalletNetsModel", "takesOff", "(III)V"⟩, 30)]
theorem lw_r4 : ∀ q ∈ lw_privs_4, lw_okq q := List.forall_mem_cons.mpr ⟨lw_p48, List.forall_mem_cons.mpr ⟨lw_p49, List.forall_mem_cons.mpr ⟨lw_p50, List.forall_mem_cons.mpr ⟨lw_p51, List.forall_mem_cons.mpr ⟨lw_p52, List.forall_mem_cons.mpr ⟨lw_p53, List.forall_mem_cons.mpr ⟨lw_p54, List.forall_mem_cons.mpr ⟨lw_p55, List.forall_mem_cons.mpr ⟨lw_p56, List.forall_mem_cons.mpr ⟨lw_p57, List.forall_mem_cons.mpr ⟨lw_p58, List.forall_mem_cons.mpr ⟨lw_p59, List.forall_mem_cons.mpr ⟨lw_p60, List.forall_mem_cons.mpr ⟨lw_p61, List.forall_mem_cons.mpr ⟨lw_p62, List.forall_mem_cons.mpr ⟨lw_p63, fun _ h => absurd h List.not_mem_nil⟩⟩⟩⟩⟩⟩⟩⟩⟩⟩⟩⟩⟩⟩⟩⟩
theorem lw_p64 : lw_okq (⟨"PalletNetsModel", "worth", "(IJ)I"⟩, 30) := ⟨⟨by decide +kernel, by decide +kernel⟩, List.mem_of_getElem? (i := 813) (by decide +kernel), List.mem_of_getElem? (i := 1135) (by decide +kernel), List.mem_of_getElem? (i := 1136) (by decide +kernel)⟩
theorem lw_p65 : lw_okq (⟨"PalletNetsModel", "bound", "(I)I"⟩, 30) := ⟨⟨by decide +kernel, by decide +kernel⟩, List.mem_of_getElem? (i := 813) (by decide +kernel), List.mem_of_getElem? (i := 1143) (by decide +kernel), List.mem_of_getElem? (i := 1144) (by decide +kernel)⟩
theorem lw_p66 : lw_okq (⟨"PalletNetsModel", "extreme", "(IZ)I"⟩, 30) := ⟨⟨by decide +kernel, by decide +kernel⟩, List.mem_of_getElem? (i := 813) (by decide +kernel), List.mem_of_getElem? (i := 1147) (by decide +kernel), List.mem_of_getElem? (i := 1148) (by decide +kernel)⟩
theorem lw_p67 : lw_okq (⟨"PalletNetsModel", "searchesHome", "()V"⟩, 30) := ⟨⟨by decide +kernel, by decide +kernel⟩, List.mem_of_getElem? (i := 813) (by decide +kernel), List.mem_of_getElem? (i := 1151) (by decide +kernel), List.mem_of_getElem? (i := 1152) (by decide +kernel)⟩
theorem lw_p68 : lw_okq (⟨"PalletNetsModel", "layStucks", "()V"⟩, 30) := ⟨⟨by decide +kernel, by decide +kernel⟩, List.mem_of_getElem? (i := 813) (by decide +kernel), List.mem_of_getElem? (i := 1159) (by decide +kernel), List.mem_of_getElem? (i := 1160) (by decide +kernel)⟩
theorem lw_p69 : lw_okq (⟨"PalletNetsModel", "layArcs", "()V"⟩, 30) := ⟨⟨by decide +kernel, by decide +kernel⟩, List.mem_of_getElem? (i := 813) (by decide +kernel), List.mem_of_getElem? (i := 1163) (by decide +kernel), List.mem_of_getElem? (i := 1164) (by decide +kernel)⟩
theorem lw_p70 : lw_okq (⟨"PalletNetsModel", "isStuck", "(I)Z"⟩, 30) := ⟨⟨by decide +kernel, by decide +kernel⟩, List.mem_of_getElem? (i := 813) (by decide +kernel), List.mem_of_getElem? (i := 1167) (by decide +kernel), List.mem_of_getElem? (i := 1168) (by decide +kernel)⟩
theorem lw_p71 : lw_okq (⟨"PalletNetsModel", "isLeast", "(I)Z"⟩, 30) := ⟨⟨by decide +kernel, by decide +kernel⟩, List.mem_of_getElem? (i := 813) (by decide +kernel), List.mem_of_getElem? (i := 1171) (by decide +kernel), List.mem_of_getElem? (i := 1172) (by decide +kernel)⟩
theorem lw_p72 : lw_okq (⟨"PalletNetsModel", "held", "(I)I"⟩, 30) := ⟨⟨by decide +kernel, by decide +kernel⟩, List.mem_of_getElem? (i := 813) (by decide +kernel), List.mem_of_getElem? (i := 1179) (by decide +kernel), List.mem_of_getElem? (i := 1180) (by decide +kernel)⟩
theorem lw_p73 : lw_okq (⟨"PalletNetsModel", "isKept", "(I)Z"⟩, 30) := ⟨⟨by decide +kernel, by decide +kernel⟩, List.mem_of_getElem? (i := 813) (by decide +kernel), List.mem_of_getElem? (i := 1183) (by decide +kernel), List.mem_of_getElem? (i := 1184) (by decide +kernel)⟩
theorem lw_p74 : lw_okq (⟨"PalletNetsModel", "isSafe", "(I)Z"⟩, 30) := ⟨⟨by decide +kernel, by decide +kernel⟩, List.mem_of_getElem? (i := 813) (by decide +kernel), List.mem_of_getElem? (i := 1187) (by decide +kernel), List.mem_of_getElem? (i := 1188) (by decide +kernel)⟩
theorem lw_p75 : lw_okq (⟨"PalletNetsModel", "fewest", "(I)I"⟩, 30) := ⟨⟨by decide +kernel, by decide +kernel⟩, List.mem_of_getElem? (i := 813) (by decide +kernel), List.mem_of_getElem? (i := 1191) (by decide +kernel), List.mem_of_getElem? (i := 1192) (by decide +kernel)⟩
theorem lw_p76 : lw_okq (⟨"PalletNetsModel", "isGuarded", "(I)Z"⟩, 30) := ⟨⟨by decide +kernel, by decide +kernel⟩, List.mem_of_getElem? (i := 813) (by decide +kernel), List.mem_of_getElem? (i := 1210) (by decide +kernel), List.mem_of_getElem? (i := 1211) (by decide +kernel)⟩
theorem lw_p77 : lw_okq (⟨"PalletNetsModel", "barredBy", "(I)I"⟩, 30) := ⟨⟨by decide +kernel, by decide +kernel⟩, List.mem_of_getElem? (i := 813) (by decide +kernel), List.mem_of_getElem? (i := 1222) (by decide +kernel), List.mem_of_getElem? (i := 1223) (by decide +kernel)⟩
theorem lw_p78 : lw_okq (⟨"PalletNetsModel", "isNeedless", "(I)Z"⟩, 30) := ⟨⟨by decide +kernel, by decide +kernel⟩, List.mem_of_getElem? (i := 813) (by decide +kernel), List.mem_of_getElem? (i := 1226) (by decide +kernel), List.mem_of_getElem? (i := 1227) (by decide +kernel)⟩
theorem lw_p79 : lw_okq (⟨"PalletNetsModel", "allIs", "(I)I"⟩, 30) := ⟨⟨by decide +kernel, by decide +kernel⟩, List.mem_of_getElem? (i := 813) (by decide +kernel), List.mem_of_getElem? (i := 1234) (by decide +kernel), List.mem_of_getElem? (i := 1235) (by decide +kernel)⟩
def lw_privs_5 : List (MethodName × Nat) := [(⟨"PalletNetsModel", "worth", "(IJ)I"⟩, 30), (⟨"PalletNetsModel", "bound", "(I)I"⟩, 30), (⟨"PalletNetsModel", "extreme", "(IZ)I"⟩, 30), (⟨"PalletNetsModel", "searchesHome", "()V"⟩, 30), (⟨"PalletNetsModel", "layStucks", "()V"⟩, 30), (⟨"PalletNetsModel", "layArcs", "()V"⟩, 30), (⟨"PalletNetsModel", "isStuck", "(I)Z"⟩, 30), (⟨"PalletNetsModel", "isLeast", "(I)Z"⟩, 30), (⟨"PalletNetsModel", "held", "(I)I"⟩, 30), (⟨"PalletNetsModel", "isKept", "(I)Z"⟩, 30), (⟨"PalletNetsModel", "isSafe", "(I)Z"⟩, 30), (⟨"PalletNetsModel", "fewest", "(I)I"⟩, 30), (⟨"PalletNetsModel", "isGuarded", "(I)Z"⟩, 30), (⟨"PalletNetsModel", "barredBy", "(I)I"⟩, 30), (⟨"PalletNetsModel", "isNeedless", "(I)Z"⟩, 30), (⟨"PalletNetsModel", "allIs", "(I)I"⟩, 30)]
theorem lw_r5 : ∀ q ∈ lw_privs_5, lw_okq q := List.forall_mem_cons.mpr ⟨lw_p64, List.forall_mem_cons.mpr ⟨lw_p65, List.forall_mem_cons.mpr ⟨lw_p66, List.forall_mem_cons.mpr ⟨lw_p67, List.forall_mem_cons.mpr ⟨lw_p68, List.forall_mem_cons.mpr ⟨lw_p69, List.forall_mem_cons.mpr ⟨lw_p70, List.forall_mem_cons.mpr ⟨lw_p71, List.forall_mem_cons.mpr ⟨lw_p72, List.forall_mem_cons.mpr ⟨lw_p73, List.forall_mem_cons.mpr ⟨lw_p74, List.forall_mem_cons.mpr ⟨lw_p75, List.forall_mem_cons.mpr ⟨lw_p76, List.forall_mem_cons.mpr ⟨lw_p77, List.forall_mem_cons.mpr ⟨lw_p78, List.forall_mem_cons.mpr ⟨lw_p79, fun _ h => absurd h List.not_mem_nil⟩⟩⟩⟩⟩⟩⟩⟩⟩⟩⟩⟩⟩⟩⟩⟩
theorem lw_p80 : lw_okq (⟨"PalletNetsModel", "isClosed", "()Z"⟩, 30) := ⟨⟨by decide +kernel, by decide +kernel⟩, List.mem_of_getElem? (i := 813) (by decide +kernel), List.mem_of_getElem? (i := 1238) (by decide +kernel), List.mem_of_getElem? (i := 1239) (by decide +kernel)⟩
theorem lw_p81 : lw_okq (⟨"PalletNetsModel", "layWays", "()V"⟩, 30) := ⟨⟨by decide +kernel, by decide +kernel⟩, List.mem_of_getElem? (i := 813) (by decide +kernel), List.mem_of_getElem? (i := 1242) (by decide +kernel), List.mem_of_getElem? (i := 1243) (by decide +kernel)⟩
theorem lw_p82 : lw_okq (⟨"PalletNetsModel", "layNext", "()V"⟩, 30) := ⟨⟨by decide +kernel, by decide +kernel⟩, List.mem_of_getElem? (i := 813) (by decide +kernel), List.mem_of_getElem? (i := 1246) (by decide +kernel), List.mem_of_getElem? (i := 1247) (by decide +kernel)⟩
theorem lw_p83 : lw_okq (⟨"PalletNetsModel", "leads", "(II)I"⟩, 30) := ⟨⟨by decide +kernel, by decide +kernel⟩, List.mem_of_getElem? (i := 813) (by decide +kernel), List.mem_of_getElem? (i := 1250) (by decide +kernel), List.mem_of_getElem? (i := 1251) (by decide +kernel)⟩
theorem lw_p84 : lw_okq (⟨"PalletNetsModel", "canAt", "(I)I"⟩, 30) := ⟨⟨by decide +kernel, by decide +kernel⟩, List.mem_of_getElem? (i := 813) (by decide +kernel), List.mem_of_getElem? (i := 1254) (by decide +kernel), List.mem_of_getElem? (i := 1255) (by decide +kernel)⟩
theorem lw_p85 : lw_okq (⟨"PalletNetsModel", "layFar", "()V"⟩, 30) := ⟨⟨by decide +kernel, by decide +kernel⟩, List.mem_of_getElem? (i := 813) (by decide +kernel), List.mem_of_getElem? (i := 1267) (by decide +kernel), List.mem_of_getElem? (i := 1268) (by decide +kernel)⟩
theorem lw_p86 : lw_okq (⟨"PalletNetsModel", "look", "()I"⟩, 30) := ⟨⟨by decide +kernel, by decide +kernel⟩, List.mem_of_getElem? (i := 813) (by decide +kernel), List.mem_of_getElem? (i := 1283) (by decide +kernel), List.mem_of_getElem? (i := 1284) (by decide +kernel)⟩
theorem lw_p87 : lw_okq (⟨"PalletNetsModel", "readsOrder", "()Z"⟩, 30) := ⟨⟨by decide +kernel, by decide +kernel⟩, List.mem_of_getElem? (i := 813) (by decide +kernel), List.mem_of_getElem? (i := 1287) (by decide +kernel), List.mem_of_getElem? (i := 1288) (by decide +kernel)⟩
theorem lw_p88 : lw_okq (⟨"PalletNetsModel", "take", "()I"⟩, 30) := ⟨⟨by decide +kernel, by decide +kernel⟩, List.mem_of_getElem? (i := 813) (by decide +kernel), List.mem_of_getElem? (i := 1291) (by decide +kernel), List.mem_of_getElem? (i := 1292) (by decide +kernel)⟩
theorem lw_p89 : lw_okq (⟨"PalletNetsModel", "readsPlace", "()Z"⟩, 30) := ⟨⟨by decide +kernel, by decide +kernel⟩, List.mem_of_getElem? (i := 813) (by decide +kernel), List.mem_of_getElem? (i := 1295) (by decide +kernel), List.mem_of_getElem? (i := 1296) (by decide +kernel)⟩
theorem lw_p90 : lw_okq (⟨"PalletNetsModel", "readsStep", "()Z"⟩, 30) := ⟨⟨by decide +kernel, by decide +kernel⟩, List.mem_of_getElem? (i := 813) (by decide +kernel), List.mem_of_getElem? (i := 1299) (by decide +kernel), List.mem_of_getElem? (i := 1300) (by decide +kernel)⟩
theorem lw_p91 : lw_okq (⟨"PalletNetsModel", "readsArcs", "(I)I"⟩, 30) := ⟨⟨by decide +kernel, by decide +kernel⟩, List.mem_of_getElem? (i := 813) (by decide +kernel), List.mem_of_getElem? (i := 1303) (by decide +kernel), List.mem_of_getElem? (i := 1304) (by decide +kernel)⟩
theorem lw_p92 : lw_okq (⟨"PalletNetsModel", "isThere", "(I)Z"⟩, 30) := ⟨⟨by decide +kernel, by decide +kernel⟩, List.mem_of_getElem? (i := 813) (by decide +kernel), List.mem_of_getElem? (i := 1307) (by decide +kernel), List.mem_of_getElem? (i := 1308) (by decide +kernel)⟩
theorem lw_p93 : lw_okq (⟨"PalletNetsModel", "readsLine", "()Z"⟩, 30) := ⟨⟨by decide +kernel, by decide +kernel⟩, List.mem_of_getElem? (i := 813) (by decide +kernel), List.mem_of_getElem? (i := 1311) (by decide +kernel), List.mem_of_getElem? (i := 1312) (by decide +kernel)⟩
theorem lw_p94 : lw_okq (⟨"PalletNetsModel", "readsGuard", "()Z"⟩, 30) := ⟨⟨by decide +kernel, by decide +kernel⟩, List.mem_of_getElem? (i := 813) (by decide +kernel), List.mem_of_getElem? (i := 1315) (by decide +kernel), List.mem_of_getElem? (i := 1316) (by decide +kernel)⟩
theorem lw_p95 : lw_okq (⟨"PalletNetsModel", "toldOf", "(I)I"⟩, 30) := ⟨⟨by decide +kernel, by decide +kernel⟩, List.mem_of_getElem? (i := 813) (by decide +kernel), List.mem_of_getElem? (i := 1327) (by decide +kernel), List.mem_of_getElem? (i := 1328) (by decide +kernel)⟩
def lw_privs_6 : List (MethodName × Nat) := [(⟨"PalletNetsModel", "isClosed", "()Z"⟩, 30), (⟨"PalletNetsModel", "layWays", "()V"⟩, 30), (⟨"PalletNetsModel", "layNext", "()V"⟩, 30), (⟨"PalletNetsModel", "leads", "(II)I"⟩, 30), (⟨"PalletNetsModel", "canAt", "(I)I"⟩, 30), (⟨"PalletNetsModel", "layFar", "()V"⟩, 30), (⟨"PalletNetsModel", "look", "()I"⟩, 30), (⟨"PalletNetsModel", "readsOrder", "()Z"⟩, 30), (⟨"PalletNetsModel", "take", "()I"⟩, 30), (⟨"PalletNetsModel", "readsPlace", "()Z"⟩, 30), (⟨"PalletNetsModel", "readsStep", "()Z"⟩, 30), (⟨"PalletNetsModel", "readsArcs", "(I)I"⟩, 30), (⟨"PalletNetsModel", "isThere", "(I)Z"⟩, 30), (⟨"PalletNetsModel", "readsLine", "()Z"⟩, 30), (⟨"PalletNetsModel", "readsGuard", "()Z"⟩, 30), (⟨"PalletNetsModel", "toldOf", "(I)I"⟩, 30)]
theorem lw_r6 : ∀ q ∈ lw_privs_6, lw_okq q := List.forall_mem_cons.mpr ⟨lw_p80, List.forall_mem_cons.mpr ⟨lw_p81, List.forall_mem_cons.mpr ⟨lw_p82, List.forall_mem_cons.mpr ⟨lw_p83, List.forall_mem_cons.mpr ⟨lw_p84, List.forall_mem_cons.mpr ⟨lw_p85, List.forall_mem_cons.mpr ⟨lw_p86, List.forall_mem_cons.mpr ⟨lw_p87, List.forall_mem_cons.mpr ⟨lw_p88, List.forall_mem_cons.mpr ⟨lw_p89, List.forall_mem_cons.mpr ⟨lw_p90, List.forall_mem_cons.mpr ⟨lw_p91, List.forall_mem_cons.mpr ⟨lw_p92, List.forall_mem_cons.mpr ⟨lw_p93, List.forall_mem_cons.mpr ⟨lw_p94, List.forall_mem_cons.mpr ⟨lw_p95, fun _ h => absurd h List.not_mem_nil⟩⟩⟩⟩⟩⟩⟩⟩⟩⟩⟩⟩⟩⟩⟩⟩
def lw_privs : List (MethodName × Nat) := lw_privs_1 ++ (lw_privs_2 ++ (lw_privs_3 ++ (lw_privs_4 ++ (lw_privs_5 ++ (lw_privs_6)))))
def lw_tbl : List Cond := k2_sels lw_privs ++ tables_1
theorem lw_privs_ok : ∀ q ∈ lw_privs, lw_okq q := by
  show ∀ q ∈ lw_privs_1 ++ (lw_privs_2 ++ (lw_privs_3 ++ (lw_privs_4 ++ (lw_privs_5 ++ (lw_privs_6))))), lw_okq q
  exact List.forall_mem_append.mpr ⟨lw_r1, List.forall_mem_append.mpr ⟨lw_r2, List.forall_mem_append.mpr ⟨lw_r3, List.forall_mem_append.mpr ⟨lw_r4, List.forall_mem_append.mpr ⟨lw_r5, lw_r6⟩⟩⟩⟩⟩
end
section
/-! THE ABSTRACT MACHINE: a typed memory, straight instructions as effects, blocks, a run by fuel, and the total 'kW'. Nothing here speaks of the class. -/
/-- memory: int, long and reference slots, by cell and place -/
abbrev km_M : Type := (Nat → Nat → Int32) × (Nat → Nat → Int64) × (Nat → Nat → Nat)
abbrev km_L : Type := List (Option Value)
/-- an instruction with what its operands mean: length, three numbers, an int, a long, a switch's pairs -/
abbrev km_I : Type := Instr × Nat × Nat × Nat × Nat × Int32 × Int64 × List (Int32 × Nat)
/-- a block: its pc, which locals live there, its instructions -/
abbrev km_B : Type := Nat × List Bool × List km_I
/-- a method: its locals, whether it answers a boolean, its blocks -/
abbrev km_P : Type := Nat × Bool × List km_B
abbrev km_K : Type := Option Value → km_M → Prop
def km_up {α : Type} (f : Nat → Nat → α) (a k : Nat) (v : α) : Nat → Nat → α := fun b j => if b = a ∧ j = k then v else f b j
def km_cp {α : Type} (f : Nat → Nat → α) (a b sp dp n : Nat) : Nat → Nat → α := fun c j => if c = b then va_cpy (f a) (f b) sp dp n j else f c j
def km_get : km_L → Nat → Option Value
  | [], _ => none
  | x :: _, 0 => x
  | _ :: r, n + 1 => km_get r n
def km_set : km_L → Nat → Option Value → km_L
  | [], _, _ => []
  | _ :: r, 0, v => v :: r
  | x :: r, n + 1, v => x :: km_set r n v
def km_kill : km_L → Nat → km_L
  | lv, 0 => lv
  | lv, i + 1 => match km_get lv i with
    | some (.long _) => km_set lv i none
    | some (.double _) => km_set lv i none
    | _ => lv
def km_st1 (lv : km_L) (i : Nat) (v : Value) : km_L := km_set (km_kill lv i) i (some v)
def km_st2 (lv : km_L) (i : Nat) (v : Value) : km_L := km_set (km_set (km_kill lv i) i (some v)) (i + 1) none
def km_len : km_L → Nat
  | [] => 0
  | _ :: r => km_len r + 1
def km_wd : List Value → Nat
  | [] => 0
  | .long _ :: r => km_wd r + 2
  | .double _ :: r => km_wd r + 2
  | _ :: r => km_wd r + 1
def km_mask : List Bool → km_L → km_L
  | _, [] => []
  | [], _ :: r => none :: km_mask [] r
  | true :: b, x :: r => x :: km_mask b r
  | false :: b, _ :: r => none :: km_mask b r
def km_ent : Nat → List Value → km_L
  | 0, _ => []
  | n + 1, [] => none :: km_ent n []
  | n + 1, .long x :: r => some (.long x) :: (match n with
    | 0 => []
    | k + 1 => none :: km_ent k r)
  | n + 1, .double x :: r => some (.double x) :: (match n with
    | 0 => []
    | k + 1 => none :: km_ent k r)
  | n + 1, v :: r => some v :: km_ent n r
def km_ld (z : Nat) (M : km_M) (a y : Nat) : Value := match z with
  | 1 => .long (M.2.1 a y)
  | 2 => .ref (M.2.2 a y)
  | _ => .int (M.1 a y)
def km_and : List Prop → Prop → Prop
  | [], Q => Q
  | p :: r, Q => p ∧ km_and r Q
theorem km_and_iff {ps : List Prop} {Q : Prop} : km_and ps Q ↔ (∀ p ∈ ps, p) ∧ Q := by
  induction ps with
  | nil => simp [km_and]
  | cons p r ih => simp only [km_and, ih, List.forall_mem_cons, and_assoc]
/-- the effect of a straight instruction: what it asks, and locals, stack and memory behind it -/
def kS (sh : Nat → Nat × Nat) : km_I → km_L → List Value → km_M → Option (List Prop × km_L × List Value × km_M)
  | (i, n, x, y, z, c, w, t), lv, st, M => match i with
    | .iconst _ => some ([], lv, .int c :: st, M)
    | .bipush _ => some ([], lv, .int c :: st, M)
    | .sipush _ => some ([], lv, .int c :: st, M)
    | .ldc _ => some ([], lv, .int c :: st, M)
    | .ldc_w _ => some ([], lv, .int c :: st, M)
    | .lconst _ => some ([], lv, .long w :: st, M)
    | .ldc2_w _ => some ([], lv, .long w :: st, M)
    | .iload _ => match km_get lv x with
      | some (.int v) => some ([], lv, .int v :: st, M)
      | _ => none
    | .iload_n _ => match km_get lv x with
      | some (.int v) => some ([], lv, .int v :: st, M)
      | _ => none
    | .lload _ => match km_get lv x with
      | some (.long v) => some ([], lv, .long v :: st, M)
      | _ => none
    | .lload_n _ => match km_get lv x with
      | some (.long v) => some ([], lv, .long v :: st, M)
      | _ => none
    | .aload _ => match km_get lv x with
      | some (.ref v) => some ([], lv, .ref v :: st, M)
      | _ => none
    | .aload_n _ => match km_get lv x with
      | some (.ref v) => some ([], lv, .ref v :: st, M)
      | _ => none
    | .istore _ => match st with
      | .int v :: s => match Nat.blt x (km_len lv) with
        | true => some ([], km_st1 lv x (.int v), s, M)
        | false => none
      | _ => none
    | .istore_n _ => match st with
      | .int v :: s => match Nat.blt x (km_len lv) with
        | true => some ([], km_st1 lv x (.int v), s, M)
        | false => none
      | _ => none
    | .astore _ => match st with
      | .ref v :: s => match Nat.blt x (km_len lv) with
        | true => some ([], km_st1 lv x (.ref v), s, M)
        | false => none
      | _ => none
    | .astore_n _ => match st with
      | .ref v :: s => match Nat.blt x (km_len lv) with
        | true => some ([], km_st1 lv x (.ref v), s, M)
        | false => none
      | _ => none
    | .lstore _ => match st with
      | .long v :: s => match Nat.blt (x + 1) (km_len lv) with
        | true => some ([], km_st2 lv x (.long v), s, M)
        | false => none
      | _ => none
    | .lstore_n _ => match st with
      | .long v :: s => match Nat.blt (x + 1) (km_len lv) with
        | true => some ([], km_st2 lv x (.long v), s, M)
        | false => none
      | _ => none
    | .iinc _ _ => match km_get lv x with
      | some (.int v) => match Nat.blt x (km_len lv) with
        | true => some ([], km_st1 lv x (.int (v + c)), st, M)
        | false => none
      | _ => none
    | .iadd => match st with
      | .int b :: .int a :: s => some ([], lv, .int (a + b) :: s, M)
      | _ => none
    | .isub => match st with
      | .int b :: .int a :: s => some ([], lv, .int (a - b) :: s, M)
      | _ => none
    | .imul => match st with
      | .int b :: .int a :: s => some ([], lv, .int (a * b) :: s, M)
      | _ => none
    | .iand => match st with
      | .int b :: .int a :: s => some ([], lv, .int (a &&& b) :: s, M)
      | _ => none
    | .ior => match st with
      | .int b :: .int a :: s => some ([], lv, .int (a ||| b) :: s, M)
      | _ => none
    | .ixor => match st with
      | .int b :: .int a :: s => some ([], lv, .int (a ^^^ b) :: s, M)
      | _ => none
    | .idiv => match st with
      | .int b :: .int a :: s => some ([¬ b = 0], lv, .int (a / b) :: s, M)
      | _ => none
    | .irem => match st with
      | .int b :: .int a :: s => some ([¬ b = 0], lv, .int (a - a / b * b) :: s, M)
      | _ => none
    | .ishl => match st with
      | .int b :: .int a :: s => some ([], lv, .int (a <<< (b &&& 31)) :: s, M)
      | _ => none
    | .ishr => match st with
      | .int b :: .int a :: s => some ([], lv, .int (a >>> (b &&& 31)) :: s, M)
      | _ => none
    | .iushr => match st with
      | .int b :: .int a :: s => some ([], lv, .int (a.toUInt32 >>> (b.toUInt32 &&& Int32.toUInt32 31)).toInt32 :: s, M)
      | _ => none
    | .ladd => match st with
      | .long b :: .long a :: s => some ([], lv, .long (a + b) :: s, M)
      | _ => none
    | .lsub => match st with
      | .long b :: .long a :: s => some ([], lv, .long (a - b) :: s, M)
      | _ => none
    | .lmul => match st with
      | .long b :: .long a :: s => some ([], lv, .long (a * b) :: s, M)
      | _ => none
    | .land => match st with
      | .long b :: .long a :: s => some ([], lv, .long (a &&& b) :: s, M)
      | _ => none
    | .lor => match st with
      | .long b :: .long a :: s => some ([], lv, .long (a ||| b) :: s, M)
      | _ => none
    | .lxor => match st with
      | .long b :: .long a :: s => some ([], lv, .long (a ^^^ b) :: s, M)
      | _ => none
    | .ldiv => match st with
      | .long b :: .long a :: s => some ([¬ b = 0], lv, .long (a / b) :: s, M)
      | _ => none
    | .lrem => match st with
      | .long b :: .long a :: s => some ([¬ b = 0], lv, .long (a - a / b * b) :: s, M)
      | _ => none
    | .lneg => match st with
      | .long a :: s => some ([], lv, .long (-a) :: s, M)
      | _ => none
    | .lshl => match st with
      | .int b :: .long a :: s => some ([], lv, .long (a <<< (b.toInt64 &&& 63)) :: s, M)
      | _ => none
    | .lshr => match st with
      | .int b :: .long a :: s => some ([], lv, .long (a >>> (b.toInt64 &&& 63)) :: s, M)
      | _ => none
    | .lushr => match st with
      | .int b :: .long a :: s => some ([], lv, .long (a.toUInt64 >>> (b.toInt64.toUInt64 &&& Int64.toUInt64 63)).toInt64 :: s, M)
      | _ => none
    | .lcmp => match st with
      | .long b :: .long a :: s => some ([], lv, .int (lg_cmp a b) :: s, M)
      | _ => none
    | .i2l => match st with
      | .int a :: s => some ([], lv, .long a.toInt64 :: s, M)
      | _ => none
    | .l2i => match st with
      | .long a :: s => some ([], lv, .int a.toInt32 :: s, M)
      | _ => none
    | .dup => match st with
      | .int a :: s => some ([], lv, .int a :: .int a :: s, M)
      | .ref a :: s => some ([], lv, .ref a :: .ref a :: s, M)
      | _ => none
    | .dup2 => match st with
      | .int b :: .ref a :: s => some ([], lv, .int b :: .ref a :: .int b :: .ref a :: s, M)
      | _ => none
    | .pop => match st with
      | .int a :: s => some ([], lv, s, M)
      | .ref a :: s => some ([], lv, s, M)
      | _ => none
    | .getfield _ => match st with
      | .ref a :: s => some ([(sh a).1 = x], lv, km_ld z M a y :: s, M)
      | _ => none
    | .putfield _ => match z, st with
      | 0, .int v :: .ref a :: s => some ([(sh a).1 = x], lv, s, (km_up M.1 a y v, M.2.1, M.2.2))
      | 1, .long v :: .ref a :: s => some ([(sh a).1 = x], lv, s, (M.1, km_up M.2.1 a y v, M.2.2))
      | 2, .ref v :: .ref a :: s => some ([(sh a).1 = x], lv, s, (M.1, M.2.1, km_up M.2.2 a y v))
      | 3, .int v :: .ref a :: s => some ([(sh a).1 = x, v = 0 ∨ v = 1], lv, s, (km_up M.1 a y v, M.2.1, M.2.2))
      | _, _ => none
    | .iaload => match st with
      | .int j :: .ref a :: s => some ([(sh a).1 = 10, vp_in j (sh a).2], lv, .int (M.1 a j.toNatClampNeg) :: s, M)
      | _ => none
    | .laload => match st with
      | .int j :: .ref a :: s => some ([(sh a).1 = 11, vp_in j (sh a).2], lv, .long (M.2.1 a j.toNatClampNeg) :: s, M)
      | _ => none
    | .baload => match st with
      | .int j :: .ref a :: s => some ([(sh a).1 = 12, vp_in j (sh a).2], lv, .int (M.1 a j.toNatClampNeg) :: s, M)
      | _ => none
    | .aaload => match st with
      | .int j :: .ref a :: s => some ([(sh a).1 = x, x = 13 ∨ x = 14, vp_in j (sh a).2], lv, .ref (M.2.2 a j.toNatClampNeg) :: s, M)
      | _ => none
    | .iastore => match st with
      | .int v :: .int j :: .ref a :: s => some ([(sh a).1 = 10, vp_in j (sh a).2], lv, s, (km_up M.1 a j.toNatClampNeg v, M.2.1, M.2.2))
      | _ => none
    | .lastore => match st with
      | .long v :: .int j :: .ref a :: s => some ([(sh a).1 = 11, vp_in j (sh a).2], lv, s, (M.1, km_up M.2.1 a j.toNatClampNeg v, M.2.2))
      | _ => none
    | .bastore => match st with
      | .int v :: .int j :: .ref a :: s => some ([(sh a).1 = 12, vp_in j (sh a).2, v = 0 ∨ v = 1], lv, s, (km_up M.1 a j.toNatClampNeg v, M.2.1, M.2.2))
      | _ => none
    | .aastore => match st with
      | .ref v :: .int j :: .ref a :: s => some ([(sh a).1 = x, (x = 13 ∧ (sh v).1 = 4) ∨ (x = 14 ∧ (sh v).1 = 11), vp_in j (sh a).2], lv, s, (M.1, M.2.1, km_up M.2.2 a j.toNatClampNeg v))
      | _ => none
    | .arraylength => match st with
      | .ref a :: s => some ([(sh a).1 = x, x = 10 ∨ x = 11], lv, .int (Int32.ofNat (sh a).2) :: s, M)
      | _ => none
    | .invokestatic _ => match z, st with
      | 10, .int k :: .int dp :: .ref b :: .int sp :: .ref a :: s => match Nat.ble (km_wd s) 8 with
        | true => some ([(sh a).1 = 10, (sh b).1 = 10, ¬ sp < 0, ¬ dp < 0, ¬ k < 0, sp.toNatClampNeg + k.toNatClampNeg ≤ (sh a).2, dp.toNatClampNeg + k.toNatClampNeg ≤ (sh b).2], lv, s, (km_cp M.1 a b sp.toNatClampNeg dp.toNatClampNeg k.toNatClampNeg, M.2.1, M.2.2))
        | false => none
      | 11, .int k :: .int dp :: .ref b :: .int sp :: .ref a :: s => match Nat.ble (km_wd s) 8 with
        | true => some ([(sh a).1 = 11, (sh b).1 = 11, ¬ sp < 0, ¬ dp < 0, ¬ k < 0, sp.toNatClampNeg + k.toNatClampNeg ≤ (sh a).2, dp.toNatClampNeg + k.toNatClampNeg ≤ (sh b).2], lv, s, (M.1, km_cp M.2.1 a b sp.toNatClampNeg dp.toNatClampNeg k.toNatClampNeg, M.2.2))
        | false => none
      | 20, .int b :: .int a :: s => match Nat.ble (km_wd s) 8 with
        | true => some ([], lv, .int (if a < b then b else a) :: s, M)
        | false => none
      | 21, .int b :: .int a :: s => match Nat.ble (km_wd s) 8 with
        | true => some ([], lv, .int (if b < a then b else a) :: s, M)
        | false => none
      | _, _ => none
    | _ => none
/-- a branch: when it is taken, when not, and the stack behind it -/
def kQ : Instr → List Value → Option (Prop × Prop × List Value)
  | .if_icmp .eq _, .int b :: .int a :: s => some (a = b, ¬ a = b, s)
  | .if_icmp .ne _, .int b :: .int a :: s => some (¬ a = b, a = b, s)
  | .if_icmp .lt _, .int b :: .int a :: s => some (a < b, ¬ a < b, s)
  | .if_icmp .ge _, .int b :: .int a :: s => some (b ≤ a, ¬ b ≤ a, s)
  | .if_icmp .gt _, .int b :: .int a :: s => some (b < a, ¬ b < a, s)
  | .if_icmp .le _, .int b :: .int a :: s => some (a ≤ b, ¬ a ≤ b, s)
  | .ifCond .eq _, .int a :: s => some (a = 0, ¬ a = 0, s)
  | .ifCond .ne _, .int a :: s => some (¬ a = 0, a = 0, s)
  | .ifCond .lt _, .int a :: s => some (a < 0, ¬ a < 0, s)
  | .ifCond .ge _, .int a :: s => some (0 ≤ a, ¬ 0 ≤ a, s)
  | .ifCond .gt _, .int a :: s => some (0 < a, ¬ 0 < a, s)
  | .ifCond .le _, .int a :: s => some (a ≤ 0, ¬ a ≤ 0, s)
  | _, _ => none
/-- a switch: by its pairs, then by none of them -/
def kT (lv : km_L) (s : List Value) (v : Int32) : List (Int32 × Nat) → Nat → List Prop → List (Prop × Nat × km_L × List Value)
  | [], d, ns => [(km_and ns True, d, lv, s)]
  | (k, t) :: r, d, ns => (v = k, t, lv, s) :: kT lv s v r d ((¬ v = k) :: ns)
/-- the callee's arguments off the stack -/
def kZ : Nat → List Value → List Value → Option (List Value × List Value)
  | 0, st, acc => some (acc, st)
  | n + 1, v :: s, acc => kZ n s (v :: acc)
  | _ + 1, [], _ => none
abbrev km_J : Type := List (Prop × Nat × km_L × List Value)
/-- how a block ends: it goes on, it branches, it returns, it calls -/
abbrev km_O : Type := (Nat × km_L × List Value) ⊕ km_J ⊕ (List Prop × Option Value) ⊕ (List Prop × Nat × List Value × Nat × km_L × List Value)
def kO (sh : Nat → Nat × Nat) (rz : Bool) : km_I → Nat → km_L → List Value → Option km_O
  | (i, n, x, y, z, c, w, t), pc, lv, st => match i with
    | .goto _ => some (.inl (x, lv, st))
    | .if_icmp _ _ => match kQ i st with
      | some (P, Q, s) => some (.inr (.inl [(P, x, lv, s), (Q, pc + n, lv, s)]))
      | none => none
    | .ifCond _ _ => match kQ i st with
      | some (P, Q, s) => some (.inr (.inl [(P, x, lv, s), (Q, pc + n, lv, s)]))
      | none => none
    | .tableswitch _ _ _ _ => match st with
      | .int v :: s => some (.inr (.inl (kT lv s v t x [])))
      | _ => none
    | .lookupswitch _ _ => match st with
      | .int v :: s => some (.inr (.inl (kT lv s v t x [])))
      | _ => none
    | .ireturn => match st with
      | [.int v] => match rz with
        | true => some (.inr (.inr (.inl ([v = 0 ∨ v = 1], some (.int v)))))
        | false => some (.inr (.inr (.inl ([], some (.int v)))))
      | _ => none
    | .lreturn => match st with
      | [.long v] => some (.inr (.inr (.inl ([], some (.long v)))))
      | _ => none
    | .areturn => match st with
      | [.ref v] => some (.inr (.inr (.inl ([], some (.ref v)))))
      | _ => none
    | .return_ => match st with
      | [] => some (.inr (.inr (.inl ([], none))))
      | _ => none
    | .invokevirtual _ => match kZ y st [] with
      | some (.ref a :: as, s) => match Nat.ble (km_wd s) 8 with
        | true => some (.inr (.inr (.inr ([(sh a).1 = z], x, .ref a :: as, pc + n, lv, s))))
        | false => none
      | _ => none
    | .invokestatic _ => match z with
      | 0 => match kZ y st [] with
        | some (as, s) => match Nat.ble (km_wd s) 8 with
          | true => some (.inr (.inr (.inr ([], x, as, pc + n, lv, s))))
          | false => none
        | none => none
      | _ => none
    | _ => none
abbrev km_G : Type := Nat → km_L → List Value → km_M → Prop
abbrev km_C : Type := Nat → List Value → km_M → km_K → Prop
/-- one branch holds, and goes on -/
def kJo (G : km_G) (M : km_M) : km_J → Prop
  | [] => False
  | j :: r => (j.1 ∧ G j.2.1 j.2.2.1 j.2.2.2 M) ∨ kJo G M r
/-- every branch that holds goes on -/
def kJa (G : km_G) (M : km_M) : km_J → Prop
  | [] => True
  | [j] => j.1 → G j.2.1 j.2.2.1 j.2.2.2 M
  | j :: r => (j.1 → G j.2.1 j.2.2.1 j.2.2.2 M) ∧ kJa G M r
def kX (Jm : km_G → km_M → km_J → Prop) (G : km_G) (Rt : km_K) (Cl : km_C) (o : km_O) (M : km_M) : Prop := match o with
  | .inl (pc, lv, s) => G pc lv s M
  | .inr (.inl js) => Jm G M js
  | .inr (.inr (.inl (ps, v))) => km_and ps (Rt v M)
  | .inr (.inr (.inr (ps, m, as, pc, lv, s))) => km_and ps (Cl m as M (fun v M1 => G pc lv (v.toList ++ s) M1))
def kB (sh : Nat → Nat × Nat) (rz : Bool) (Jm : km_G → km_M → km_J → Prop) (G : km_G) (Rt : km_K) (Cl : km_C) : List km_I → Nat → km_L → List Value → km_M → Prop
  | [], pc, lv, st, M => G pc lv st M
  | it :: r, pc, lv, st, M => match kS sh it lv st M with
    | some (ps, lv', st', M') => km_and ps (kB sh rz Jm G Rt Cl r (pc + it.2.1) lv' st' M')
    | none => match kO sh rz it pc lv st with
      | some o => kX Jm G Rt Cl o M
      | none => False
def kF : Nat → List km_B → Option km_B
  | _, [] => none
  | pc, b :: r => match Nat.beq pc b.1 with
    | true => some b
    | false => kF pc r
def kMk (P : km_P) (pc : Nat) : List Bool := match kF pc P.2.2 with
  | some b => b.2.1
  | none => []
def kIn (P : km_P) (as : List Value) : km_L := km_mask (kMk P 0) (km_ent P.1 as)
def kEq (v : Option Value) (M : km_M) : km_K := fun v' M' => v' = v ∧ M' = M
/-- a run by fuel -/
def kG (sh : Nat → Nat × Nat) (pg : Nat → km_P) : Nat → Nat → Nat → km_L → List Value → km_M → km_K → Prop
  | 0, _, _, _, _, _, _ => False
  | f + 1, mid, pc, lv, st, M, K => match kF pc (pg mid).2.2 with
    | none => False
    | some b => kB sh (pg mid).2.1 kJo (fun pc lv st M => kG sh pg f mid pc (km_mask (kMk (pg mid) pc) lv) st M K) K (fun m as M' K' => Nat.ble (km_wd as) (pg m).1 = true ∧ ∃ v M1, kG sh pg f m 0 (kIn (pg m) as) [] M' (kEq v M1) ∧ K' v M1) b.2.2 pc lv st M
/-- it ends, and K holds of the answer and the memory -/
def kW (sh : Nat → Nat × Nat) (pg : Nat → km_P) (mid pc : Nat) (lv : km_L) (st : List Value) (M : km_M) (K : km_K) : Prop := ∃ f, kG sh pg f mid pc lv st M K
def kC (sh : Nat → Nat × Nat) (pg : Nat → km_P) (mid : Nat) (as : List Value) (M : km_M) (K : km_K) : Prop := Nat.ble (km_wd as) (pg mid).1 = true ∧ kW sh pg mid 0 (kIn (pg mid) as) [] M K
end
section
/-! LAWS OF THE ABSTRACT MACHINE: more fuel, a weaker end, one answer, and the rule by which a block is run -/
theorem kJo_mono {G G' : km_G} {M : km_M} (hG : ∀ pc lv st M, G pc lv st M → G' pc lv st M) : ∀ {js : km_J}, kJo G M js → kJo G' M js
  | [], h => h.elim
  | _ :: _, h => h.elim (fun q => Or.inl ⟨q.1, hG _ _ _ _ q.2⟩) (fun q => Or.inr (kJo_mono hG q))
theorem km_and_mono {ps : List Prop} {Q Q' : Prop} (f : Q → Q') (h : km_and ps Q) : km_and ps Q' := km_and_iff.mpr ⟨(km_and_iff.mp h).1, f (km_and_iff.mp h).2⟩
theorem kX_mono {G G' : km_G} {Rt Rt' : km_K} {Cl Cl' : km_C} (hG : ∀ pc lv st M, G pc lv st M → G' pc lv st M) (hR : ∀ v M, Rt v M → Rt' v M) (hC : ∀ m as M (K1 K2 : km_K), (∀ v M1, K1 v M1 → K2 v M1) → Cl m as M K1 → Cl' m as M K2) :
    ∀ (o : km_O) (M : km_M), kX kJo G Rt Cl o M → kX kJo G' Rt' Cl' o M
  | .inl (pc, lv, s), M, h => hG _ _ _ _ h
  | .inr (.inl js), M, h => kJo_mono hG h
  | .inr (.inr (.inl (ps, v))), M, h => km_and_mono (hR _ _) h
  | .inr (.inr (.inr (ps, m, as, pc, lv, s))), M, h => km_and_mono (hC _ _ _ _ _ (fun _ _ => hG _ _ _ _)) h
theorem kB_mono {sh : Nat → Nat × Nat} {rz : Bool} {G G' : km_G} {Rt Rt' : km_K} {Cl Cl' : km_C} (hG : ∀ pc lv st M, G pc lv st M → G' pc lv st M) (hR : ∀ v M, Rt v M → Rt' v M) (hC : ∀ m as M (K1 K2 : km_K), (∀ v M1, K1 v M1 → K2 v M1) → Cl m as M K1 → Cl' m as M K2) :
    ∀ (cs : List km_I) (pc : Nat) (lv : km_L) (st : List Value) (M : km_M), kB sh rz kJo G Rt Cl cs pc lv st M → kB sh rz kJo G' Rt' Cl' cs pc lv st M
  | [], pc, lv, st, M, h => hG _ _ _ _ h
  | it :: r, pc, lv, st, M, h => by
    unfold kB at h ⊢
    cases hs : kS sh it lv st M with
    | some q =>
      obtain ⟨ps, lv', st', M'⟩ := q
      rw [hs] at h
      exact km_and_mono (kB_mono hG hR hC r _ _ _ _) h
    | none =>
      rw [hs] at h
      cases ho : kO sh rz it pc lv st with
      | some o =>
        rw [ho] at h
        exact kX_mono hG hR hC o M h
      | none =>
        rw [ho] at h
        exact h
theorem kG_mono {sh : Nat → Nat × Nat} {pg : Nat → km_P} : ∀ (f f' : Nat), f ≤ f' → ∀ (mid pc : Nat) (lv : km_L) (st : List Value) (M : km_M) (K K' : km_K), (∀ v M1, K v M1 → K' v M1) → kG sh pg f mid pc lv st M K → kG sh pg f' mid pc lv st M K'
  | 0, _, _, _, _, _, _, _, _, _, _, h => h.elim
  | f + 1, 0, hf, _, _, _, _, _, _, _, _, _ => absurd hf (by omega)
  | f + 1, f' + 1, hf, mid, pc, lv, st, M, K, K', hK, h => by
    unfold kG at h ⊢
    cases hb : kF pc (pg mid).2.2 with
    | none => rw [hb] at h; exact h
    | some b =>
      rw [hb] at h
      refine kB_mono (fun pc lv st M q => kG_mono f f' (by omega) _ _ _ _ _ _ _ hK q) hK (fun m as M K1 K2 hk q => ?_) _ _ _ _ _ h
      obtain ⟨q0, v, M1, q1, q2⟩ := q
      exact ⟨q0, v, M1, kG_mono f f' (by omega) _ _ _ _ _ _ _ (fun _ _ q => q) q1, hk _ _ q2⟩
theorem kJo_exact {G : km_K → km_G} {K : km_K} {M : km_M} (hG : ∀ pc lv st M, G K pc lv st M → ∃ v M1, G (kEq v M1) pc lv st M ∧ K v M1) : ∀ {js : km_J}, kJo (G K) M js → ∃ v M1, kJo (G (kEq v M1)) M js ∧ K v M1
  | [], h => h.elim
  | _ :: _, h => by
    rcases h with ⟨h1, h2⟩ | h
    · obtain ⟨v, M1, q1, q2⟩ := hG _ _ _ _ h2
      exact ⟨v, M1, Or.inl ⟨h1, q1⟩, q2⟩
    · obtain ⟨v, M1, q1, q2⟩ := kJo_exact hG h
      exact ⟨v, M1, Or.inr q1, q2⟩
theorem kX_exact {G : km_K → km_G} {K : km_K} {Cl : km_C} (hG : ∀ pc lv st M, G K pc lv st M → ∃ v M1, G (kEq v M1) pc lv st M ∧ K v M1) (hC : ∀ m as M K', Cl m as M K' → ∃ v M1, K' v M1 ∧ ∀ K'' : km_K, K'' v M1 → Cl m as M K'') :
    ∀ (o : km_O) (M : km_M), kX kJo (G K) K Cl o M → ∃ v M1, kX kJo (G (kEq v M1)) (kEq v M1) Cl o M ∧ K v M1
  | .inl (pc, lv, s), M, h => hG _ _ _ _ h
  | .inr (.inl js), M, h => kJo_exact hG h
  | .inr (.inr (.inl (ps, v))), M, h => ⟨v, M, km_and_mono (fun _ => ⟨rfl, rfl⟩) h, (km_and_iff.mp h).2⟩
  | .inr (.inr (.inr (ps, m, as, pc, lv, s))), M, h => by
    obtain ⟨v0, M0, q1, q2⟩ := hC _ _ _ _ (km_and_iff.mp h).2
    obtain ⟨v, M1, q3, q4⟩ := hG _ _ _ _ q1
    exact ⟨v, M1, km_and_mono (fun _ => q2 _ q3) h, q4⟩
theorem kB_exact {sh : Nat → Nat × Nat} {rz : Bool} {G : km_K → km_G} {K : km_K} {Cl : km_C} (hG : ∀ pc lv st M, G K pc lv st M → ∃ v M1, G (kEq v M1) pc lv st M ∧ K v M1) (hC : ∀ m as M K', Cl m as M K' → ∃ v M1, K' v M1 ∧ ∀ K'' : km_K, K'' v M1 → Cl m as M K'') :
    ∀ (cs : List km_I) (pc : Nat) (lv : km_L) (st : List Value) (M : km_M), kB sh rz kJo (G K) K Cl cs pc lv st M → ∃ v M1, kB sh rz kJo (G (kEq v M1)) (kEq v M1) Cl cs pc lv st M ∧ K v M1
  | [], pc, lv, st, M, h => hG _ _ _ _ h
  | it :: r, pc, lv, st, M, h => by
    unfold kB at h
    cases hs : kS sh it lv st M with
    | some q =>
      obtain ⟨ps, lv', st', M'⟩ := q
      rw [hs] at h
      obtain ⟨v, M1, q1, q2⟩ := kB_exact hG hC r _ _ _ _ (km_and_iff.mp h).2
      refine ⟨v, M1, ?_, q2⟩
      unfold kB
      rw [hs]
      exact km_and_mono (fun _ => q1) h
    | none =>
      rw [hs] at h
      cases ho : kO sh rz it pc lv st with
      | some o =>
        rw [ho] at h
        obtain ⟨v, M1, q1, q2⟩ := kX_exact hG hC o M h
        refine ⟨v, M1, ?_, q2⟩
        unfold kB
        rw [hs, ho]
        exact q1
      | none =>
        rw [ho] at h
        exact h.elim
theorem kG_exact {sh : Nat → Nat × Nat} {pg : Nat → km_P} : ∀ (f mid pc : Nat) (lv : km_L) (st : List Value) (M : km_M) (K : km_K), kG sh pg f mid pc lv st M K → ∃ v M1, kG sh pg f mid pc lv st M (kEq v M1) ∧ K v M1
  | 0, _, _, _, _, _, _, h => h.elim
  | f + 1, mid, pc, lv, st, M, K, h => by
    unfold kG at h
    cases hb : kF pc (pg mid).2.2 with
    | none => rw [hb] at h; exact h.elim
    | some b =>
      rw [hb] at h
      obtain ⟨v, M1, q1, q2⟩ := kB_exact (G := fun K pc lv st M => kG sh pg f mid pc (km_mask (kMk (pg mid) pc) lv) st M K) (fun pc lv st M q => kG_exact f _ _ _ _ _ _ q) (fun m as M K' q => by
        obtain ⟨q0, v, M1, q1, q2⟩ := q
        exact ⟨v, M1, q2, fun K'' q3 => ⟨q0, v, M1, q1, q3⟩⟩) _ _ _ _ _ h
      refine ⟨v, M1, ?_, q2⟩
      unfold kG
      rw [hb]
      exact q1
/-- a branch or a switch has always one way that holds -/
theorem kT_some {lv : km_L} {s : List Value} {v : Int32} : ∀ (t : List (Int32 × Nat)) (d : Nat) (ns : List Prop), (∀ n ∈ ns, n) → ∃ j ∈ kT lv s v t d ns, j.1
  | [], d, ns, h => ⟨_, List.mem_cons_self, km_and_iff.mpr ⟨h, trivial⟩⟩
  | (k, t) :: r, d, ns, h => by
    by_cases hk : v = k
    · exact ⟨_, List.mem_cons_self, hk⟩
    · obtain ⟨j, h1, h2⟩ := kT_some r d ((¬ v = k) :: ns) (fun n hn => (List.mem_cons.mp hn).elim (fun e => e ▸ hk) (h n))
      exact ⟨j, List.mem_cons_of_mem _ h1, h2⟩
theorem kQ_some {i : Instr} {st s : List Value} {P Q : Prop} (h : kQ i st = some (P, Q, s)) : P ∨ Q := by
  unfold kQ at h
  split at h <;> first | (cases h; first | exact Classical.em _ | exact (Classical.em _).symm) | cases h
theorem kO_some {sh : Nat → Nat × Nat} {rz : Bool} {it : km_I} {pc : Nat} {lv : km_L} {st : List Value} {js : km_J} (h : kO sh rz it pc lv st = some (.inr (.inl js))) : ∃ j ∈ js, j.1 := by
  obtain ⟨i, n, x, y, z, c, w, t⟩ := it
  unfold kO at h
  dsimp only at h
  split at h
  · cases h
  · split at h
    · rename_i hq
      cases h
      rcases kQ_some hq with q | q
      · exact ⟨_, List.mem_cons_self, q⟩
      · exact ⟨_, List.mem_cons_of_mem _ List.mem_cons_self, q⟩
    · cases h
  · split at h
    · rename_i hq
      cases h
      rcases kQ_some hq with q | q
      · exact ⟨_, List.mem_cons_self, q⟩
      · exact ⟨_, List.mem_cons_of_mem _ List.mem_cons_self, q⟩
    · cases h
  · split at h
    · cases h
      exact kT_some _ _ _ (fun n hn => by cases hn)
    · cases h
  · split at h
    · cases h
      exact kT_some _ _ _ (fun n hn => by cases hn)
    · cases h
  all_goals (first | cases h | (split at h <;> first | cases h | (split at h <;> first | cases h | (split at h <;> cases h))))
theorem kJa_at {G : km_G} {M : km_M} : ∀ {js : km_J}, kJa G M js → ∀ j ∈ js, j.1 → G j.2.1 j.2.2.1 j.2.2.2 M
  | [], _, j, hj, _ => by cases hj
  | [j0], h, j, hj, q => by
    rw [List.mem_singleton] at hj
    subst hj
    exact h q
  | j0 :: j1 :: r, h, j, hj, q => by
    rcases List.mem_cons.mp hj with e | hj
    · subst e
      exact h.1 q
    · exact kJa_at (js := j1 :: r) h.2 j hj q
theorem kJo_in {G : km_G} {M : km_M} : ∀ {js : km_J} {j : Prop × Nat × km_L × List Value}, j ∈ js → j.1 → G j.2.1 j.2.2.1 j.2.2.2 M → kJo G M js
  | [], _, h, _, _ => by cases h
  | j0 :: r, j, h, q, g => by
    rcases List.mem_cons.mp h with e | h
    · subst e
      exact Or.inl ⟨q, g⟩
    · exact Or.inr (kJo_in h q g)
/-- fuel for a block: enough for each of its ends -/
theorem kX_fuel {G : Nat → km_G} {K : km_K} {Cl : Nat → km_C} (mG : ∀ f f', f ≤ f' → ∀ pc lv st M, G f pc lv st M → G f' pc lv st M)
    (hC : ∀ f m as M (K' : km_K), (∃ v M1, K' v M1 ∧ ∀ K'' : km_K, K'' v M1 → ∀ f', f ≤ f' → Cl f' m as M K'') → True)
    {sh : Nat → Nat × Nat} {rz : Bool} {it : km_I} {pc : Nat} {lv : km_L} {st : List Value} {C : km_C}
    (cC : ∀ m as M (K' : km_K), C m as M K' → ∃ f v M1, K' v M1 ∧ ∀ (K'' : km_K) f', K'' v M1 → f ≤ f' → Cl f' m as M K'') :
    ∀ (o : km_O) (M : km_M), kO sh rz it pc lv st = some o → kX kJa (fun pc lv st M => ∃ f, G f pc lv st M) K C o M → ∃ f, kX kJo (G f) K (Cl f) o M
  | .inl (pc, lv, s), M, _, h => h
  | .inr (.inl js), M, ho, h => by
    obtain ⟨j, h1, h2⟩ := kO_some ho
    obtain ⟨f, q⟩ := kJa_at h j h1 h2
    exact ⟨f, kJo_in h1 h2 q⟩
  | .inr (.inr (.inl (ps, v))), M, _, h => ⟨0, h⟩
  | .inr (.inr (.inr (ps, m, as, pc, lv, s))), M, _, h => by
    obtain ⟨f, v, M1, ⟨f2, q1⟩, q2⟩ := cC _ _ _ _ (km_and_iff.mp h).2
    exact ⟨max f f2, km_and_mono (fun _ => q2 _ _ (mG f2 _ (Nat.le_max_right _ _) _ _ _ _ q1) (Nat.le_max_left _ _)) h⟩
theorem kB_fuel {G : Nat → km_G} {K : km_K} {Cl : Nat → km_C} (mG : ∀ f f', f ≤ f' → ∀ pc lv st M, G f pc lv st M → G f' pc lv st M)
    {sh : Nat → Nat × Nat} {rz : Bool} {C : km_C}
    (cC : ∀ m as M (K' : km_K), C m as M K' → ∃ f v M1, K' v M1 ∧ ∀ (K'' : km_K) f', K'' v M1 → f ≤ f' → Cl f' m as M K'') :
    ∀ (cs : List km_I) (pc : Nat) (lv : km_L) (st : List Value) (M : km_M), kB sh rz kJa (fun pc lv st M => ∃ f, G f pc lv st M) K C cs pc lv st M → ∃ f, kB sh rz kJo (G f) K (Cl f) cs pc lv st M
  | [], pc, lv, st, M, h => h
  | it :: r, pc, lv, st, M, h => by
    unfold kB at h
    cases hs : kS sh it lv st M with
    | some q =>
      obtain ⟨ps, lv', st', M'⟩ := q
      rw [hs] at h
      obtain ⟨f, q1⟩ := kB_fuel mG cC r _ _ _ _ (km_and_iff.mp h).2
      refine ⟨f, ?_⟩
      unfold kB
      rw [hs]
      exact km_and_mono (fun _ => q1) h
    | none =>
      rw [hs] at h
      cases ho : kO sh rz it pc lv st with
      | some o =>
        rw [ho] at h
        obtain ⟨f, q1⟩ := kX_fuel mG (fun _ _ _ _ _ _ => trivial) cC o M ho h
        refine ⟨f, ?_⟩
        unfold kB
        rw [hs, ho]
        exact q1
      | none =>
        rw [ho] at h
        exact h.elim
/-- THE RULE: a block is run, each of its ends by kW and kC -/
theorem kW_block {sh : Nat → Nat × Nat} {pg : Nat → km_P} {mid pc : Nat} {lv : km_L} {st : List Value} {M : km_M} {K : km_K} {b : km_B} (hb : kF pc (pg mid).2.2 = some b)
    (h : kB sh (pg mid).2.1 kJa (fun pc lv st M => kW sh pg mid pc (km_mask (kMk (pg mid) pc) lv) st M K) K (kC sh pg) b.2.2 pc lv st M) : kW sh pg mid pc lv st M K := by
  obtain ⟨f, q⟩ := kB_fuel (G := fun f pc lv st M => kG sh pg f mid pc (km_mask (kMk (pg mid) pc) lv) st M K) (Cl := fun f m as M' K' => Nat.ble (km_wd as) (pg m).1 = true ∧ ∃ v M1, kG sh pg f m 0 (kIn (pg m) as) [] M' (kEq v M1) ∧ K' v M1)
    (fun f f' hf pc lv st M q => kG_mono f f' hf _ _ _ _ _ _ _ (fun _ _ q => q) q)
    (fun m as M K' q => by
      obtain ⟨q0, f, q⟩ := q
      obtain ⟨v, M1, q1, q2⟩ := kG_exact _ _ _ _ _ _ _ q
      exact ⟨f, v, M1, q2, fun K'' f' q3 hf => ⟨q0, v, M1, kG_mono f f' hf _ _ _ _ _ _ _ (fun _ _ q => q) q1, q3⟩⟩) _ _ _ _ _ h
  refine ⟨f + 1, ?_⟩
  unfold kG
  rw [hb]
  exact q
theorem kW_mono {sh : Nat → Nat × Nat} {pg : Nat → km_P} {mid pc : Nat} {lv : km_L} {st : List Value} {M : km_M} {K K' : km_K} (hK : ∀ v M1, K v M1 → K' v M1) (h : kW sh pg mid pc lv st M K) : kW sh pg mid pc lv st M K' := by
  obtain ⟨f, q⟩ := h
  exact ⟨f, kG_mono f f (Nat.le_refl f) _ _ _ _ _ _ _ hK q⟩
theorem kC_mono {sh : Nat → Nat × Nat} {pg : Nat → km_P} {mid : Nat} {as : List Value} {M : km_M} {K K' : km_K} (h : kC sh pg mid as M K) (hK : ∀ v M1, K v M1 → K' v M1) : kC sh pg mid as M K' := ⟨h.1, kW_mono hK h.2⟩
end
section
/-! NAMES: printed by program out of the claim's own names (classes, fields, methods), then small tables of mine -/
def RX0 : String := "PalletNets$Invariants"
def TX0 : u_T := fun k => match k with
  | 0 => ("PalletNets$Invariants", "count", "I", false)
  | 1 => ("PalletNets$Invariants", "supports", "[I", false)
  | 2 => ("PalletNets$Invariants", "weights", "[[J", false)
  | 3 => ("PalletNets$Invariants", "newCount", "I", false)
  | 4 => ("PalletNets$Invariants", "newSupports", "[I", false)
  | 5 => ("PalletNets$Invariants", "newWeights", "[[J", false)
  | _ => ("PalletNets$Invariants", "surplus", "[J", true)
def tyX0 : Nat → FieldType := fun k => match k with
  | 0 => .int
  | 1 => .array .int
  | 2 => .array (.array .long)
  | 3 => .int
  | 4 => .array .int
  | 5 => .array (.array .long)
  | _ => .array .long
abbrev wsX00 : List Cond := u_ws RX0 TX0 7
theorem nmX0 : ∀ a, a < 7 → ∀ b, b < 7 → a ≠ b → (TX0 a).2.1 ≠ (TX0 b).2.1 := by decide +kernel
theorem tyX0_ok : ∀ k, k < 7 → parseFieldDescriptor (TX0 k).2.2.1 = some (tyX0 k) := by decide +kernel
abbrev cX0_init : ByteArray := prog_2_method_1_code
def yX0_init : MethodName := ⟨RX0, "<init>", "()V"⟩
abbrev cX0_weight : ByteArray := prog_2_method_2_code
def yX0_weight : MethodName := ⟨RX0, "weight", "(II)I"⟩
abbrev cX0_weighted : ByteArray := prog_2_method_3_code
def yX0_weighted : MethodName := ⟨RX0, "weighted", "(IJ)I"⟩
abbrev cX0_bound : ByteArray := prog_2_method_4_code
def yX0_bound : MethodName := ⟨RX0, "bound", "(IJ)I"⟩
abbrev cX0_findAll : ByteArray := prog_2_method_5_code
def yX0_findAll : MethodName := ⟨RX0, "findAll", "(LPalletNets$State;)V"⟩
abbrev cX0_balance : ByteArray := prog_2_method_6_code
def yX0_balance : MethodName := ⟨RX0, "balance", "(JJ)V"⟩
abbrev cX0_areAdjacent : ByteArray := prog_2_method_7_code
def yX0_areAdjacent : MethodName := ⟨RX0, "areAdjacent", "(II)Z"⟩
abbrev cX0_addCombined : ByteArray := prog_2_method_8_code
def yX0_addCombined : MethodName := ⟨RX0, "addCombined", "(IJIJ)V"⟩
abbrev cX0_commonDivisor : ByteArray := prog_2_method_9_code
def yX0_commonDivisor : MethodName := ⟨RX0, "commonDivisor", "(JJ)J"⟩
abbrev cX0_exchange : ByteArray := prog_2_method_10_code
def yX0_exchange : MethodName := ⟨RX0, "exchange", "()V"⟩
abbrev cX0_orderBySupport : ByteArray := prog_2_method_11_code
def yX0_orderBySupport : MethodName := ⟨RX0, "orderBySupport", "()V"⟩
def RX1 : String := "PalletNets$Marks"
def TX1 : u_T := fun k => match k with
  | _ => ("", "", "", false)
def tyX1 : Nat → FieldType := fun k => match k with
  | _ => .int
abbrev wsX10 : List Cond := u_ws RX1 TX1 0
theorem nmX1 : ∀ a, a < 0 → ∀ b, b < 0 → a ≠ b → (TX1 a).2.1 ≠ (TX1 b).2.1 := by decide +kernel
theorem tyX1_ok : ∀ k, k < 0 → parseFieldDescriptor (TX1 k).2.2.1 = some (tyX1 k) := by decide +kernel
abbrev cX1_one : ByteArray := prog_3_method_2_code
def yX1_one : MethodName := ⟨RX1, "one", "(I)J"⟩
abbrev cX1_tokens : ByteArray := prog_3_method_3_code
def yX1_tokens : MethodName := ⟨RX1, "tokens", "(JI)I"⟩
abbrev cX1_with : ByteArray := prog_3_method_4_code
def yX1_with : MethodName := ⟨RX1, "with", "(JII)J"⟩
abbrev cX1_sumIn : ByteArray := prog_3_method_5_code
def yX1_sumIn : MethodName := ⟨RX1, "sumIn", "(JI)I"⟩
abbrev cX1_covers : ByteArray := prog_3_method_6_code
def yX1_covers : MethodName := ⟨RX1, "covers", "(JJ)Z"⟩
abbrev cX1_overflows : ByteArray := prog_3_method_7_code
def yX1_overflows : MethodName := ⟨RX1, "overflows", "(J)Z"⟩
abbrev cX1_placesOf : ByteArray := prog_3_method_8_code
def yX1_placesOf : MethodName := ⟨RX1, "placesOf", "(J)I"⟩
abbrev cX1_hexadecimal : ByteArray := prog_3_method_9_code
def yX1_hexadecimal : MethodName := ⟨RX1, "hexadecimal", "(J)J"⟩
def RX2 : String := "PalletNets$Reader"
def TX2 : u_T := fun k => match k with
  | 0 => ("PalletNets$Reader", "text", "[I", true)
  | 1 => ("PalletNets$Reader", "size", "I", false)
  | 2 => ("PalletNets$Reader", "fault", "I", false)
  | 3 => ("PalletNets$Reader", "at", "I", false)
  | _ => ("PalletNets$Reader", "machines", "[I", true)
def tyX2 : Nat → FieldType := fun k => match k with
  | 0 => .array .int
  | 1 => .int
  | 2 => .int
  | 3 => .int
  | _ => .array .int
abbrev wsX20 : List Cond := u_ws RX2 TX2 5
theorem nmX2 : ∀ a, a < 5 → ∀ b, b < 5 → a ≠ b → (TX2 a).2.1 ≠ (TX2 b).2.1 := by decide +kernel
theorem tyX2_ok : ∀ k, k < 5 → parseFieldDescriptor (TX2 k).2.2.1 = some (tyX2 k) := by decide +kernel
abbrev cX2_init : ByteArray := prog_4_method_1_code
def yX2_init : MethodName := ⟨RX2, "<init>", "()V"⟩
abbrev cX2_carryOut : ByteArray := prog_4_method_2_code
def yX2_carryOut : MethodName := ⟨RX2, "carryOut", "(LPalletNets$State;)I"⟩
abbrev cX2_readOrder : ByteArray := prog_4_method_3_code
def yX2_readOrder : MethodName := ⟨RX2, "readOrder", "(LPalletNets$State;)V"⟩
abbrev cX2_readPlace : ByteArray := prog_4_method_4_code
def yX2_readPlace : MethodName := ⟨RX2, "readPlace", "(LPalletNets$State;)V"⟩
abbrev cX2_readStep : ByteArray := prog_4_method_5_code
def yX2_readStep : MethodName := ⟨RX2, "readStep", "(LPalletNets$State;)V"⟩
abbrev cX2_readLine : ByteArray := prog_4_method_6_code
def yX2_readLine : MethodName := ⟨RX2, "readLine", "(LPalletNets$State;)V"⟩
abbrev cX2_readGuard : ByteArray := prog_4_method_7_code
def yX2_readGuard : MethodName := ⟨RX2, "readGuard", "(LPalletNets$State;)V"⟩
abbrev cX2_readArcs : ByteArray := prog_4_method_8_code
def yX2_readArcs : MethodName := ⟨RX2, "readArcs", "(I)J"⟩
abbrev cX2_readDigit : ByteArray := prog_4_method_9_code
def yX2_readDigit : MethodName := ⟨RX2, "readDigit", "(II)I"⟩
abbrev cX2_expect : ByteArray := prog_4_method_10_code
def yX2_expect : MethodName := ⟨RX2, "expect", "(I)V"⟩
abbrev cX2_skipSpaces : ByteArray := prog_4_method_11_code
def yX2_skipSpaces : MethodName := ⟨RX2, "skipSpaces", "()V"⟩
abbrev cX2_next : ByteArray := prog_4_method_12_code
def yX2_next : MethodName := ⟨RX2, "next", "()I"⟩
abbrev cX2_isDigit : ByteArray := prog_4_method_13_code
def yX2_isDigit : MethodName := ⟨RX2, "isDigit", "(I)Z"⟩
abbrev cX2_fail : ByteArray := prog_4_method_14_code
def yX2_fail : MethodName := ⟨RX2, "fail", "(I)V"⟩
def RX3 : String := "PalletNets$Search"
def TX3 : u_T := fun k => match k with
  | 0 => ("PalletNets$Search", "markings", "[J", true)
  | 1 => ("PalletNets$Search", "depths", "[I", true)
  | 2 => ("PalletNets$Search", "ways", "[I", true)
  | 3 => ("PalletNets$Search", "count", "I", false)
  | 4 => ("PalletNets$Search", "nexts", "[I", true)
  | 5 => ("PalletNets$Search", "slots", "[I", true)
  | _ => ("PalletNets$Search", "measured", "Z", false)
def tyX3 : Nat → FieldType := fun k => match k with
  | 0 => .array .long
  | 1 => .array .int
  | 2 => .array .int
  | 3 => .int
  | 4 => .array .int
  | 5 => .array .int
  | _ => .boolean
abbrev wsX30 : List Cond := u_ws RX3 TX3 7
theorem nmX3 : ∀ a, a < 7 → ∀ b, b < 7 → a ≠ b → (TX3 a).2.1 ≠ (TX3 b).2.1 := by decide +kernel
theorem tyX3_ok : ∀ k, k < 7 → parseFieldDescriptor (TX3 k).2.2.1 = some (tyX3 k) := by decide +kernel
abbrev cX3_init : ByteArray := prog_5_method_1_code
def yX3_init : MethodName := ⟨RX3, "<init>", "()V"⟩
abbrev cX3_spread : ByteArray := prog_5_method_2_code
def yX3_spread : MethodName := ⟨RX3, "spread", "(LPalletNets$State;JIJ)V"⟩
abbrev cX3_enter : ByteArray := prog_5_method_3_code
def yX3_enter : MethodName := ⟨RX3, "enter", "(JI)I"⟩
abbrev cX3_slotOf : ByteArray := prog_5_method_4_code
def yX3_slotOf : MethodName := ⟨RX3, "slotOf", "(J)I"⟩
abbrev cX3_indexOf : ByteArray := prog_5_method_5_code
def yX3_indexOf : MethodName := ⟨RX3, "indexOf", "(J)I"⟩
abbrev cX3_mostIn : ByteArray := prog_5_method_6_code
def yX3_mostIn : MethodName := ⟨RX3, "mostIn", "(I)I"⟩
abbrev cX3_leastIn : ByteArray := prog_5_method_7_code
def yX3_leastIn : MethodName := ⟨RX3, "leastIn", "(I)I"⟩
abbrev cX3_ableSteps : ByteArray := prog_5_method_8_code
def yX3_ableSteps : MethodName := ⟨RX3, "ableSteps", "(II)I"⟩
abbrev cX3_liveSteps : ByteArray := prog_5_method_9_code
def yX3_liveSteps : MethodName := ⟨RX3, "liveSteps", "(I)I"⟩
abbrev cX3_deadlocks : ByteArray := prog_5_method_10_code
def yX3_deadlocks : MethodName := ⟨RX3, "deadlocks", "(I)I"⟩
abbrev cX3_isComplete : ByteArray := prog_5_method_11_code
def yX3_isComplete : MethodName := ⟨RX3, "isComplete", "(I)Z"⟩
abbrev cX3_measure : ByteArray := prog_5_method_12_code
def yX3_measure : MethodName := ⟨RX3, "measure", "(LPalletNets$State;I)V"⟩
abbrev cX3_shorten : ByteArray := prog_5_method_13_code
def yX3_shorten : MethodName := ⟨RX3, "shorten", "(LPalletNets$State;I)Z"⟩
abbrev cX3_wayOver : ByteArray := prog_5_method_14_code
def yX3_wayOver : MethodName := ⟨RX3, "wayOver", "(LPalletNets$State;II)I"⟩
abbrev cX3_wayless : ByteArray := prog_5_method_15_code
def yX3_wayless : MethodName := ⟨RX3, "wayless", "()I"⟩
abbrev cX3_firstStep : ByteArray := prog_5_method_16_code
def yX3_firstStep : MethodName := ⟨RX3, "firstStep", "(LPalletNets$State;)I"⟩
def RX4 : String := "PalletNets$Siphons"
def TX4 : u_T := fun k => match k with
  | 0 => ("PalletNets$Siphons", "count", "I", false)
  | 1 => ("PalletNets$Siphons", "sets", "[I", true)
  | 2 => ("PalletNets$Siphons", "unordered", "[I", true)
  | 3 => ("PalletNets$Siphons", "steps", "I", false)
  | 4 => ("PalletNets$Siphons", "inputs", "[I", true)
  | _ => ("PalletNets$Siphons", "outputs", "[I", true)
def tyX4 : Nat → FieldType := fun k => match k with
  | 0 => .int
  | 1 => .array .int
  | 2 => .array .int
  | 3 => .int
  | 4 => .array .int
  | _ => .array .int
abbrev wsX40 : List Cond := u_ws RX4 TX4 6
theorem nmX4 : ∀ a, a < 6 → ∀ b, b < 6 → a ≠ b → (TX4 a).2.1 ≠ (TX4 b).2.1 := by decide +kernel
theorem tyX4_ok : ∀ k, k < 6 → parseFieldDescriptor (TX4 k).2.2.1 = some (tyX4 k) := by decide +kernel
abbrev cX4_init : ByteArray := prog_6_method_1_code
def yX4_init : MethodName := ⟨RX4, "<init>", "()V"⟩
abbrev cX4_findAll : ByteArray := prog_6_method_2_code
def yX4_findAll : MethodName := ⟨RX4, "findAll", "(LPalletNets$State;)V"⟩
abbrev cX4_holdsFormer : ByteArray := prog_6_method_3_code
def yX4_holdsFormer : MethodName := ⟨RX4, "holdsFormer", "(I)Z"⟩
abbrev cX4_orderBySize : ByteArray := prog_6_method_4_code
def yX4_orderBySize : MethodName := ⟨RX4, "orderBySize", "()V"⟩
abbrev cX4_isSiphon : ByteArray := prog_6_method_5_code
def yX4_isSiphon : MethodName := ⟨RX4, "isSiphon", "(I)Z"⟩
abbrev cX4_isTrap : ByteArray := prog_6_method_6_code
def yX4_isTrap : MethodName := ⟨RX4, "isTrap", "(I)Z"⟩
abbrev cX4_heldPart : ByteArray := prog_6_method_7_code
def yX4_heldPart : MethodName := ⟨RX4, "heldPart", "(I)I"⟩
def RX5 : String := "PalletNets$State"
def TX5 : u_T := fun k => match k with
  | 0 => ("PalletNets$State", "places", "I", false)
  | 1 => ("PalletNets$State", "steps", "I", false)
  | 2 => ("PalletNets$State", "guardCount", "I", false)
  | 3 => ("PalletNets$State", "keeperOn", "Z", false)
  | 4 => ("PalletNets$State", "starts", "J", false)
  | 5 => ("PalletNets$State", "lost", "J", false)
  | 6 => ("PalletNets$State", "present", "J", false)
  | 7 => ("PalletNets$State", "takes", "[J", true)
  | 8 => ("PalletNets$State", "gives", "[J", true)
  | 9 => ("PalletNets$State", "costs", "[I", true)
  | 10 => ("PalletNets$State", "guardSets", "[I", true)
  | _ => ("PalletNets$State", "guardLeasts", "[I", true)
def tyX5 : Nat → FieldType := fun k => match k with
  | 0 => .int
  | 1 => .int
  | 2 => .int
  | 3 => .boolean
  | 4 => .long
  | 5 => .long
  | 6 => .long
  | 7 => .array .long
  | 8 => .array .long
  | 9 => .array .int
  | 10 => .array .int
  | _ => .array .int
abbrev wsX50 : List Cond := u_ws RX5 TX5 12
theorem nmX5 : ∀ a, a < 12 → ∀ b, b < 12 → a ≠ b → (TX5 a).2.1 ≠ (TX5 b).2.1 := by decide +kernel
theorem tyX5_ok : ∀ k, k < 12 → parseFieldDescriptor (TX5 k).2.2.1 = some (tyX5 k) := by decide +kernel
abbrev cX5_init : ByteArray := prog_7_method_1_code
def yX5_init : MethodName := ⟨RX5, "<init>", "()V"⟩
abbrev cX5_copyFrom : ByteArray := prog_7_method_2_code
def yX5_copyFrom : MethodName := ⟨RX5, "copyFrom", "(LPalletNets$State;)V"⟩
abbrev cX5_allPlaces : ByteArray := prog_7_method_3_code
def yX5_allPlaces : MethodName := ⟨RX5, "allPlaces", "()I"⟩
abbrev cX5_homeMarking : ByteArray := prog_7_method_4_code
def yX5_homeMarking : MethodName := ⟨RX5, "homeMarking", "()J"⟩
abbrev cX5_renewRun : ByteArray := prog_7_method_5_code
def yX5_renewRun : MethodName := ⟨RX5, "renewRun", "()V"⟩
abbrev cX5_removeNet : ByteArray := prog_7_method_6_code
def yX5_removeNet : MethodName := ⟨RX5, "removeNet", "()V"⟩
abbrev cX5_addPlace : ByteArray := prog_7_method_7_code
def yX5_addPlace : MethodName := ⟨RX5, "addPlace", "(I)V"⟩
abbrev cX5_addStep : ByteArray := prog_7_method_8_code
def yX5_addStep : MethodName := ⟨RX5, "addStep", "(IJJ)V"⟩
abbrev cX5_hasRoomForLine : ByteArray := prog_7_method_9_code
def yX5_hasRoomForLine : MethodName := ⟨RX5, "hasRoomForLine", "(I)Z"⟩
abbrev cX5_addLine : ByteArray := prog_7_method_10_code
def yX5_addLine : MethodName := ⟨RX5, "addLine", "(I[II)V"⟩
abbrev cX5_drawNet : ByteArray := prog_7_method_11_code
def yX5_drawNet : MethodName := ⟨RX5, "drawNet", "(III)V"⟩
abbrev cX5_follower : ByteArray := prog_7_method_12_code
def yX5_follower : MethodName := ⟨RX5, "follower", "(J)J"⟩
abbrev cX5_drawn : ByteArray := prog_7_method_13_code
def yX5_drawn : MethodName := ⟨RX5, "drawn", "(JI)I"⟩
abbrev cX5_drawnTakes : ByteArray := prog_7_method_14_code
def yX5_drawnTakes : MethodName := ⟨RX5, "drawnTakes", "(I)I"⟩
abbrev cX5_drawnGives : ByteArray := prog_7_method_15_code
def yX5_drawnGives : MethodName := ⟨RX5, "drawnGives", "(I)I"⟩
abbrev cX5_addGuard : ByteArray := prog_7_method_16_code
def yX5_addGuard : MethodName := ⟨RX5, "addGuard", "(II)V"⟩
abbrev cX5_removeGuard : ByteArray := prog_7_method_17_code
def yX5_removeGuard : MethodName := ⟨RX5, "removeGuard", "(I)V"⟩
abbrev cX5_isGuarded : ByteArray := prog_7_method_18_code
def yX5_isGuarded : MethodName := ⟨RX5, "isGuarded", "(I)Z"⟩
abbrev cX5_after : ByteArray := prog_7_method_19_code
def yX5_after : MethodName := ⟨RX5, "after", "(JI)J"⟩
abbrev cX5_hindrance : ByteArray := prog_7_method_20_code
def yX5_hindrance : MethodName := ⟨RX5, "hindrance", "(JII)I"⟩
abbrev cX5_bars : ByteArray := prog_7_method_21_code
def yX5_bars : MethodName := ⟨RX5, "bars", "(IJJ)Z"⟩
abbrev cX5_barredBy : ByteArray := prog_7_method_22_code
def yX5_barredBy : MethodName := ⟨RX5, "barredBy", "(I)I"⟩
def RX6 : String := "PalletNets"
def TX6 : u_T := fun k => match k with
  | 0 => ("PalletNets", "now", "LPalletNets$State;", true)
  | 1 => ("PalletNets", "before", "LPalletNets$State;", true)
  | 2 => ("PalletNets", "kept", "[LPalletNets$State;", true)
  | 3 => ("PalletNets", "keptCount", "I", false)
  | 4 => ("PalletNets", "fromHome", "LPalletNets$Search;", true)
  | 5 => ("PalletNets", "searched", "Z", false)
  | 6 => ("PalletNets", "aside", "LPalletNets$Search;", true)
  | 7 => ("PalletNets", "invariants", "LPalletNets$Invariants;", true)
  | 8 => ("PalletNets", "siphons", "LPalletNets$Siphons;", true)
  | 9 => ("PalletNets", "analysed", "Z", false)
  | 10 => ("PalletNets", "reader", "LPalletNets$Reader;", true)
  | 11 => ("PalletNets", "route", "[I", true)
  | 12 => ("PalletNets", "bads", "I", false)
  | 13 => ("PalletNets", "nos", "I", false)
  | _ => ("PalletNets", "fulls", "I", false)
def tyX6 : Nat → FieldType := fun k => match k with
  | 0 => .object "PalletNets$State"
  | 1 => .object "PalletNets$State"
  | 2 => .array (.object "PalletNets$State")
  | 3 => .int
  | 4 => .object "PalletNets$Search"
  | 5 => .boolean
  | 6 => .object "PalletNets$Search"
  | 7 => .object "PalletNets$Invariants"
  | 8 => .object "PalletNets$Siphons"
  | 9 => .boolean
  | 10 => .object "PalletNets$Reader"
  | 11 => .array .int
  | 12 => .int
  | 13 => .int
  | _ => .int
abbrev wsX60 : List Cond := u_ws RX6 TX6 15
theorem nmX6 : ∀ a, a < 15 → ∀ b, b < 15 → a ≠ b → (TX6 a).2.1 ≠ (TX6 b).2.1 := by decide +kernel
theorem tyX6_ok : ∀ k, k < 15 → parseFieldDescriptor (TX6 k).2.2.1 = some (tyX6 k) := by decide +kernel
abbrev cX6_init : ByteArray := prog_1_method_1_code
def yX6_init : MethodName := ⟨RX6, "<init>", "()V"⟩
abbrev cX6_place : ByteArray := prog_1_method_2_code
def yX6_place : MethodName := ⟨RX6, "place", "(I)I"⟩
abbrev cX6_step : ByteArray := prog_1_method_3_code
def yX6_step : MethodName := ⟨RX6, "step", "(I)I"⟩
abbrev cX6_arc : ByteArray := prog_1_method_4_code
def yX6_arc : MethodName := ⟨RX6, "arc", "(IIII)I"⟩
abbrev cX6_start : ByteArray := prog_1_method_5_code
def yX6_start : MethodName := ⟨RX6, "start", "(II)I"⟩
abbrev cX6_cost : ByteArray := prog_1_method_6_code
def yX6_cost : MethodName := ⟨RX6, "cost", "(II)I"⟩
abbrev cX6_line : ByteArray := prog_1_method_7_code
def yX6_line : MethodName := ⟨RX6, "line", "(III)I"⟩
abbrev cX6_draw : ByteArray := prog_1_method_8_code
def yX6_draw : MethodName := ⟨RX6, "draw", "(III)I"⟩
abbrev cX6_anew : ByteArray := prog_1_method_9_code
def yX6_anew : MethodName := ⟨RX6, "anew", "()I"⟩
abbrev cX6_of : ByteArray := prog_1_method_10_code
def yX6_of : MethodName := ⟨RX6, "of", "(II)I"⟩
abbrev cX6_arcOf : ByteArray := prog_1_method_11_code
def yX6_arcOf : MethodName := ⟨RX6, "arcOf", "(III)I"⟩
abbrev cX6_stepOf : ByteArray := prog_1_method_12_code
def yX6_stepOf : MethodName := ⟨RX6, "stepOf", "(II)I"⟩
abbrev cX6_can : ByteArray := prog_1_method_13_code
def yX6_can : MethodName := ⟨RX6, "can", "(I)I"⟩
abbrev cX6_goes : ByteArray := prog_1_method_14_code
def yX6_goes : MethodName := ⟨RX6, "goes", "(I)I"⟩
abbrev cX6_runs : ByteArray := prog_1_method_15_code
def yX6_runs : MethodName := ⟨RX6, "runs", "(II)I"⟩
abbrev cX6_restarts : ByteArray := prog_1_method_16_code
def yX6_restarts : MethodName := ⟨RX6, "restarts", "()I"⟩
abbrev cX6_loses : ByteArray := prog_1_method_17_code
def yX6_loses : MethodName := ⟨RX6, "loses", "(I)I"⟩
abbrev cX6_returns : ByteArray := prog_1_method_18_code
def yX6_returns : MethodName := ⟨RX6, "returns", "(I)I"⟩
abbrev cX6_keeper : ByteArray := prog_1_method_19_code
def yX6_keeper : MethodName := ⟨RX6, "keeper", "(I)I"⟩
abbrev cX6_sums : ByteArray := prog_1_method_20_code
def yX6_sums : MethodName := ⟨RX6, "sums", "()I"⟩
abbrev cX6_sum : ByteArray := prog_1_method_21_code
def yX6_sum : MethodName := ⟨RX6, "sum", "(II)I"⟩
abbrev cX6_value : ByteArray := prog_1_method_22_code
def yX6_value : MethodName := ⟨RX6, "value", "(II)I"⟩
abbrev cX6_stucks : ByteArray := prog_1_method_23_code
def yX6_stucks : MethodName := ⟨RX6, "stucks", "()I"⟩
abbrev cX6_stuck : ByteArray := prog_1_method_24_code
def yX6_stuck : MethodName := ⟨RX6, "stuck", "(II)I"⟩
abbrev cX6_sort : ByteArray := prog_1_method_25_code
def yX6_sort : MethodName := ⟨RX6, "sort", "(I)I"⟩
abbrev cX6_guard : ByteArray := prog_1_method_26_code
def yX6_guard : MethodName := ⟨RX6, "guard", "(II)I"⟩
abbrev cX6_guards : ByteArray := prog_1_method_27_code
def yX6_guards : MethodName := ⟨RX6, "guards", "()I"⟩
abbrev cX6_drop : ByteArray := prog_1_method_28_code
def yX6_drop : MethodName := ⟨RX6, "drop", "(I)I"⟩
abbrev cX6_guardOf : ByteArray := prog_1_method_29_code
def yX6_guardOf : MethodName := ⟨RX6, "guardOf", "(II)I"⟩
abbrev cX6_all : ByteArray := prog_1_method_30_code
def yX6_all : MethodName := ⟨RX6, "all", "(I)I"⟩
abbrev cX6_found : ByteArray := prog_1_method_31_code
def yX6_found : MethodName := ⟨RX6, "found", "(II)J"⟩
abbrev cX6_home : ByteArray := prog_1_method_32_code
def yX6_home : MethodName := ⟨RX6, "home", "(I)I"⟩
abbrev cX6_type : ByteArray := prog_1_method_33_code
def yX6_type : MethodName := ⟨RX6, "type", "(I)I"⟩
abbrev cX6_clear : ByteArray := prog_1_method_34_code
def yX6_clear : MethodName := ⟨RX6, "clear", "()I"⟩
abbrev cX6_reads : ByteArray := prog_1_method_35_code
def yX6_reads : MethodName := ⟨RX6, "reads", "()I"⟩
abbrev cX6_back : ByteArray := prog_1_method_36_code
def yX6_back : MethodName := ⟨RX6, "back", "()I"⟩
abbrev cX6_told : ByteArray := prog_1_method_37_code
def yX6_told : MethodName := ⟨RX6, "told", "(I)I"⟩
abbrev cX6_digest : ByteArray := prog_1_method_38_code
def yX6_digest : MethodName := ⟨RX6, "digest", "()J"⟩
abbrev cX6_within : ByteArray := prog_1_method_39_code
def yX6_within : MethodName := ⟨RX6, "within", "(III)Z"⟩
abbrev cX6_isPlace : ByteArray := prog_1_method_40_code
def yX6_isPlace : MethodName := ⟨RX6, "isPlace", "(I)Z"⟩
abbrev cX6_isStep : ByteArray := prog_1_method_41_code
def yX6_isStep : MethodName := ⟨RX6, "isStep", "(I)Z"⟩
abbrev cX6_isGuard : ByteArray := prog_1_method_42_code
def yX6_isGuard : MethodName := ⟨RX6, "isGuard", "(I)Z"⟩
abbrev cX6_isSet : ByteArray := prog_1_method_43_code
def yX6_isSet : MethodName := ⟨RX6, "isSet", "(I)Z"⟩
abbrev cX6_isSafe : ByteArray := prog_1_method_44_code
def yX6_isSafe : MethodName := ⟨RX6, "isSafe", "(I)Z"⟩
abbrev cX6_refuse : ByteArray := prog_1_method_45_code
def yX6_refuse : MethodName := ⟨RX6, "refuse", "(I)I"⟩
abbrev cX6_save : ByteArray := prog_1_method_46_code
def yX6_save : MethodName := ⟨RX6, "save", "()V"⟩
abbrev cX6_keep : ByteArray := prog_1_method_47_code
def yX6_keep : MethodName := ⟨RX6, "keep", "(LPalletNets$State;)V"⟩
abbrev cX6_renew : ByteArray := prog_1_method_48_code
def yX6_renew : MethodName := ⟨RX6, "renew", "()V"⟩
abbrev cX6_forget : ByteArray := prog_1_method_49_code
def yX6_forget : MethodName := ⟨RX6, "forget", "()V"⟩
abbrev cX6_homeSearch : ByteArray := prog_1_method_50_code
def yX6_homeSearch : MethodName := ⟨RX6, "homeSearch", "()LPalletNets$Search;"⟩
abbrev cX6_analyse : ByteArray := prog_1_method_51_code
def yX6_analyse : MethodName := ⟨RX6, "analyse", "()V"⟩
abbrev cX6_hindrance : ByteArray := prog_1_method_52_code
def yX6_hindrance : MethodName := ⟨RX6, "hindrance", "(I)I"⟩
abbrev cX6_chosen : ByteArray := prog_1_method_53_code
def yX6_chosen : MethodName := ⟨RX6, "chosen", "(I)I"⟩
def RX7 : String := "PalletNetsModel"
def TX7 : u_T := fun k => match k with
  | 0 => ("PalletNetsModel", "net", "[I", true)
  | 1 => ("PalletNetsModel", "states", "[I", true)
  | 2 => ("PalletNetsModel", "stateMany", "I", false)
  | 3 => ("PalletNetsModel", "stateAt", "I", false)
  | 4 => ("PalletNetsModel", "badMany", "I", false)
  | 5 => ("PalletNetsModel", "noMany", "I", false)
  | 6 => ("PalletNetsModel", "fullMany", "I", false)
  | 7 => ("PalletNetsModel", "drawn", "J", false)
  | 8 => ("PalletNetsModel", "many", "I", false)
  | 9 => ("PalletNetsModel", "found", "[J", true)
  | 10 => ("PalletNetsModel", "deep", "[I", true)
  | 11 => ("PalletNetsModel", "next", "[I", true)
  | 12 => ("PalletNetsModel", "way", "[Z", true)
  | 13 => ("PalletNetsModel", "a", "[J", true)
  | 14 => ("PalletNetsModel", "pivot", "[I", true)
  | 15 => ("PalletNetsModel", "weight", "[J", true)
  | 16 => ("PalletNetsModel", "sumMany", "I", false)
  | 17 => ("PalletNetsModel", "sumSet", "[I", true)
  | 18 => ("PalletNetsModel", "sumWeight", "[I", true)
  | 19 => ("PalletNetsModel", "takers", "[I", true)
  | 20 => ("PalletNetsModel", "givers", "[I", true)
  | 21 => ("PalletNetsModel", "stuck", "[Z", true)
  | 22 => ("PalletNetsModel", "stuckMany", "I", false)
  | 23 => ("PalletNetsModel", "stuckSet", "[I", true)
  | 24 => ("PalletNetsModel", "far", "[I", true)
  | 25 => ("PalletNetsModel", "byteMany", "I", false)
  | 26 => ("PalletNetsModel", "text", "[I", true)
  | 27 => ("PalletNetsModel", "readAt", "I", false)
  | 28 => ("PalletNetsModel", "faultAt", "I", false)
  | _ => ("PalletNetsModel", "read", "[I", true)
def tyX7 : Nat → FieldType := fun k => match k with
  | 0 => .array .int
  | 1 => .array .int
  | 2 => .int
  | 3 => .int
  | 4 => .int
  | 5 => .int
  | 6 => .int
  | 7 => .long
  | 8 => .int
  | 9 => .array .long
  | 10 => .array .int
  | 11 => .array .int
  | 12 => .array .boolean
  | 13 => .array .long
  | 14 => .array .int
  | 15 => .array .long
  | 16 => .int
  | 17 => .array .int
  | 18 => .array .int
  | 19 => .array .int
  | 20 => .array .int
  | 21 => .array .boolean
  | 22 => .int
  | 23 => .array .int
  | 24 => .array .int
  | 25 => .int
  | 26 => .array .int
  | 27 => .int
  | 28 => .int
  | _ => .array .int
abbrev wsX70 : List Cond := u_ws RX7 TX7 30
theorem nmX7 : ∀ a, a < 30 → ∀ b, b < 30 → a ≠ b → (TX7 a).2.1 ≠ (TX7 b).2.1 := by decide +kernel
theorem tyX7_ok : ∀ k, k < 30 → parseFieldDescriptor (TX7 k).2.2.1 = some (tyX7 k) := by decide +kernel
abbrev cX7_init : ByteArray := prog_9_method_1_code
def yX7_init : MethodName := ⟨RX7, "<init>", "()V"⟩
abbrev cX7_in : ByteArray := prog_9_method_2_code
def yX7_in : MethodName := ⟨RX7, "in", "(III)Z"⟩
abbrev cX7_has : ByteArray := prog_9_method_3_code
def yX7_has : MethodName := ⟨RX7, "has", "(II)Z"⟩
abbrev cX7_bad : ByteArray := prog_9_method_4_code
def yX7_bad : MethodName := ⟨RX7, "bad", "()I"⟩
abbrev cX7_no : ByteArray := prog_9_method_5_code
def yX7_no : MethodName := ⟨RX7, "no", "()I"⟩
abbrev cX7_full : ByteArray := prog_9_method_6_code
def yX7_full : MethodName := ⟨RX7, "full", "()I"⟩
abbrev cX7_isPlace : ByteArray := prog_9_method_7_code
def yX7_isPlace : MethodName := ⟨RX7, "isPlace", "(I)Z"⟩
abbrev cX7_isStep : ByteArray := prog_9_method_8_code
def yX7_isStep : MethodName := ⟨RX7, "isStep", "(I)Z"⟩
abbrev cX7_keepsState : ByteArray := prog_9_method_9_code
def yX7_keepsState : MethodName := ⟨RX7, "keepsState", "()V"⟩
abbrev cX7_settles : ByteArray := prog_9_method_10_code
def yX7_settles : MethodName := ⟨RX7, "settles", "([I)V"⟩
abbrev cX7_adds : ByteArray := prog_9_method_11_code
def yX7_adds : MethodName := ⟨RX7, "adds", "([II)I"⟩
abbrev cX7_addsStep : ByteArray := prog_9_method_12_code
def yX7_addsStep : MethodName := ⟨RX7, "addsStep", "([II)I"⟩
abbrev cX7_place : ByteArray := prog_9_method_13_code
def yX7_place : MethodName := ⟨RX7, "place", "(I)I"⟩
abbrev cX7_step : ByteArray := prog_9_method_14_code
def yX7_step : MethodName := ⟨RX7, "step", "(I)I"⟩
abbrev cX7_arc : ByteArray := prog_9_method_15_code
def yX7_arc : MethodName := ⟨RX7, "arc", "(IIII)I"⟩
abbrev cX7_start : ByteArray := prog_9_method_16_code
def yX7_start : MethodName := ⟨RX7, "start", "(II)I"⟩
abbrev cX7_cost : ByteArray := prog_9_method_17_code
def yX7_cost : MethodName := ⟨RX7, "cost", "(II)I"⟩
abbrev cX7_lays : ByteArray := prog_9_method_18_code
def yX7_lays : MethodName := ⟨RX7, "lays", "([IIII)V"⟩
abbrev cX7_line : ByteArray := prog_9_method_19_code
def yX7_line : MethodName := ⟨RX7, "line", "(III)I"⟩
abbrev cX7_draws : ByteArray := prog_9_method_20_code
def yX7_draws : MethodName := ⟨RX7, "draws", "(I)I"⟩
abbrev cX7_draw : ByteArray := prog_9_method_21_code
def yX7_draw : MethodName := ⟨RX7, "draw", "(III)I"⟩
abbrev cX7_anew : ByteArray := prog_9_method_22_code
def yX7_anew : MethodName := ⟨RX7, "anew", "()I"⟩
abbrev cX7_arcOf : ByteArray := prog_9_method_23_code
def yX7_arcOf : MethodName := ⟨RX7, "arcOf", "(III)I"⟩
abbrev cX7_stepIs : ByteArray := prog_9_method_24_code
def yX7_stepIs : MethodName := ⟨RX7, "stepIs", "(II)I"⟩
abbrev cX7_stepOf : ByteArray := prog_9_method_25_code
def yX7_stepOf : MethodName := ⟨RX7, "stepOf", "(II)I"⟩
abbrev cX7_at : ByteArray := prog_9_method_26_code
def yX7_at : MethodName := ⟨RX7, "at", "(JI)I"⟩
abbrev cX7_tokensFrom : ByteArray := prog_9_method_27_code
def yX7_tokensFrom : MethodName := ⟨RX7, "tokensFrom", "(I)J"⟩
abbrev cX7_tokensHome : ByteArray := prog_9_method_28_code
def yX7_tokensHome : MethodName := ⟨RX7, "tokensHome", "([I)J"⟩
abbrev cX7_together : ByteArray := prog_9_method_29_code
def yX7_together : MethodName := ⟨RX7, "together", "(JI)I"⟩
abbrev cX7_placesSet : ByteArray := prog_9_method_30_code
def yX7_placesSet : MethodName := ⟨RX7, "placesSet", "()I"⟩
abbrev cX7_roomFor : ByteArray := prog_9_method_31_code
def yX7_roomFor : MethodName := ⟨RX7, "roomFor", "(JI)I"⟩
abbrev cX7_behind : ByteArray := prog_9_method_32_code
def yX7_behind : MethodName := ⟨RX7, "behind", "(JI)J"⟩
abbrev cX7_bars : ByteArray := prog_9_method_33_code
def yX7_bars : MethodName := ⟨RX7, "bars", "(IJI)Z"⟩
abbrev cX7_why : ByteArray := prog_9_method_34_code
def yX7_why : MethodName := ⟨RX7, "why", "(JII)I"⟩
abbrev cX7_placeIn : ByteArray := prog_9_method_35_code
def yX7_placeIn : MethodName := ⟨RX7, "placeIn", "(J)I"⟩
abbrev cX7_searches : ByteArray := prog_9_method_36_code
def yX7_searches : MethodName := ⟨RX7, "searches", "(JI)V"⟩
abbrev cX7_searchesHome : ByteArray := prog_9_method_37_code
def yX7_searchesHome : MethodName := ⟨RX7, "searchesHome", "()V"⟩
abbrev cX7_leads : ByteArray := prog_9_method_38_code
def yX7_leads : MethodName := ⟨RX7, "leads", "(II)I"⟩
abbrev cX7_layNext : ByteArray := prog_9_method_39_code
def yX7_layNext : MethodName := ⟨RX7, "layNext", "()V"⟩
abbrev cX7_layWays : ByteArray := prog_9_method_40_code
def yX7_layWays : MethodName := ⟨RX7, "layWays", "()V"⟩
abbrev cX7_standing : ByteArray := prog_9_method_41_code
def yX7_standing : MethodName := ⟨RX7, "standing", "(I)I"⟩
abbrev cX7_can : ByteArray := prog_9_method_42_code
def yX7_can : MethodName := ⟨RX7, "can", "(I)I"⟩
abbrev cX7_canMany : ByteArray := prog_9_method_43_code
def yX7_canMany : MethodName := ⟨RX7, "canMany", "()I"⟩
abbrev cX7_lets : ByteArray := prog_9_method_44_code
def yX7_lets : MethodName := ⟨RX7, "lets", "(I)V"⟩
abbrev cX7_goes : ByteArray := prog_9_method_45_code
def yX7_goes : MethodName := ⟨RX7, "goes", "(I)I"⟩
abbrev cX7_chosen : ByteArray := prog_9_method_46_code
def yX7_chosen : MethodName := ⟨RX7, "chosen", "(I)I"⟩
abbrev cX7_runs : ByteArray := prog_9_method_47_code
def yX7_runs : MethodName := ⟨RX7, "runs", "(II)I"⟩
abbrev cX7_restarts : ByteArray := prog_9_method_48_code
def yX7_restarts : MethodName := ⟨RX7, "restarts", "()I"⟩
abbrev cX7_loses : ByteArray := prog_9_method_49_code
def yX7_loses : MethodName := ⟨RX7, "loses", "(I)I"⟩
abbrev cX7_returns : ByteArray := prog_9_method_50_code
def yX7_returns : MethodName := ⟨RX7, "returns", "(I)I"⟩
abbrev cX7_keeper : ByteArray := prog_9_method_51_code
def yX7_keeper : MethodName := ⟨RX7, "keeper", "(I)I"⟩
abbrev cX7_common : ByteArray := prog_9_method_52_code
def yX7_common : MethodName := ⟨RX7, "common", "(JJ)J"⟩
abbrev cX7_shortens : ByteArray := prog_9_method_53_code
def yX7_shortens : MethodName := ⟨RX7, "shortens", "(I)V"⟩
abbrev cX7_takesOff : ByteArray := prog_9_method_54_code
def yX7_takesOff : MethodName := ⟨RX7, "takesOff", "(III)V"⟩
abbrev cX7_swaps : ByteArray := prog_9_method_55_code
def yX7_swaps : MethodName := ⟨RX7, "swaps", "(II)V"⟩
abbrev cX7_solves : ByteArray := prog_9_method_56_code
def yX7_solves : MethodName := ⟨RX7, "solves", "(I)I"⟩
abbrev cX7_sizeOf : ByteArray := prog_9_method_57_code
def yX7_sizeOf : MethodName := ⟨RX7, "sizeOf", "(I)I"⟩
abbrev cX7_isSum : ByteArray := prog_9_method_58_code
def yX7_isSum : MethodName := ⟨RX7, "isSum", "(I)Z"⟩
abbrev cX7_laySums : ByteArray := prog_9_method_59_code
def yX7_laySums : MethodName := ⟨RX7, "laySums", "()V"⟩
abbrev cX7_sums : ByteArray := prog_9_method_60_code
def yX7_sums : MethodName := ⟨RX7, "sums", "()I"⟩
abbrev cX7_sum : ByteArray := prog_9_method_61_code
def yX7_sum : MethodName := ⟨RX7, "sum", "(II)I"⟩
abbrev cX7_worth : ByteArray := prog_9_method_62_code
def yX7_worth : MethodName := ⟨RX7, "worth", "(IJ)I"⟩
abbrev cX7_value : ByteArray := prog_9_method_63_code
def yX7_value : MethodName := ⟨RX7, "value", "(II)I"⟩
abbrev cX7_bound : ByteArray := prog_9_method_64_code
def yX7_bound : MethodName := ⟨RX7, "bound", "(I)I"⟩
abbrev cX7_extreme : ByteArray := prog_9_method_65_code
def yX7_extreme : MethodName := ⟨RX7, "extreme", "(IZ)I"⟩
abbrev cX7_of : ByteArray := prog_9_method_66_code
def yX7_of : MethodName := ⟨RX7, "of", "(II)I"⟩
abbrev cX7_layArcs : ByteArray := prog_9_method_67_code
def yX7_layArcs : MethodName := ⟨RX7, "layArcs", "()V"⟩
abbrev cX7_isStuck : ByteArray := prog_9_method_68_code
def yX7_isStuck : MethodName := ⟨RX7, "isStuck", "(I)Z"⟩
abbrev cX7_isKept : ByteArray := prog_9_method_69_code
def yX7_isKept : MethodName := ⟨RX7, "isKept", "(I)Z"⟩
abbrev cX7_held : ByteArray := prog_9_method_70_code
def yX7_held : MethodName := ⟨RX7, "held", "(I)I"⟩
abbrev cX7_isLeast : ByteArray := prog_9_method_71_code
def yX7_isLeast : MethodName := ⟨RX7, "isLeast", "(I)Z"⟩
abbrev cX7_layStucks : ByteArray := prog_9_method_72_code
def yX7_layStucks : MethodName := ⟨RX7, "layStucks", "()V"⟩
abbrev cX7_stucks : ByteArray := prog_9_method_73_code
def yX7_stucks : MethodName := ⟨RX7, "stucks", "()I"⟩
abbrev cX7_isSafe : ByteArray := prog_9_method_74_code
def yX7_isSafe : MethodName := ⟨RX7, "isSafe", "(I)Z"⟩
abbrev cX7_fewest : ByteArray := prog_9_method_75_code
def yX7_fewest : MethodName := ⟨RX7, "fewest", "(I)I"⟩
abbrev cX7_stuck : ByteArray := prog_9_method_76_code
def yX7_stuck : MethodName := ⟨RX7, "stuck", "(II)I"⟩
abbrev cX7_sort : ByteArray := prog_9_method_77_code
def yX7_sort : MethodName := ⟨RX7, "sort", "(I)I"⟩
abbrev cX7_addsGuard : ByteArray := prog_9_method_78_code
def yX7_addsGuard : MethodName := ⟨RX7, "addsGuard", "([III)V"⟩
abbrev cX7_guard : ByteArray := prog_9_method_79_code
def yX7_guard : MethodName := ⟨RX7, "guard", "(II)I"⟩
abbrev cX7_isGuarded : ByteArray := prog_9_method_80_code
def yX7_isGuarded : MethodName := ⟨RX7, "isGuarded", "(I)Z"⟩
abbrev cX7_guards : ByteArray := prog_9_method_81_code
def yX7_guards : MethodName := ⟨RX7, "guards", "()I"⟩
abbrev cX7_drop : ByteArray := prog_9_method_82_code
def yX7_drop : MethodName := ⟨RX7, "drop", "(I)I"⟩
abbrev cX7_barredBy : ByteArray := prog_9_method_83_code
def yX7_barredBy : MethodName := ⟨RX7, "barredBy", "(I)I"⟩
abbrev cX7_isNeedless : ByteArray := prog_9_method_84_code
def yX7_isNeedless : MethodName := ⟨RX7, "isNeedless", "(I)Z"⟩
abbrev cX7_guardOf : ByteArray := prog_9_method_85_code
def yX7_guardOf : MethodName := ⟨RX7, "guardOf", "(II)I"⟩
abbrev cX7_canAt : ByteArray := prog_9_method_86_code
def yX7_canAt : MethodName := ⟨RX7, "canAt", "(I)I"⟩
abbrev cX7_isClosed : ByteArray := prog_9_method_87_code
def yX7_isClosed : MethodName := ⟨RX7, "isClosed", "()Z"⟩
abbrev cX7_allIs : ByteArray := prog_9_method_88_code
def yX7_allIs : MethodName := ⟨RX7, "allIs", "(I)I"⟩
abbrev cX7_all : ByteArray := prog_9_method_89_code
def yX7_all : MethodName := ⟨RX7, "all", "(I)I"⟩
abbrev cX7_found : ByteArray := prog_9_method_90_code
def yX7_found : MethodName := ⟨RX7, "found", "(II)J"⟩
abbrev cX7_layFar : ByteArray := prog_9_method_91_code
def yX7_layFar : MethodName := ⟨RX7, "layFar", "()V"⟩
abbrev cX7_home : ByteArray := prog_9_method_92_code
def yX7_home : MethodName := ⟨RX7, "home", "(I)I"⟩
abbrev cX7_type : ByteArray := prog_9_method_93_code
def yX7_type : MethodName := ⟨RX7, "type", "(I)I"⟩
abbrev cX7_clear : ByteArray := prog_9_method_94_code
def yX7_clear : MethodName := ⟨RX7, "clear", "()I"⟩
abbrev cX7_look : ByteArray := prog_9_method_95_code
def yX7_look : MethodName := ⟨RX7, "look", "()I"⟩
abbrev cX7_take : ByteArray := prog_9_method_96_code
def yX7_take : MethodName := ⟨RX7, "take", "()I"⟩
abbrev cX7_isThere : ByteArray := prog_9_method_97_code
def yX7_isThere : MethodName := ⟨RX7, "isThere", "(I)Z"⟩
abbrev cX7_readsPlace : ByteArray := prog_9_method_98_code
def yX7_readsPlace : MethodName := ⟨RX7, "readsPlace", "()Z"⟩
abbrev cX7_readsArcs : ByteArray := prog_9_method_99_code
def yX7_readsArcs : MethodName := ⟨RX7, "readsArcs", "(I)I"⟩
abbrev cX7_readsStep : ByteArray := prog_9_method_100_code
def yX7_readsStep : MethodName := ⟨RX7, "readsStep", "()Z"⟩
abbrev cX7_readsLine : ByteArray := prog_9_method_101_code
def yX7_readsLine : MethodName := ⟨RX7, "readsLine", "()Z"⟩
abbrev cX7_readsGuard : ByteArray := prog_9_method_102_code
def yX7_readsGuard : MethodName := ⟨RX7, "readsGuard", "()Z"⟩
abbrev cX7_readsOrder : ByteArray := prog_9_method_103_code
def yX7_readsOrder : MethodName := ⟨RX7, "readsOrder", "()Z"⟩
abbrev cX7_reads : ByteArray := prog_9_method_104_code
def yX7_reads : MethodName := ⟨RX7, "reads", "()I"⟩
abbrev cX7_back : ByteArray := prog_9_method_105_code
def yX7_back : MethodName := ⟨RX7, "back", "()I"⟩
abbrev cX7_toldOf : ByteArray := prog_9_method_106_code
def yX7_toldOf : MethodName := ⟨RX7, "toldOf", "(I)I"⟩
abbrev cX7_told : ByteArray := prog_9_method_107_code
def yX7_told : MethodName := ⟨RX7, "told", "(I)I"⟩
abbrev cX7_digest : ByteArray := prog_9_method_108_code
def yX7_digest : MethodName := ⟨RX7, "digest", "()J"⟩
def RJ6 : String := "java/lang/Integer"
def TJ6 : u_T := fun k => match k with
  | _ => ("", "", "", false)
def tyJ6 : Nat → FieldType := fun k => match k with
  | _ => .int
abbrev wsJ60 : List Cond := u_ws RJ6 TJ6 0
theorem nmJ6 : ∀ a, a < 0 → ∀ b, b < 0 → a ≠ b → (TJ6 a).2.1 ≠ (TJ6 b).2.1 := by decide +kernel
theorem tyJ6_ok : ∀ k, k < 0 → parseFieldDescriptor (TJ6 k).2.2.1 = some (tyJ6 k) := by decide +kernel
abbrev cJ6_bitCount_0f7a4 : ByteArray := prog_10_method_49_code
def yJ6_bitCount_0f7a4 : MethodName := ⟨RJ6, "bitCount", "(I)I"⟩
def RJ9 : String := "java/lang/Math"
def TJ9 : u_T := fun k => match k with
  | _ => ("", "", "", false)
def tyJ9 : Nat → FieldType := fun k => match k with
  | _ => .int
abbrev wsJ90 : List Cond := u_ws RJ9 TJ9 0
theorem nmJ9 : ∀ a, a < 0 → ∀ b, b < 0 → a ≠ b → (TJ9 a).2.1 ≠ (TJ9 b).2.1 := by decide +kernel
theorem tyJ9_ok : ∀ k, k < 0 → parseFieldDescriptor (TJ9 k).2.2.1 = some (tyJ9 k) := by decide +kernel
abbrev cJ9_max_7cf53 : ByteArray := prog_11_method_65_code
def yJ9_max_7cf53 : MethodName := ⟨RJ9, "max", "(II)I"⟩
abbrev cJ9_min_7cf53 : ByteArray := prog_11_method_69_code
def yJ9_min_7cf53 : MethodName := ⟨RJ9, "min", "(II)I"⟩
def RJ10 : String := "java/lang/System"
def TJ10 : u_T := fun k => match k with
  | _ => ("", "", "", false)
def tyJ10 : Nat → FieldType := fun k => match k with
  | _ => .int
abbrev wsJ100 : List Cond := u_ws RJ10 TJ10 0
theorem nmJ10 : ∀ a, a < 0 → ∀ b, b < 0 → a ≠ b → (TJ10 a).2.1 ≠ (TJ10 b).2.1 := by decide +kernel
theorem tyJ10_ok : ∀ k, k < 0 → parseFieldDescriptor (TJ10 k).2.2.1 = some (tyJ10 k) := by decide +kernel
def RJ7 : String := "java/util/Arrays"
def TJ7 : u_T := fun k => match k with
  | _ => ("", "", "", false)
def tyJ7 : Nat → FieldType := fun k => match k with
  | _ => .int
abbrev wsJ70 : List Cond := u_ws RJ7 TJ7 0
theorem nmJ7 : ∀ a, a < 0 → ∀ b, b < 0 → a ≠ b → (TJ7 a).2.1 ≠ (TJ7 b).2.1 := by decide +kernel
theorem tyJ7_ok : ∀ k, k < 0 → parseFieldDescriptor (TJ7 k).2.2.1 = some (tyJ7 k) := by decide +kernel
abbrev cJ7_fill_d0a16 : ByteArray := prog_13_method_101_code
def yJ7_fill_d0a16 : MethodName := ⟨RJ7, "fill", "([JJ)V"⟩
abbrev cJ7_fill_53178 : ByteArray := prog_13_method_103_code
def yJ7_fill_53178 : MethodName := ⟨RJ7, "fill", "([II)V"⟩
abbrev vwCl : List vw_C := [(RX0, TX0, 7), (RX2, TX2, 5), (RX3, TX3, 7), (RX4, TX4, 6), (RX5, TX5, 12), (RX6, TX6, 15), (RX7, TX7, 30)]
theorem kn_in0 : ∀ w ∈ u_ws RX0 TX0 7, w ∈ lw_tbl := by
  have h : u_ws RX0 TX0 7 = [236, 238, 240, 242, 244, 246, 248].filterMap (fun i => lw_tbl[i]?) := by decide +kernel
  intro w hw
  rw [h] at hw
  obtain ⟨i, -, hi⟩ := List.mem_filterMap.mp hw
  exact List.mem_of_getElem? hi
theorem kn_in2 : ∀ w ∈ u_ws RX2 TX2 5, w ∈ lw_tbl := by
  have h : u_ws RX2 TX2 5 = [292, 294, 296, 298, 300].filterMap (fun i => lw_tbl[i]?) := by decide +kernel
  intro w hw
  rw [h] at hw
  obtain ⟨i, -, hi⟩ := List.mem_filterMap.mp hw
  exact List.mem_of_getElem? hi
theorem kn_in3 : ∀ w ∈ u_ws RX3 TX3 7, w ∈ lw_tbl := by
  have h : u_ws RX3 TX3 7 = [204, 206, 208, 210, 212, 214, 216].filterMap (fun i => lw_tbl[i]?) := by decide +kernel
  intro w hw
  rw [h] at hw
  obtain ⟨i, -, hi⟩ := List.mem_filterMap.mp hw
  exact List.mem_of_getElem? hi
theorem kn_in4 : ∀ w ∈ u_ws RX4 TX4 6, w ∈ lw_tbl := by
  have h : u_ws RX4 TX4 6 = [265, 267, 269, 271, 273, 275].filterMap (fun i => lw_tbl[i]?) := by decide +kernel
  intro w hw
  rw [h] at hw
  obtain ⟨i, -, hi⟩ := List.mem_filterMap.mp hw
  exact List.mem_of_getElem? hi
theorem kn_in5 : ∀ w ∈ u_ws RX5 TX5 12, w ∈ lw_tbl := by
  have h : u_ws RX5 TX5 12 = [159, 161, 163, 165, 167, 169, 171, 173, 175, 177, 179, 181].filterMap (fun i => lw_tbl[i]?) := by decide +kernel
  intro w hw
  rw [h] at hw
  obtain ⟨i, -, hi⟩ := List.mem_filterMap.mp hw
  exact List.mem_of_getElem? hi
theorem kn_in6 : ∀ w ∈ u_ws RX6 TX6 15, w ∈ lw_tbl := by
  have h : u_ws RX6 TX6 15 = [318, 320, 322, 324, 326, 328, 330, 332, 334, 336, 338, 340, 342, 344, 346].filterMap (fun i => lw_tbl[i]?) := by decide +kernel
  intro w hw
  rw [h] at hw
  obtain ⟨i, -, hi⟩ := List.mem_filterMap.mp hw
  exact List.mem_of_getElem? hi
theorem kn_in7 : ∀ w ∈ u_ws RX7 TX7 30, w ∈ lw_tbl := by
  have h : u_ws RX7 TX7 30 = [944, 946, 948, 950, 952, 954, 956, 958, 960, 962, 964, 966, 968, 970, 972, 974, 976, 978, 980, 982, 984, 986, 988, 990, 992, 994, 996, 998, 1000, 1002].filterMap (fun i => lw_tbl[i]?) := by decide +kernel
  intro w hw
  rw [h] at hw
  obtain ⟨i, -, hi⟩ := List.mem_filterMap.mp hw
  exact List.mem_of_getElem? hi
/-- the classes that own code, by number -/
def kn_r : List String := [RX0, RX1, RX2, RX3, RX4, RX5, RX6, RX7, RJ6, RJ9, RJ10, RJ7]
/-- how many fields a class has, and each field's kind: 0 int, 1 long, 2 a reference, 3 boolean -/
def kv_cts : List Nat := [7, 5, 7, 6, 12, 15, 30]
def kv_fts : List (List Nat) := [[0, 2, 2, 0, 2, 2, 2], [2, 0, 0, 0, 2], [2, 2, 2, 0, 2, 2, 3], [0, 2, 2, 0, 2, 2], [0, 0, 0, 3, 1, 1, 1, 2, 2, 2, 2, 2], [2, 2, 2, 0, 2, 3, 2, 2, 2, 3, 2, 2, 0, 0, 0], [2, 2, 0, 0, 0, 0, 0, 1, 0, 2, 2, 2, 2, 2, 2, 2, 0, 2, 2, 2, 2, 2, 0, 2, 2, 0, 2, 0, 0, 2]]
def kv_tfs : List (Nat → FieldType) := [tyX0, tyX2, tyX3, tyX4, tyX5, tyX6, tyX7]
def kv_fin : List (List Bool) := [[false, false, false, false, false, false, true], [true, false, false, false, true], [true, true, true, false, true, true, false], [false, true, true, false, true, true], [false, false, false, false, false, false, false, true, true, true, true, true], [true, true, true, false, true, false, true, true, true, false, true, true, false, false, false], [true, true, false, false, false, false, false, false, false, true, true, true, true, true, true, true, false, true, true, true, true, true, false, true, true, false, true, false, false, true]]
end
section
/-! THE WORLD: the abstract memory as cells of the heap, the abstract locals as slots -/
def km_tr (ad : Nat → Nat) : Value → Value
  | .ref a => .ref (ad a)
  | v => v
theorem km_tr_cat {ad : Nat → Nat} (v : Value) : (km_tr ad v).category = v.category := by cases v <;> rfl
def kv_ct (ci : Nat) : Nat := kv_cts.getD ci 0
def kv_ft (ci k : Nat) : Nat := (kv_fts.getD ci []).getD k 0
def kv_fs (ad : Nat → Nat) (M : km_M) (a ci : Nat) : List Value := (List.range (kv_ct ci)).map (fun k => km_tr ad (km_ld (kv_ft ci k) M a k))
abbrev kv_Y : Type := ClassId × ClassId × ClassId × ClassId × ClassId
def kv_E (sh : Nat → Nat × Nat) (cy : kv_Y) (ad : Nat → Nat) (M : km_M) (a : Nat) : va_E :=
  match (sh a).1 with
  | 10 => .inl (cy.1, (sh a).2, .inl (M.1 a))
  | 11 => .inl (cy.2.1, (sh a).2, .inr (.inl (M.2.1 a)))
  | 12 => .inl (cy.2.2.1, (sh a).2, .inl (M.1 a))
  | 13 => .inl (cy.2.2.2.1, (sh a).2, .inr (.inr (.inr (.inr (fun i => some (ad (M.2.2 a i)))))))
  | 14 => .inl (cy.2.2.2.2, (sh a).2, .inr (.inr (.inr (.inr (fun i => some (ad (M.2.2 a i)))))))
  | ci => .inr (ci, kv_fs ad M a ci)
def kv_W (sh : Nat → Nat × Nat) (cy : kv_Y) (ad : Nat → Nat) (N : Nat) (M : km_M) : va_W := (List.range N).map (fun a => (ad a, kv_E sh cy ad M a))
def kv_tys (cy : kv_Y) : List (ClassId × FieldType) := [(cy.1, .int), (cy.2.1, .long), (cy.2.2.1, .boolean), (cy.2.2.2.1, .object RX5), (cy.2.2.2.2, .array .long)]
theorem kv_at {sh : Nat → Nat × Nat} {cy : kv_Y} {ad : Nat → Nat} {N : Nat} {M : km_M} {a : Nat} (ha : a < N) : (kv_W sh cy ad N M)[a]? = some (ad a, kv_E sh cy ad M a) := by
  unfold kv_W
  rw [List.getElem?_map, List.getElem?_range ha]
  rfl
theorem kv_set {sh : Nat → Nat × Nat} {cy : kv_Y} {ad : Nat → Nat} {N : Nat} {M M' : km_M} {a : Nat} {E : va_E} (ha : a < N) (he : kv_E sh cy ad M' a = E) (ho : ∀ b, b ≠ a → kv_E sh cy ad M' b = kv_E sh cy ad M b) : (kv_W sh cy ad N M).set a (ad a, E) = kv_W sh cy ad N M' := by
  apply List.ext_getElem?
  intro i
  by_cases hi : i = a
  · subst hi
    rw [List.getElem?_set_self (by unfold kv_W; rw [List.length_map, List.length_range]; exact ha), kv_at ha, he]
  · rw [List.getElem?_set_ne (fun q => hi q.symm)]
    by_cases hN : i < N
    · rw [kv_at hN, kv_at hN, ho i hi]
    · rw [List.getElem?_eq_none (by unfold kv_W; rw [List.length_map, List.length_range]; omega), List.getElem?_eq_none (by unfold kv_W; rw [List.length_map, List.length_range]; omega)]
/-- the locals -/
def kv_L (ad : Nat → Nat) (nL : Nat) (lv : km_L) (ls : Array Slot) : Prop := km_len lv = nL ∧ ls.size = nL ∧ lv_wf ls ∧ ∀ (i : Nat) (v : Value), km_get lv i = some v → ls[i]? = some (.val (km_tr ad v))
def kv_al (ad : Nat → Nat) (lv : km_L) : List (Nat × Value) := (List.range (km_len lv)).filterMap (fun i => (km_get lv i).map (fun v => (i, km_tr ad v)))
theorem km_get_lt : ∀ {lv : km_L} {i : Nat} {v : Value}, km_get lv i = some v → i < km_len lv
  | [], i, v, h => by cases h
  | x :: r, 0, v, h => by simp [km_len]
  | x :: r, n + 1, v, h => by
    have := km_get_lt (lv := r) (i := n) h
    simp only [km_len]; omega
theorem km_len_set : ∀ (lv : km_L) (i : Nat) (v : Option Value), km_len (km_set lv i v) = km_len lv
  | [], i, v => rfl
  | x :: r, 0, v => rfl
  | x :: r, n + 1, v => by simp only [km_set, km_len, km_len_set r n v]
theorem km_get_set : ∀ (lv : km_L) (i : Nat) (v : Option Value) (j : Nat), km_get (km_set lv i v) j = if j = i ∧ i < km_len lv then v else km_get lv j
  | [], i, v, j => by simp [km_set, km_get, km_len]
  | x :: r, 0, v, 0 => by simp [km_set, km_get, km_len]
  | x :: r, 0, v, j + 1 => by simp [km_set, km_get, km_len]
  | x :: r, n + 1, v, 0 => by simp [km_set, km_get, km_len]
  | x :: r, n + 1, v, j + 1 => by
    show km_get (km_set r n v) j = if j + 1 = n + 1 ∧ n + 1 < km_len (x :: r) then v else km_get r j
    rw [km_get_set r n v j]
    have hl : km_len (x :: r) = km_len r + 1 := rfl
    by_cases h : j = n ∧ n < km_len r
    · rw [if_pos h, if_pos (show j + 1 = n + 1 ∧ n + 1 < km_len (x :: r) from ⟨by omega, by omega⟩)]
    · rw [if_neg h, if_neg (fun q : j + 1 = n + 1 ∧ n + 1 < km_len (x :: r) => h ⟨by omega, by omega⟩)]
theorem km_kill_cases (lv : km_L) (i : Nat) : (km_kill lv (i + 1) = km_set lv i none ∧ i < km_len lv) ∨ (km_kill lv (i + 1) = lv ∧ ∀ v, km_get lv i = some v → ¬ v.category = 2) := by
  simp only [km_kill]
  cases h : km_get lv i with
  | none => exact Or.inr ⟨rfl, fun v q => by cases q⟩
  | some v =>
    cases v with
    | long x => exact Or.inl ⟨rfl, km_get_lt h⟩
    | double x => exact Or.inl ⟨rfl, km_get_lt h⟩
    | _ => exact Or.inr ⟨rfl, fun v q => by cases q; simp [Value.category]⟩
theorem km_len_kill (lv : km_L) (i : Nat) : km_len (km_kill lv i) = km_len lv := by
  cases i with
  | zero => simp only [km_kill]
  | succ i =>
    rcases km_kill_cases lv i with ⟨h, -⟩ | ⟨h, -⟩
    · rw [h, km_len_set]
    · rw [h]
theorem km_get_kill {lv : km_L} {i j : Nat} {v : Value} (h : km_get (km_kill lv i) j = some v) : km_get lv j = some v ∧ ¬ (j + 1 = i ∧ v.category = 2) := by
  cases i with
  | zero =>
    simp only [km_kill] at h
    exact ⟨h, fun q => by omega⟩
  | succ i =>
    rcases km_kill_cases lv i with ⟨e, hl⟩ | ⟨e, hl⟩
    · rw [e, km_get_set] at h
      split at h
      · cases h
      · rename_i hn
        exact ⟨h, fun q => hn ⟨by omega, hl⟩⟩
    · rw [e] at h
      refine ⟨h, fun q => ?_⟩
      have e2 : j = i := by omega
      subst e2
      exact hl v h q.2
theorem kv_al_mem {ad : Nat → Nat} {lv : km_L} {i : Nat} {v : Value} (h : km_get lv i = some v) : (i, km_tr ad v) ∈ kv_al ad lv := by
  unfold kv_al
  refine List.mem_filterMap.mpr ⟨i, List.mem_range.mpr (km_get_lt h), ?_⟩
  rw [h]
  rfl
theorem kv_L.has {ad : Nat → Nat} {nL : Nat} {lv : km_L} {ls : Array Slot} (h : kv_L ad nL lv ls) : lv_has ls nL (kv_al ad lv) := by
  refine ⟨h.2.1, h.2.2.1, fun q hq => ?_⟩
  obtain ⟨i, hi, e⟩ := List.mem_filterMap.mp hq
  cases hg : km_get lv i with
  | none => rw [hg] at e; cases e
  | some v =>
    rw [hg] at e
    cases e
    exact h.2.2.2 i v hg
theorem kv_L.st1 {ad : Nat → Nat} {nL : Nat} {lv : km_L} {ls ls' : Array Slot} {i : Nat} {v : Value} (h : kv_L ad nL lv ls) (h' : lv_has ls' nL ((i, km_tr ad v) :: (kv_al ad lv).filter (fun q => !(q.1 == i) && !(q.1 + 1 == i && q.2.category == 2)))) : kv_L ad nL (km_st1 lv i v) ls' := by
  refine ⟨by unfold km_st1; rw [km_len_set, km_len_kill]; exact h.1, h'.1, h'.2.1, fun j w hj => ?_⟩
  unfold km_st1 at hj
  rw [km_get_set] at hj
  split at hj
  · rename_i q
    cases hj
    rw [q.1]
    exact h'.2.2 (i, km_tr ad v) List.mem_cons_self
  · rename_i q
    obtain ⟨g1, g2⟩ := km_get_kill hj
    have hl := km_get_lt hj
    have hne : ¬ j = i := fun e => q ⟨e, e ▸ hl⟩
    refine h'.2.2 (j, km_tr ad w) (List.mem_cons_of_mem _ (List.mem_filter.mpr ⟨kv_al_mem g1, ?_⟩))
    have g3 : ¬ (j + 1 = i ∧ (km_tr ad w).category = 2) := by rw [km_tr_cat]; exact g2
    simp only [Bool.and_eq_true, Bool.not_eq_true', beq_eq_false_iff_ne, ne_eq, Bool.and_eq_false_iff]
    refine ⟨hne, ?_⟩
    by_cases e1 : j + 1 = i
    · exact Or.inr (fun e2 => g3 ⟨e1, e2⟩)
    · exact Or.inl e1
theorem kv_L.st2 {ad : Nat → Nat} {nL : Nat} {lv : km_L} {ls ls' : Array Slot} {i : Nat} {v : Value} (h : kv_L ad nL lv ls) (h' : lv_has ls' nL ((i, km_tr ad v) :: (kv_al ad lv).filter (fun q => !(q.1 == i) && (!(q.1 == i + 1) && !(q.1 + 1 == i && q.2.category == 2))))) : kv_L ad nL (km_st2 lv i v) ls' := by
  refine ⟨by unfold km_st2; rw [km_len_set, km_len_set, km_len_kill]; exact h.1, h'.1, h'.2.1, fun j w hj => ?_⟩
  unfold km_st2 at hj
  rw [km_get_set] at hj
  split at hj
  · cases hj
  · rename_i q0
    have hl0 := km_get_lt hj
    rw [km_len_set] at q0 hl0
    have hne1 : ¬ j = i + 1 := fun e => q0 ⟨e, e ▸ hl0⟩
    rw [km_get_set] at hj
    split at hj
    · rename_i q
      cases hj
      rw [q.1]
      exact h'.2.2 (i, km_tr ad v) List.mem_cons_self
    · rename_i q
      obtain ⟨g1, g2⟩ := km_get_kill hj
      have hl := km_get_lt hj
      have hne : ¬ j = i := fun e => q ⟨e, e ▸ hl⟩
      refine h'.2.2 (j, km_tr ad w) (List.mem_cons_of_mem _ (List.mem_filter.mpr ⟨kv_al_mem g1, ?_⟩))
      have g3 : ¬ (j + 1 = i ∧ (km_tr ad w).category = 2) := by rw [km_tr_cat]; exact g2
      simp only [Bool.and_eq_true, Bool.not_eq_true', beq_eq_false_iff_ne, ne_eq, Bool.and_eq_false_iff]
      refine ⟨hne, hne1, ?_⟩
      by_cases e1 : j + 1 = i
      · exact Or.inr (fun e2 => g3 ⟨e1, e2⟩)
      · exact Or.inl e1
theorem km_len_mask : ∀ (b : List Bool) (lv : km_L), km_len (km_mask b lv) = km_len lv
  | _, [] => by cases ‹List Bool› <;> rfl
  | [], x :: r => by simp only [km_mask, km_len, km_len_mask [] r]
  | true :: b, x :: r => by simp only [km_mask, km_len, km_len_mask b r]
  | false :: b, x :: r => by simp only [km_mask, km_len, km_len_mask b r]
theorem km_get_mask : ∀ {b : List Bool} {lv : km_L} {i : Nat} {v : Value}, km_get (km_mask b lv) i = some v → km_get lv i = some v
  | b, [], i, v, h => by cases b <;> cases h
  | [], x :: r, 0, v, h => by cases h
  | [], x :: r, i + 1, v, h => km_get_mask (lv := r) (b := []) (i := i) h
  | true :: b, x :: r, 0, v, h => h
  | true :: b, x :: r, i + 1, v, h => km_get_mask (lv := r) (b := b) (i := i) h
  | false :: b, x :: r, 0, v, h => by cases h
  | false :: b, x :: r, i + 1, v, h => km_get_mask (lv := r) (b := b) (i := i) h
theorem kv_L.mask {ad : Nat → Nat} {nL : Nat} {lv : km_L} {ls : Array Slot} (h : kv_L ad nL lv ls) (b : List Bool) : kv_L ad nL (km_mask b lv) ls :=
  ⟨(km_len_mask b lv).trans h.1, h.2.1, h.2.2.1, fun i v hv => h.2.2.2 i v (km_get_mask hv)⟩
theorem km_ent_len : ∀ (n : Nat) (as : List Value), km_wd as ≤ n → km_len (km_ent n as) = n
  | 0, as, h => by cases as <;> rfl
  | n + 1, [], h => by simp only [km_ent, km_len, km_ent_len n [] (Nat.zero_le _)]
  | n + 1, .long x :: r, h => by
    simp only [km_wd] at h
    cases n with
    | zero => omega
    | succ k => simp only [km_ent, km_len, km_ent_len k r (by omega)]
  | n + 1, .double x :: r, h => by
    simp only [km_wd] at h
    cases n with
    | zero => omega
    | succ k => simp only [km_ent, km_len, km_ent_len k r (by omega)]
  | n + 1, .int x :: r, h => by simp only [km_wd] at h; simp only [km_ent, km_len, km_ent_len n r (by omega)]
  | n + 1, .float x :: r, h => by simp only [km_wd] at h; simp only [km_ent, km_len, km_ent_len n r (by omega)]
  | n + 1, .null :: r, h => by simp only [km_wd] at h; simp only [km_ent, km_len, km_ent_len n r (by omega)]
  | n + 1, .ref x :: r, h => by simp only [km_wd] at h; simp only [km_ent, km_len, km_ent_len n r (by omega)]
  | n + 1, .retAddr x :: r, h => by simp only [km_wd] at h; simp only [km_ent, km_len, km_ent_len n r (by omega)]
theorem km_ent_nil : ∀ (n i : Nat), km_get (km_ent n []) i = none
  | 0, i => rfl
  | n + 1, 0 => rfl
  | n + 1, i + 1 => by simp only [km_ent, km_get, km_ent_nil n i]
theorem km_ent_wide {n : Nat} {v : Value} {r : List Value} (h : v.category = 2) : km_ent (n + 2) (v :: r) = some v :: none :: km_ent n r := by
  cases v with
  | long x => simp only [km_ent]
  | double x => simp only [km_ent]
  | _ => exact absurd h (by simp [Value.category])
theorem km_ent_slim {n : Nat} {v : Value} {r : List Value} (h : ¬ v.category = 2) : km_ent (n + 1) (v :: r) = some v :: km_ent n r := by
  cases v with
  | long x => exact absurd rfl h
  | double x => exact absurd rfl h
  | _ => simp only [km_ent]
theorem lv_args_cons (ad : Nat → Nat) (b : Nat) (v : Value) (r : List Value) : lv_args b ((v :: r).map (km_tr ad)) = (b, km_tr ad v) :: lv_args (if v.category = 2 then b + 2 else b + 1) (r.map (km_tr ad)) := by
  rw [List.map_cons]
  show (b, km_tr ad v) :: lv_args (if (km_tr ad v).category = 2 then b + 2 else b + 1) (r.map (km_tr ad)) = _
  rw [km_tr_cat]
theorem km_ent_get {ad : Nat → Nat} : ∀ (as : List Value) (n b i : Nat) (v : Value), km_get (km_ent n as) i = some v → (b + i, km_tr ad v) ∈ lv_args b (as.map (km_tr ad))
  | [], n, b, i, v, h => by rw [km_ent_nil] at h; cases h
  | w :: r, 0, b, i, v, h => by simp only [km_ent] at h; cases h
  | w :: r, n + 1, b, i, v, h => by
    rw [lv_args_cons]
    by_cases hc : w.category = 2
    · rw [if_pos hc]
      cases n with
      | zero =>
        cases w with
        | long x =>
          cases i with
          | zero => simp only [km_ent, km_get] at h; cases h; exact List.mem_cons_self
          | succ i => simp only [km_ent, km_get] at h; cases h
        | double x =>
          cases i with
          | zero => simp only [km_ent, km_get] at h; cases h; exact List.mem_cons_self
          | succ i => simp only [km_ent, km_get] at h; cases h
        | _ => exact absurd hc (by simp [Value.category])
      | succ k =>
        rw [km_ent_wide hc] at h
        match i, h with
        | 0, h => cases h; exact List.mem_cons_self
        | 1, h => cases h
        | i + 2, h =>
          have q := km_ent_get (ad := ad) r k (b + 2) i v h
          rw [show b + (i + 2) = b + 2 + i by omega]
          exact List.mem_cons_of_mem _ q
    · rw [if_neg hc]
      rw [km_ent_slim hc] at h
      match i, h with
      | 0, h => cases h; exact List.mem_cons_self
      | i + 1, h =>
        have q := km_ent_get (ad := ad) r n (b + 1) i v h
        rw [show b + (i + 1) = b + 1 + i by omega]
        exact List.mem_cons_of_mem _ q
theorem km_wd_sl (ad : Nat → Nat) : ∀ as : List Value, (lg_sl (as.map (km_tr ad))).length = km_wd as
  | [] => rfl
  | v :: r => by
    have h := km_wd_sl ad r
    have e : lg_sl ((v :: r).map (km_tr ad)) = (if (km_tr ad v).category = 2 then [Slot.val (km_tr ad v), Slot.second] else [Slot.val (km_tr ad v)]) ++ lg_sl (r.map (km_tr ad)) := rfl
    rw [e, List.length_append, h, km_tr_cat]
    cases v with
    | long x => show 2 + km_wd r = km_wd r + 2; omega
    | double x => show 2 + km_wd r = km_wd r + 2; omega
    | int x => show 1 + km_wd r = km_wd r + 1; omega
    | float x => show 1 + km_wd r = km_wd r + 1; omega
    | null => show 1 + km_wd r = km_wd r + 1; omega
    | ref x => show 1 + km_wd r = km_wd r + 1; omega
    | retAddr x => show 1 + km_wd r = km_wd r + 1; omega
theorem km_wd_cat (ad : Nat → Nat) : ∀ as : List Value, ((as.map (km_tr ad)).map fun v => v.category).sum = km_wd as
  | [] => rfl
  | v :: r => by
    have h := km_wd_cat ad r
    simp only [List.map_cons, List.sum_cons, h, km_tr_cat]
    cases v <;> simp [Value.category, km_wd] <;> omega
/-- the locals with which a method begins -/
theorem kv_L.entry {ad : Nat → Nat} {P : km_P} {as : List Value} (h : km_wd as ≤ P.1) : kv_L ad P.1 (kIn P as) ((lg_sl (as.map (km_tr ad)) ++ List.replicate (P.1 - (lg_sl (as.map (km_tr ad))).length) Slot.unset).toArray) := by
  have q := lv_entry (as.map (km_tr ad)) (n := P.1) (by rw [km_wd_sl]; exact h)
  refine kv_L.mask ⟨km_ent_len _ _ h, q.1, q.2.1, fun i v hv => ?_⟩ _
  have q2 := q.2.2 _ (km_ent_get (ad := ad) _ _ 0 i v hv)
  rw [Nat.zero_add] at q2
  exact q2
end
section
/-! LINKS: printed by program: which pool entry of which class means which field, method, constant; and that the tables say so -/
def kx_0 (i : Instr) (n : Nat) : km_I := (i, n, 0, 0, 0, 0, 0, [])
def kx_1 (i : Instr) (n x : Nat) : km_I := (i, n, x, 0, 0, 0, 0, [])
def kx_3 (i : Instr) (n x y z : Nat) : km_I := (i, n, x, y, z, 0, 0, [])
def kx_i (i : Instr) (n : Nat) (c : Int32) : km_I := (i, n, 0, 0, 0, c, 0, [])
def kx_n (i : Instr) (n x : Nat) (c : Int32) : km_I := (i, n, x, 0, 0, c, 0, [])
def kx_l (i : Instr) (n : Nat) (w : Int64) : km_I := (i, n, 0, 0, 0, 0, w, [])
def kx_s (i : Instr) (n x : Nat) (t : List (Int32 × Nat)) : km_I := (i, n, x, 0, 0, 0, 0, t)
def kn_at (ci : Nat) : vw_C := vwCl.getD ci (RX0, TX0, 0)
def kn_o (oc : Nat) : String := kn_r.getD oc ""
theorem kw_in {ws : List Cond} {ps : List Nat} (h : ws = ps.filterMap (fun i => lw_tbl[i]?)) : ∀ w ∈ ws, w ∈ lw_tbl := by
  intro w hw
  rw [h] at hw
  obtain ⟨i, -, hi⟩ := List.mem_filterMap.mp hw
  exact List.mem_of_getElem? hi
theorem kt_1 {w : Cond} (h : w ∈ tables_1_1) : w ∈ lw_tbl := List.mem_append_right _ (List.mem_append_left _ (h))
theorem kt_2 {w : Cond} (h : w ∈ tables_1_2) : w ∈ lw_tbl := List.mem_append_right _ (List.mem_append_right _ (List.mem_append_left _ (h)))
theorem kt_3 {w : Cond} (h : w ∈ tables_1_3) : w ∈ lw_tbl := List.mem_append_right _ (List.mem_append_right _ (List.mem_append_right _ (List.mem_append_left _ (h))))
theorem kt_4 {w : Cond} (h : w ∈ tables_1_4) : w ∈ lw_tbl := List.mem_append_right _ (List.mem_append_right _ (List.mem_append_right _ (List.mem_append_right _ (List.mem_append_left _ (h)))))
theorem kt_5 {w : Cond} (h : w ∈ tables_1_5) : w ∈ lw_tbl := List.mem_append_right _ (List.mem_append_right _ (List.mem_append_right _ (List.mem_append_right _ (List.mem_append_right _ (List.mem_append_left _ (h))))))
theorem kt_6 {w : Cond} (h : w ∈ tables_1_6) : w ∈ lw_tbl := List.mem_append_right _ (List.mem_append_right _ (List.mem_append_right _ (List.mem_append_right _ (List.mem_append_right _ (List.mem_append_right _ (h))))))
theorem kt_p1 {q : MethodName × Nat} (h : q ∈ lw_privs_1) : Cond.selects q.1.cls q.1 q.1 ∈ lw_tbl := List.mem_append_left _ (List.mem_map.mpr ⟨q, List.mem_append_left _ (h), rfl⟩)
theorem kt_p2 {q : MethodName × Nat} (h : q ∈ lw_privs_2) : Cond.selects q.1.cls q.1 q.1 ∈ lw_tbl := List.mem_append_left _ (List.mem_map.mpr ⟨q, List.mem_append_right _ (List.mem_append_left _ (h)), rfl⟩)
theorem kt_p3 {q : MethodName × Nat} (h : q ∈ lw_privs_3) : Cond.selects q.1.cls q.1 q.1 ∈ lw_tbl := List.mem_append_left _ (List.mem_map.mpr ⟨q, List.mem_append_right _ (List.mem_append_right _ (List.mem_append_left _ (h))), rfl⟩)
theorem kt_p4 {q : MethodName × Nat} (h : q ∈ lw_privs_4) : Cond.selects q.1.cls q.1 q.1 ∈ lw_tbl := List.mem_append_left _ (List.mem_map.mpr ⟨q, List.mem_append_right _ (List.mem_append_right _ (List.mem_append_right _ (List.mem_append_left _ (h)))), rfl⟩)
theorem kt_p5 {q : MethodName × Nat} (h : q ∈ lw_privs_5) : Cond.selects q.1.cls q.1 q.1 ∈ lw_tbl := List.mem_append_left _ (List.mem_map.mpr ⟨q, List.mem_append_right _ (List.mem_append_right _ (List.mem_append_right _ (List.mem_append_right _ (List.mem_append_left _ (h))))), rfl⟩)
theorem kt_p6 {q : MethodName × Nat} (h : q ∈ lw_privs_6) : Cond.selects q.1.cls q.1 q.1 ∈ lw_tbl := List.mem_append_left _ (List.mem_map.mpr ⟨q, List.mem_append_right _ (List.mem_append_right _ (List.mem_append_right _ (List.mem_append_right _ (List.mem_append_right _ (h))))), rfl⟩)
def kw_f0 : List (Nat × Nat × Nat × Nat) := [(0, 9, 0, 0), (0, 15, 0, 1), (0, 21, 0, 2), (0, 24, 0, 3), (0, 27, 0, 4), (0, 30, 0, 5), (0, 33, 0, 6), (0, 56, 4, 0), (0, 67, 4, 1), (0, 70, 4, 7), (0, 73, 4, 8), (2, 9, 1, 0), (2, 15, 1, 1), (2, 19, 1, 2), (2, 22, 1, 3), (2, 25, 1, 4), (2, 39, 4, 0), (2, 47, 4, 1), (2, 56, 4, 2), (3, 9, 2, 0)]
set_option maxRecDepth 100000 in
theorem kw_f0_ok : ∀ e ∈ kw_f0, (Cond.fieldLink (kn_o e.1) e.2.1 ((kn_at e.2.2.1).2.1 e.2.2.2).1 ((kn_at e.2.2.1).2.1 e.2.2.2).2.1 ((kn_at e.2.2.1).2.1 e.2.2.2).2.2.1) ∈ lw_tbl := (List.forall_mem_cons.mpr ⟨kt_1 (List.mem_of_getElem? (i := 131) rfl), (List.forall_mem_cons.mpr ⟨kt_1 (List.mem_of_getElem? (i := 133) rfl), (List.forall_mem_cons.mpr ⟨kt_1 (List.mem_of_getElem? (i := 135) rfl), (List.forall_mem_cons.mpr ⟨kt_1 (List.mem_of_getElem? (i := 136) rfl), (List.forall_mem_cons.mpr ⟨kt_1 (List.mem_of_getElem? (i := 137) rfl), (List.forall_mem_cons.mpr ⟨kt_1 (List.mem_of_getElem? (i := 138) rfl), (List.forall_mem_cons.mpr ⟨kt_1 (List.mem_of_getElem? (i := 139) rfl), (List.forall_mem_cons.mpr ⟨kt_1 (List.mem_of_getElem? (i := 30) rfl), (List.forall_mem_cons.mpr ⟨kt_1 (List.mem_of_getElem? (i := 36) rfl), (List.forall_mem_cons.mpr ⟨kt_1 (List.mem_of_getElem? (i := 51) rfl), (List.forall_mem_cons.mpr ⟨kt_1 (List.mem_of_getElem? (i := 55) rfl), (List.forall_mem_cons.mpr ⟨kt_1 (List.mem_of_getElem? (i := 188) rfl), (List.forall_mem_cons.mpr ⟨kt_1 (List.mem_of_getElem? (i := 190) rfl), (List.forall_mem_cons.mpr ⟨kt_1 (List.mem_of_getElem? (i := 192) rfl), (List.forall_mem_cons.mpr ⟨kt_1 (List.mem_of_getElem? (i := 194) rfl), (List.forall_mem_cons.mpr ⟨kt_1 (List.mem_of_getElem? (i := 195) rfl), (List.forall_mem_cons.mpr ⟨kt_1 (List.mem_of_getElem? (i := 29) rfl), (List.forall_mem_cons.mpr ⟨kt_1 (List.mem_of_getElem? (i := 35) rfl), (List.forall_mem_cons.mpr ⟨kt_1 (List.mem_of_getElem? (i := 38) rfl), (List.forall_mem_cons.mpr ⟨kt_1 (List.mem_of_getElem? (i := 97) rfl), (fun _ h => absurd h List.not_mem_nil)⟩)⟩)⟩)⟩)⟩)⟩)⟩)⟩)⟩)⟩)⟩)⟩)⟩)⟩)⟩)⟩)⟩)⟩)⟩)⟩)
def kw_f1 : List (Nat × Nat × Nat × Nat) := [(3, 15, 2, 1), (3, 19, 2, 2), (3, 22, 2, 3), (3, 26, 2, 4), (3, 29, 2, 5), (3, 32, 2, 6), (3, 46, 4, 1), (3, 95, 4, 9), (4, 9, 3, 0), (4, 15, 3, 1), (4, 19, 3, 2), (4, 22, 3, 3), (4, 25, 3, 4), (4, 28, 3, 5), (4, 31, 4, 1), (4, 34, 4, 7), (4, 44, 4, 8), (5, 9, 4, 0), (5, 15, 4, 1), (5, 18, 4, 2)]
set_option maxRecDepth 100000 in
theorem kw_f1_ok : ∀ e ∈ kw_f1, (Cond.fieldLink (kn_o e.1) e.2.1 ((kn_at e.2.2.1).2.1 e.2.2.2).1 ((kn_at e.2.2.1).2.1 e.2.2.2).2.1 ((kn_at e.2.2.1).2.1 e.2.2.2).2.2.1) ∈ lw_tbl := (List.forall_mem_cons.mpr ⟨kt_1 (List.mem_of_getElem? (i := 99) rfl), (List.forall_mem_cons.mpr ⟨kt_1 (List.mem_of_getElem? (i := 101) rfl), (List.forall_mem_cons.mpr ⟨kt_1 (List.mem_of_getElem? (i := 103) rfl), (List.forall_mem_cons.mpr ⟨kt_1 (List.mem_of_getElem? (i := 105) rfl), (List.forall_mem_cons.mpr ⟨kt_1 (List.mem_of_getElem? (i := 106) rfl), (List.forall_mem_cons.mpr ⟨kt_1 (List.mem_of_getElem? (i := 107) rfl), (List.forall_mem_cons.mpr ⟨kt_1 (List.mem_of_getElem? (i := 33) rfl), (List.forall_mem_cons.mpr ⟨kt_1 (List.mem_of_getElem? (i := 58) rfl), (List.forall_mem_cons.mpr ⟨kt_1 (List.mem_of_getElem? (i := 161) rfl), (List.forall_mem_cons.mpr ⟨kt_1 (List.mem_of_getElem? (i := 163) rfl), (List.forall_mem_cons.mpr ⟨kt_1 (List.mem_of_getElem? (i := 165) rfl), (List.forall_mem_cons.mpr ⟨kt_1 (List.mem_of_getElem? (i := 166) rfl), (List.forall_mem_cons.mpr ⟨kt_1 (List.mem_of_getElem? (i := 167) rfl), (List.forall_mem_cons.mpr ⟨kt_1 (List.mem_of_getElem? (i := 168) rfl), (List.forall_mem_cons.mpr ⟨kt_1 (List.mem_of_getElem? (i := 32) rfl), (List.forall_mem_cons.mpr ⟨kt_1 (List.mem_of_getElem? (i := 49) rfl), (List.forall_mem_cons.mpr ⟨kt_1 (List.mem_of_getElem? (i := 53) rfl), (List.forall_mem_cons.mpr ⟨kt_1 (List.mem_of_getElem? (i := 27) rfl), (List.forall_mem_cons.mpr ⟨kt_1 (List.mem_of_getElem? (i := 31) rfl), (List.forall_mem_cons.mpr ⟨kt_1 (List.mem_of_getElem? (i := 37) rfl), (fun _ h => absurd h List.not_mem_nil)⟩)⟩)⟩)⟩)⟩)⟩)⟩)⟩)⟩)⟩)⟩)⟩)⟩)⟩)⟩)⟩)⟩)⟩)⟩)⟩)
def kw_f2 : List (Nat × Nat × Nat × Nat) := [(5, 21, 4, 3), (5, 25, 4, 4), (5, 29, 4, 5), (5, 32, 4, 6), (5, 35, 4, 7), (5, 39, 4, 8), (5, 42, 4, 9), (5, 46, 4, 10), (5, 49, 4, 11), (6, 10, 5, 0), (6, 16, 5, 1), (6, 19, 5, 2), (6, 23, 5, 3), (6, 30, 5, 4), (6, 34, 5, 5), (6, 38, 5, 6), (6, 44, 5, 7), (6, 51, 5, 8), (6, 55, 5, 9), (6, 61, 5, 10)]
set_option maxRecDepth 100000 in
theorem kw_f2_ok : ∀ e ∈ kw_f2, (Cond.fieldLink (kn_o e.1) e.2.1 ((kn_at e.2.2.1).2.1 e.2.2.2).1 ((kn_at e.2.2.1).2.1 e.2.2.2).2.1 ((kn_at e.2.2.1).2.1 e.2.2.2).2.2.1) ∈ lw_tbl := (List.forall_mem_cons.mpr ⟨kt_1 (List.mem_of_getElem? (i := 40) rfl), (List.forall_mem_cons.mpr ⟨kt_1 (List.mem_of_getElem? (i := 42) rfl), (List.forall_mem_cons.mpr ⟨kt_1 (List.mem_of_getElem? (i := 44) rfl), (List.forall_mem_cons.mpr ⟨kt_1 (List.mem_of_getElem? (i := 46) rfl), (List.forall_mem_cons.mpr ⟨kt_1 (List.mem_of_getElem? (i := 48) rfl), (List.forall_mem_cons.mpr ⟨kt_1 (List.mem_of_getElem? (i := 52) rfl), (List.forall_mem_cons.mpr ⟨kt_1 (List.mem_of_getElem? (i := 56) rfl), (List.forall_mem_cons.mpr ⟨kt_1 (List.mem_of_getElem? (i := 59) rfl), (List.forall_mem_cons.mpr ⟨kt_1 (List.mem_of_getElem? (i := 61) rfl), (List.forall_mem_cons.mpr ⟨kt_1 (List.mem_of_getElem? (i := 207) rfl), (List.forall_mem_cons.mpr ⟨kt_1 (List.mem_of_getElem? (i := 208) rfl), (List.forall_mem_cons.mpr ⟨kt_1 (List.mem_of_getElem? (i := 209) rfl), (List.forall_mem_cons.mpr ⟨kt_1 (List.mem_of_getElem? (i := 210) rfl), (List.forall_mem_cons.mpr ⟨kt_1 (List.mem_of_getElem? (i := 211) rfl), (List.forall_mem_cons.mpr ⟨kt_1 (List.mem_of_getElem? (i := 212) rfl), (List.forall_mem_cons.mpr ⟨kt_1 (List.mem_of_getElem? (i := 213) rfl), (List.forall_mem_cons.mpr ⟨kt_1 (List.mem_of_getElem? (i := 214) rfl), (List.forall_mem_cons.mpr ⟨kt_1 (List.mem_of_getElem? (i := 215) rfl), (List.forall_mem_cons.mpr ⟨kt_1 (List.mem_of_getElem? (i := 216) rfl), (List.forall_mem_cons.mpr ⟨kt_1 (List.mem_of_getElem? (i := 217) rfl), (fun _ h => absurd h List.not_mem_nil)⟩)⟩)⟩)⟩)⟩)⟩)⟩)⟩)⟩)⟩)⟩)⟩)⟩)⟩)⟩)⟩)⟩)⟩)⟩)⟩)
def kw_f3 : List (Nat × Nat × Nat × Nat) := [(6, 65, 5, 11), (6, 69, 5, 12), (6, 72, 5, 13), (6, 75, 5, 14), (6, 86, 4, 0), (6, 99, 4, 1), (6, 113, 4, 7), (6, 117, 4, 8), (6, 130, 4, 4), (6, 134, 4, 9), (6, 153, 2, 3), (6, 159, 4, 3), (6, 162, 4, 6), (6, 165, 4, 5), (6, 209, 0, 0), (6, 217, 0, 1), (6, 220, 3, 0), (6, 221, 3, 1), (6, 239, 4, 2), (6, 255, 4, 10)]
set_option maxRecDepth 100000 in
theorem kw_f3_ok : ∀ e ∈ kw_f3, (Cond.fieldLink (kn_o e.1) e.2.1 ((kn_at e.2.2.1).2.1 e.2.2.2).1 ((kn_at e.2.2.1).2.1 e.2.2.2).2.1 ((kn_at e.2.2.1).2.1 e.2.2.2).2.2.1) ∈ lw_tbl := (List.forall_mem_cons.mpr ⟨kt_1 (List.mem_of_getElem? (i := 218) rfl), (List.forall_mem_cons.mpr ⟨kt_1 (List.mem_of_getElem? (i := 219) rfl), (List.forall_mem_cons.mpr ⟨kt_1 (List.mem_of_getElem? (i := 220) rfl), (List.forall_mem_cons.mpr ⟨kt_1 (List.mem_of_getElem? (i := 221) rfl), (List.forall_mem_cons.mpr ⟨kt_1 (List.mem_of_getElem? (i := 28) rfl), (List.forall_mem_cons.mpr ⟨kt_1 (List.mem_of_getElem? (i := 34) rfl), (List.forall_mem_cons.mpr ⟨kt_1 (List.mem_of_getElem? (i := 50) rfl), (List.forall_mem_cons.mpr ⟨kt_1 (List.mem_of_getElem? (i := 54) rfl), (List.forall_mem_cons.mpr ⟨kt_1 (List.mem_of_getElem? (i := 43) rfl), (List.forall_mem_cons.mpr ⟨kt_1 (List.mem_of_getElem? (i := 57) rfl), (List.forall_mem_cons.mpr ⟨kt_1 (List.mem_of_getElem? (i := 104) rfl), (List.forall_mem_cons.mpr ⟨kt_1 (List.mem_of_getElem? (i := 41) rfl), (List.forall_mem_cons.mpr ⟨kt_1 (List.mem_of_getElem? (i := 47) rfl), (List.forall_mem_cons.mpr ⟨kt_1 (List.mem_of_getElem? (i := 45) rfl), (List.forall_mem_cons.mpr ⟨kt_1 (List.mem_of_getElem? (i := 132) rfl), (List.forall_mem_cons.mpr ⟨kt_1 (List.mem_of_getElem? (i := 134) rfl), (List.forall_mem_cons.mpr ⟨kt_1 (List.mem_of_getElem? (i := 162) rfl), (List.forall_mem_cons.mpr ⟨kt_1 (List.mem_of_getElem? (i := 164) rfl), (List.forall_mem_cons.mpr ⟨kt_1 (List.mem_of_getElem? (i := 39) rfl), (List.forall_mem_cons.mpr ⟨kt_1 (List.mem_of_getElem? (i := 60) rfl), (fun _ h => absurd h List.not_mem_nil)⟩)⟩)⟩)⟩)⟩)⟩)⟩)⟩)⟩)⟩)⟩)⟩)⟩)⟩)⟩)⟩)⟩)⟩)⟩)⟩)
def kw_f4 : List (Nat × Nat × Nat × Nat) := [(6, 258, 4, 11), (6, 286, 2, 0), (6, 293, 2, 1), (6, 296, 2, 2), (6, 310, 1, 1), (6, 313, 1, 0), (6, 323, 1, 2), (7, 7, 6, 0), (7, 13, 6, 1), (7, 16, 6, 9), (7, 20, 6, 10), (7, 23, 6, 11), (7, 26, 6, 12), (7, 30, 6, 13), (7, 33, 6, 14), (7, 36, 6, 15), (7, 39, 6, 17), (7, 42, 6, 18), (7, 45, 6, 19), (7, 48, 6, 20)]
set_option maxRecDepth 100000 in
theorem kw_f4_ok : ∀ e ∈ kw_f4, (Cond.fieldLink (kn_o e.1) e.2.1 ((kn_at e.2.2.1).2.1 e.2.2.2).1 ((kn_at e.2.2.1).2.1 e.2.2.2).2.1 ((kn_at e.2.2.1).2.1 e.2.2.2).2.2.1) ∈ lw_tbl := (List.forall_mem_cons.mpr ⟨kt_1 (List.mem_of_getElem? (i := 62) rfl), (List.forall_mem_cons.mpr ⟨kt_1 (List.mem_of_getElem? (i := 98) rfl), (List.forall_mem_cons.mpr ⟨kt_1 (List.mem_of_getElem? (i := 100) rfl), (List.forall_mem_cons.mpr ⟨kt_1 (List.mem_of_getElem? (i := 102) rfl), (List.forall_mem_cons.mpr ⟨kt_1 (List.mem_of_getElem? (i := 191) rfl), (List.forall_mem_cons.mpr ⟨kt_1 (List.mem_of_getElem? (i := 189) rfl), (List.forall_mem_cons.mpr ⟨kt_1 (List.mem_of_getElem? (i := 193) rfl), (List.forall_mem_cons.mpr ⟨kt_4 (List.mem_of_getElem? (i := 98) rfl), (List.forall_mem_cons.mpr ⟨kt_4 (List.mem_of_getElem? (i := 99) rfl), (List.forall_mem_cons.mpr ⟨kt_4 (List.mem_of_getElem? (i := 107) rfl), (List.forall_mem_cons.mpr ⟨kt_4 (List.mem_of_getElem? (i := 108) rfl), (List.forall_mem_cons.mpr ⟨kt_4 (List.mem_of_getElem? (i := 109) rfl), (List.forall_mem_cons.mpr ⟨kt_4 (List.mem_of_getElem? (i := 110) rfl), (List.forall_mem_cons.mpr ⟨kt_4 (List.mem_of_getElem? (i := 111) rfl), (List.forall_mem_cons.mpr ⟨kt_4 (List.mem_of_getElem? (i := 112) rfl), (List.forall_mem_cons.mpr ⟨kt_4 (List.mem_of_getElem? (i := 113) rfl), (List.forall_mem_cons.mpr ⟨kt_4 (List.mem_of_getElem? (i := 115) rfl), (List.forall_mem_cons.mpr ⟨kt_4 (List.mem_of_getElem? (i := 116) rfl), (List.forall_mem_cons.mpr ⟨kt_4 (List.mem_of_getElem? (i := 117) rfl), (List.forall_mem_cons.mpr ⟨kt_4 (List.mem_of_getElem? (i := 118) rfl), (fun _ h => absurd h List.not_mem_nil)⟩)⟩)⟩)⟩)⟩)⟩)⟩)⟩)⟩)⟩)⟩)⟩)⟩)⟩)⟩)⟩)⟩)⟩)⟩)⟩)
def kw_f5 : List (Nat × Nat × Nat × Nat) := [(7, 51, 6, 21), (7, 54, 6, 23), (7, 57, 6, 24), (7, 60, 6, 26), (7, 63, 6, 29), (7, 66, 6, 4), (7, 70, 6, 5), (7, 73, 6, 6), (7, 80, 6, 3), (7, 83, 6, 2), (7, 118, 6, 7), (7, 143, 6, 8), (7, 232, 6, 16), (7, 264, 6, 22), (7, 313, 6, 25), (7, 316, 6, 27), (7, 319, 6, 28)]
set_option maxRecDepth 100000 in
theorem kw_f5_ok : ∀ e ∈ kw_f5, (Cond.fieldLink (kn_o e.1) e.2.1 ((kn_at e.2.2.1).2.1 e.2.2.2).1 ((kn_at e.2.2.1).2.1 e.2.2.2).2.1 ((kn_at e.2.2.1).2.1 e.2.2.2).2.2.1) ∈ lw_tbl := (List.forall_mem_cons.mpr ⟨kt_4 (List.mem_of_getElem? (i := 119) rfl), (List.forall_mem_cons.mpr ⟨kt_4 (List.mem_of_getElem? (i := 121) rfl), (List.forall_mem_cons.mpr ⟨kt_4 (List.mem_of_getElem? (i := 122) rfl), (List.forall_mem_cons.mpr ⟨kt_4 (List.mem_of_getElem? (i := 124) rfl), (List.forall_mem_cons.mpr ⟨kt_4 (List.mem_of_getElem? (i := 127) rfl), (List.forall_mem_cons.mpr ⟨kt_4 (List.mem_of_getElem? (i := 102) rfl), (List.forall_mem_cons.mpr ⟨kt_4 (List.mem_of_getElem? (i := 103) rfl), (List.forall_mem_cons.mpr ⟨kt_4 (List.mem_of_getElem? (i := 104) rfl), (List.forall_mem_cons.mpr ⟨kt_4 (List.mem_of_getElem? (i := 101) rfl), (List.forall_mem_cons.mpr ⟨kt_4 (List.mem_of_getElem? (i := 100) rfl), (List.forall_mem_cons.mpr ⟨kt_4 (List.mem_of_getElem? (i := 105) rfl), (List.forall_mem_cons.mpr ⟨kt_4 (List.mem_of_getElem? (i := 106) rfl), (List.forall_mem_cons.mpr ⟨kt_4 (List.mem_of_getElem? (i := 114) rfl), (List.forall_mem_cons.mpr ⟨kt_4 (List.mem_of_getElem? (i := 120) rfl), (List.forall_mem_cons.mpr ⟨kt_4 (List.mem_of_getElem? (i := 123) rfl), (List.forall_mem_cons.mpr ⟨kt_4 (List.mem_of_getElem? (i := 125) rfl), (List.forall_mem_cons.mpr ⟨kt_4 (List.mem_of_getElem? (i := 126) rfl), (fun _ h => absurd h List.not_mem_nil)⟩)⟩)⟩)⟩)⟩)⟩)⟩)⟩)⟩)⟩)⟩)⟩)⟩)⟩)⟩)⟩)⟩)
def kw_f : List (Nat × Nat × Nat × Nat) := kw_f0 ++ kw_f1 ++ kw_f2 ++ kw_f3 ++ kw_f4 ++ kw_f5
theorem kw_f_ok : ∀ e ∈ kw_f, (Cond.fieldLink (kn_o e.1) e.2.1 ((kn_at e.2.2.1).2.1 e.2.2.2).1 ((kn_at e.2.2.1).2.1 e.2.2.2).2.1 ((kn_at e.2.2.1).2.1 e.2.2.2).2.2.1) ∈ lw_tbl := (List.forall_mem_append.mpr ⟨(List.forall_mem_append.mpr ⟨(List.forall_mem_append.mpr ⟨(List.forall_mem_append.mpr ⟨(List.forall_mem_append.mpr ⟨kw_f0_ok, kw_f1_ok⟩), kw_f2_ok⟩), kw_f3_ok⟩), kw_f4_ok⟩), kw_f5_ok⟩)
def kw_c0 : List (Nat × Nat × Int32) := [(6, 144, 999999), (7, 130, 999999), (8, 265, 1431655765), (8, 266, 858993459), (8, 267, 252645135)]
set_option maxRecDepth 100000 in
theorem kw_c0_ok : ∀ e ∈ kw_c0, (Cond.constant (kn_o e.1) e.2.1 e.2.2) ∈ lw_tbl := (List.forall_mem_cons.mpr ⟨kt_2 (List.mem_of_getElem? (i := 113) rfl), (List.forall_mem_cons.mpr ⟨kt_5 (List.mem_of_getElem? (i := 13) rfl), (List.forall_mem_cons.mpr ⟨kt_3 (List.mem_of_getElem? (i := 26) rfl), (List.forall_mem_cons.mpr ⟨kt_3 (List.mem_of_getElem? (i := 27) rfl), (List.forall_mem_cons.mpr ⟨kt_3 (List.mem_of_getElem? (i := 28) rfl), (fun _ h => absurd h List.not_mem_nil)⟩)⟩)⟩)⟩)⟩)
def kw_c : List (Nat × Nat × Int32) := kw_c0
theorem kw_c_ok : ∀ e ∈ kw_c, (Cond.constant (kn_o e.1) e.2.1 e.2.2) ∈ lw_tbl := kw_c0_ok
def kw_l0 : List (Nat × Nat × Int64) := [(1, 11, 31), (1, 13, (-1)), (1, 15, 581109629338128), (1, 21, 16), (3, 59, (-1)), (3, 68, (-7046029254386353131)), (5, 94, 1103515245), (5, 96, 12345), (5, 98, 2147483648), (5, 100, 65536), (6, 264, (-1)), (6, 332, 2221), (6, 334, 31), (7, 122, 1103515245), (7, 124, 12345), (7, 126, 2147483648), (7, 128, 65536), (7, 150, 15), (7, 308, (-1)), (7, 352, 2221)]
set_option maxRecDepth 100000 in
theorem kw_l0_ok : ∀ e ∈ kw_l0, (Cond.constantLong (kn_o e.1) e.2.1 e.2.2) ∈ lw_tbl := (List.forall_mem_cons.mpr ⟨kt_2 (List.mem_of_getElem? (i := 46) rfl), (List.forall_mem_cons.mpr ⟨kt_2 (List.mem_of_getElem? (i := 47) rfl), (List.forall_mem_cons.mpr ⟨kt_2 (List.mem_of_getElem? (i := 170) rfl), (List.forall_mem_cons.mpr ⟨kt_3 (List.mem_of_getElem? (i := 227) rfl), (List.forall_mem_cons.mpr ⟨kt_2 (List.mem_of_getElem? (i := 186) rfl), (List.forall_mem_cons.mpr ⟨kt_2 (List.mem_of_getElem? (i := 162) rfl), (List.forall_mem_cons.mpr ⟨kt_2 (List.mem_of_getElem? (i := 125) rfl), (List.forall_mem_cons.mpr ⟨kt_2 (List.mem_of_getElem? (i := 126) rfl), (List.forall_mem_cons.mpr ⟨kt_2 (List.mem_of_getElem? (i := 127) rfl), (List.forall_mem_cons.mpr ⟨kt_2 (List.mem_of_getElem? (i := 131) rfl), (List.forall_mem_cons.mpr ⟨kt_2 (List.mem_of_getElem? (i := 146) rfl), (List.forall_mem_cons.mpr ⟨kt_4 (List.mem_of_getElem? (i := 83) rfl), (List.forall_mem_cons.mpr ⟨kt_4 (List.mem_of_getElem? (i := 84) rfl), (List.forall_mem_cons.mpr ⟨kt_5 (List.mem_of_getElem? (i := 18) rfl), (List.forall_mem_cons.mpr ⟨kt_5 (List.mem_of_getElem? (i := 19) rfl), (List.forall_mem_cons.mpr ⟨kt_5 (List.mem_of_getElem? (i := 20) rfl), (List.forall_mem_cons.mpr ⟨kt_5 (List.mem_of_getElem? (i := 21) rfl), (List.forall_mem_cons.mpr ⟨kt_5 (List.mem_of_getElem? (i := 40) rfl), (List.forall_mem_cons.mpr ⟨kt_6 (List.mem_of_getElem? (i := 61) rfl), (List.forall_mem_cons.mpr ⟨kt_6 (List.mem_of_getElem? (i := 134) rfl), (fun _ h => absurd h List.not_mem_nil)⟩)⟩)⟩)⟩)⟩)⟩)⟩)⟩)⟩)⟩)⟩)⟩)⟩)⟩)⟩)⟩)⟩)⟩)⟩)⟩)
def kw_l1 : List (Nat × Nat × Int64) := [(7, 354, 31)]
set_option maxRecDepth 100000 in
theorem kw_l1_ok : ∀ e ∈ kw_l1, (Cond.constantLong (kn_o e.1) e.2.1 e.2.2) ∈ lw_tbl := (List.forall_mem_cons.mpr ⟨kt_6 (List.mem_of_getElem? (i := 135) rfl), (fun _ h => absurd h List.not_mem_nil)⟩)
def kw_l : List (Nat × Nat × Int64) := kw_l0 ++ kw_l1
theorem kw_l_ok : ∀ e ∈ kw_l, (Cond.constantLong (kn_o e.1) e.2.1 e.2.2) ∈ lw_tbl := (List.forall_mem_append.mpr ⟨kw_l0_ok, kw_l1_ok⟩)
/-- a method: its name, code, locals, answer, the class that owns it, its arguments with the receiver, whether it is static, how deep it calls -/
abbrev km_N : Type := MethodName × ByteArray × Nat × Option FieldType × Nat × Nat × Bool × Nat
/-- what the tables say of a method -/
def kn_ws (q : km_N) : Prop := Cond.code q.1 q.2.1 q.2.2.1 q.2.2.2.1 ∈ lw_tbl ∧ Cond.initialized q.1.cls ∈ lw_tbl ∧ (match q.2.2.2.2.2.2.1 with | true => Cond.static q.1 | false => Cond.instanceMethod q.1) ∈ lw_tbl ∧ (match q.2.2.2.2.2.2.1 with | true => Cond.initialized q.1.cls | false => Cond.selects q.1.cls q.1 q.1) ∈ lw_tbl
/-- what can be decided of a method's name -/
def kn_ds (q : km_N) : Bool := Jvm.plainName q.1.cls && decide (q.1.cls ≠ "java/lang/invoke/MethodHandle") && decide (q.1.cls ≠ "java/lang/invoke/VarHandle") && decide (q.1.cls = kn_o q.2.2.2.2.1) && decide ((parseMethodDescriptor q.1.desc).map (fun d => d.parameters.length) = some (match q.2.2.2.2.2.2.1 with | true => q.2.2.2.2.2.1 | false => q.2.2.2.2.2.1 - 1)) && Nat.ble q.2.2.1 21
def kn_m0 : List km_N := [(yX6_place, cX6_place, 2, (some .int), 6, 2, false, 4), (yX6_step, cX6_step, 2, (some .int), 6, 2, false, 4), (yX6_arc, cX6_arc, 7, (some .int), 6, 5, false, 4), (yX6_start, cX6_start, 4, (some .int), 6, 3, false, 4), (yX6_cost, cX6_cost, 4, (some .int), 6, 3, false, 4), (yX6_line, cX6_line, 5, (some .int), 6, 4, false, 4), (yX6_draw, cX6_draw, 4, (some .int), 6, 4, false, 5), (yX6_anew, cX6_anew, 2, (some .int), 6, 1, false, 4), (yX6_of, cX6_of, 3, (some .int), 6, 3, false, 5), (yX6_arcOf, cX6_arcOf, 4, (some .int), 6, 4, false, 2), (yX6_stepOf, cX6_stepOf, 3, (some .int), 6, 3, false, 2), (yX6_can, cX6_can, 2, (some .int), 6, 2, false, 5), (yX6_goes, cX6_goes, 4, (some .int), 6, 2, false, 5), (yX6_runs, cX6_runs, 5, (some .int), 6, 3, false, 6), (yX6_restarts, cX6_restarts, 1, (some .int), 6, 1, false, 4), (yX6_loses, cX6_loses, 2, (some .int), 6, 2, false, 4), (yX6_returns, cX6_returns, 2, (some .int), 6, 2, false, 4), (yX6_keeper, cX6_keeper, 3, (some .int), 6, 2, false, 4), (yX6_sums, cX6_sums, 1, (some .int), 6, 1, false, 5), (yX6_sum, cX6_sum, 3, (some .int), 6, 3, false, 5)]
set_option maxRecDepth 100000 in
theorem kn_w0 : ∀ q ∈ kn_m0, kn_ws q := (List.forall_mem_cons.mpr ⟨⟨kt_2 (List.mem_of_getElem? (i := 16) rfl), kt_1 (List.mem_of_getElem? (i := 1) rfl), kt_2 (List.mem_of_getElem? (i := 14) rfl), kt_2 (List.mem_of_getElem? (i := 15) rfl)⟩, (List.forall_mem_cons.mpr ⟨⟨kt_2 (List.mem_of_getElem? (i := 63) rfl), kt_1 (List.mem_of_getElem? (i := 1) rfl), kt_2 (List.mem_of_getElem? (i := 61) rfl), kt_2 (List.mem_of_getElem? (i := 62) rfl)⟩, (List.forall_mem_cons.mpr ⟨⟨kt_2 (List.mem_of_getElem? (i := 71) rfl), kt_1 (List.mem_of_getElem? (i := 1) rfl), kt_2 (List.mem_of_getElem? (i := 69) rfl), kt_2 (List.mem_of_getElem? (i := 70) rfl)⟩, (List.forall_mem_cons.mpr ⟨⟨kt_2 (List.mem_of_getElem? (i := 87) rfl), kt_1 (List.mem_of_getElem? (i := 1) rfl), kt_2 (List.mem_of_getElem? (i := 85) rfl), kt_2 (List.mem_of_getElem? (i := 86) rfl)⟩, (List.forall_mem_cons.mpr ⟨⟨kt_2 (List.mem_of_getElem? (i := 91) rfl), kt_1 (List.mem_of_getElem? (i := 1) rfl), kt_2 (List.mem_of_getElem? (i := 89) rfl), kt_2 (List.mem_of_getElem? (i := 90) rfl)⟩, (List.forall_mem_cons.mpr ⟨⟨kt_2 (List.mem_of_getElem? (i := 95) rfl), kt_1 (List.mem_of_getElem? (i := 1) rfl), kt_2 (List.mem_of_getElem? (i := 93) rfl), kt_2 (List.mem_of_getElem? (i := 94) rfl)⟩, (List.forall_mem_cons.mpr ⟨⟨kt_2 (List.mem_of_getElem? (i := 112) rfl), kt_1 (List.mem_of_getElem? (i := 1) rfl), kt_2 (List.mem_of_getElem? (i := 110) rfl), kt_2 (List.mem_of_getElem? (i := 111) rfl)⟩, (List.forall_mem_cons.mpr ⟨⟨kt_2 (List.mem_of_getElem? (i := 194) rfl), kt_1 (List.mem_of_getElem? (i := 1) rfl), kt_2 (List.mem_of_getElem? (i := 192) rfl), kt_2 (List.mem_of_getElem? (i := 193) rfl)⟩, (List.forall_mem_cons.mpr ⟨⟨kt_2 (List.mem_of_getElem? (i := 199) rfl), kt_1 (List.mem_of_getElem? (i := 1) rfl), kt_2 (List.mem_of_getElem? (i := 197) rfl), kt_2 (List.mem_of_getElem? (i := 198) rfl)⟩, (List.forall_mem_cons.mpr ⟨⟨kt_3 (List.mem_of_getElem? (i := 56) rfl), kt_1 (List.mem_of_getElem? (i := 1) rfl), kt_3 (List.mem_of_getElem? (i := 54) rfl), kt_3 (List.mem_of_getElem? (i := 55) rfl)⟩, (List.forall_mem_cons.mpr ⟨⟨kt_3 (List.mem_of_getElem? (i := 60) rfl), kt_1 (List.mem_of_getElem? (i := 1) rfl), kt_3 (List.mem_of_getElem? (i := 58) rfl), kt_3 (List.mem_of_getElem? (i := 59) rfl)⟩, (List.forall_mem_cons.mpr ⟨⟨kt_3 (List.mem_of_getElem? (i := 66) rfl), kt_1 (List.mem_of_getElem? (i := 1) rfl), kt_3 (List.mem_of_getElem? (i := 64) rfl), kt_3 (List.mem_of_getElem? (i := 65) rfl)⟩, (List.forall_mem_cons.mpr ⟨⟨kt_3 (List.mem_of_getElem? (i := 77) rfl), kt_1 (List.mem_of_getElem? (i := 1) rfl), kt_3 (List.mem_of_getElem? (i := 75) rfl), kt_3 (List.mem_of_getElem? (i := 76) rfl)⟩, (List.forall_mem_cons.mpr ⟨⟨kt_3 (List.mem_of_getElem? (i := 81) rfl), kt_1 (List.mem_of_getElem? (i := 1) rfl), kt_3 (List.mem_of_getElem? (i := 79) rfl), kt_3 (List.mem_of_getElem? (i := 80) rfl)⟩, (List.forall_mem_cons.mpr ⟨⟨kt_3 (List.mem_of_getElem? (i := 89) rfl), kt_1 (List.mem_of_getElem? (i := 1) rfl), kt_3 (List.mem_of_getElem? (i := 87) rfl), kt_3 (List.mem_of_getElem? (i := 88) rfl)⟩, (List.forall_mem_cons.mpr ⟨⟨kt_3 (List.mem_of_getElem? (i := 93) rfl), kt_1 (List.mem_of_getElem? (i := 1) rfl), kt_3 (List.mem_of_getElem? (i := 91) rfl), kt_3 (List.mem_of_getElem? (i := 92) rfl)⟩, (List.forall_mem_cons.mpr ⟨⟨kt_3 (List.mem_of_getElem? (i := 98) rfl), kt_1 (List.mem_of_getElem? (i := 1) rfl), kt_3 (List.mem_of_getElem? (i := 96) rfl), kt_3 (List.mem_of_getElem? (i := 97) rfl)⟩, (List.forall_mem_cons.mpr ⟨⟨kt_3 (List.mem_of_getElem? (i := 102) rfl), kt_1 (List.mem_of_getElem? (i := 1) rfl), kt_3 (List.mem_of_getElem? (i := 100) rfl), kt_3 (List.mem_of_getElem? (i := 101) rfl)⟩, (List.forall_mem_cons.mpr ⟨⟨kt_3 (List.mem_of_getElem? (i := 106) rfl), kt_1 (List.mem_of_getElem? (i := 1) rfl), kt_3 (List.mem_of_getElem? (i := 104) rfl), kt_3 (List.mem_of_getElem? (i := 105) rfl)⟩, (List.forall_mem_cons.mpr ⟨⟨kt_3 (List.mem_of_getElem? (i := 110) rfl), kt_1 (List.mem_of_getElem? (i := 1) rfl), kt_3 (List.mem_of_getElem? (i := 108) rfl), kt_3 (List.mem_of_getElem? (i := 109) rfl)⟩, (fun _ h => absurd h List.not_mem_nil)⟩)⟩)⟩)⟩)⟩)⟩)⟩)⟩)⟩)⟩)⟩)⟩)⟩)⟩)⟩)⟩)⟩)⟩)⟩)⟩)
theorem kn_d0 : kn_m0.all kn_ds = true := by decide +kernel
def kn_m1 : List km_N := [(yX6_value, cX6_value, 3, (some .int), 6, 3, false, 5), (yX6_stucks, cX6_stucks, 1, (some .int), 6, 1, false, 5), (yX6_stuck, cX6_stuck, 4, (some .int), 6, 3, false, 5), (yX6_sort, cX6_sort, 4, (some .int), 6, 2, false, 5), (yX6_guard, cX6_guard, 3, (some .int), 6, 3, false, 4), (yX6_guards, cX6_guards, 4, (some .int), 6, 1, false, 5), (yX6_drop, cX6_drop, 2, (some .int), 6, 2, false, 4), (yX6_guardOf, cX6_guardOf, 4, (some .int), 6, 3, false, 4), (yX6_all, cX6_all, 3, (some .int), 6, 2, false, 5), (yX6_found, cX6_found, 4, (some .long), 6, 3, false, 5), (yX6_home, cX6_home, 3, (some .int), 6, 2, false, 4), (yX6_type, cX6_type, 2, (some .int), 6, 2, false, 1), (yX6_clear, cX6_clear, 2, (some .int), 6, 1, false, 0), (yX6_reads, cX6_reads, 2, (some .int), 6, 1, false, 6), (yX6_back, cX6_back, 1, (some .int), 6, 1, false, 2), (yX6_told, cX6_told, 2, (some .int), 6, 2, false, 1), (yX6_digest, cX6_digest, 5, (some .long), 6, 1, false, 6), (yX6_within, cX6_within, 3, (some .boolean), 6, 3, true, 0), (yX6_isPlace, cX6_isPlace, 2, (some .boolean), 6, 2, false, 1), (yX6_isStep, cX6_isStep, 2, (some .boolean), 6, 2, false, 1)]
set_option maxRecDepth 100000 in
theorem kn_w1 : ∀ q ∈ kn_m1, kn_ws q := (List.forall_mem_cons.mpr ⟨⟨kt_3 (List.mem_of_getElem? (i := 115) rfl), kt_1 (List.mem_of_getElem? (i := 1) rfl), kt_3 (List.mem_of_getElem? (i := 113) rfl), kt_3 (List.mem_of_getElem? (i := 114) rfl)⟩, (List.forall_mem_cons.mpr ⟨⟨kt_3 (List.mem_of_getElem? (i := 120) rfl), kt_1 (List.mem_of_getElem? (i := 1) rfl), kt_3 (List.mem_of_getElem? (i := 118) rfl), kt_3 (List.mem_of_getElem? (i := 119) rfl)⟩, (List.forall_mem_cons.mpr ⟨⟨kt_3 (List.mem_of_getElem? (i := 124) rfl), kt_1 (List.mem_of_getElem? (i := 1) rfl), kt_3 (List.mem_of_getElem? (i := 122) rfl), kt_3 (List.mem_of_getElem? (i := 123) rfl)⟩, (List.forall_mem_cons.mpr ⟨⟨kt_3 (List.mem_of_getElem? (i := 136) rfl), kt_1 (List.mem_of_getElem? (i := 1) rfl), kt_3 (List.mem_of_getElem? (i := 134) rfl), kt_3 (List.mem_of_getElem? (i := 135) rfl)⟩, (List.forall_mem_cons.mpr ⟨⟨kt_3 (List.mem_of_getElem? (i := 150) rfl), kt_1 (List.mem_of_getElem? (i := 1) rfl), kt_3 (List.mem_of_getElem? (i := 148) rfl), kt_3 (List.mem_of_getElem? (i := 149) rfl)⟩, (List.forall_mem_cons.mpr ⟨⟨kt_3 (List.mem_of_getElem? (i := 158) rfl), kt_1 (List.mem_of_getElem? (i := 1) rfl), kt_3 (List.mem_of_getElem? (i := 156) rfl), kt_3 (List.mem_of_getElem? (i := 157) rfl)⟩, (List.forall_mem_cons.mpr ⟨⟨kt_3 (List.mem_of_getElem? (i := 166) rfl), kt_1 (List.mem_of_getElem? (i := 1) rfl), kt_3 (List.mem_of_getElem? (i := 164) rfl), kt_3 (List.mem_of_getElem? (i := 165) rfl)⟩, (List.forall_mem_cons.mpr ⟨⟨kt_3 (List.mem_of_getElem? (i := 178) rfl), kt_1 (List.mem_of_getElem? (i := 1) rfl), kt_3 (List.mem_of_getElem? (i := 176) rfl), kt_3 (List.mem_of_getElem? (i := 177) rfl)⟩, (List.forall_mem_cons.mpr ⟨⟨kt_3 (List.mem_of_getElem? (i := 187) rfl), kt_1 (List.mem_of_getElem? (i := 1) rfl), kt_3 (List.mem_of_getElem? (i := 185) rfl), kt_3 (List.mem_of_getElem? (i := 186) rfl)⟩, (List.forall_mem_cons.mpr ⟨⟨kt_3 (List.mem_of_getElem? (i := 223) rfl), kt_1 (List.mem_of_getElem? (i := 1) rfl), kt_3 (List.mem_of_getElem? (i := 221) rfl), kt_3 (List.mem_of_getElem? (i := 222) rfl)⟩, (List.forall_mem_cons.mpr ⟨⟨kt_3 (List.mem_of_getElem? (i := 232) rfl), kt_1 (List.mem_of_getElem? (i := 1) rfl), kt_3 (List.mem_of_getElem? (i := 230) rfl), kt_3 (List.mem_of_getElem? (i := 231) rfl)⟩, (List.forall_mem_cons.mpr ⟨⟨kt_4 (List.mem_of_getElem? (i := 0) rfl), kt_1 (List.mem_of_getElem? (i := 1) rfl), kt_3 (List.mem_of_getElem? (i := 238) rfl), kt_3 (List.mem_of_getElem? (i := 239) rfl)⟩, (List.forall_mem_cons.mpr ⟨⟨kt_4 (List.mem_of_getElem? (i := 4) rfl), kt_1 (List.mem_of_getElem? (i := 1) rfl), kt_4 (List.mem_of_getElem? (i := 2) rfl), kt_4 (List.mem_of_getElem? (i := 3) rfl)⟩, (List.forall_mem_cons.mpr ⟨⟨kt_4 (List.mem_of_getElem? (i := 8) rfl), kt_1 (List.mem_of_getElem? (i := 1) rfl), kt_4 (List.mem_of_getElem? (i := 6) rfl), kt_4 (List.mem_of_getElem? (i := 7) rfl)⟩, (List.forall_mem_cons.mpr ⟨⟨kt_4 (List.mem_of_getElem? (i := 74) rfl), kt_1 (List.mem_of_getElem? (i := 1) rfl), kt_4 (List.mem_of_getElem? (i := 72) rfl), kt_4 (List.mem_of_getElem? (i := 73) rfl)⟩, (List.forall_mem_cons.mpr ⟨⟨kt_4 (List.mem_of_getElem? (i := 78) rfl), kt_1 (List.mem_of_getElem? (i := 1) rfl), kt_4 (List.mem_of_getElem? (i := 76) rfl), kt_4 (List.mem_of_getElem? (i := 77) rfl)⟩, (List.forall_mem_cons.mpr ⟨⟨kt_4 (List.mem_of_getElem? (i := 82) rfl), kt_1 (List.mem_of_getElem? (i := 1) rfl), kt_4 (List.mem_of_getElem? (i := 80) rfl), kt_4 (List.mem_of_getElem? (i := 81) rfl)⟩, (List.forall_mem_cons.mpr ⟨⟨kt_2 (List.mem_of_getElem? (i := 19) rfl), kt_1 (List.mem_of_getElem? (i := 1) rfl), kt_2 (List.mem_of_getElem? (i := 18) rfl), kt_1 (List.mem_of_getElem? (i := 1) rfl)⟩, (List.forall_mem_cons.mpr ⟨⟨kt_2 (List.mem_of_getElem? (i := 79) rfl), kt_1 (List.mem_of_getElem? (i := 1) rfl), kt_2 (List.mem_of_getElem? (i := 78) rfl), kt_p1 (List.mem_of_getElem? (i := 6) rfl)⟩, (List.forall_mem_cons.mpr ⟨⟨kt_2 (List.mem_of_getElem? (i := 75) rfl), kt_1 (List.mem_of_getElem? (i := 1) rfl), kt_2 (List.mem_of_getElem? (i := 74) rfl), kt_p1 (List.mem_of_getElem? (i := 5) rfl)⟩, (fun _ h => absurd h List.not_mem_nil)⟩)⟩)⟩)⟩)⟩)⟩)⟩)⟩)⟩)⟩)⟩)⟩)⟩)⟩)⟩)⟩)⟩)⟩)⟩)⟩)
theorem kn_d1 : kn_m1.all kn_ds = true := by decide +kernel
def kn_m2 : List km_N := [(yX6_isGuard, cX6_isGuard, 2, (some .boolean), 6, 2, false, 1), (yX6_isSet, cX6_isSet, 2, (some .boolean), 6, 2, false, 1), (yX6_isSafe, cX6_isSafe, 2, (some .boolean), 6, 2, false, 1), (yX6_refuse, cX6_refuse, 2, (some .int), 6, 2, false, 0), (yX6_save, cX6_save, 1, none, 6, 1, false, 3), (yX6_keep, cX6_keep, 4, none, 6, 2, false, 2), (yX6_renew, cX6_renew, 1, none, 6, 1, false, 1), (yX6_forget, cX6_forget, 1, none, 6, 1, false, 0), (yX6_homeSearch, cX6_homeSearch, 1, (some (.object "PalletNets$Search")), 6, 1, false, 4), (yX6_analyse, cX6_analyse, 1, none, 6, 1, false, 4), (yX6_hindrance, cX6_hindrance, 5, (some .int), 6, 2, false, 4), (yX6_chosen, cX6_chosen, 6, (some .int), 6, 2, false, 5), (yX7_in, cX7_in, 3, (some .boolean), 7, 3, true, 0), (yX7_has, cX7_has, 2, (some .boolean), 7, 2, true, 0), (yX7_bad, cX7_bad, 1, (some .int), 7, 1, false, 0), (yX7_no, cX7_no, 1, (some .int), 7, 1, false, 0), (yX7_full, cX7_full, 1, (some .int), 7, 1, false, 0), (yX7_isPlace, cX7_isPlace, 2, (some .boolean), 7, 2, false, 1), (yX7_isStep, cX7_isStep, 2, (some .boolean), 7, 2, false, 1), (yX7_keepsState, cX7_keepsState, 2, none, 7, 1, false, 0)]
set_option maxRecDepth 100000 in
theorem kn_w2 : ∀ q ∈ kn_m2, kn_ws q := (List.forall_mem_cons.mpr ⟨⟨kt_3 (List.mem_of_getElem? (i := 170) rfl), kt_1 (List.mem_of_getElem? (i := 1) rfl), kt_3 (List.mem_of_getElem? (i := 169) rfl), kt_p2 (List.mem_of_getElem? (i := 7) rfl)⟩, (List.forall_mem_cons.mpr ⟨⟨kt_3 (List.mem_of_getElem? (i := 140) rfl), kt_1 (List.mem_of_getElem? (i := 1) rfl), kt_3 (List.mem_of_getElem? (i := 139) rfl), kt_p2 (List.mem_of_getElem? (i := 6) rfl)⟩, (List.forall_mem_cons.mpr ⟨⟨kt_3 (List.mem_of_getElem? (i := 132) rfl), kt_1 (List.mem_of_getElem? (i := 1) rfl), kt_3 (List.mem_of_getElem? (i := 131) rfl), kt_p2 (List.mem_of_getElem? (i := 5) rfl)⟩, (List.forall_mem_cons.mpr ⟨⟨kt_2 (List.mem_of_getElem? (i := 23) rfl), kt_1 (List.mem_of_getElem? (i := 1) rfl), kt_2 (List.mem_of_getElem? (i := 22) rfl), kt_p1 (List.mem_of_getElem? (i := 0) rfl)⟩, (List.forall_mem_cons.mpr ⟨⟨kt_2 (List.mem_of_getElem? (i := 27) rfl), kt_1 (List.mem_of_getElem? (i := 1) rfl), kt_2 (List.mem_of_getElem? (i := 26) rfl), kt_p1 (List.mem_of_getElem? (i := 1) rfl)⟩, (List.forall_mem_cons.mpr ⟨⟨kt_2 (List.mem_of_getElem? (i := 31) rfl), kt_1 (List.mem_of_getElem? (i := 1) rfl), kt_2 (List.mem_of_getElem? (i := 30) rfl), kt_p1 (List.mem_of_getElem? (i := 2) rfl)⟩, (List.forall_mem_cons.mpr ⟨⟨kt_2 (List.mem_of_getElem? (i := 51) rfl), kt_1 (List.mem_of_getElem? (i := 1) rfl), kt_2 (List.mem_of_getElem? (i := 50) rfl), kt_p1 (List.mem_of_getElem? (i := 3) rfl)⟩, (List.forall_mem_cons.mpr ⟨⟨kt_2 (List.mem_of_getElem? (i := 59) rfl), kt_1 (List.mem_of_getElem? (i := 1) rfl), kt_2 (List.mem_of_getElem? (i := 58) rfl), kt_p1 (List.mem_of_getElem? (i := 4) rfl)⟩, (List.forall_mem_cons.mpr ⟨⟨kt_2 (List.mem_of_getElem? (i := 141) rfl), kt_1 (List.mem_of_getElem? (i := 1) rfl), kt_2 (List.mem_of_getElem? (i := 140) rfl), kt_p1 (List.mem_of_getElem? (i := 7) rfl)⟩, (List.forall_mem_cons.mpr ⟨⟨kt_2 (List.mem_of_getElem? (i := 203) rfl), kt_1 (List.mem_of_getElem? (i := 1) rfl), kt_2 (List.mem_of_getElem? (i := 202) rfl), kt_p1 (List.mem_of_getElem? (i := 11) rfl)⟩, (List.forall_mem_cons.mpr ⟨⟨kt_3 (List.mem_of_getElem? (i := 70) rfl), kt_1 (List.mem_of_getElem? (i := 1) rfl), kt_3 (List.mem_of_getElem? (i := 69) rfl), kt_p2 (List.mem_of_getElem? (i := 3) rfl)⟩, (List.forall_mem_cons.mpr ⟨⟨kt_3 (List.mem_of_getElem? (i := 85) rfl), kt_1 (List.mem_of_getElem? (i := 1) rfl), kt_3 (List.mem_of_getElem? (i := 84) rfl), kt_p2 (List.mem_of_getElem? (i := 4) rfl)⟩, (List.forall_mem_cons.mpr ⟨⟨kt_4 (List.mem_of_getElem? (i := 196) rfl), kt_1 (List.mem_of_getElem? (i := 7) rfl), kt_4 (List.mem_of_getElem? (i := 195) rfl), kt_1 (List.mem_of_getElem? (i := 7) rfl)⟩, (List.forall_mem_cons.mpr ⟨⟨kt_5 (List.mem_of_getElem? (i := 51) rfl), kt_1 (List.mem_of_getElem? (i := 7) rfl), kt_5 (List.mem_of_getElem? (i := 50) rfl), kt_1 (List.mem_of_getElem? (i := 7) rfl)⟩, (List.forall_mem_cons.mpr ⟨⟨kt_4 (List.mem_of_getElem? (i := 200) rfl), kt_1 (List.mem_of_getElem? (i := 7) rfl), kt_4 (List.mem_of_getElem? (i := 199) rfl), kt_p3 (List.mem_of_getElem? (i := 5) rfl)⟩, (List.forall_mem_cons.mpr ⟨⟨kt_5 (List.mem_of_getElem? (i := 95) rfl), kt_1 (List.mem_of_getElem? (i := 7) rfl), kt_5 (List.mem_of_getElem? (i := 94) rfl), kt_p4 (List.mem_of_getElem? (i := 5) rfl)⟩, (List.forall_mem_cons.mpr ⟨⟨kt_4 (List.mem_of_getElem? (i := 204) rfl), kt_1 (List.mem_of_getElem? (i := 7) rfl), kt_4 (List.mem_of_getElem? (i := 203) rfl), kt_p3 (List.mem_of_getElem? (i := 6) rfl)⟩, (List.forall_mem_cons.mpr ⟨⟨kt_4 (List.mem_of_getElem? (i := 233) rfl), kt_1 (List.mem_of_getElem? (i := 7) rfl), kt_4 (List.mem_of_getElem? (i := 232) rfl), kt_p3 (List.mem_of_getElem? (i := 9) rfl)⟩, (List.forall_mem_cons.mpr ⟨⟨kt_4 (List.mem_of_getElem? (i := 229) rfl), kt_1 (List.mem_of_getElem? (i := 7) rfl), kt_4 (List.mem_of_getElem? (i := 228) rfl), kt_p3 (List.mem_of_getElem? (i := 8) rfl)⟩, (List.forall_mem_cons.mpr ⟨⟨kt_4 (List.mem_of_getElem? (i := 208) rfl), kt_1 (List.mem_of_getElem? (i := 7) rfl), kt_4 (List.mem_of_getElem? (i := 207) rfl), kt_p3 (List.mem_of_getElem? (i := 7) rfl)⟩, (fun _ h => absurd h List.not_mem_nil)⟩)⟩)⟩)⟩)⟩)⟩)⟩)⟩)⟩)⟩)⟩)⟩)⟩)⟩)⟩)⟩)⟩)⟩)⟩)⟩)
theorem kn_d2 : kn_m2.all kn_ds = true := by decide +kernel
def kn_m3 : List km_N := [(yX7_settles, cX7_settles, 2, none, 7, 1, true, 0), (yX7_adds, cX7_adds, 2, (some .int), 7, 2, true, 0), (yX7_addsStep, cX7_addsStep, 4, (some .int), 7, 2, true, 0), (yX7_place, cX7_place, 2, (some .int), 7, 2, false, 1), (yX7_step, cX7_step, 2, (some .int), 7, 2, false, 1), (yX7_arc, cX7_arc, 7, (some .int), 7, 5, false, 2), (yX7_start, cX7_start, 4, (some .int), 7, 3, false, 2), (yX7_cost, cX7_cost, 4, (some .int), 7, 3, false, 2), (yX7_lays, cX7_lays, 11, none, 7, 4, true, 1), (yX7_line, cX7_line, 5, (some .int), 7, 4, false, 2), (yX7_draws, cX7_draws, 2, (some .int), 7, 2, false, 0), (yX7_draw, cX7_draw, 7, (some .int), 7, 4, false, 5), (yX7_anew, cX7_anew, 2, (some .int), 7, 1, false, 1), (yX7_arcOf, cX7_arcOf, 4, (some .int), 7, 4, false, 2), (yX7_stepIs, cX7_stepIs, 5, (some .int), 7, 3, false, 0), (yX7_stepOf, cX7_stepOf, 3, (some .int), 7, 3, false, 2), (yX7_at, cX7_at, 3, (some .int), 7, 2, true, 0), (yX7_tokensFrom, cX7_tokensFrom, 5, (some .long), 7, 2, false, 0), (yX7_tokensHome, cX7_tokensHome, 4, (some .long), 7, 1, true, 0), (yX7_together, cX7_together, 6, (some .int), 7, 3, false, 1)]
set_option maxRecDepth 100000 in
theorem kn_w3 : ∀ q ∈ kn_m3, kn_ws q := (List.forall_mem_cons.mpr ⟨⟨kt_4 (List.mem_of_getElem? (i := 214) rfl), kt_1 (List.mem_of_getElem? (i := 7) rfl), kt_4 (List.mem_of_getElem? (i := 213) rfl), kt_1 (List.mem_of_getElem? (i := 7) rfl)⟩, (List.forall_mem_cons.mpr ⟨⟨kt_4 (List.mem_of_getElem? (i := 211) rfl), kt_1 (List.mem_of_getElem? (i := 7) rfl), kt_4 (List.mem_of_getElem? (i := 210) rfl), kt_1 (List.mem_of_getElem? (i := 7) rfl)⟩, (List.forall_mem_cons.mpr ⟨⟨kt_4 (List.mem_of_getElem? (i := 221) rfl), kt_1 (List.mem_of_getElem? (i := 7) rfl), kt_4 (List.mem_of_getElem? (i := 220) rfl), kt_1 (List.mem_of_getElem? (i := 7) rfl)⟩, (List.forall_mem_cons.mpr ⟨⟨kt_4 (List.mem_of_getElem? (i := 193) rfl), kt_1 (List.mem_of_getElem? (i := 7) rfl), kt_4 (List.mem_of_getElem? (i := 191) rfl), kt_4 (List.mem_of_getElem? (i := 192) rfl)⟩, (List.forall_mem_cons.mpr ⟨⟨kt_4 (List.mem_of_getElem? (i := 218) rfl), kt_1 (List.mem_of_getElem? (i := 7) rfl), kt_4 (List.mem_of_getElem? (i := 216) rfl), kt_4 (List.mem_of_getElem? (i := 217) rfl)⟩, (List.forall_mem_cons.mpr ⟨⟨kt_4 (List.mem_of_getElem? (i := 225) rfl), kt_1 (List.mem_of_getElem? (i := 7) rfl), kt_4 (List.mem_of_getElem? (i := 223) rfl), kt_4 (List.mem_of_getElem? (i := 224) rfl)⟩, (List.forall_mem_cons.mpr ⟨⟨kt_4 (List.mem_of_getElem? (i := 237) rfl), kt_1 (List.mem_of_getElem? (i := 7) rfl), kt_4 (List.mem_of_getElem? (i := 235) rfl), kt_4 (List.mem_of_getElem? (i := 236) rfl)⟩, (List.forall_mem_cons.mpr ⟨⟨kt_5 (List.mem_of_getElem? (i := 1) rfl), kt_1 (List.mem_of_getElem? (i := 7) rfl), kt_4 (List.mem_of_getElem? (i := 239) rfl), kt_5 (List.mem_of_getElem? (i := 0) rfl)⟩, (List.forall_mem_cons.mpr ⟨⟨kt_5 (List.mem_of_getElem? (i := 8) rfl), kt_1 (List.mem_of_getElem? (i := 7) rfl), kt_5 (List.mem_of_getElem? (i := 7) rfl), kt_1 (List.mem_of_getElem? (i := 7) rfl)⟩, (List.forall_mem_cons.mpr ⟨⟨kt_5 (List.mem_of_getElem? (i := 5) rfl), kt_1 (List.mem_of_getElem? (i := 7) rfl), kt_5 (List.mem_of_getElem? (i := 3) rfl), kt_5 (List.mem_of_getElem? (i := 4) rfl)⟩, (List.forall_mem_cons.mpr ⟨⟨kt_5 (List.mem_of_getElem? (i := 17) rfl), kt_1 (List.mem_of_getElem? (i := 7) rfl), kt_5 (List.mem_of_getElem? (i := 16) rfl), kt_p3 (List.mem_of_getElem? (i := 10) rfl)⟩, (List.forall_mem_cons.mpr ⟨⟨kt_5 (List.mem_of_getElem? (i := 12) rfl), kt_1 (List.mem_of_getElem? (i := 7) rfl), kt_5 (List.mem_of_getElem? (i := 10) rfl), kt_5 (List.mem_of_getElem? (i := 11) rfl)⟩, (List.forall_mem_cons.mpr ⟨⟨kt_5 (List.mem_of_getElem? (i := 63) rfl), kt_1 (List.mem_of_getElem? (i := 7) rfl), kt_5 (List.mem_of_getElem? (i := 61) rfl), kt_5 (List.mem_of_getElem? (i := 62) rfl)⟩, (List.forall_mem_cons.mpr ⟨⟨kt_5 (List.mem_of_getElem? (i := 67) rfl), kt_1 (List.mem_of_getElem? (i := 7) rfl), kt_5 (List.mem_of_getElem? (i := 65) rfl), kt_5 (List.mem_of_getElem? (i := 66) rfl)⟩, (List.forall_mem_cons.mpr ⟨⟨kt_5 (List.mem_of_getElem? (i := 75) rfl), kt_1 (List.mem_of_getElem? (i := 7) rfl), kt_5 (List.mem_of_getElem? (i := 74) rfl), kt_p4 (List.mem_of_getElem? (i := 2) rfl)⟩, (List.forall_mem_cons.mpr ⟨⟨kt_5 (List.mem_of_getElem? (i := 71) rfl), kt_1 (List.mem_of_getElem? (i := 7) rfl), kt_5 (List.mem_of_getElem? (i := 69) rfl), kt_5 (List.mem_of_getElem? (i := 70) rfl)⟩, (List.forall_mem_cons.mpr ⟨⟨kt_5 (List.mem_of_getElem? (i := 39) rfl), kt_1 (List.mem_of_getElem? (i := 7) rfl), kt_5 (List.mem_of_getElem? (i := 38) rfl), kt_1 (List.mem_of_getElem? (i := 7) rfl)⟩, (List.forall_mem_cons.mpr ⟨⟨kt_5 (List.mem_of_getElem? (i := 87) rfl), kt_1 (List.mem_of_getElem? (i := 7) rfl), kt_5 (List.mem_of_getElem? (i := 86) rfl), kt_p4 (List.mem_of_getElem? (i := 4) rfl)⟩, (List.forall_mem_cons.mpr ⟨⟨kt_5 (List.mem_of_getElem? (i := 24) rfl), kt_1 (List.mem_of_getElem? (i := 7) rfl), kt_5 (List.mem_of_getElem? (i := 23) rfl), kt_1 (List.mem_of_getElem? (i := 7) rfl)⟩, (List.forall_mem_cons.mpr ⟨⟨kt_5 (List.mem_of_getElem? (i := 48) rfl), kt_1 (List.mem_of_getElem? (i := 7) rfl), kt_5 (List.mem_of_getElem? (i := 47) rfl), kt_p3 (List.mem_of_getElem? (i := 15) rfl)⟩, (fun _ h => absurd h List.not_mem_nil)⟩)⟩)⟩)⟩)⟩)⟩)⟩)⟩)⟩)⟩)⟩)⟩)⟩)⟩)⟩)⟩)⟩)⟩)⟩)⟩)
theorem kn_d3 : kn_m3.all kn_ds = true := by decide +kernel
def kn_m4 : List km_N := [(yX7_placesSet, cX7_placesSet, 1, (some .int), 7, 1, false, 0), (yX7_roomFor, cX7_roomFor, 8, (some .int), 7, 3, false, 1), (yX7_behind, cX7_behind, 7, (some .long), 7, 3, false, 0), (yX7_bars, cX7_bars, 7, (some .boolean), 7, 4, false, 2), (yX7_why, cX7_why, 7, (some .int), 7, 4, false, 3), (yX7_placeIn, cX7_placeIn, 4, (some .int), 7, 2, false, 0), (yX7_searches, cX7_searches, 8, none, 7, 3, false, 4), (yX7_searchesHome, cX7_searchesHome, 1, none, 7, 1, false, 5), (yX7_leads, cX7_leads, 3, (some .int), 7, 3, false, 4), (yX7_layNext, cX7_layNext, 3, none, 7, 1, false, 5), (yX7_layWays, cX7_layWays, 5, none, 7, 1, false, 6), (yX7_standing, cX7_standing, 5, (some .int), 7, 2, false, 5), (yX7_can, cX7_can, 2, (some .int), 7, 2, false, 6), (yX7_canMany, cX7_canMany, 5, (some .int), 7, 1, false, 4), (yX7_lets, cX7_lets, 5, none, 7, 2, false, 1), (yX7_goes, cX7_goes, 2, (some .int), 7, 2, false, 6), (yX7_chosen, cX7_chosen, 5, (some .int), 7, 2, false, 6), (yX7_runs, cX7_runs, 6, (some .int), 7, 3, false, 7), (yX7_restarts, cX7_restarts, 2, (some .int), 7, 1, false, 2), (yX7_loses, cX7_loses, 2, (some .int), 7, 2, false, 2)]
set_option maxRecDepth 100000 in
theorem kn_w4 : ∀ q ∈ kn_m4, kn_ws q := (List.forall_mem_cons.mpr ⟨⟨kt_5 (List.mem_of_getElem? (i := 119) rfl), kt_1 (List.mem_of_getElem? (i := 7) rfl), kt_5 (List.mem_of_getElem? (i := 118) rfl), kt_p4 (List.mem_of_getElem? (i := 9) rfl)⟩, (List.forall_mem_cons.mpr ⟨⟨kt_5 (List.mem_of_getElem? (i := 36) rfl), kt_1 (List.mem_of_getElem? (i := 7) rfl), kt_5 (List.mem_of_getElem? (i := 35) rfl), kt_p3 (List.mem_of_getElem? (i := 13) rfl)⟩, (List.forall_mem_cons.mpr ⟨⟨kt_5 (List.mem_of_getElem? (i := 55) rfl), kt_1 (List.mem_of_getElem? (i := 7) rfl), kt_5 (List.mem_of_getElem? (i := 54) rfl), kt_p4 (List.mem_of_getElem? (i := 0) rfl)⟩, (List.forall_mem_cons.mpr ⟨⟨kt_5 (List.mem_of_getElem? (i := 44) rfl), kt_1 (List.mem_of_getElem? (i := 7) rfl), kt_5 (List.mem_of_getElem? (i := 43) rfl), kt_p3 (List.mem_of_getElem? (i := 14) rfl)⟩, (List.forall_mem_cons.mpr ⟨⟨kt_5 (List.mem_of_getElem? (i := 32) rfl), kt_1 (List.mem_of_getElem? (i := 7) rfl), kt_5 (List.mem_of_getElem? (i := 31) rfl), kt_p3 (List.mem_of_getElem? (i := 12) rfl)⟩, (List.forall_mem_cons.mpr ⟨⟨kt_5 (List.mem_of_getElem? (i := 59) rfl), kt_1 (List.mem_of_getElem? (i := 7) rfl), kt_5 (List.mem_of_getElem? (i := 58) rfl), kt_p4 (List.mem_of_getElem? (i := 1) rfl)⟩, (List.forall_mem_cons.mpr ⟨⟨kt_5 (List.mem_of_getElem? (i := 28) rfl), kt_1 (List.mem_of_getElem? (i := 7) rfl), kt_5 (List.mem_of_getElem? (i := 27) rfl), kt_p3 (List.mem_of_getElem? (i := 11) rfl)⟩, (List.forall_mem_cons.mpr ⟨⟨kt_5 (List.mem_of_getElem? (i := 193) rfl), kt_1 (List.mem_of_getElem? (i := 7) rfl), kt_5 (List.mem_of_getElem? (i := 192) rfl), kt_p5 (List.mem_of_getElem? (i := 3) rfl)⟩, (List.forall_mem_cons.mpr ⟨⟨kt_6 (List.mem_of_getElem? (i := 52) rfl), kt_1 (List.mem_of_getElem? (i := 7) rfl), kt_6 (List.mem_of_getElem? (i := 51) rfl), kt_p6 (List.mem_of_getElem? (i := 3) rfl)⟩, (List.forall_mem_cons.mpr ⟨⟨kt_6 (List.mem_of_getElem? (i := 48) rfl), kt_1 (List.mem_of_getElem? (i := 7) rfl), kt_6 (List.mem_of_getElem? (i := 47) rfl), kt_p6 (List.mem_of_getElem? (i := 2) rfl)⟩, (List.forall_mem_cons.mpr ⟨⟨kt_6 (List.mem_of_getElem? (i := 44) rfl), kt_1 (List.mem_of_getElem? (i := 7) rfl), kt_6 (List.mem_of_getElem? (i := 43) rfl), kt_p6 (List.mem_of_getElem? (i := 1) rfl)⟩, (List.forall_mem_cons.mpr ⟨⟨kt_5 (List.mem_of_getElem? (i := 83) rfl), kt_1 (List.mem_of_getElem? (i := 7) rfl), kt_5 (List.mem_of_getElem? (i := 82) rfl), kt_p4 (List.mem_of_getElem? (i := 3) rfl)⟩, (List.forall_mem_cons.mpr ⟨⟨kt_5 (List.mem_of_getElem? (i := 79) rfl), kt_1 (List.mem_of_getElem? (i := 7) rfl), kt_5 (List.mem_of_getElem? (i := 77) rfl), kt_5 (List.mem_of_getElem? (i := 78) rfl)⟩, (List.forall_mem_cons.mpr ⟨⟨kt_5 (List.mem_of_getElem? (i := 103) rfl), kt_1 (List.mem_of_getElem? (i := 7) rfl), kt_5 (List.mem_of_getElem? (i := 102) rfl), kt_p4 (List.mem_of_getElem? (i := 7) rfl)⟩, (List.forall_mem_cons.mpr ⟨⟨kt_5 (List.mem_of_getElem? (i := 99) rfl), kt_1 (List.mem_of_getElem? (i := 7) rfl), kt_5 (List.mem_of_getElem? (i := 98) rfl), kt_p4 (List.mem_of_getElem? (i := 6) rfl)⟩, (List.forall_mem_cons.mpr ⟨⟨kt_5 (List.mem_of_getElem? (i := 91) rfl), kt_1 (List.mem_of_getElem? (i := 7) rfl), kt_5 (List.mem_of_getElem? (i := 89) rfl), kt_5 (List.mem_of_getElem? (i := 90) rfl)⟩, (List.forall_mem_cons.mpr ⟨⟨kt_5 (List.mem_of_getElem? (i := 111) rfl), kt_1 (List.mem_of_getElem? (i := 7) rfl), kt_5 (List.mem_of_getElem? (i := 110) rfl), kt_p4 (List.mem_of_getElem? (i := 8) rfl)⟩, (List.forall_mem_cons.mpr ⟨⟨kt_5 (List.mem_of_getElem? (i := 107) rfl), kt_1 (List.mem_of_getElem? (i := 7) rfl), kt_5 (List.mem_of_getElem? (i := 105) rfl), kt_5 (List.mem_of_getElem? (i := 106) rfl)⟩, (List.forall_mem_cons.mpr ⟨⟨kt_5 (List.mem_of_getElem? (i := 115) rfl), kt_1 (List.mem_of_getElem? (i := 7) rfl), kt_5 (List.mem_of_getElem? (i := 113) rfl), kt_5 (List.mem_of_getElem? (i := 114) rfl)⟩, (List.forall_mem_cons.mpr ⟨⟨kt_5 (List.mem_of_getElem? (i := 123) rfl), kt_1 (List.mem_of_getElem? (i := 7) rfl), kt_5 (List.mem_of_getElem? (i := 121) rfl), kt_5 (List.mem_of_getElem? (i := 122) rfl)⟩, (fun _ h => absurd h List.not_mem_nil)⟩)⟩)⟩)⟩)⟩)⟩)⟩)⟩)⟩)⟩)⟩)⟩)⟩)⟩)⟩)⟩)⟩)⟩)⟩)⟩)
theorem kn_d4 : kn_m4.all kn_ds = true := by decide +kernel
def kn_m5 : List km_N := [(yX7_returns, cX7_returns, 2, (some .int), 7, 2, false, 2), (yX7_keeper, cX7_keeper, 3, (some .int), 7, 2, false, 1), (yX7_common, cX7_common, 10, (some .long), 7, 2, true, 0), (yX7_shortens, cX7_shortens, 5, none, 7, 2, false, 1), (yX7_takesOff, cX7_takesOff, 9, none, 7, 4, false, 2), (yX7_swaps, cX7_swaps, 6, none, 7, 3, false, 0), (yX7_solves, cX7_solves, 6, (some .int), 7, 2, false, 3), (yX7_sizeOf, cX7_sizeOf, 3, (some .int), 7, 1, true, 1), (yX7_isSum, cX7_isSum, 12, (some .boolean), 7, 2, false, 4), (yX7_laySums, cX7_laySums, 3, none, 7, 1, false, 5), (yX7_sums, cX7_sums, 1, (some .int), 7, 1, false, 6), (yX7_sum, cX7_sum, 3, (some .int), 7, 3, false, 6), (yX7_worth, cX7_worth, 6, (some .int), 7, 3, false, 1), (yX7_value, cX7_value, 3, (some .int), 7, 3, false, 6), (yX7_bound, cX7_bound, 5, (some .int), 7, 2, false, 6), (yX7_extreme, cX7_extreme, 6, (some .int), 7, 3, false, 6), (yX7_of, cX7_of, 3, (some .int), 7, 3, false, 7), (yX7_layArcs, cX7_layArcs, 3, none, 7, 1, false, 0), (yX7_isStuck, cX7_isStuck, 4, (some .boolean), 7, 2, false, 0), (yX7_isKept, cX7_isKept, 4, (some .boolean), 7, 2, false, 0)]
set_option maxRecDepth 100000 in
theorem kn_w5 : ∀ q ∈ kn_m5, kn_ws q := (List.forall_mem_cons.mpr ⟨⟨kt_5 (List.mem_of_getElem? (i := 127) rfl), kt_1 (List.mem_of_getElem? (i := 7) rfl), kt_5 (List.mem_of_getElem? (i := 125) rfl), kt_5 (List.mem_of_getElem? (i := 126) rfl)⟩, (List.forall_mem_cons.mpr ⟨⟨kt_5 (List.mem_of_getElem? (i := 131) rfl), kt_1 (List.mem_of_getElem? (i := 7) rfl), kt_5 (List.mem_of_getElem? (i := 129) rfl), kt_5 (List.mem_of_getElem? (i := 130) rfl)⟩, (List.forall_mem_cons.mpr ⟨⟨kt_5 (List.mem_of_getElem? (i := 154) rfl), kt_1 (List.mem_of_getElem? (i := 7) rfl), kt_5 (List.mem_of_getElem? (i := 153) rfl), kt_1 (List.mem_of_getElem? (i := 7) rfl)⟩, (List.forall_mem_cons.mpr ⟨⟨kt_5 (List.mem_of_getElem? (i := 151) rfl), kt_1 (List.mem_of_getElem? (i := 7) rfl), kt_5 (List.mem_of_getElem? (i := 150) rfl), kt_p4 (List.mem_of_getElem? (i := 13) rfl)⟩, (List.forall_mem_cons.mpr ⟨⟨kt_5 (List.mem_of_getElem? (i := 162) rfl), kt_1 (List.mem_of_getElem? (i := 7) rfl), kt_5 (List.mem_of_getElem? (i := 161) rfl), kt_p4 (List.mem_of_getElem? (i := 15) rfl)⟩, (List.forall_mem_cons.mpr ⟨⟨kt_5 (List.mem_of_getElem? (i := 158) rfl), kt_1 (List.mem_of_getElem? (i := 7) rfl), kt_5 (List.mem_of_getElem? (i := 157) rfl), kt_p4 (List.mem_of_getElem? (i := 14) rfl)⟩, (List.forall_mem_cons.mpr ⟨⟨kt_5 (List.mem_of_getElem? (i := 147) rfl), kt_1 (List.mem_of_getElem? (i := 7) rfl), kt_5 (List.mem_of_getElem? (i := 146) rfl), kt_p4 (List.mem_of_getElem? (i := 12) rfl)⟩, (List.forall_mem_cons.mpr ⟨⟨kt_5 (List.mem_of_getElem? (i := 165) rfl), kt_1 (List.mem_of_getElem? (i := 7) rfl), kt_5 (List.mem_of_getElem? (i := 164) rfl), kt_1 (List.mem_of_getElem? (i := 7) rfl)⟩, (List.forall_mem_cons.mpr ⟨⟨kt_5 (List.mem_of_getElem? (i := 143) rfl), kt_1 (List.mem_of_getElem? (i := 7) rfl), kt_5 (List.mem_of_getElem? (i := 142) rfl), kt_p4 (List.mem_of_getElem? (i := 11) rfl)⟩, (List.forall_mem_cons.mpr ⟨⟨kt_5 (List.mem_of_getElem? (i := 139) rfl), kt_1 (List.mem_of_getElem? (i := 7) rfl), kt_5 (List.mem_of_getElem? (i := 138) rfl), kt_p4 (List.mem_of_getElem? (i := 10) rfl)⟩, (List.forall_mem_cons.mpr ⟨⟨kt_5 (List.mem_of_getElem? (i := 135) rfl), kt_1 (List.mem_of_getElem? (i := 7) rfl), kt_5 (List.mem_of_getElem? (i := 133) rfl), kt_5 (List.mem_of_getElem? (i := 134) rfl)⟩, (List.forall_mem_cons.mpr ⟨⟨kt_5 (List.mem_of_getElem? (i := 169) rfl), kt_1 (List.mem_of_getElem? (i := 7) rfl), kt_5 (List.mem_of_getElem? (i := 167) rfl), kt_5 (List.mem_of_getElem? (i := 168) rfl)⟩, (List.forall_mem_cons.mpr ⟨⟨kt_5 (List.mem_of_getElem? (i := 177) rfl), kt_1 (List.mem_of_getElem? (i := 7) rfl), kt_5 (List.mem_of_getElem? (i := 176) rfl), kt_p5 (List.mem_of_getElem? (i := 0) rfl)⟩, (List.forall_mem_cons.mpr ⟨⟨kt_5 (List.mem_of_getElem? (i := 173) rfl), kt_1 (List.mem_of_getElem? (i := 7) rfl), kt_5 (List.mem_of_getElem? (i := 171) rfl), kt_5 (List.mem_of_getElem? (i := 172) rfl)⟩, (List.forall_mem_cons.mpr ⟨⟨kt_5 (List.mem_of_getElem? (i := 185) rfl), kt_1 (List.mem_of_getElem? (i := 7) rfl), kt_5 (List.mem_of_getElem? (i := 184) rfl), kt_p5 (List.mem_of_getElem? (i := 1) rfl)⟩, (List.forall_mem_cons.mpr ⟨⟨kt_5 (List.mem_of_getElem? (i := 189) rfl), kt_1 (List.mem_of_getElem? (i := 7) rfl), kt_5 (List.mem_of_getElem? (i := 188) rfl), kt_p5 (List.mem_of_getElem? (i := 2) rfl)⟩, (List.forall_mem_cons.mpr ⟨⟨kt_5 (List.mem_of_getElem? (i := 181) rfl), kt_1 (List.mem_of_getElem? (i := 7) rfl), kt_5 (List.mem_of_getElem? (i := 179) rfl), kt_5 (List.mem_of_getElem? (i := 180) rfl)⟩, (List.forall_mem_cons.mpr ⟨⟨kt_5 (List.mem_of_getElem? (i := 205) rfl), kt_1 (List.mem_of_getElem? (i := 7) rfl), kt_5 (List.mem_of_getElem? (i := 204) rfl), kt_p5 (List.mem_of_getElem? (i := 5) rfl)⟩, (List.forall_mem_cons.mpr ⟨⟨kt_5 (List.mem_of_getElem? (i := 209) rfl), kt_1 (List.mem_of_getElem? (i := 7) rfl), kt_5 (List.mem_of_getElem? (i := 208) rfl), kt_p5 (List.mem_of_getElem? (i := 6) rfl)⟩, (List.forall_mem_cons.mpr ⟨⟨kt_5 (List.mem_of_getElem? (i := 225) rfl), kt_1 (List.mem_of_getElem? (i := 7) rfl), kt_5 (List.mem_of_getElem? (i := 224) rfl), kt_p5 (List.mem_of_getElem? (i := 9) rfl)⟩, (fun _ h => absurd h List.not_mem_nil)⟩)⟩)⟩)⟩)⟩)⟩)⟩)⟩)⟩)⟩)⟩)⟩)⟩)⟩)⟩)⟩)⟩)⟩)⟩)⟩)
theorem kn_d5 : kn_m5.all kn_ds = true := by decide +kernel
def kn_m6 : List km_N := [(yX7_held, cX7_held, 4, (some .int), 7, 2, false, 1), (yX7_isLeast, cX7_isLeast, 4, (some .boolean), 7, 2, false, 0), (yX7_layStucks, cX7_layStucks, 3, none, 7, 1, false, 2), (yX7_stucks, cX7_stucks, 1, (some .int), 7, 1, false, 3), (yX7_isSafe, cX7_isSafe, 2, (some .boolean), 7, 2, false, 2), (yX7_fewest, cX7_fewest, 5, (some .int), 7, 2, false, 6), (yX7_stuck, cX7_stuck, 4, (some .int), 7, 3, false, 7), (yX7_sort, cX7_sort, 2, (some .int), 7, 2, false, 1), (yX7_addsGuard, cX7_addsGuard, 3, none, 7, 3, true, 0), (yX7_guard, cX7_guard, 3, (some .int), 7, 3, false, 2), (yX7_isGuarded, cX7_isGuarded, 4, (some .boolean), 7, 2, false, 0), (yX7_guards, cX7_guards, 4, (some .int), 7, 1, false, 3), (yX7_drop, cX7_drop, 3, (some .int), 7, 2, false, 1), (yX7_barredBy, cX7_barredBy, 6, (some .int), 7, 2, false, 3), (yX7_isNeedless, cX7_isNeedless, 4, (some .boolean), 7, 2, false, 5), (yX7_guardOf, cX7_guardOf, 3, (some .int), 7, 3, false, 6), (yX7_canAt, cX7_canAt, 4, (some .int), 7, 2, false, 4), (yX7_isClosed, cX7_isClosed, 4, (some .boolean), 7, 1, false, 4), (yX7_allIs, cX7_allIs, 5, (some .int), 7, 2, false, 7), (yX7_all, cX7_all, 2, (some .int), 7, 2, false, 8)]
set_option maxRecDepth 100000 in
theorem kn_w6 : ∀ q ∈ kn_m6, kn_ws q := (List.forall_mem_cons.mpr ⟨⟨kt_5 (List.mem_of_getElem? (i := 221) rfl), kt_1 (List.mem_of_getElem? (i := 7) rfl), kt_5 (List.mem_of_getElem? (i := 220) rfl), kt_p5 (List.mem_of_getElem? (i := 8) rfl)⟩, (List.forall_mem_cons.mpr ⟨⟨kt_5 (List.mem_of_getElem? (i := 213) rfl), kt_1 (List.mem_of_getElem? (i := 7) rfl), kt_5 (List.mem_of_getElem? (i := 212) rfl), kt_p5 (List.mem_of_getElem? (i := 7) rfl)⟩, (List.forall_mem_cons.mpr ⟨⟨kt_5 (List.mem_of_getElem? (i := 201) rfl), kt_1 (List.mem_of_getElem? (i := 7) rfl), kt_5 (List.mem_of_getElem? (i := 200) rfl), kt_p5 (List.mem_of_getElem? (i := 4) rfl)⟩, (List.forall_mem_cons.mpr ⟨⟨kt_5 (List.mem_of_getElem? (i := 197) rfl), kt_1 (List.mem_of_getElem? (i := 7) rfl), kt_5 (List.mem_of_getElem? (i := 195) rfl), kt_5 (List.mem_of_getElem? (i := 196) rfl)⟩, (List.forall_mem_cons.mpr ⟨⟨kt_5 (List.mem_of_getElem? (i := 229) rfl), kt_1 (List.mem_of_getElem? (i := 7) rfl), kt_5 (List.mem_of_getElem? (i := 228) rfl), kt_p5 (List.mem_of_getElem? (i := 10) rfl)⟩, (List.forall_mem_cons.mpr ⟨⟨kt_5 (List.mem_of_getElem? (i := 233) rfl), kt_1 (List.mem_of_getElem? (i := 7) rfl), kt_5 (List.mem_of_getElem? (i := 232) rfl), kt_p5 (List.mem_of_getElem? (i := 11) rfl)⟩, (List.forall_mem_cons.mpr ⟨⟨kt_5 (List.mem_of_getElem? (i := 217) rfl), kt_1 (List.mem_of_getElem? (i := 7) rfl), kt_5 (List.mem_of_getElem? (i := 215) rfl), kt_5 (List.mem_of_getElem? (i := 216) rfl)⟩, (List.forall_mem_cons.mpr ⟨⟨kt_5 (List.mem_of_getElem? (i := 237) rfl), kt_1 (List.mem_of_getElem? (i := 7) rfl), kt_5 (List.mem_of_getElem? (i := 235) rfl), kt_5 (List.mem_of_getElem? (i := 236) rfl)⟩, (List.forall_mem_cons.mpr ⟨⟨kt_6 (List.mem_of_getElem? (i := 4) rfl), kt_1 (List.mem_of_getElem? (i := 7) rfl), kt_6 (List.mem_of_getElem? (i := 3) rfl), kt_1 (List.mem_of_getElem? (i := 7) rfl)⟩, (List.forall_mem_cons.mpr ⟨⟨kt_6 (List.mem_of_getElem? (i := 1) rfl), kt_1 (List.mem_of_getElem? (i := 7) rfl), kt_5 (List.mem_of_getElem? (i := 239) rfl), kt_6 (List.mem_of_getElem? (i := 0) rfl)⟩, (List.forall_mem_cons.mpr ⟨⟨kt_6 (List.mem_of_getElem? (i := 12) rfl), kt_1 (List.mem_of_getElem? (i := 7) rfl), kt_6 (List.mem_of_getElem? (i := 11) rfl), kt_p5 (List.mem_of_getElem? (i := 12) rfl)⟩, (List.forall_mem_cons.mpr ⟨⟨kt_6 (List.mem_of_getElem? (i := 8) rfl), kt_1 (List.mem_of_getElem? (i := 7) rfl), kt_6 (List.mem_of_getElem? (i := 6) rfl), kt_6 (List.mem_of_getElem? (i := 7) rfl)⟩, (List.forall_mem_cons.mpr ⟨⟨kt_6 (List.mem_of_getElem? (i := 16) rfl), kt_1 (List.mem_of_getElem? (i := 7) rfl), kt_6 (List.mem_of_getElem? (i := 14) rfl), kt_6 (List.mem_of_getElem? (i := 15) rfl)⟩, (List.forall_mem_cons.mpr ⟨⟨kt_6 (List.mem_of_getElem? (i := 24) rfl), kt_1 (List.mem_of_getElem? (i := 7) rfl), kt_6 (List.mem_of_getElem? (i := 23) rfl), kt_p5 (List.mem_of_getElem? (i := 13) rfl)⟩, (List.forall_mem_cons.mpr ⟨⟨kt_6 (List.mem_of_getElem? (i := 28) rfl), kt_1 (List.mem_of_getElem? (i := 7) rfl), kt_6 (List.mem_of_getElem? (i := 27) rfl), kt_p5 (List.mem_of_getElem? (i := 14) rfl)⟩, (List.forall_mem_cons.mpr ⟨⟨kt_6 (List.mem_of_getElem? (i := 20) rfl), kt_1 (List.mem_of_getElem? (i := 7) rfl), kt_6 (List.mem_of_getElem? (i := 18) rfl), kt_6 (List.mem_of_getElem? (i := 19) rfl)⟩, (List.forall_mem_cons.mpr ⟨⟨kt_6 (List.mem_of_getElem? (i := 56) rfl), kt_1 (List.mem_of_getElem? (i := 7) rfl), kt_6 (List.mem_of_getElem? (i := 55) rfl), kt_p6 (List.mem_of_getElem? (i := 4) rfl)⟩, (List.forall_mem_cons.mpr ⟨⟨kt_6 (List.mem_of_getElem? (i := 40) rfl), kt_1 (List.mem_of_getElem? (i := 7) rfl), kt_6 (List.mem_of_getElem? (i := 39) rfl), kt_p6 (List.mem_of_getElem? (i := 0) rfl)⟩, (List.forall_mem_cons.mpr ⟨⟨kt_6 (List.mem_of_getElem? (i := 36) rfl), kt_1 (List.mem_of_getElem? (i := 7) rfl), kt_6 (List.mem_of_getElem? (i := 35) rfl), kt_p5 (List.mem_of_getElem? (i := 15) rfl)⟩, (List.forall_mem_cons.mpr ⟨⟨kt_6 (List.mem_of_getElem? (i := 32) rfl), kt_1 (List.mem_of_getElem? (i := 7) rfl), kt_6 (List.mem_of_getElem? (i := 30) rfl), kt_6 (List.mem_of_getElem? (i := 31) rfl)⟩, (fun _ h => absurd h List.not_mem_nil)⟩)⟩)⟩)⟩)⟩)⟩)⟩)⟩)⟩)⟩)⟩)⟩)⟩)⟩)⟩)⟩)⟩)⟩)⟩)⟩)
theorem kn_d6 : kn_m6.all kn_ds = true := by decide +kernel
def kn_m7 : List km_N := [(yX7_found, cX7_found, 3, (some .long), 7, 3, false, 7), (yX7_layFar, cX7_layFar, 8, none, 7, 1, false, 6), (yX7_home, cX7_home, 5, (some .int), 7, 2, false, 7), (yX7_type, cX7_type, 2, (some .int), 7, 2, false, 1), (yX7_clear, cX7_clear, 2, (some .int), 7, 1, false, 0), (yX7_look, cX7_look, 1, (some .int), 7, 1, false, 0), (yX7_take, cX7_take, 2, (some .int), 7, 1, false, 1), (yX7_isThere, cX7_isThere, 2, (some .boolean), 7, 2, false, 1), (yX7_readsPlace, cX7_readsPlace, 3, (some .boolean), 7, 1, false, 2), (yX7_readsArcs, cX7_readsArcs, 3, (some .int), 7, 2, false, 2), (yX7_readsStep, cX7_readsStep, 3, (some .boolean), 7, 1, false, 3), (yX7_readsLine, cX7_readsLine, 6, (some .boolean), 7, 1, false, 2), (yX7_readsGuard, cX7_readsGuard, 7, (some .boolean), 7, 1, false, 2), (yX7_readsOrder, cX7_readsOrder, 1, (some .boolean), 7, 1, false, 4), (yX7_reads, cX7_reads, 3, (some .int), 7, 1, false, 5), (yX7_back, cX7_back, 2, (some .int), 7, 1, false, 1), (yX7_toldOf, cX7_toldOf, 2, (some .int), 7, 2, false, 0), (yX7_told, cX7_told, 2, (some .int), 7, 2, false, 1), (yX7_digest, cX7_digest, 4, (some .long), 7, 1, false, 8), (yX0_weight, cX0_weight, 3, (some .int), 0, 3, false, 0)]
set_option maxRecDepth 100000 in
theorem kn_w7 : ∀ q ∈ kn_m7, kn_ws q := (List.forall_mem_cons.mpr ⟨⟨kt_6 (List.mem_of_getElem? (i := 60) rfl), kt_1 (List.mem_of_getElem? (i := 7) rfl), kt_6 (List.mem_of_getElem? (i := 58) rfl), kt_6 (List.mem_of_getElem? (i := 59) rfl)⟩, (List.forall_mem_cons.mpr ⟨⟨kt_6 (List.mem_of_getElem? (i := 69) rfl), kt_1 (List.mem_of_getElem? (i := 7) rfl), kt_6 (List.mem_of_getElem? (i := 68) rfl), kt_p6 (List.mem_of_getElem? (i := 5) rfl)⟩, (List.forall_mem_cons.mpr ⟨⟨kt_6 (List.mem_of_getElem? (i := 65) rfl), kt_1 (List.mem_of_getElem? (i := 7) rfl), kt_6 (List.mem_of_getElem? (i := 63) rfl), kt_6 (List.mem_of_getElem? (i := 64) rfl)⟩, (List.forall_mem_cons.mpr ⟨⟨kt_6 (List.mem_of_getElem? (i := 73) rfl), kt_1 (List.mem_of_getElem? (i := 7) rfl), kt_6 (List.mem_of_getElem? (i := 71) rfl), kt_6 (List.mem_of_getElem? (i := 72) rfl)⟩, (List.forall_mem_cons.mpr ⟨⟨kt_6 (List.mem_of_getElem? (i := 77) rfl), kt_1 (List.mem_of_getElem? (i := 7) rfl), kt_6 (List.mem_of_getElem? (i := 75) rfl), kt_6 (List.mem_of_getElem? (i := 76) rfl)⟩, (List.forall_mem_cons.mpr ⟨⟨kt_6 (List.mem_of_getElem? (i := 85) rfl), kt_1 (List.mem_of_getElem? (i := 7) rfl), kt_6 (List.mem_of_getElem? (i := 84) rfl), kt_p6 (List.mem_of_getElem? (i := 6) rfl)⟩, (List.forall_mem_cons.mpr ⟨⟨kt_6 (List.mem_of_getElem? (i := 93) rfl), kt_1 (List.mem_of_getElem? (i := 7) rfl), kt_6 (List.mem_of_getElem? (i := 92) rfl), kt_p6 (List.mem_of_getElem? (i := 8) rfl)⟩, (List.forall_mem_cons.mpr ⟨⟨kt_6 (List.mem_of_getElem? (i := 109) rfl), kt_1 (List.mem_of_getElem? (i := 7) rfl), kt_6 (List.mem_of_getElem? (i := 108) rfl), kt_p6 (List.mem_of_getElem? (i := 12) rfl)⟩, (List.forall_mem_cons.mpr ⟨⟨kt_6 (List.mem_of_getElem? (i := 97) rfl), kt_1 (List.mem_of_getElem? (i := 7) rfl), kt_6 (List.mem_of_getElem? (i := 96) rfl), kt_p6 (List.mem_of_getElem? (i := 9) rfl)⟩, (List.forall_mem_cons.mpr ⟨⟨kt_6 (List.mem_of_getElem? (i := 105) rfl), kt_1 (List.mem_of_getElem? (i := 7) rfl), kt_6 (List.mem_of_getElem? (i := 104) rfl), kt_p6 (List.mem_of_getElem? (i := 11) rfl)⟩, (List.forall_mem_cons.mpr ⟨⟨kt_6 (List.mem_of_getElem? (i := 101) rfl), kt_1 (List.mem_of_getElem? (i := 7) rfl), kt_6 (List.mem_of_getElem? (i := 100) rfl), kt_p6 (List.mem_of_getElem? (i := 10) rfl)⟩, (List.forall_mem_cons.mpr ⟨⟨kt_6 (List.mem_of_getElem? (i := 113) rfl), kt_1 (List.mem_of_getElem? (i := 7) rfl), kt_6 (List.mem_of_getElem? (i := 112) rfl), kt_p6 (List.mem_of_getElem? (i := 13) rfl)⟩, (List.forall_mem_cons.mpr ⟨⟨kt_6 (List.mem_of_getElem? (i := 117) rfl), kt_1 (List.mem_of_getElem? (i := 7) rfl), kt_6 (List.mem_of_getElem? (i := 116) rfl), kt_p6 (List.mem_of_getElem? (i := 14) rfl)⟩, (List.forall_mem_cons.mpr ⟨⟨kt_6 (List.mem_of_getElem? (i := 89) rfl), kt_1 (List.mem_of_getElem? (i := 7) rfl), kt_6 (List.mem_of_getElem? (i := 88) rfl), kt_p6 (List.mem_of_getElem? (i := 7) rfl)⟩, (List.forall_mem_cons.mpr ⟨⟨kt_6 (List.mem_of_getElem? (i := 81) rfl), kt_1 (List.mem_of_getElem? (i := 7) rfl), kt_6 (List.mem_of_getElem? (i := 79) rfl), kt_6 (List.mem_of_getElem? (i := 80) rfl)⟩, (List.forall_mem_cons.mpr ⟨⟨kt_6 (List.mem_of_getElem? (i := 121) rfl), kt_1 (List.mem_of_getElem? (i := 7) rfl), kt_6 (List.mem_of_getElem? (i := 119) rfl), kt_6 (List.mem_of_getElem? (i := 120) rfl)⟩, (List.forall_mem_cons.mpr ⟨⟨kt_6 (List.mem_of_getElem? (i := 129) rfl), kt_1 (List.mem_of_getElem? (i := 7) rfl), kt_6 (List.mem_of_getElem? (i := 128) rfl), kt_p6 (List.mem_of_getElem? (i := 15) rfl)⟩, (List.forall_mem_cons.mpr ⟨⟨kt_6 (List.mem_of_getElem? (i := 125) rfl), kt_1 (List.mem_of_getElem? (i := 7) rfl), kt_6 (List.mem_of_getElem? (i := 123) rfl), kt_6 (List.mem_of_getElem? (i := 124) rfl)⟩, (List.forall_mem_cons.mpr ⟨⟨kt_6 (List.mem_of_getElem? (i := 133) rfl), kt_1 (List.mem_of_getElem? (i := 7) rfl), kt_6 (List.mem_of_getElem? (i := 131) rfl), kt_6 (List.mem_of_getElem? (i := 132) rfl)⟩, (List.forall_mem_cons.mpr ⟨⟨kt_3 (List.mem_of_getElem? (i := 36) rfl), kt_1 (List.mem_of_getElem? (i := 4) rfl), kt_3 (List.mem_of_getElem? (i := 34) rfl), kt_3 (List.mem_of_getElem? (i := 35) rfl)⟩, (fun _ h => absurd h List.not_mem_nil)⟩)⟩)⟩)⟩)⟩)⟩)⟩)⟩)⟩)⟩)⟩)⟩)⟩)⟩)⟩)⟩)⟩)⟩)⟩)⟩)
theorem kn_d7 : kn_m7.all kn_ds = true := by decide +kernel
def kn_m8 : List km_N := [(yX0_weighted, cX0_weighted, 7, (some .int), 0, 3, false, 1), (yX0_bound, cX0_bound, 8, (some .int), 0, 3, false, 2), (yX0_findAll, cX0_findAll, 3, none, 0, 2, false, 3), (yX0_balance, cX0_balance, 7, none, 0, 3, false, 2), (yX0_areAdjacent, cX0_areAdjacent, 5, (some .boolean), 0, 3, false, 0), (yX0_addCombined, cX0_addCombined, 11, none, 0, 5, false, 1), (yX0_commonDivisor, cX0_commonDivisor, 11, (some .long), 0, 2, true, 0), (yX0_exchange, cX0_exchange, 3, none, 0, 1, false, 0), (yX0_orderBySupport, cX0_orderBySupport, 5, none, 0, 1, false, 0), (yX1_one, cX1_one, 1, (some .long), 1, 1, true, 0), (yX1_tokens, cX1_tokens, 3, (some .int), 1, 2, true, 0), (yX1_with, cX1_with, 4, (some .long), 1, 3, true, 0), (yX1_sumIn, cX1_sumIn, 7, (some .int), 1, 2, true, 0), (yX1_covers, cX1_covers, 4, (some .boolean), 1, 2, true, 0), (yX1_overflows, cX1_overflows, 2, (some .boolean), 1, 1, true, 0), (yX1_placesOf, cX1_placesOf, 4, (some .int), 1, 1, true, 1), (yX1_hexadecimal, cX1_hexadecimal, 5, (some .long), 1, 1, true, 1), (yX2_carryOut, cX2_carryOut, 3, (some .int), 2, 2, false, 5), (yX2_readOrder, cX2_readOrder, 3, none, 2, 2, false, 4), (yX2_readPlace, cX2_readPlace, 4, none, 2, 2, false, 2)]
set_option maxRecDepth 100000 in
theorem kn_w8 : ∀ q ∈ kn_m8, kn_ws q := (List.forall_mem_cons.mpr ⟨⟨kt_2 (List.mem_of_getElem? (i := 218) rfl), kt_1 (List.mem_of_getElem? (i := 4) rfl), kt_2 (List.mem_of_getElem? (i := 216) rfl), kt_2 (List.mem_of_getElem? (i := 217) rfl)⟩, (List.forall_mem_cons.mpr ⟨⟨kt_3 (List.mem_of_getElem? (i := 32) rfl), kt_1 (List.mem_of_getElem? (i := 4) rfl), kt_3 (List.mem_of_getElem? (i := 30) rfl), kt_3 (List.mem_of_getElem? (i := 31) rfl)⟩, (List.forall_mem_cons.mpr ⟨⟨kt_2 (List.mem_of_getElem? (i := 207) rfl), kt_1 (List.mem_of_getElem? (i := 4) rfl), kt_2 (List.mem_of_getElem? (i := 205) rfl), kt_2 (List.mem_of_getElem? (i := 206) rfl)⟩, (List.forall_mem_cons.mpr ⟨⟨kt_2 (List.mem_of_getElem? (i := 214) rfl), kt_1 (List.mem_of_getElem? (i := 4) rfl), kt_2 (List.mem_of_getElem? (i := 213) rfl), kt_p1 (List.mem_of_getElem? (i := 12) rfl)⟩, (List.forall_mem_cons.mpr ⟨⟨kt_2 (List.mem_of_getElem? (i := 230) rfl), kt_1 (List.mem_of_getElem? (i := 4) rfl), kt_2 (List.mem_of_getElem? (i := 229) rfl), kt_p1 (List.mem_of_getElem? (i := 14) rfl)⟩, (List.forall_mem_cons.mpr ⟨⟨kt_2 (List.mem_of_getElem? (i := 223) rfl), kt_1 (List.mem_of_getElem? (i := 4) rfl), kt_2 (List.mem_of_getElem? (i := 222) rfl), kt_p1 (List.mem_of_getElem? (i := 13) rfl)⟩, (List.forall_mem_cons.mpr ⟨⟨kt_2 (List.mem_of_getElem? (i := 226) rfl), kt_1 (List.mem_of_getElem? (i := 4) rfl), kt_2 (List.mem_of_getElem? (i := 225) rfl), kt_1 (List.mem_of_getElem? (i := 4) rfl)⟩, (List.forall_mem_cons.mpr ⟨⟨kt_2 (List.mem_of_getElem? (i := 234) rfl), kt_1 (List.mem_of_getElem? (i := 4) rfl), kt_2 (List.mem_of_getElem? (i := 233) rfl), kt_p1 (List.mem_of_getElem? (i := 15) rfl)⟩, (List.forall_mem_cons.mpr ⟨⟨kt_2 (List.mem_of_getElem? (i := 238) rfl), kt_1 (List.mem_of_getElem? (i := 4) rfl), kt_2 (List.mem_of_getElem? (i := 237) rfl), kt_p2 (List.mem_of_getElem? (i := 0) rfl)⟩, (List.forall_mem_cons.mpr ⟨⟨kt_2 (List.mem_of_getElem? (i := 107) rfl), kt_1 (List.mem_of_getElem? (i := 9) rfl), kt_2 (List.mem_of_getElem? (i := 106) rfl), kt_1 (List.mem_of_getElem? (i := 9) rfl)⟩, (List.forall_mem_cons.mpr ⟨⟨kt_2 (List.mem_of_getElem? (i := 82) rfl), kt_1 (List.mem_of_getElem? (i := 9) rfl), kt_2 (List.mem_of_getElem? (i := 81) rfl), kt_1 (List.mem_of_getElem? (i := 9) rfl)⟩, (List.forall_mem_cons.mpr ⟨⟨kt_2 (List.mem_of_getElem? (i := 45) rfl), kt_1 (List.mem_of_getElem? (i := 9) rfl), kt_2 (List.mem_of_getElem? (i := 44) rfl), kt_1 (List.mem_of_getElem? (i := 9) rfl)⟩, (List.forall_mem_cons.mpr ⟨⟨kt_2 (List.mem_of_getElem? (i := 184) rfl), kt_1 (List.mem_of_getElem? (i := 9) rfl), kt_2 (List.mem_of_getElem? (i := 183) rfl), kt_1 (List.mem_of_getElem? (i := 9) rfl)⟩, (List.forall_mem_cons.mpr ⟨⟨kt_2 (List.mem_of_getElem? (i := 169) rfl), kt_1 (List.mem_of_getElem? (i := 9) rfl), kt_2 (List.mem_of_getElem? (i := 168) rfl), kt_1 (List.mem_of_getElem? (i := 9) rfl)⟩, (List.forall_mem_cons.mpr ⟨⟨kt_2 (List.mem_of_getElem? (i := 177) rfl), kt_1 (List.mem_of_getElem? (i := 9) rfl), kt_2 (List.mem_of_getElem? (i := 176) rfl), kt_1 (List.mem_of_getElem? (i := 9) rfl)⟩, (List.forall_mem_cons.mpr ⟨⟨kt_3 (List.mem_of_getElem? (i := 5) rfl), kt_1 (List.mem_of_getElem? (i := 9) rfl), kt_3 (List.mem_of_getElem? (i := 4) rfl), kt_1 (List.mem_of_getElem? (i := 9) rfl)⟩, (List.forall_mem_cons.mpr ⟨⟨kt_3 (List.mem_of_getElem? (i := 226) rfl), kt_1 (List.mem_of_getElem? (i := 9) rfl), kt_3 (List.mem_of_getElem? (i := 225) rfl), kt_1 (List.mem_of_getElem? (i := 9) rfl)⟩, (List.forall_mem_cons.mpr ⟨⟨kt_4 (List.mem_of_getElem? (i := 12) rfl), kt_1 (List.mem_of_getElem? (i := 6) rfl), kt_4 (List.mem_of_getElem? (i := 10) rfl), kt_4 (List.mem_of_getElem? (i := 11) rfl)⟩, (List.forall_mem_cons.mpr ⟨⟨kt_4 (List.mem_of_getElem? (i := 20) rfl), kt_1 (List.mem_of_getElem? (i := 6) rfl), kt_4 (List.mem_of_getElem? (i := 19) rfl), kt_p2 (List.mem_of_getElem? (i := 11) rfl)⟩, (List.forall_mem_cons.mpr ⟨⟨kt_4 (List.mem_of_getElem? (i := 28) rfl), kt_1 (List.mem_of_getElem? (i := 6) rfl), kt_4 (List.mem_of_getElem? (i := 27) rfl), kt_p2 (List.mem_of_getElem? (i := 13) rfl)⟩, (fun _ h => absurd h List.not_mem_nil)⟩)⟩)⟩)⟩)⟩)⟩)⟩)⟩)⟩)⟩)⟩)⟩)⟩)⟩)⟩)⟩)⟩)⟩)⟩)⟩)
theorem kn_d8 : kn_m8.all kn_ds = true := by decide +kernel
def kn_m9 : List km_N := [(yX2_readStep, cX2_readStep, 7, none, 2, 2, false, 3), (yX2_readLine, cX2_readLine, 5, none, 2, 2, false, 3), (yX2_readGuard, cX2_readGuard, 5, none, 2, 2, false, 2), (yX2_readArcs, cX2_readArcs, 7, (some .long), 2, 2, false, 2), (yX2_readDigit, cX2_readDigit, 4, (some .int), 2, 3, false, 1), (yX2_expect, cX2_expect, 2, none, 2, 2, false, 1), (yX2_skipSpaces, cX2_skipSpaces, 1, none, 2, 1, false, 0), (yX2_next, cX2_next, 1, (some .int), 2, 1, false, 0), (yX2_isDigit, cX2_isDigit, 1, (some .boolean), 2, 1, true, 1), (yX2_fail, cX2_fail, 2, none, 2, 2, false, 0), (yX3_spread, cX3_spread, 11, none, 3, 5, false, 3), (yX3_enter, cX3_enter, 5, (some .int), 3, 3, false, 1), (yX3_slotOf, cX3_slotOf, 5, (some .int), 3, 2, false, 0), (yX3_indexOf, cX3_indexOf, 3, (some .int), 3, 2, false, 1), (yX3_mostIn, cX3_mostIn, 4, (some .int), 3, 2, false, 1), (yX3_leastIn, cX3_leastIn, 4, (some .int), 3, 2, false, 1), (yX3_ableSteps, cX3_ableSteps, 5, (some .int), 3, 3, false, 0), (yX3_liveSteps, cX3_liveSteps, 4, (some .int), 3, 2, false, 1), (yX3_deadlocks, cX3_deadlocks, 4, (some .int), 3, 2, false, 1), (yX3_isComplete, cX3_isComplete, 4, (some .boolean), 3, 2, false, 0)]
set_option maxRecDepth 100000 in
theorem kn_w9 : ∀ q ∈ kn_m9, kn_ws q := (List.forall_mem_cons.mpr ⟨⟨kt_4 (List.mem_of_getElem? (i := 50) rfl), kt_1 (List.mem_of_getElem? (i := 6) rfl), kt_4 (List.mem_of_getElem? (i := 49) rfl), kt_p3 (List.mem_of_getElem? (i := 1) rfl)⟩, (List.forall_mem_cons.mpr ⟨⟨kt_4 (List.mem_of_getElem? (i := 61) rfl), kt_1 (List.mem_of_getElem? (i := 6) rfl), kt_4 (List.mem_of_getElem? (i := 60) rfl), kt_p3 (List.mem_of_getElem? (i := 3) rfl)⟩, (List.forall_mem_cons.mpr ⟨⟨kt_4 (List.mem_of_getElem? (i := 67) rfl), kt_1 (List.mem_of_getElem? (i := 6) rfl), kt_4 (List.mem_of_getElem? (i := 66) rfl), kt_p3 (List.mem_of_getElem? (i := 4) rfl)⟩, (List.forall_mem_cons.mpr ⟨⟨kt_4 (List.mem_of_getElem? (i := 54) rfl), kt_1 (List.mem_of_getElem? (i := 6) rfl), kt_4 (List.mem_of_getElem? (i := 53) rfl), kt_p3 (List.mem_of_getElem? (i := 2) rfl)⟩, (List.forall_mem_cons.mpr ⟨⟨kt_4 (List.mem_of_getElem? (i := 32) rfl), kt_1 (List.mem_of_getElem? (i := 6) rfl), kt_4 (List.mem_of_getElem? (i := 31) rfl), kt_p2 (List.mem_of_getElem? (i := 14) rfl)⟩, (List.forall_mem_cons.mpr ⟨⟨kt_4 (List.mem_of_getElem? (i := 44) rfl), kt_1 (List.mem_of_getElem? (i := 6) rfl), kt_4 (List.mem_of_getElem? (i := 43) rfl), kt_p3 (List.mem_of_getElem? (i := 0) rfl)⟩, (List.forall_mem_cons.mpr ⟨⟨kt_4 (List.mem_of_getElem? (i := 16) rfl), kt_1 (List.mem_of_getElem? (i := 6) rfl), kt_4 (List.mem_of_getElem? (i := 15) rfl), kt_p2 (List.mem_of_getElem? (i := 10) rfl)⟩, (List.forall_mem_cons.mpr ⟨⟨kt_4 (List.mem_of_getElem? (i := 24) rfl), kt_1 (List.mem_of_getElem? (i := 6) rfl), kt_4 (List.mem_of_getElem? (i := 23) rfl), kt_p2 (List.mem_of_getElem? (i := 12) rfl)⟩, (List.forall_mem_cons.mpr ⟨⟨kt_4 (List.mem_of_getElem? (i := 40) rfl), kt_1 (List.mem_of_getElem? (i := 6) rfl), kt_4 (List.mem_of_getElem? (i := 39) rfl), kt_1 (List.mem_of_getElem? (i := 6) rfl)⟩, (List.forall_mem_cons.mpr ⟨⟨kt_4 (List.mem_of_getElem? (i := 37) rfl), kt_1 (List.mem_of_getElem? (i := 6) rfl), kt_4 (List.mem_of_getElem? (i := 36) rfl), kt_p2 (List.mem_of_getElem? (i := 15) rfl)⟩, (List.forall_mem_cons.mpr ⟨⟨kt_2 (List.mem_of_getElem? (i := 150) rfl), kt_1 (List.mem_of_getElem? (i := 3) rfl), kt_2 (List.mem_of_getElem? (i := 148) rfl), kt_2 (List.mem_of_getElem? (i := 149) rfl)⟩, (List.forall_mem_cons.mpr ⟨⟨kt_2 (List.mem_of_getElem? (i := 157) rfl), kt_1 (List.mem_of_getElem? (i := 3) rfl), kt_2 (List.mem_of_getElem? (i := 156) rfl), kt_p1 (List.mem_of_getElem? (i := 8) rfl)⟩, (List.forall_mem_cons.mpr ⟨⟨kt_2 (List.mem_of_getElem? (i := 161) rfl), kt_1 (List.mem_of_getElem? (i := 3) rfl), kt_2 (List.mem_of_getElem? (i := 160) rfl), kt_p1 (List.mem_of_getElem? (i := 9) rfl)⟩, (List.forall_mem_cons.mpr ⟨⟨kt_2 (List.mem_of_getElem? (i := 190) rfl), kt_1 (List.mem_of_getElem? (i := 3) rfl), kt_2 (List.mem_of_getElem? (i := 188) rfl), kt_2 (List.mem_of_getElem? (i := 189) rfl)⟩, (List.forall_mem_cons.mpr ⟨⟨kt_3 (List.mem_of_getElem? (i := 43) rfl), kt_1 (List.mem_of_getElem? (i := 3) rfl), kt_3 (List.mem_of_getElem? (i := 41) rfl), kt_3 (List.mem_of_getElem? (i := 42) rfl)⟩, (List.forall_mem_cons.mpr ⟨⟨kt_3 (List.mem_of_getElem? (i := 51) rfl), kt_1 (List.mem_of_getElem? (i := 3) rfl), kt_3 (List.mem_of_getElem? (i := 49) rfl), kt_3 (List.mem_of_getElem? (i := 50) rfl)⟩, (List.forall_mem_cons.mpr ⟨⟨kt_3 (List.mem_of_getElem? (i := 199) rfl), kt_1 (List.mem_of_getElem? (i := 3) rfl), kt_3 (List.mem_of_getElem? (i := 197) rfl), kt_3 (List.mem_of_getElem? (i := 198) rfl)⟩, (List.forall_mem_cons.mpr ⟨⟨kt_3 (List.mem_of_getElem? (i := 219) rfl), kt_1 (List.mem_of_getElem? (i := 3) rfl), kt_3 (List.mem_of_getElem? (i := 217) rfl), kt_3 (List.mem_of_getElem? (i := 218) rfl)⟩, (List.forall_mem_cons.mpr ⟨⟨kt_3 (List.mem_of_getElem? (i := 195) rfl), kt_1 (List.mem_of_getElem? (i := 3) rfl), kt_3 (List.mem_of_getElem? (i := 193) rfl), kt_3 (List.mem_of_getElem? (i := 194) rfl)⟩, (List.forall_mem_cons.mpr ⟨⟨kt_3 (List.mem_of_getElem? (i := 191) rfl), kt_1 (List.mem_of_getElem? (i := 3) rfl), kt_3 (List.mem_of_getElem? (i := 189) rfl), kt_3 (List.mem_of_getElem? (i := 190) rfl)⟩, (fun _ h => absurd h List.not_mem_nil)⟩)⟩)⟩)⟩)⟩)⟩)⟩)⟩)⟩)⟩)⟩)⟩)⟩)⟩)⟩)⟩)⟩)⟩)⟩)⟩)
theorem kn_d9 : kn_m9.all kn_ds = true := by decide +kernel
def kn_m10 : List km_N := [(yX3_measure, cX3_measure, 6, none, 3, 3, false, 2), (yX3_shorten, cX3_shorten, 6, (some .boolean), 3, 3, false, 1), (yX3_wayOver, cX3_wayOver, 5, (some .int), 3, 4, false, 0), (yX3_wayless, cX3_wayless, 3, (some .int), 3, 1, false, 0), (yX3_firstStep, cX3_firstStep, 3, (some .int), 3, 2, false, 1), (yX4_findAll, cX4_findAll, 4, none, 4, 2, false, 2), (yX4_holdsFormer, cX4_holdsFormer, 3, (some .boolean), 4, 2, false, 0), (yX4_orderBySize, cX4_orderBySize, 4, none, 4, 1, false, 1), (yX4_isSiphon, cX4_isSiphon, 3, (some .boolean), 4, 2, false, 0), (yX4_isTrap, cX4_isTrap, 2, (some .boolean), 4, 2, false, 1), (yX4_heldPart, cX4_heldPart, 5, (some .int), 4, 2, false, 0), (yX5_copyFrom, cX5_copyFrom, 2, none, 5, 2, false, 1), (yX5_allPlaces, cX5_allPlaces, 1, (some .int), 5, 1, false, 0), (yX5_homeMarking, cX5_homeMarking, 1, (some .long), 5, 1, false, 0), (yX5_renewRun, cX5_renewRun, 1, none, 5, 1, false, 0), (yX5_removeNet, cX5_removeNet, 1, none, 5, 1, false, 0), (yX5_addPlace, cX5_addPlace, 2, none, 5, 2, false, 1), (yX5_addStep, cX5_addStep, 6, none, 5, 4, false, 0), (yX5_hasRoomForLine, cX5_hasRoomForLine, 2, (some .boolean), 5, 2, false, 0), (yX5_addLine, cX5_addLine, 10, none, 5, 4, false, 2)]
set_option maxRecDepth 100000 in
theorem kn_w10 : ∀ q ∈ kn_m10, kn_ws q := (List.forall_mem_cons.mpr ⟨⟨kt_3 (List.mem_of_getElem? (i := 203) rfl), kt_1 (List.mem_of_getElem? (i := 3) rfl), kt_3 (List.mem_of_getElem? (i := 201) rfl), kt_3 (List.mem_of_getElem? (i := 202) rfl)⟩, (List.forall_mem_cons.mpr ⟨⟨kt_3 (List.mem_of_getElem? (i := 207) rfl), kt_1 (List.mem_of_getElem? (i := 3) rfl), kt_3 (List.mem_of_getElem? (i := 206) rfl), kt_p2 (List.mem_of_getElem? (i := 8) rfl)⟩, (List.forall_mem_cons.mpr ⟨⟨kt_3 (List.mem_of_getElem? (i := 211) rfl), kt_1 (List.mem_of_getElem? (i := 3) rfl), kt_3 (List.mem_of_getElem? (i := 210) rfl), kt_p2 (List.mem_of_getElem? (i := 9) rfl)⟩, (List.forall_mem_cons.mpr ⟨⟨kt_3 (List.mem_of_getElem? (i := 215) rfl), kt_1 (List.mem_of_getElem? (i := 3) rfl), kt_3 (List.mem_of_getElem? (i := 213) rfl), kt_3 (List.mem_of_getElem? (i := 214) rfl)⟩, (List.forall_mem_cons.mpr ⟨⟨kt_3 (List.mem_of_getElem? (i := 236) rfl), kt_1 (List.mem_of_getElem? (i := 3) rfl), kt_3 (List.mem_of_getElem? (i := 234) rfl), kt_3 (List.mem_of_getElem? (i := 235) rfl)⟩, (List.forall_mem_cons.mpr ⟨⟨kt_3 (List.mem_of_getElem? (i := 2) rfl), kt_1 (List.mem_of_getElem? (i := 5) rfl), kt_3 (List.mem_of_getElem? (i := 0) rfl), kt_3 (List.mem_of_getElem? (i := 1) rfl)⟩, (List.forall_mem_cons.mpr ⟨⟨kt_3 (List.mem_of_getElem? (i := 18) rfl), kt_1 (List.mem_of_getElem? (i := 5) rfl), kt_3 (List.mem_of_getElem? (i := 17) rfl), kt_p2 (List.mem_of_getElem? (i := 1) rfl)⟩, (List.forall_mem_cons.mpr ⟨⟨kt_3 (List.mem_of_getElem? (i := 22) rfl), kt_1 (List.mem_of_getElem? (i := 5) rfl), kt_3 (List.mem_of_getElem? (i := 21) rfl), kt_p2 (List.mem_of_getElem? (i := 2) rfl)⟩, (List.forall_mem_cons.mpr ⟨⟨kt_3 (List.mem_of_getElem? (i := 14) rfl), kt_1 (List.mem_of_getElem? (i := 5) rfl), kt_3 (List.mem_of_getElem? (i := 12) rfl), kt_3 (List.mem_of_getElem? (i := 13) rfl)⟩, (List.forall_mem_cons.mpr ⟨⟨kt_3 (List.mem_of_getElem? (i := 145) rfl), kt_1 (List.mem_of_getElem? (i := 5) rfl), kt_3 (List.mem_of_getElem? (i := 143) rfl), kt_3 (List.mem_of_getElem? (i := 144) rfl)⟩, (List.forall_mem_cons.mpr ⟨⟨kt_3 (List.mem_of_getElem? (i := 128) rfl), kt_1 (List.mem_of_getElem? (i := 5) rfl), kt_3 (List.mem_of_getElem? (i := 126) rfl), kt_3 (List.mem_of_getElem? (i := 127) rfl)⟩, (List.forall_mem_cons.mpr ⟨⟨kt_2 (List.mem_of_getElem? (i := 35) rfl), kt_1 (List.mem_of_getElem? (i := 2) rfl), kt_2 (List.mem_of_getElem? (i := 33) rfl), kt_2 (List.mem_of_getElem? (i := 34) rfl)⟩, (List.forall_mem_cons.mpr ⟨⟨kt_3 (List.mem_of_getElem? (i := 10) rfl), kt_1 (List.mem_of_getElem? (i := 2) rfl), kt_3 (List.mem_of_getElem? (i := 8) rfl), kt_3 (List.mem_of_getElem? (i := 9) rfl)⟩, (List.forall_mem_cons.mpr ⟨⟨kt_2 (List.mem_of_getElem? (i := 145) rfl), kt_1 (List.mem_of_getElem? (i := 2) rfl), kt_2 (List.mem_of_getElem? (i := 143) rfl), kt_2 (List.mem_of_getElem? (i := 144) rfl)⟩, (List.forall_mem_cons.mpr ⟨⟨kt_2 (List.mem_of_getElem? (i := 55) rfl), kt_1 (List.mem_of_getElem? (i := 2) rfl), kt_2 (List.mem_of_getElem? (i := 53) rfl), kt_2 (List.mem_of_getElem? (i := 54) rfl)⟩, (List.forall_mem_cons.mpr ⟨⟨kt_2 (List.mem_of_getElem? (i := 121) rfl), kt_1 (List.mem_of_getElem? (i := 2) rfl), kt_2 (List.mem_of_getElem? (i := 119) rfl), kt_2 (List.mem_of_getElem? (i := 120) rfl)⟩, (List.forall_mem_cons.mpr ⟨⟨kt_2 (List.mem_of_getElem? (i := 42) rfl), kt_1 (List.mem_of_getElem? (i := 2) rfl), kt_2 (List.mem_of_getElem? (i := 40) rfl), kt_2 (List.mem_of_getElem? (i := 41) rfl)⟩, (List.forall_mem_cons.mpr ⟨⟨kt_2 (List.mem_of_getElem? (i := 67) rfl), kt_1 (List.mem_of_getElem? (i := 2) rfl), kt_2 (List.mem_of_getElem? (i := 65) rfl), kt_2 (List.mem_of_getElem? (i := 66) rfl)⟩, (List.forall_mem_cons.mpr ⟨⟨kt_2 (List.mem_of_getElem? (i := 99) rfl), kt_1 (List.mem_of_getElem? (i := 2) rfl), kt_2 (List.mem_of_getElem? (i := 97) rfl), kt_2 (List.mem_of_getElem? (i := 98) rfl)⟩, (List.forall_mem_cons.mpr ⟨⟨kt_2 (List.mem_of_getElem? (i := 103) rfl), kt_1 (List.mem_of_getElem? (i := 2) rfl), kt_2 (List.mem_of_getElem? (i := 101) rfl), kt_2 (List.mem_of_getElem? (i := 102) rfl)⟩, (fun _ h => absurd h List.not_mem_nil)⟩)⟩)⟩)⟩)⟩)⟩)⟩)⟩)⟩)⟩)⟩)⟩)⟩)⟩)⟩)⟩)⟩)⟩)⟩)⟩)
theorem kn_d10 : kn_m10.all kn_ds = true := by decide +kernel
def kn_m11 : List km_N := [(yX5_drawNet, cX5_drawNet, 14, none, 5, 4, false, 2), (yX5_follower, cX5_follower, 2, (some .long), 5, 1, true, 0), (yX5_drawn, cX5_drawn, 3, (some .int), 5, 2, true, 0), (yX5_drawnTakes, cX5_drawnTakes, 1, (some .int), 5, 1, true, 0), (yX5_drawnGives, cX5_drawnGives, 1, (some .int), 5, 1, true, 0), (yX5_addGuard, cX5_addGuard, 3, none, 5, 3, false, 0), (yX5_removeGuard, cX5_removeGuard, 3, none, 5, 2, false, 0), (yX5_isGuarded, cX5_isGuarded, 3, (some .boolean), 5, 2, false, 0), (yX5_after, cX5_after, 4, (some .long), 5, 3, false, 0), (yX5_hindrance, cX5_hindrance, 8, (some .int), 5, 4, false, 2), (yX5_bars, cX5_bars, 7, (some .boolean), 5, 4, false, 1), (yX5_barredBy, cX5_barredBy, 6, (some .int), 5, 2, false, 3), (yJ6_bitCount_0f7a4, cJ6_bitCount_0f7a4, 1, (some .int), 8, 1, true, 0), (yJ7_fill_53178, cJ7_fill_53178, 4, none, 11, 2, true, 0), (yJ7_fill_d0a16, cJ7_fill_d0a16, 5, none, 11, 2, true, 0)]
set_option maxRecDepth 100000 in
theorem kn_w11 : ∀ q ∈ kn_m11, kn_ws q := (List.forall_mem_cons.mpr ⟨⟨kt_2 (List.mem_of_getElem? (i := 117) rfl), kt_1 (List.mem_of_getElem? (i := 2) rfl), kt_2 (List.mem_of_getElem? (i := 115) rfl), kt_2 (List.mem_of_getElem? (i := 116) rfl)⟩, (List.forall_mem_cons.mpr ⟨⟨kt_2 (List.mem_of_getElem? (i := 124) rfl), kt_1 (List.mem_of_getElem? (i := 2) rfl), kt_2 (List.mem_of_getElem? (i := 123) rfl), kt_1 (List.mem_of_getElem? (i := 2) rfl)⟩, (List.forall_mem_cons.mpr ⟨⟨kt_2 (List.mem_of_getElem? (i := 130) rfl), kt_1 (List.mem_of_getElem? (i := 2) rfl), kt_2 (List.mem_of_getElem? (i := 129) rfl), kt_1 (List.mem_of_getElem? (i := 2) rfl)⟩, (List.forall_mem_cons.mpr ⟨⟨kt_2 (List.mem_of_getElem? (i := 134) rfl), kt_1 (List.mem_of_getElem? (i := 2) rfl), kt_2 (List.mem_of_getElem? (i := 133) rfl), kt_1 (List.mem_of_getElem? (i := 2) rfl)⟩, (List.forall_mem_cons.mpr ⟨⟨kt_2 (List.mem_of_getElem? (i := 137) rfl), kt_1 (List.mem_of_getElem? (i := 2) rfl), kt_2 (List.mem_of_getElem? (i := 136) rfl), kt_1 (List.mem_of_getElem? (i := 2) rfl)⟩, (List.forall_mem_cons.mpr ⟨⟨kt_3 (List.mem_of_getElem? (i := 154) rfl), kt_1 (List.mem_of_getElem? (i := 2) rfl), kt_3 (List.mem_of_getElem? (i := 152) rfl), kt_3 (List.mem_of_getElem? (i := 153) rfl)⟩, (List.forall_mem_cons.mpr ⟨⟨kt_3 (List.mem_of_getElem? (i := 174) rfl), kt_1 (List.mem_of_getElem? (i := 2) rfl), kt_3 (List.mem_of_getElem? (i := 172) rfl), kt_3 (List.mem_of_getElem? (i := 173) rfl)⟩, (List.forall_mem_cons.mpr ⟨⟨kt_3 (List.mem_of_getElem? (i := 162) rfl), kt_1 (List.mem_of_getElem? (i := 2) rfl), kt_3 (List.mem_of_getElem? (i := 160) rfl), kt_3 (List.mem_of_getElem? (i := 161) rfl)⟩, (List.forall_mem_cons.mpr ⟨⟨kt_2 (List.mem_of_getElem? (i := 174) rfl), kt_1 (List.mem_of_getElem? (i := 2) rfl), kt_2 (List.mem_of_getElem? (i := 172) rfl), kt_2 (List.mem_of_getElem? (i := 173) rfl)⟩, (List.forall_mem_cons.mpr ⟨⟨kt_2 (List.mem_of_getElem? (i := 166) rfl), kt_1 (List.mem_of_getElem? (i := 2) rfl), kt_2 (List.mem_of_getElem? (i := 164) rfl), kt_2 (List.mem_of_getElem? (i := 165) rfl)⟩, (List.forall_mem_cons.mpr ⟨⟨kt_2 (List.mem_of_getElem? (i := 181) rfl), kt_1 (List.mem_of_getElem? (i := 2) rfl), kt_2 (List.mem_of_getElem? (i := 180) rfl), kt_p1 (List.mem_of_getElem? (i := 10) rfl)⟩, (List.forall_mem_cons.mpr ⟨⟨kt_3 (List.mem_of_getElem? (i := 182) rfl), kt_1 (List.mem_of_getElem? (i := 2) rfl), kt_3 (List.mem_of_getElem? (i := 180) rfl), kt_3 (List.mem_of_getElem? (i := 181) rfl)⟩, (List.forall_mem_cons.mpr ⟨⟨kt_3 (List.mem_of_getElem? (i := 25) rfl), kt_1 (List.mem_of_getElem? (i := 11) rfl), kt_3 (List.mem_of_getElem? (i := 24) rfl), kt_1 (List.mem_of_getElem? (i := 11) rfl)⟩, (List.forall_mem_cons.mpr ⟨⟨kt_2 (List.mem_of_getElem? (i := 153) rfl), kt_1 (List.mem_of_getElem? (i := 10) rfl), kt_2 (List.mem_of_getElem? (i := 152) rfl), kt_1 (List.mem_of_getElem? (i := 10) rfl)⟩, (List.forall_mem_cons.mpr ⟨⟨kt_2 (List.mem_of_getElem? (i := 210) rfl), kt_1 (List.mem_of_getElem? (i := 10) rfl), kt_2 (List.mem_of_getElem? (i := 209) rfl), kt_1 (List.mem_of_getElem? (i := 10) rfl)⟩, (fun _ h => absurd h List.not_mem_nil)⟩)⟩)⟩)⟩)⟩)⟩)⟩)⟩)⟩)⟩)⟩)⟩)⟩)⟩)⟩)
theorem kn_d11 : kn_m11.all kn_ds = true := by decide +kernel
def kn_m : List km_N := kn_m0 ++ kn_m1 ++ kn_m2 ++ kn_m3 ++ kn_m4 ++ kn_m5 ++ kn_m6 ++ kn_m7 ++ kn_m8 ++ kn_m9 ++ kn_m10 ++ kn_m11
theorem kn_w : ∀ q ∈ kn_m, kn_ws q := (List.forall_mem_append.mpr ⟨(List.forall_mem_append.mpr ⟨(List.forall_mem_append.mpr ⟨(List.forall_mem_append.mpr ⟨(List.forall_mem_append.mpr ⟨(List.forall_mem_append.mpr ⟨(List.forall_mem_append.mpr ⟨(List.forall_mem_append.mpr ⟨(List.forall_mem_append.mpr ⟨(List.forall_mem_append.mpr ⟨(List.forall_mem_append.mpr ⟨kn_w0, kn_w1⟩), kn_w2⟩), kn_w3⟩), kn_w4⟩), kn_w5⟩), kn_w6⟩), kn_w7⟩), kn_w8⟩), kn_w9⟩), kn_w10⟩), kn_w11⟩)
theorem kn_d : ∀ q ∈ kn_m, kn_ds q = true := (List.forall_mem_append.mpr ⟨(List.forall_mem_append.mpr ⟨(List.forall_mem_append.mpr ⟨(List.forall_mem_append.mpr ⟨(List.forall_mem_append.mpr ⟨(List.forall_mem_append.mpr ⟨(List.forall_mem_append.mpr ⟨(List.forall_mem_append.mpr ⟨(List.forall_mem_append.mpr ⟨(List.forall_mem_append.mpr ⟨(List.forall_mem_append.mpr ⟨(List.all_eq_true.mp kn_d0), List.all_eq_true.mp kn_d1⟩), List.all_eq_true.mp kn_d2⟩), List.all_eq_true.mp kn_d3⟩), List.all_eq_true.mp kn_d4⟩), List.all_eq_true.mp kn_d5⟩), List.all_eq_true.mp kn_d6⟩), List.all_eq_true.mp kn_d7⟩), List.all_eq_true.mp kn_d8⟩), List.all_eq_true.mp kn_d9⟩), List.all_eq_true.mp kn_d10⟩), List.all_eq_true.mp kn_d11⟩)
def kn_y (mid : Nat) : MethodName := match kn_m[mid]? with | some q => q.1 | none => yX0_weight
def kw_m0 : List (Nat × Nat × Nat × Nat) := [(0, 37, 170, 1), (0, 43, 159, 0), (0, 47, 160, 0), (0, 61, 234, 1), (0, 76, 163, 0), (0, 80, 168, 0), (0, 83, 165, 0), (0, 87, 164, 0), (0, 91, 167, 0), (0, 94, 166, 1), (1, 17, 170, 1), (2, 28, 186, 0), (2, 31, 178, 0), (2, 35, 187, 0), (2, 44, 179, 0), (2, 50, 180, 0), (2, 53, 181, 0), (2, 59, 182, 0), (2, 62, 189, 0), (2, 66, 184, 0)]
set_option maxRecDepth 100000 in
theorem kw_m0_ok : ∀ e ∈ kw_m0, (match e.2.2.2 with | 2 => Cond.methodLinkNest (kn_o e.1) e.2.1 (kn_y e.2.2.1) RX6 | _ => Cond.methodLink (kn_o e.1) e.2.1 (kn_y e.2.2.1)) ∈ lw_tbl := (List.forall_mem_cons.mpr ⟨kt_2 (List.mem_of_getElem? (i := 219) rfl), (List.forall_mem_cons.mpr ⟨kt_3 (List.mem_of_getElem? (i := 33) rfl), (List.forall_mem_cons.mpr ⟨kt_2 (List.mem_of_getElem? (i := 215) rfl), (List.forall_mem_cons.mpr ⟨kt_2 (List.mem_of_getElem? (i := 208) rfl), (List.forall_mem_cons.mpr ⟨kt_2 (List.mem_of_getElem? (i := 211) rfl), (List.forall_mem_cons.mpr ⟨kt_2 (List.mem_of_getElem? (i := 235) rfl), (List.forall_mem_cons.mpr ⟨kt_2 (List.mem_of_getElem? (i := 220) rfl), (List.forall_mem_cons.mpr ⟨kt_2 (List.mem_of_getElem? (i := 227) rfl), (List.forall_mem_cons.mpr ⟨kt_2 (List.mem_of_getElem? (i := 231) rfl), (List.forall_mem_cons.mpr ⟨kt_2 (List.mem_of_getElem? (i := 224) rfl), (List.forall_mem_cons.mpr ⟨kt_3 (List.mem_of_getElem? (i := 6) rfl), (List.forall_mem_cons.mpr ⟨kt_4 (List.mem_of_getElem? (i := 13) rfl), (List.forall_mem_cons.mpr ⟨kt_4 (List.mem_of_getElem? (i := 17) rfl), (List.forall_mem_cons.mpr ⟨kt_4 (List.mem_of_getElem? (i := 21) rfl), (List.forall_mem_cons.mpr ⟨kt_4 (List.mem_of_getElem? (i := 25) rfl), (List.forall_mem_cons.mpr ⟨kt_4 (List.mem_of_getElem? (i := 47) rfl), (List.forall_mem_cons.mpr ⟨kt_4 (List.mem_of_getElem? (i := 58) rfl), (List.forall_mem_cons.mpr ⟨kt_4 (List.mem_of_getElem? (i := 64) rfl), (List.forall_mem_cons.mpr ⟨kt_4 (List.mem_of_getElem? (i := 34) rfl), (List.forall_mem_cons.mpr ⟨kt_4 (List.mem_of_getElem? (i := 29) rfl), (fun _ h => absurd h List.not_mem_nil)⟩)⟩)⟩)⟩)⟩)⟩)⟩)⟩)⟩)⟩)⟩)⟩)⟩)⟩)⟩)⟩)⟩)⟩)⟩)⟩)
def kw_m1 : List (Nat × Nat × Nat × Nat) := [(2, 70, 188, 1), (2, 74, 185, 0), (2, 77, 216, 0), (2, 80, 214, 0), (2, 83, 183, 0), (2, 87, 217, 0), (2, 91, 218, 0), (2, 94, 219, 0), (2, 98, 213, 0), (2, 102, 172, 1), (2, 108, 225, 0), (2, 112, 170, 1), (2, 115, 169, 1), (2, 118, 37, 2), (3, 36, 233, 1), (3, 42, 191, 0), (3, 51, 229, 0), (3, 55, 228, 0), (3, 61, 193, 0), (3, 65, 192, 0)]
set_option maxRecDepth 100000 in
theorem kw_m1_ok : ∀ e ∈ kw_m1, (match e.2.2.2 with | 2 => Cond.methodLinkNest (kn_o e.1) e.2.1 (kn_y e.2.2.1) RX6 | _ => Cond.methodLink (kn_o e.1) e.2.1 (kn_y e.2.2.1)) ∈ lw_tbl := (List.forall_mem_cons.mpr ⟨kt_4 (List.mem_of_getElem? (i := 38) rfl), (List.forall_mem_cons.mpr ⟨kt_4 (List.mem_of_getElem? (i := 41) rfl), (List.forall_mem_cons.mpr ⟨kt_4 (List.mem_of_getElem? (i := 45) rfl), (List.forall_mem_cons.mpr ⟨kt_4 (List.mem_of_getElem? (i := 46) rfl), (List.forall_mem_cons.mpr ⟨kt_4 (List.mem_of_getElem? (i := 51) rfl), (List.forall_mem_cons.mpr ⟨kt_4 (List.mem_of_getElem? (i := 57) rfl), (List.forall_mem_cons.mpr ⟨kt_4 (List.mem_of_getElem? (i := 62) rfl), (List.forall_mem_cons.mpr ⟨kt_4 (List.mem_of_getElem? (i := 63) rfl), (List.forall_mem_cons.mpr ⟨kt_4 (List.mem_of_getElem? (i := 68) rfl), (List.forall_mem_cons.mpr ⟨kt_4 (List.mem_of_getElem? (i := 69) rfl), (List.forall_mem_cons.mpr ⟨kt_4 (List.mem_of_getElem? (i := 70) rfl), (List.forall_mem_cons.mpr ⟨kt_4 (List.mem_of_getElem? (i := 55) rfl), (List.forall_mem_cons.mpr ⟨kt_4 (List.mem_of_getElem? (i := 56) rfl), (List.forall_mem_cons.mpr ⟨kt_4 (List.mem_of_getElem? (i := 33) rfl), (List.forall_mem_cons.mpr ⟨kt_2 (List.mem_of_getElem? (i := 151) rfl), (List.forall_mem_cons.mpr ⟨kt_2 (List.mem_of_getElem? (i := 154) rfl), (List.forall_mem_cons.mpr ⟨kt_2 (List.mem_of_getElem? (i := 163) rfl), (List.forall_mem_cons.mpr ⟨kt_2 (List.mem_of_getElem? (i := 185) rfl), (List.forall_mem_cons.mpr ⟨kt_2 (List.mem_of_getElem? (i := 187) rfl), (List.forall_mem_cons.mpr ⟨kt_2 (List.mem_of_getElem? (i := 158) rfl), (fun _ h => absurd h List.not_mem_nil)⟩)⟩)⟩)⟩)⟩)⟩)⟩)⟩)⟩)⟩)⟩)⟩)⟩)⟩)⟩)⟩)⟩)⟩)⟩)⟩)
def kw_m2 : List (Nat × Nat × Nat × Nat) := [(3, 70, 172, 1), (3, 84, 196, 0), (3, 87, 201, 0), (3, 91, 202, 0), (4, 38, 175, 1), (4, 47, 212, 0), (4, 51, 208, 0), (4, 55, 206, 0), (4, 58, 207, 0), (4, 61, 232, 1), (4, 67, 210, 0), (5, 58, 171, 1), (5, 64, 216, 0), (5, 68, 169, 1), (5, 72, 217, 0), (5, 76, 215, 0), (5, 79, 221, 1), (5, 83, 222, 1), (5, 87, 223, 1), (5, 91, 224, 1)]
set_option maxRecDepth 100000 in
theorem kw_m2_ok : ∀ e ∈ kw_m2, (match e.2.2.2 with | 2 => Cond.methodLinkNest (kn_o e.1) e.2.1 (kn_y e.2.2.1) RX6 | _ => Cond.methodLink (kn_o e.1) e.2.1 (kn_y e.2.2.1)) ∈ lw_tbl := (List.forall_mem_cons.mpr ⟨kt_3 (List.mem_of_getElem? (i := 44) rfl), (List.forall_mem_cons.mpr ⟨kt_3 (List.mem_of_getElem? (i := 196) rfl), (List.forall_mem_cons.mpr ⟨kt_3 (List.mem_of_getElem? (i := 204) rfl), (List.forall_mem_cons.mpr ⟨kt_3 (List.mem_of_getElem? (i := 208) rfl), (List.forall_mem_cons.mpr ⟨kt_3 (List.mem_of_getElem? (i := 3) rfl), (List.forall_mem_cons.mpr ⟨kt_3 (List.mem_of_getElem? (i := 7) rfl), (List.forall_mem_cons.mpr ⟨kt_3 (List.mem_of_getElem? (i := 11) rfl), (List.forall_mem_cons.mpr ⟨kt_3 (List.mem_of_getElem? (i := 15) rfl), (List.forall_mem_cons.mpr ⟨kt_3 (List.mem_of_getElem? (i := 19) rfl), (List.forall_mem_cons.mpr ⟨kt_3 (List.mem_of_getElem? (i := 23) rfl), (List.forall_mem_cons.mpr ⟨kt_3 (List.mem_of_getElem? (i := 146) rfl), (List.forall_mem_cons.mpr ⟨kt_2 (List.mem_of_getElem? (i := 43) rfl), (List.forall_mem_cons.mpr ⟨kt_2 (List.mem_of_getElem? (i := 104) rfl), (List.forall_mem_cons.mpr ⟨kt_2 (List.mem_of_getElem? (i := 105) rfl), (List.forall_mem_cons.mpr ⟨kt_2 (List.mem_of_getElem? (i := 108) rfl), (List.forall_mem_cons.mpr ⟨kt_2 (List.mem_of_getElem? (i := 118) rfl), (List.forall_mem_cons.mpr ⟨kt_2 (List.mem_of_getElem? (i := 122) rfl), (List.forall_mem_cons.mpr ⟨kt_2 (List.mem_of_getElem? (i := 128) rfl), (List.forall_mem_cons.mpr ⟨kt_2 (List.mem_of_getElem? (i := 132) rfl), (List.forall_mem_cons.mpr ⟨kt_2 (List.mem_of_getElem? (i := 135) rfl), (fun _ h => absurd h List.not_mem_nil)⟩)⟩)⟩)⟩)⟩)⟩)⟩)⟩)⟩)⟩)⟩)⟩)⟩)⟩)⟩)⟩)⟩)⟩)⟩)⟩)
def kw_m3 : List (Nat × Nat × Nat × Nat) := [(5, 102, 173, 1), (5, 106, 228, 0), (5, 110, 174, 1), (5, 114, 230, 0), (5, 118, 172, 1), (5, 121, 229, 0), (6, 78, 37, 1), (6, 82, 43, 0), (6, 89, 44, 0), (6, 92, 216, 0), (6, 96, 46, 0), (6, 102, 217, 0), (6, 106, 39, 0), (6, 110, 38, 0), (6, 120, 170, 1), (6, 126, 171, 1), (6, 137, 218, 0), (6, 140, 219, 0), (6, 145, 220, 0), (6, 149, 48, 0)]
set_option maxRecDepth 100000 in
theorem kw_m3_ok : ∀ e ∈ kw_m3, (match e.2.2.2 with | 2 => Cond.methodLinkNest (kn_o e.1) e.2.1 (kn_y e.2.2.1) RX6 | _ => Cond.methodLink (kn_o e.1) e.2.1 (kn_y e.2.2.1)) ∈ lw_tbl := (List.forall_mem_cons.mpr ⟨kt_2 (List.mem_of_getElem? (i := 167) rfl), (List.forall_mem_cons.mpr ⟨kt_2 (List.mem_of_getElem? (i := 171) rfl), (List.forall_mem_cons.mpr ⟨kt_2 (List.mem_of_getElem? (i := 175) rfl), (List.forall_mem_cons.mpr ⟨kt_2 (List.mem_of_getElem? (i := 178) rfl), (List.forall_mem_cons.mpr ⟨kt_2 (List.mem_of_getElem? (i := 182) rfl), (List.forall_mem_cons.mpr ⟨kt_3 (List.mem_of_getElem? (i := 183) rfl), (List.forall_mem_cons.mpr ⟨kt_2 (List.mem_of_getElem? (i := 17) rfl), (List.forall_mem_cons.mpr ⟨kt_2 (List.mem_of_getElem? (i := 20) rfl), (List.forall_mem_cons.mpr ⟨kt_2 (List.mem_of_getElem? (i := 24) rfl), (List.forall_mem_cons.mpr ⟨kt_2 (List.mem_of_getElem? (i := 39) rfl), (List.forall_mem_cons.mpr ⟨kt_2 (List.mem_of_getElem? (i := 48) rfl), (List.forall_mem_cons.mpr ⟨kt_2 (List.mem_of_getElem? (i := 64) rfl), (List.forall_mem_cons.mpr ⟨kt_2 (List.mem_of_getElem? (i := 72) rfl), (List.forall_mem_cons.mpr ⟨kt_2 (List.mem_of_getElem? (i := 76) rfl), (List.forall_mem_cons.mpr ⟨kt_2 (List.mem_of_getElem? (i := 80) rfl), (List.forall_mem_cons.mpr ⟨kt_2 (List.mem_of_getElem? (i := 83) rfl), (List.forall_mem_cons.mpr ⟨kt_2 (List.mem_of_getElem? (i := 96) rfl), (List.forall_mem_cons.mpr ⟨kt_2 (List.mem_of_getElem? (i := 100) rfl), (List.forall_mem_cons.mpr ⟨kt_2 (List.mem_of_getElem? (i := 114) rfl), (List.forall_mem_cons.mpr ⟨kt_2 (List.mem_of_getElem? (i := 138) rfl), (fun _ h => absurd h List.not_mem_nil)⟩)⟩)⟩)⟩)⟩)⟩)⟩)⟩)⟩)⟩)⟩)⟩)⟩)⟩)⟩)⟩)⟩)⟩)⟩)⟩)
def kw_m4 : List (Nat × Nat × Nat × Nat) := [(6, 156, 215, 0), (6, 168, 49, 0), (6, 171, 161, 0), (6, 175, 194, 0), (6, 178, 195, 0), (6, 181, 212, 0), (6, 185, 172, 1), (6, 188, 50, 0), (6, 191, 228, 0), (6, 195, 229, 0), (6, 198, 51, 0), (6, 201, 213, 0), (6, 205, 169, 1), (6, 210, 159, 0), (6, 214, 160, 0), (6, 224, 210, 0), (6, 227, 42, 0), (6, 230, 41, 0), (6, 233, 208, 0), (6, 236, 209, 0)]
set_option maxRecDepth 100000 in
theorem kw_m4_ok : ∀ e ∈ kw_m4, (match e.2.2.2 with | 2 => Cond.methodLinkNest (kn_o e.1) e.2.1 (kn_y e.2.2.1) RX6 | _ => Cond.methodLink (kn_o e.1) e.2.1 (kn_y e.2.2.1)) ∈ lw_tbl := (List.forall_mem_cons.mpr ⟨kt_2 (List.mem_of_getElem? (i := 195) rfl), (List.forall_mem_cons.mpr ⟨kt_2 (List.mem_of_getElem? (i := 200) rfl), (List.forall_mem_cons.mpr ⟨kt_3 (List.mem_of_getElem? (i := 29) rfl), (List.forall_mem_cons.mpr ⟨kt_3 (List.mem_of_getElem? (i := 40) rfl), (List.forall_mem_cons.mpr ⟨kt_3 (List.mem_of_getElem? (i := 48) rfl), (List.forall_mem_cons.mpr ⟨kt_3 (List.mem_of_getElem? (i := 61) rfl), (List.forall_mem_cons.mpr ⟨kt_3 (List.mem_of_getElem? (i := 62) rfl), (List.forall_mem_cons.mpr ⟨kt_3 (List.mem_of_getElem? (i := 67) rfl), (List.forall_mem_cons.mpr ⟨kt_3 (List.mem_of_getElem? (i := 72) rfl), (List.forall_mem_cons.mpr ⟨kt_3 (List.mem_of_getElem? (i := 71) rfl), (List.forall_mem_cons.mpr ⟨kt_3 (List.mem_of_getElem? (i := 82) rfl), (List.forall_mem_cons.mpr ⟨kt_2 (List.mem_of_getElem? (i := 142) rfl), (List.forall_mem_cons.mpr ⟨kt_3 (List.mem_of_getElem? (i := 94) rfl), (List.forall_mem_cons.mpr ⟨kt_3 (List.mem_of_getElem? (i := 111) rfl), (List.forall_mem_cons.mpr ⟨kt_3 (List.mem_of_getElem? (i := 116) rfl), (List.forall_mem_cons.mpr ⟨kt_3 (List.mem_of_getElem? (i := 125) rfl), (List.forall_mem_cons.mpr ⟨kt_3 (List.mem_of_getElem? (i := 129) rfl), (List.forall_mem_cons.mpr ⟨kt_3 (List.mem_of_getElem? (i := 137) rfl), (List.forall_mem_cons.mpr ⟨kt_3 (List.mem_of_getElem? (i := 141) rfl), (List.forall_mem_cons.mpr ⟨kt_3 (List.mem_of_getElem? (i := 142) rfl), (fun _ h => absurd h List.not_mem_nil)⟩)⟩)⟩)⟩)⟩)⟩)⟩)⟩)⟩)⟩)⟩)⟩)⟩)⟩)⟩)⟩)⟩)⟩)⟩)⟩)
def kw_m5 : List (Nat × Nat × Nat × Nat) := [(6, 242, 225, 0), (6, 246, 227, 0), (6, 249, 40, 0), (6, 252, 226, 0), (6, 261, 231, 0), (6, 266, 190, 0), (6, 270, 199, 0), (6, 273, 198, 0), (6, 276, 200, 0), (6, 280, 203, 0), (6, 283, 197, 0), (6, 289, 176, 1), (6, 299, 196, 0), (6, 302, 193, 0), (6, 306, 204, 0), (6, 316, 211, 0), (6, 320, 177, 0), (6, 326, 45, 0), (6, 329, 47, 0), (6, 336, 35, 0)]
set_option maxRecDepth 100000 in
theorem kw_m5_ok : ∀ e ∈ kw_m5, (match e.2.2.2 with | 2 => Cond.methodLinkNest (kn_o e.1) e.2.1 (kn_y e.2.2.1) RX6 | _ => Cond.methodLink (kn_o e.1) e.2.1 (kn_y e.2.2.1)) ∈ lw_tbl := (List.forall_mem_cons.mpr ⟨kt_3 (List.mem_of_getElem? (i := 151) rfl), (List.forall_mem_cons.mpr ⟨kt_3 (List.mem_of_getElem? (i := 159) rfl), (List.forall_mem_cons.mpr ⟨kt_3 (List.mem_of_getElem? (i := 167) rfl), (List.forall_mem_cons.mpr ⟨kt_3 (List.mem_of_getElem? (i := 171) rfl), (List.forall_mem_cons.mpr ⟨kt_3 (List.mem_of_getElem? (i := 179) rfl), (List.forall_mem_cons.mpr ⟨kt_2 (List.mem_of_getElem? (i := 147) rfl), (List.forall_mem_cons.mpr ⟨kt_3 (List.mem_of_getElem? (i := 188) rfl), (List.forall_mem_cons.mpr ⟨kt_3 (List.mem_of_getElem? (i := 192) rfl), (List.forall_mem_cons.mpr ⟨kt_3 (List.mem_of_getElem? (i := 200) rfl), (List.forall_mem_cons.mpr ⟨kt_3 (List.mem_of_getElem? (i := 212) rfl), (List.forall_mem_cons.mpr ⟨kt_3 (List.mem_of_getElem? (i := 216) rfl), (List.forall_mem_cons.mpr ⟨kt_3 (List.mem_of_getElem? (i := 224) rfl), (List.forall_mem_cons.mpr ⟨kt_3 (List.mem_of_getElem? (i := 228) rfl), (List.forall_mem_cons.mpr ⟨kt_3 (List.mem_of_getElem? (i := 73) rfl), (List.forall_mem_cons.mpr ⟨kt_3 (List.mem_of_getElem? (i := 233) rfl), (List.forall_mem_cons.mpr ⟨kt_2 (List.mem_of_getElem? (i := 32) rfl), (List.forall_mem_cons.mpr ⟨kt_4 (List.mem_of_getElem? (i := 9) rfl), (List.forall_mem_cons.mpr ⟨kt_2 (List.mem_of_getElem? (i := 28) rfl), (List.forall_mem_cons.mpr ⟨kt_2 (List.mem_of_getElem? (i := 56) rfl), (List.forall_mem_cons.mpr ⟨kt_4 (List.mem_of_getElem? (i := 85) rfl), (fun _ h => absurd h List.not_mem_nil)⟩)⟩)⟩)⟩)⟩)⟩)⟩)⟩)⟩)⟩)⟩)⟩)⟩)⟩)⟩)⟩)⟩)⟩)⟩)⟩)
def kw_m6 : List (Nat × Nat × Nat × Nat) := [(6, 339, 8, 0), (6, 342, 10, 0), (6, 345, 27, 0), (6, 348, 28, 0), (6, 351, 18, 0), (6, 354, 21, 0), (6, 357, 214, 0), (6, 360, 162, 0), (6, 363, 205, 0), (7, 76, 52, 1), (7, 86, 54, 0), (7, 90, 56, 0), (7, 93, 59, 0), (7, 96, 61, 1), (7, 100, 60, 1), (7, 104, 62, 1), (7, 107, 58, 0), (7, 111, 57, 0), (7, 114, 68, 1), (7, 131, 70, 0)]
set_option maxRecDepth 100000 in
theorem kw_m6_ok : ∀ e ∈ kw_m6, (match e.2.2.2 with | 2 => Cond.methodLinkNest (kn_o e.1) e.2.1 (kn_y e.2.2.1) RX6 | _ => Cond.methodLink (kn_o e.1) e.2.1 (kn_y e.2.2.1)) ∈ lw_tbl := (List.forall_mem_cons.mpr ⟨kt_4 (List.mem_of_getElem? (i := 86) rfl), (List.forall_mem_cons.mpr ⟨kt_4 (List.mem_of_getElem? (i := 87) rfl), (List.forall_mem_cons.mpr ⟨kt_4 (List.mem_of_getElem? (i := 88) rfl), (List.forall_mem_cons.mpr ⟨kt_4 (List.mem_of_getElem? (i := 89) rfl), (List.forall_mem_cons.mpr ⟨kt_4 (List.mem_of_getElem? (i := 90) rfl), (List.forall_mem_cons.mpr ⟨kt_4 (List.mem_of_getElem? (i := 91) rfl), (List.forall_mem_cons.mpr ⟨kt_2 (List.mem_of_getElem? (i := 52) rfl), (List.forall_mem_cons.mpr ⟨kt_2 (List.mem_of_getElem? (i := 204) rfl), (List.forall_mem_cons.mpr ⟨kt_2 (List.mem_of_getElem? (i := 239) rfl), (List.forall_mem_cons.mpr ⟨kt_4 (List.mem_of_getElem? (i := 194) rfl), (List.forall_mem_cons.mpr ⟨kt_4 (List.mem_of_getElem? (i := 197) rfl), (List.forall_mem_cons.mpr ⟨kt_4 (List.mem_of_getElem? (i := 201) rfl), (List.forall_mem_cons.mpr ⟨kt_4 (List.mem_of_getElem? (i := 205) rfl), (List.forall_mem_cons.mpr ⟨kt_4 (List.mem_of_getElem? (i := 209) rfl), (List.forall_mem_cons.mpr ⟨kt_4 (List.mem_of_getElem? (i := 212) rfl), (List.forall_mem_cons.mpr ⟨kt_4 (List.mem_of_getElem? (i := 219) rfl), (List.forall_mem_cons.mpr ⟨kt_4 (List.mem_of_getElem? (i := 226) rfl), (List.forall_mem_cons.mpr ⟨kt_4 (List.mem_of_getElem? (i := 230) rfl), (List.forall_mem_cons.mpr ⟨kt_5 (List.mem_of_getElem? (i := 6) rfl), (List.forall_mem_cons.mpr ⟨kt_5 (List.mem_of_getElem? (i := 14) rfl), (fun _ h => absurd h List.not_mem_nil)⟩)⟩)⟩)⟩)⟩)⟩)⟩)⟩)⟩)⟩)⟩)⟩)⟩)⟩)⟩)⟩)⟩)⟩)⟩)⟩)
def kw_m7 : List (Nat × Nat × Nat × Nat) := [(7, 135, 78, 1), (7, 139, 86, 0), (7, 146, 74, 0), (7, 152, 53, 1), (7, 156, 76, 1), (7, 160, 79, 0), (7, 163, 82, 0), (7, 167, 81, 0), (7, 170, 83, 0), (7, 174, 84, 0), (7, 178, 85, 0), (7, 182, 88, 0), (7, 185, 89, 0), (7, 188, 77, 0), (7, 192, 91, 0), (7, 195, 55, 0), (7, 198, 94, 0), (7, 202, 93, 0), (7, 205, 96, 0), (7, 208, 80, 0)]
set_option maxRecDepth 100000 in
theorem kw_m7_ok : ∀ e ∈ kw_m7, (match e.2.2.2 with | 2 => Cond.methodLinkNest (kn_o e.1) e.2.1 (kn_y e.2.2.1) RX6 | _ => Cond.methodLink (kn_o e.1) e.2.1 (kn_y e.2.2.1)) ∈ lw_tbl := (List.forall_mem_cons.mpr ⟨kt_5 (List.mem_of_getElem? (i := 22) rfl), (List.forall_mem_cons.mpr ⟨kt_5 (List.mem_of_getElem? (i := 25) rfl), (List.forall_mem_cons.mpr ⟨kt_5 (List.mem_of_getElem? (i := 72) rfl), (List.forall_mem_cons.mpr ⟨kt_5 (List.mem_of_getElem? (i := 49) rfl), (List.forall_mem_cons.mpr ⟨kt_5 (List.mem_of_getElem? (i := 37) rfl), (List.forall_mem_cons.mpr ⟨kt_5 (List.mem_of_getElem? (i := 45) rfl), (List.forall_mem_cons.mpr ⟨kt_5 (List.mem_of_getElem? (i := 52) rfl), (List.forall_mem_cons.mpr ⟨kt_5 (List.mem_of_getElem? (i := 33) rfl), (List.forall_mem_cons.mpr ⟨kt_5 (List.mem_of_getElem? (i := 41) rfl), (List.forall_mem_cons.mpr ⟨kt_5 (List.mem_of_getElem? (i := 29) rfl), (List.forall_mem_cons.mpr ⟨kt_5 (List.mem_of_getElem? (i := 56) rfl), (List.forall_mem_cons.mpr ⟨kt_6 (List.mem_of_getElem? (i := 49) rfl), (List.forall_mem_cons.mpr ⟨kt_6 (List.mem_of_getElem? (i := 45) rfl), (List.forall_mem_cons.mpr ⟨kt_5 (List.mem_of_getElem? (i := 84) rfl), (List.forall_mem_cons.mpr ⟨kt_5 (List.mem_of_getElem? (i := 80) rfl), (List.forall_mem_cons.mpr ⟨kt_5 (List.mem_of_getElem? (i := 92) rfl), (List.forall_mem_cons.mpr ⟨kt_5 (List.mem_of_getElem? (i := 96) rfl), (List.forall_mem_cons.mpr ⟨kt_5 (List.mem_of_getElem? (i := 100) rfl), (List.forall_mem_cons.mpr ⟨kt_5 (List.mem_of_getElem? (i := 108) rfl), (List.forall_mem_cons.mpr ⟨kt_5 (List.mem_of_getElem? (i := 116) rfl), (fun _ h => absurd h List.not_mem_nil)⟩)⟩)⟩)⟩)⟩)⟩)⟩)⟩)⟩)⟩)⟩)⟩)⟩)⟩)⟩)⟩)⟩)⟩)⟩)⟩)
def kw_m8 : List (Nat × Nat × Nat × Nat) := [(7, 211, 102, 1), (7, 215, 103, 0), (7, 218, 105, 0), (7, 222, 104, 0), (7, 226, 106, 0), (7, 229, 107, 1), (7, 235, 108, 0), (7, 238, 109, 0), (7, 241, 112, 0), (7, 245, 87, 0), (7, 248, 114, 0), (7, 251, 115, 0), (7, 255, 119, 0), (7, 258, 117, 0), (7, 261, 118, 0), (7, 267, 121, 0), (7, 270, 122, 0), (7, 273, 120, 0), (7, 276, 124, 0), (7, 279, 125, 0)]
set_option maxRecDepth 100000 in
theorem kw_m8_ok : ∀ e ∈ kw_m8, (match e.2.2.2 with | 2 => Cond.methodLinkNest (kn_o e.1) e.2.1 (kn_y e.2.2.1) RX6 | _ => Cond.methodLink (kn_o e.1) e.2.1 (kn_y e.2.2.1)) ∈ lw_tbl := (List.forall_mem_cons.mpr ⟨kt_5 (List.mem_of_getElem? (i := 152) rfl), (List.forall_mem_cons.mpr ⟨kt_5 (List.mem_of_getElem? (i := 148) rfl), (List.forall_mem_cons.mpr ⟨kt_5 (List.mem_of_getElem? (i := 155) rfl), (List.forall_mem_cons.mpr ⟨kt_5 (List.mem_of_getElem? (i := 159) rfl), (List.forall_mem_cons.mpr ⟨kt_5 (List.mem_of_getElem? (i := 144) rfl), (List.forall_mem_cons.mpr ⟨kt_5 (List.mem_of_getElem? (i := 163) rfl), (List.forall_mem_cons.mpr ⟨kt_5 (List.mem_of_getElem? (i := 140) rfl), (List.forall_mem_cons.mpr ⟨kt_5 (List.mem_of_getElem? (i := 136) rfl), (List.forall_mem_cons.mpr ⟨kt_5 (List.mem_of_getElem? (i := 174) rfl), (List.forall_mem_cons.mpr ⟨kt_5 (List.mem_of_getElem? (i := 190) rfl), (List.forall_mem_cons.mpr ⟨kt_5 (List.mem_of_getElem? (i := 182) rfl), (List.forall_mem_cons.mpr ⟨kt_5 (List.mem_of_getElem? (i := 186) rfl), (List.forall_mem_cons.mpr ⟨kt_5 (List.mem_of_getElem? (i := 222) rfl), (List.forall_mem_cons.mpr ⟨kt_5 (List.mem_of_getElem? (i := 202) rfl), (List.forall_mem_cons.mpr ⟨kt_5 (List.mem_of_getElem? (i := 206) rfl), (List.forall_mem_cons.mpr ⟨kt_5 (List.mem_of_getElem? (i := 210) rfl), (List.forall_mem_cons.mpr ⟨kt_5 (List.mem_of_getElem? (i := 198) rfl), (List.forall_mem_cons.mpr ⟨kt_5 (List.mem_of_getElem? (i := 218) rfl), (List.forall_mem_cons.mpr ⟨kt_5 (List.mem_of_getElem? (i := 226) rfl), (List.forall_mem_cons.mpr ⟨kt_5 (List.mem_of_getElem? (i := 230) rfl), (fun _ h => absurd h List.not_mem_nil)⟩)⟩)⟩)⟩)⟩)⟩)⟩)⟩)⟩)⟩)⟩)⟩)⟩)⟩)⟩)⟩)⟩)⟩)⟩)⟩)
def kw_m9 : List (Nat × Nat × Nat × Nat) := [(7, 282, 128, 1), (7, 286, 130, 0), (7, 289, 133, 0), (7, 292, 134, 0), (7, 295, 137, 0), (7, 299, 90, 0), (7, 302, 136, 0), (7, 305, 138, 0), (7, 310, 141, 0), (7, 322, 145, 0), (7, 325, 146, 0), (7, 328, 147, 0), (7, 331, 149, 0), (7, 334, 148, 0), (7, 337, 150, 0), (7, 340, 151, 0), (7, 343, 152, 0), (7, 346, 153, 0), (7, 349, 156, 0)]
set_option maxRecDepth 100000 in
theorem kw_m9_ok : ∀ e ∈ kw_m9, (match e.2.2.2 with | 2 => Cond.methodLinkNest (kn_o e.1) e.2.1 (kn_y e.2.2.1) RX6 | _ => Cond.methodLink (kn_o e.1) e.2.1 (kn_y e.2.2.1)) ∈ lw_tbl := (List.forall_mem_cons.mpr ⟨kt_6 (List.mem_of_getElem? (i := 2) rfl), (List.forall_mem_cons.mpr ⟨kt_6 (List.mem_of_getElem? (i := 9) rfl), (List.forall_mem_cons.mpr ⟨kt_6 (List.mem_of_getElem? (i := 21) rfl), (List.forall_mem_cons.mpr ⟨kt_6 (List.mem_of_getElem? (i := 25) rfl), (List.forall_mem_cons.mpr ⟨kt_6 (List.mem_of_getElem? (i := 37) rfl), (List.forall_mem_cons.mpr ⟨kt_6 (List.mem_of_getElem? (i := 41) rfl), (List.forall_mem_cons.mpr ⟨kt_6 (List.mem_of_getElem? (i := 53) rfl), (List.forall_mem_cons.mpr ⟨kt_6 (List.mem_of_getElem? (i := 33) rfl), (List.forall_mem_cons.mpr ⟨kt_6 (List.mem_of_getElem? (i := 66) rfl), (List.forall_mem_cons.mpr ⟨kt_6 (List.mem_of_getElem? (i := 82) rfl), (List.forall_mem_cons.mpr ⟨kt_6 (List.mem_of_getElem? (i := 90) rfl), (List.forall_mem_cons.mpr ⟨kt_6 (List.mem_of_getElem? (i := 106) rfl), (List.forall_mem_cons.mpr ⟨kt_6 (List.mem_of_getElem? (i := 102) rfl), (List.forall_mem_cons.mpr ⟨kt_6 (List.mem_of_getElem? (i := 94) rfl), (List.forall_mem_cons.mpr ⟨kt_6 (List.mem_of_getElem? (i := 98) rfl), (List.forall_mem_cons.mpr ⟨kt_6 (List.mem_of_getElem? (i := 110) rfl), (List.forall_mem_cons.mpr ⟨kt_6 (List.mem_of_getElem? (i := 114) rfl), (List.forall_mem_cons.mpr ⟨kt_6 (List.mem_of_getElem? (i := 86) rfl), (List.forall_mem_cons.mpr ⟨kt_6 (List.mem_of_getElem? (i := 126) rfl), (fun _ h => absurd h List.not_mem_nil)⟩)⟩)⟩)⟩)⟩)⟩)⟩)⟩)⟩)⟩)⟩)⟩)⟩)⟩)⟩)⟩)⟩)⟩)⟩)
def kw_m : List (Nat × Nat × Nat × Nat) := kw_m0 ++ kw_m1 ++ kw_m2 ++ kw_m3 ++ kw_m4 ++ kw_m5 ++ kw_m6 ++ kw_m7 ++ kw_m8 ++ kw_m9
theorem kw_m_ok : ∀ e ∈ kw_m, (match e.2.2.2 with | 2 => Cond.methodLinkNest (kn_o e.1) e.2.1 (kn_y e.2.2.1) RX6 | _ => Cond.methodLink (kn_o e.1) e.2.1 (kn_y e.2.2.1)) ∈ lw_tbl := (List.forall_mem_append.mpr ⟨(List.forall_mem_append.mpr ⟨(List.forall_mem_append.mpr ⟨(List.forall_mem_append.mpr ⟨(List.forall_mem_append.mpr ⟨(List.forall_mem_append.mpr ⟨(List.forall_mem_append.mpr ⟨(List.forall_mem_append.mpr ⟨(List.forall_mem_append.mpr ⟨kw_m0_ok, kw_m1_ok⟩), kw_m2_ok⟩), kw_m3_ok⟩), kw_m4_ok⟩), kw_m5_ok⟩), kw_m6_ok⟩), kw_m7_ok⟩), kw_m8_ok⟩), kw_m9_ok⟩)
def kw_a0 : List (Nat × Nat) := [(5, 52)]
set_option maxRecDepth 100000 in
theorem kw_a0_ok : ∀ e ∈ kw_a0, (Cond.methodLink (kn_o e.1) e.2 arraycopyName) ∈ lw_tbl := (List.forall_mem_cons.mpr ⟨kt_2 (List.mem_of_getElem? (i := 36) rfl), (fun _ h => absurd h List.not_mem_nil)⟩)
def kw_a : List (Nat × Nat) := kw_a0
theorem kw_a_ok : ∀ e ∈ kw_a, (Cond.methodLink (kn_o e.1) e.2 arraycopyName) ∈ lw_tbl := kw_a0_ok
theorem kw_an : ∀ w ∈ [Cond.native arraycopyName, Cond.static arraycopyName, Cond.initialized "java/lang/System"], w ∈ lw_tbl := (List.forall_mem_cons.mpr ⟨kt_2 (List.mem_of_getElem? (i := 38) rfl), (List.forall_mem_cons.mpr ⟨kt_2 (List.mem_of_getElem? (i := 37) rfl), (List.forall_mem_cons.mpr ⟨kt_1 (List.mem_of_getElem? (i := 8) rfl), (fun _ h => absurd h List.not_mem_nil)⟩)⟩)⟩)
theorem kw_ov : Cond.arrayOver (.array .long) ∈ lw_tbl := kt_1 (List.mem_of_getElem? (i := 130) rfl)
def kw_x0 : List (Nat × Nat × Nat) := [(0, 51, 21), (3, 75, 20), (3, 81, 21)]
set_option maxRecDepth 100000 in
theorem kw_x0_ok : ∀ e ∈ kw_x0, (Cond.methodLink (kn_o e.1) e.2.1 (match e.2.2 with | 20 => Lib.Math.max.name | _ => Lib.Math.min.name)) ∈ lw_tbl := (List.forall_mem_cons.mpr ⟨kt_3 (List.mem_of_getElem? (i := 37) rfl), (List.forall_mem_cons.mpr ⟨kt_3 (List.mem_of_getElem? (i := 45) rfl), (List.forall_mem_cons.mpr ⟨kt_3 (List.mem_of_getElem? (i := 52) rfl), (fun _ h => absurd h List.not_mem_nil)⟩)⟩)⟩)
def kw_x : List (Nat × Nat × Nat) := kw_x0
theorem kw_x_ok : ∀ e ∈ kw_x, (Cond.methodLink (kn_o e.1) e.2.1 (match e.2.2 with | 20 => Lib.Math.max.name | _ => Lib.Math.min.name)) ∈ lw_tbl := kw_x0_ok
theorem kw_xn : ∀ w ∈ [Cond.static Lib.Math.max.name, Cond.static Lib.Math.min.name, Cond.initialized "java/lang/Math", Cond.code Lib.Math.max.name Lib.Math.max.code 2 (some .int), Cond.code Lib.Math.min.name Lib.Math.min.code 2 (some .int)], w ∈ lw_tbl := (List.forall_mem_cons.mpr ⟨kt_3 (List.mem_of_getElem? (i := 46) rfl), (List.forall_mem_cons.mpr ⟨kt_3 (List.mem_of_getElem? (i := 38) rfl), (List.forall_mem_cons.mpr ⟨kt_1 (List.mem_of_getElem? (i := 12) rfl), (List.forall_mem_cons.mpr ⟨kt_3 (List.mem_of_getElem? (i := 47) rfl), (List.forall_mem_cons.mpr ⟨kt_3 (List.mem_of_getElem? (i := 39) rfl), (fun _ h => absurd h List.not_mem_nil)⟩)⟩)⟩)⟩)⟩)
end
section
/-! THE SIMULATION, straight instructions: an effect of the abstract machine is a step of the machine -/
/-- the room of a method that calls h deep -/
def kR (h : Nat) : Room := { frames := h, cells := 0, slots := 0, locals := 40 * h }
/-- what is decided of an instruction: its length and what its operands mean, in class oc, at pc, in a method that calls h deep -/
def kI_c (oc h pc : Nat) : km_I → Bool
  | (i, n, x, y, z, c, w, t) => match i with
    | .iconst k => Nat.beq n 1 && decide (Int32.ofInt k = c)
    | .bipush k => Nat.beq n 2 && decide ((Int8.ofInt k).toInt32 = c)
    | .sipush k => Nat.beq n 3 && decide ((Int16.ofInt k).toInt32 = c)
    | .ldc k => Nat.beq n 2 && decide ((oc, k, c) ∈ kw_c)
    | .ldc_w k => Nat.beq n 3 && decide ((oc, k, c) ∈ kw_c)
    | .lconst k => Nat.beq n 1 && decide (Int64.ofNat (k : Nat) = w)
    | .ldc2_w k => Nat.beq n 3 && decide ((oc, k, w) ∈ kw_l)
    | .iload k => Nat.beq n 2 && Nat.beq k x
    | .lload k => Nat.beq n 2 && Nat.beq k x
    | .aload k => Nat.beq n 2 && Nat.beq k x
    | .istore k => Nat.beq n 2 && Nat.beq k x
    | .lstore k => Nat.beq n 2 && Nat.beq k x
    | .astore k => Nat.beq n 2 && Nat.beq k x
    | .iload_n k => Nat.beq n 1 && Nat.beq (k : Nat) x
    | .lload_n k => Nat.beq n 1 && Nat.beq (k : Nat) x
    | .aload_n k => Nat.beq n 1 && Nat.beq (k : Nat) x
    | .istore_n k => Nat.beq n 1 && Nat.beq (k : Nat) x
    | .lstore_n k => Nat.beq n 1 && Nat.beq (k : Nat) x
    | .astore_n k => Nat.beq n 1 && Nat.beq (k : Nat) x
    | .iinc k d => Nat.beq n 3 && Nat.beq k x && decide (Int32.ofInt d = c)
    | .getfield k => Nat.beq n 3 && decide ((oc, k, x, y) ∈ kw_f) && Nat.beq (kv_ft x y) z && Nat.blt x 7 && Nat.blt y (kv_ct x)
    | .putfield k => Nat.beq n 3 && decide ((oc, k, x, y) ∈ kw_f) && Nat.beq (kv_ft x y) z && Nat.blt x 7 && Nat.blt y (kv_ct x) && !((kn_at x).2.1 y).2.2.2 && (match z with
      | 0 => decide (parseFieldDescriptor ((kn_at x).2.1 y).2.2.1 = some .int)
      | 1 => decide (parseFieldDescriptor ((kn_at x).2.1 y).2.2.1 = some .long)
      | 3 => decide (parseFieldDescriptor ((kn_at x).2.1 y).2.2.1 = some .boolean)
      | _ => decide (parseFieldDescriptor ((kn_at x).2.1 y).2.2.1 = some (.array .int)) || decide (parseFieldDescriptor ((kn_at x).2.1 y).2.2.1 = some (.array (.array .long))))
    | .invokestatic k => Nat.beq n 3 && Nat.blt 0 h && (match z with
      | 10 => decide ((oc, k) ∈ kw_a)
      | 11 => decide ((oc, k) ∈ kw_a)
      | 20 => decide ((oc, k, 20) ∈ kw_x)
      | 21 => decide ((oc, k, 21) ∈ kw_x)
      | _ => (decide ((oc, k, x, 1) ∈ kw_m) || decide ((oc, k, x, 2) ∈ kw_m)) && (match kn_m[x]? with
        | some q => Nat.beq q.2.2.2.2.2.1 y && q.2.2.2.2.2.2.1 && Nat.blt q.2.2.2.2.2.2.2 h
        | none => false))
    | .invokevirtual k => Nat.beq n 3 && decide ((oc, k, x, 0) ∈ kw_m) && (match kn_m[x]? with
        | some q => Nat.beq q.2.2.2.2.2.1 y && !q.2.2.2.2.2.2.1 && Nat.blt q.2.2.2.2.2.2.2 h && decide (q.1.cls = (kn_at z).1) && Nat.blt z 7 && Nat.blt 0 y
        | none => false)
    | .goto o => Nat.beq n 3 && decide ((pc : Int) + o = (x : Int))
    | .if_icmp _ o => Nat.beq n 3 && decide ((pc : Int) + o = (x : Int))
    | .ifCond _ o => Nat.beq n 3 && decide ((pc : Int) + o = (x : Int))
    | .tableswitch d lo hi offs => decide ((pc : Int) + d = (x : Int)) && decide (0 ≤ lo ∧ lo < 1000) && decide (hi + 1 = lo + (offs.size : Int)) && decide (t.length = offs.size) && Nat.blt offs.size 1000 && (List.range offs.size).all (fun j => match t[j]?, offs[j]? with
      | some (k, g), some o => decide (k = Int32.ofNat (lo.toNat + j)) && decide ((pc : Int) + o = (g : Int))
      | _, _ => false)
    | .lookupswitch d ps => decide ((pc : Int) + d = (x : Int)) && (ps.toList.zip (ps.toList.drop 1)).all (fun (a, next) => a.1 < next.1) && decide (t.length = ps.toList.length) && decide ((t.map Prod.fst).Nodup) && (t.zip ps.toList).all (fun e => decide (e.1.1.toInt = e.2.1) && decide ((pc : Int) + e.2.2 = (e.1.2 : Int)))
    | _ => Nat.beq n 1
theorem kn_at_ok : ∀ x, x < 7 → vwCl[x]? = some (kn_at x) := by
  intro x hx
  rcases (show x = 0 ∨ x = 1 ∨ x = 2 ∨ x = 3 ∨ x = 4 ∨ x = 5 ∨ x = 6 by omega) with rfl | rfl | rfl | rfl | rfl | rfl | rfl <;> rfl
theorem kn_at_ct : ∀ x, x < 7 → kv_ct x = (kn_at x).2.2 := by
  intro x hx
  rcases (show x = 0 ∨ x = 1 ∨ x = 2 ∨ x = 3 ∨ x = 4 ∨ x = 5 ∨ x = 6 by omega) with rfl | rfl | rfl | rfl | rfl | rfl | rfl <;> rfl
theorem kn_at_in : ∀ x, x < 7 → ∀ w ∈ u_ws (kn_at x).1 (kn_at x).2.1 (kn_at x).2.2, w ∈ lw_tbl := by
  intro x hx
  rcases (show x = 0 ∨ x = 1 ∨ x = 2 ∨ x = 3 ∨ x = 4 ∨ x = 5 ∨ x = 6 by omega) with rfl | rfl | rfl | rfl | rfl | rfl | rfl
  · exact kn_in0
  · exact kn_in2
  · exact kn_in3
  · exact kn_in4
  · exact kn_in5
  · exact kn_in6
  · exact kn_in7
/-- the words that last -/
def kw_gd : List Cond := lw_tbl.filter goodWord
theorem kw_g {w : Cond} (h : w ∈ lw_tbl) (hg : goodWord w = true) : w ∈ kw_gd := List.mem_filter.mpr ⟨h, hg⟩
theorem kw_good : GoodIn kw_gd kw_gd := fun w h => ⟨h, good_of_word (List.mem_filter.mp h).2⟩
theorem kn_at_gd : ∀ x, x < 7 → ∀ w ∈ u_ws (kn_at x).1 (kn_at x).2.1 (kn_at x).2.2, w ∈ kw_gd := by
  intro x hx w hw
  refine kw_g (kn_at_in x hx w hw) ?_
  obtain ⟨k, -, rfl⟩ := List.mem_map.mp hw
  unfold u_lay
  split <;> rfl
def kv_ty (x : Nat) : Nat → FieldType := kv_tfs.getD x tyX0
theorem kn_at_ty : ∀ x, x < 7 → ∀ k, k < (kn_at x).2.2 → parseFieldDescriptor ((kn_at x).2.1 k).2.2.1 = some (kv_ty x k) := by
  intro x hx
  rcases (show x = 0 ∨ x = 1 ∨ x = 2 ∨ x = 3 ∨ x = 4 ∨ x = 5 ∨ x = 6 by omega) with rfl | rfl | rfl | rfl | rfl | rfl | rfl
  · exact tyX0_ok
  · exact tyX2_ok
  · exact tyX3_ok
  · exact tyX4_ok
  · exact tyX5_ok
  · exact tyX6_ok
  · exact tyX7_ok
theorem kn_at_nm : ∀ x, x < 7 → ∀ a, a < (kn_at x).2.2 → ∀ b, b < (kn_at x).2.2 → a ≠ b → ((kn_at x).2.1 a).2.1 ≠ ((kn_at x).2.1 b).2.1 := by
  intro x hx
  rcases (show x = 0 ∨ x = 1 ∨ x = 2 ∨ x = 3 ∨ x = 4 ∨ x = 5 ∨ x = 6 by omega) with rfl | rfl | rfl | rfl | rfl | rfl | rfl
  · exact nmX0
  · exact nmX2
  · exact nmX3
  · exact nmX4
  · exact nmX5
  · exact nmX6
  · exact nmX7
section KE
variable {sh : Nat → Nat × Nat} {cy : kv_Y} {ad : Nat → Nat} {M M' : km_M} {a : Nat}
theorem kv_E_obj {ci : Nat} (h : (sh a).1 = ci) (hc : ci < 7) : kv_E sh cy ad M a = .inr (ci, kv_fs ad M a ci) := by
  unfold kv_E
  rw [h]
  rcases (show ci = 0 ∨ ci = 1 ∨ ci = 2 ∨ ci = 3 ∨ ci = 4 ∨ ci = 5 ∨ ci = 6 by omega) with rfl | rfl | rfl | rfl | rfl | rfl | rfl <;> rfl
theorem kv_E_10 (h : (sh a).1 = 10) : kv_E sh cy ad M a = .inl (cy.1, (sh a).2, .inl (M.1 a)) := by unfold kv_E; rw [h]; rfl
theorem kv_E_11 (h : (sh a).1 = 11) : kv_E sh cy ad M a = .inl (cy.2.1, (sh a).2, .inr (.inl (M.2.1 a))) := by unfold kv_E; rw [h]; rfl
theorem kv_E_12 (h : (sh a).1 = 12) : kv_E sh cy ad M a = .inl (cy.2.2.1, (sh a).2, .inl (M.1 a)) := by unfold kv_E; rw [h]; rfl
theorem kv_E_13 (h : (sh a).1 = 13) : kv_E sh cy ad M a = .inl (cy.2.2.2.1, (sh a).2, .inr (.inr (.inr (.inr (fun i => some (ad (M.2.2 a i))))))) := by unfold kv_E; rw [h]; rfl
theorem kv_E_14 (h : (sh a).1 = 14) : kv_E sh cy ad M a = .inl (cy.2.2.2.2, (sh a).2, .inr (.inr (.inr (.inr (fun i => some (ad (M.2.2 a i))))))) := by unfold kv_E; rw [h]; rfl
theorem kv_E_same (h1 : M'.1 a = M.1 a) (h2 : M'.2.1 a = M.2.1 a) (h3 : M'.2.2 a = M.2.2 a) : kv_E sh cy ad M' a = kv_E sh cy ad M a := by
  have hf : ∀ ci, kv_fs ad M' a ci = kv_fs ad M a ci := fun ci => by
    unfold kv_fs
    refine List.map_congr_left fun k _ => ?_
    unfold km_ld
    rw [h1, h2, h3]
  unfold kv_E
  simp only [h1, h2, h3, hf]
theorem km_up_ne {α : Type} {f : Nat → Nat → α} {b k : Nat} {v : α} (h : b ≠ a) : km_up f a k v b = f b := by
  funext j
  unfold km_up
  rw [if_neg (fun q => h q.1)]
theorem km_up_at {α : Type} {f : Nat → Nat → α} {k : Nat} {v : α} (j : Nat) : km_up f a k v a j = if j = k then v else f a j := by
  unfold km_up
  by_cases h : j = k
  · rw [if_pos ⟨rfl, h⟩, if_pos h]
  · rw [if_neg (fun q => h q.2), if_neg h]
theorem kv_fs_set {ci y : Nat} {v : Value} (hy : y < kv_ct ci) (hv : km_tr ad (km_ld (kv_ft ci y) M' a y) = v) (ho : ∀ k, k ≠ y → km_ld (kv_ft ci k) M' a k = km_ld (kv_ft ci k) M a k) : kv_fs ad M' a ci = (kv_fs ad M a ci).set y v := by
  apply List.ext_getElem?
  intro i
  by_cases hi : i = y
  · subst hi
    rw [List.getElem?_set_self (by unfold kv_fs; rw [List.length_map, List.length_range]; exact hy)]
    unfold kv_fs
    rw [List.getElem?_map, List.getElem?_range hy, ← hv]
    rfl
  · rw [List.getElem?_set_ne (fun q => hi q.symm)]
    unfold kv_fs
    rw [List.getElem?_map, List.getElem?_map]
    cases hq : (List.range (kv_ct ci))[i]? with
    | none => rfl
    | some k =>
      have e : k = i := by
        have := (List.getElem?_eq_some_iff.mp hq).2
        simpa using this.symm
      subst e
      show some (km_tr ad (km_ld (kv_ft ci k) M' a k)) = some (km_tr ad (km_ld (kv_ft ci k) M a k))
      rw [ho k hi]
end KE
theorem kv_tys0 (cy : kv_Y) : (kv_tys cy)[0]? = some (cy.1, .int) := rfl
theorem kv_nar {v : Int32} (h : v = 0 ∨ v = 1) : vp_nar .boolean v = v ∧ narrow .boolean (.int v) = .int v ∧ fits .boolean (.int v) = true := by
  rcases h with rfl | rfl <;> exact ⟨by decide +kernel, by decide +kernel, by decide +kernel⟩
theorem kv_assignA {s : State} {cJ comp : ClassId} {kJ : Class} {ty : FieldType} (h : s.vm.classes[cJ]? = some kJ) (hk : kJ.kind = .array comp ty) : s.vm.assignable cJ cJ = true := by
  show s.vm.assignableAux (255 + 1) cJ cJ = true
  rw [Vm.assignableAux]
  simp
section KS
variable {p : Program} {l : Launch} {e : Env} {R : Room} {s : State} {m : MethodId} {args : Array Value} {below : List Frame} {meth : Method} {c : Code} {H H0 : Heap} {locs : List Loc} {Q : State → Prop}
variable {cc : ByteArray} {pc : Nat} {ls : Array Slot} {rest : List Value} {D : va_G} {cl : List vw_C} {A : Nat → Prop} {a : Nat} {tys : List (ClassId × FieldType)} {ws : va_W} {cells slots : Nat}
/-- a row of a grid is read -/
theorem kv_aldr (hexec : p.tables.exec = Jvm.exec) (hb : c.code = cc) (hK : va_K D cl tys s) (hP : va_P D cl ws H) (q0 t0 : Nat) {cA : ClassId} {ty : FieldType} {n : Nat} {f : Nat → Option Nat} (ha : ws[q0]? = some (a, .inl (cA, n, .inr (.inr (.inr (.inr f)))))) (ht : tys[t0]? = some (cA, .array ty)) {i : Int32} (hin : vp_in i n) (hdg : decode cc pc = .ok (.aaload, 1))
    (kk : W p l e R s m args below meth c H locs cells slots Q (F0 m (pc + 1) ls (va_rf (f i.toNatClampNeg) :: rest))) : W p l e R s m args below meth c H locs cells slots Q (F0 m pc ls (.int i :: .ref a :: rest)) := by
  have hlt : i.toNatClampNeg < n := Nat.not_le.mp fun q => hin (Or.inr q)
  exact W.aald (v := va_rf (f i.toNatClampNeg)) (ty := .array ty) hexec hb (hP q0 _ ha) ((hK.2 t0 _ ht).1 n (fun j => va_rf (f j))) rfl (fun q => by cases q) (by show ¬ (i < 0 ∨ (arrV _ _ _).slots.size ≤ _); rw [arrV_size]; exact hin) (by show (arrV _ _ _).slots[_]? = _; rw [arrV_read _ _ hlt]) rfl rfl hdg kk
/-- a row of a grid is put -/
theorem kv_astr (hexec : p.tables.exec = Jvm.exec) (hb : c.code = cc) (hov : (Cond.arrayOver (.array .long)).before args s = true) (hK : va_K D cl tys s) (hP : va_P D cl ws H) (hD : va_D A ws) (hS : va_S A H0 H locs) (q0 t0 t1 qk : Nat) {cA cJ : ClassId} {n v : Nat} {g : vp_A} {f : Nat → Option Nat} (ha : ws[q0]? = some (a, .inl (cA, n, .inr (.inr (.inr (.inr f)))))) (ht : tys[t0]? = some (cA, .array .long)) (ht1 : tys[t1]? = some (cJ, .long)) (hv : ws[qk]? = some (v, .inl (cJ, g))) {i : Int32} (hin : vp_in i n) (hdg : decode cc pc = .ok (.aastore, 1))
    (kk : ∀ (H1 : Heap) (locs1 : List Loc), va_P D cl (ws.set q0 (a, .inl (cA, n, .inr (.inr (.inr (.inr (va_up f i.toNatClampNeg (some v)))))))) H1 → va_D A (ws.set q0 (a, .inl (cA, n, .inr (.inr (.inr (.inr (va_up f i.toNatClampNeg (some v)))))))) → va_S A H0 H1 locs1 → W p l e R s m args below meth c H1 locs1 cells slots Q (F0 m (pc + 1) ls rest)) : W p l e R s m args below meth c H locs cells slots Q (F0 m pc ls (.ref v :: .int i :: .ref a :: rest)) := by
  have hlt : i.toNatClampNeg < n := Nat.not_le.mp fun q => hin (Or.inr q)
  have h0 : ¬ i < 0 := fun q => hin (Or.inl q)
  obtain ⟨comp, cG, kG', hcomp, -, hkG, hkind, hcG⟩ := arrayOverA_spec hov
  have e1 : cA = cG := by
    have h1 : s.vm.findClass ("[" ++ (FieldType.array .long).toString) = some cA := (hK.2 t0 _ ht).2
    exact Option.some.inj (h1.symm.trans hcG)
  have e2 : cJ = comp := by
    have h1 : s.vm.findClass ("[" ++ FieldType.long.toString) = some cJ := (hK.2 t1 _ ht1).2
    exact Option.some.inj (h1.symm.trans hcomp)
  subst e1
  subst e2
  have hgv := hP qk _ hv
  obtain ⟨kJ, hkJ, compJ, hkindJ⟩ := ((hK.2 t1 _ ht1).1 0 (fun _ => .null)).2
  have hkJ' : s.vm.classes[cJ]? = some kJ := hkJ
  have hcls : (vp_cell cJ g).cls = cJ := by unfold vp_cell; cases g.2 with
    | inl f => rfl
    | inr r => cases r with
      | inl f => rfl
      | inr r => cases r with
        | inl f => rfl
        | inr r => cases r with
          | inl f => rfl
          | inr f => rfl
  have hvm : ∀ q, (vp_cell cJ g).vm ≠ .statics q := by
    intro q; unfold vp_cell; cases g.2 with
    | inl f => intro h; cases h
    | inr r => cases r with
      | inl f => intro h; cases h
      | inr r => cases r with
        | inl f => intro h; cases h
        | inr r => cases r with
          | inl f => intro h; cases h
          | inr f => intro h; cases h
  refine W.aast hexec hb (hP q0 _ ha) (fun q h => by cases h) (fun h => by cases h) hkG hkind rfl hkJ' ⟨h0, by show _ < (arrV _ _ _).slots.size; rw [arrV_size]; exact hlt⟩ hgv hvm (by rw [hcls]; exact hkJ') (by rw [hcls]; exact kv_assignA hkJ' hkindJ) rfl rfl hdg fun H1 e z oq => ?_
  refine kk H1 _ (hP.set hD ha ?_ oq) (hD.set ha) (hS.put z oq (hD.2 q0 _ ha))
  show H1[a]? = some (vp_cell _ _)
  rw [e]
  show some ((vp_cell _ _).setSlot _ _) = _
  rw [vp_cell_q, vp_cell_q, arrV_store]
  congr 2
  funext q
  by_cases hq : q = i.toNatClampNeg
  · subst hq
    simp [updV, va_up, va_rf]
  · simp [updV, va_up, hq]
end KS
set_option maxHeartbeats 4000000 in
/-- a straight instruction's step -/
theorem kS_sim {p : Program} {l : Launch} {e : Env} {s : State} {m : MethodId} {args : Array Value} {below : List Frame} {meth : Method} {c : Code} {H H0 : Heap} {locs : List Loc} {Q : State → Prop} {cc : ByteArray} {pc : Nat} {ls : Array Slot} {D : va_G} {A : Nat → Prop}
    {sh : Nat → Nat × Nat} {N : Nat} (hN : ∀ a, (sh a).1 < 20 → a < N) {cy : kv_Y} {ad : Nat → Nat} {oc h nL : Nat} {it : km_I} {lv lv' : km_L} {st st' : List Value} {M M' : km_M} {ps : List Prop}
    (hx : p.tables.exec = Jvm.exec) (hb : c.code = cc) (hml : c.maxLocals = nL) (hown : s.vm.findClass (kn_o oc) = some m.cls) (hts : ∀ w ∈ kw_gd, w.before args s = true) (hov : (Cond.arrayOver (.array .long)).before args s = true) (hK : va_K D vwCl (kv_tys cy) s)
    (hd : decode cc pc = .ok (it.1, it.2.1)) (hc : kI_c oc h pc it = true) (hs : kS sh it lv st M = some (ps, lv', st', M')) (hps : ∀ q ∈ ps, q)
    (hP : va_P D vwCl (kv_W sh cy ad N M) H) (hD : va_D A (kv_W sh cy ad N M)) (hS : va_S A H0 H locs) (hL : kv_L ad nL lv ls)
    (kk : ∀ (H' : Heap) (locs' : List Loc) (ls' : Array Slot), va_P D vwCl (kv_W sh cy ad N M') H' → va_D A (kv_W sh cy ad N M') → va_S A H0 H' locs' → kv_L ad nL lv' ls' → W p l e (kR h) s m args below meth c H' locs' 0 0 Q (F0 m (pc + it.2.1) ls' (st'.map (km_tr ad)))) :
    W p l e (kR h) s m args below meth c H locs 0 0 Q (F0 m pc ls (st.map (km_tr ad))) := by
  obtain ⟨i, n, x, y, z, cv, w, t⟩ := it
  unfold kS at hs
  dsimp only at hs hd kk
  split at hs
  · -- iconst
    simp only [kI_c, Bool.and_eq_true, decide_eq_true_eq] at hc
    obtain ⟨hn, hv⟩ := hc
    have hn := Nat.eq_of_beq_eq_true hn
    subst hn
    cases hs
    exact lv_iconst hx hb hd hv (kk H locs ls hP hD hS hL)
  · -- bipush
    simp only [kI_c, Bool.and_eq_true, decide_eq_true_eq] at hc
    obtain ⟨hn, hv⟩ := hc
    have hn := Nat.eq_of_beq_eq_true hn
    subst hn
    cases hs
    exact lv_bipush hx hb hd hv (kk H locs ls hP hD hS hL)
  · -- sipush
    simp only [kI_c, Bool.and_eq_true, decide_eq_true_eq] at hc
    obtain ⟨hn, hv⟩ := hc
    have hn := Nat.eq_of_beq_eq_true hn
    subst hn
    cases hs
    exact lv_sipush hx hb hd hv (kk H locs ls hP hD hS hL)
  · -- ldc
    simp only [kI_c, Bool.and_eq_true, decide_eq_true_eq] at hc
    obtain ⟨hn, hv⟩ := hc
    have hn := Nat.eq_of_beq_eq_true hn
    subst hn
    cases hs
    exact lv_ldc hx hb hown (hts _ (kw_g (kw_c_ok _ hv) rfl)) hd (kk H locs ls hP hD hS hL)
  · -- ldc_w
    simp only [kI_c, Bool.and_eq_true, decide_eq_true_eq] at hc
    obtain ⟨hn, hv⟩ := hc
    have hn := Nat.eq_of_beq_eq_true hn
    subst hn
    cases hs
    exact lv_ldcw hx hb hown (hts _ (kw_g (kw_c_ok _ hv) rfl)) hd (kk H locs ls hP hD hS hL)
  · -- lconst
    simp only [kI_c, Bool.and_eq_true, decide_eq_true_eq] at hc
    obtain ⟨hn, hv⟩ := hc
    have hn := Nat.eq_of_beq_eq_true hn
    subst hn
    cases hs
    exact lv_lconst hx hb hd hv (kk H locs ls hP hD hS hL)
  · -- ldc2_w
    simp only [kI_c, Bool.and_eq_true, decide_eq_true_eq] at hc
    obtain ⟨hn, hv⟩ := hc
    have hn := Nat.eq_of_beq_eq_true hn
    subst hn
    cases hs
    exact lv_ldc2 hx hb hown (hts _ (kw_g (kw_l_ok _ hv) rfl)) hd (kk H locs ls hP hD hS hL)
  · -- iload
    simp only [kI_c, Bool.and_eq_true] at hc
    obtain ⟨hn, hv⟩ := hc
    have hn := Nat.eq_of_beq_eq_true hn
    have hv := Nat.eq_of_beq_eq_true hv
    subst hn
    subst hv
    split at hs
    · rename_i v hg
      cases hs
      exact lv_iload hx hb hd (hL.2.2.2 _ _ hg) (kk H locs ls hP hD hS hL)
    · cases hs
  · -- iload_n
    simp only [kI_c, Bool.and_eq_true] at hc
    obtain ⟨hn, hv⟩ := hc
    have hn := Nat.eq_of_beq_eq_true hn
    have hv := Nat.eq_of_beq_eq_true hv
    subst hn
    split at hs
    · rename_i v hg
      cases hs
      exact lv_iload_n hx hb hd hv (hL.2.2.2 _ _ hg) (kk H locs ls hP hD hS hL)
    · cases hs
  · -- lload
    simp only [kI_c, Bool.and_eq_true] at hc
    obtain ⟨hn, hv⟩ := hc
    have hn := Nat.eq_of_beq_eq_true hn
    have hv := Nat.eq_of_beq_eq_true hv
    subst hn
    subst hv
    split at hs
    · rename_i v hg
      cases hs
      exact lv_lload hx hb hd (hL.2.2.2 _ _ hg) (kk H locs ls hP hD hS hL)
    · cases hs
  · -- lload_n
    simp only [kI_c, Bool.and_eq_true] at hc
    obtain ⟨hn, hv⟩ := hc
    have hn := Nat.eq_of_beq_eq_true hn
    have hv := Nat.eq_of_beq_eq_true hv
    subst hn
    split at hs
    · rename_i v hg
      cases hs
      exact lv_lload_n hx hb hd hv (hL.2.2.2 _ _ hg) (kk H locs ls hP hD hS hL)
    · cases hs
  · -- aload
    simp only [kI_c, Bool.and_eq_true] at hc
    obtain ⟨hn, hv⟩ := hc
    have hn := Nat.eq_of_beq_eq_true hn
    have hv := Nat.eq_of_beq_eq_true hv
    subst hn
    subst hv
    split at hs
    · rename_i v hg
      cases hs
      exact lv_aload hx hb hd (hL.2.2.2 _ _ hg) (kk H locs ls hP hD hS hL)
    · cases hs
  · -- aload_n
    simp only [kI_c, Bool.and_eq_true] at hc
    obtain ⟨hn, hv⟩ := hc
    have hn := Nat.eq_of_beq_eq_true hn
    have hv := Nat.eq_of_beq_eq_true hv
    subst hn
    split at hs
    · rename_i v hg
      cases hs
      exact lv_aload_n hx hb hd hv (hL.2.2.2 _ _ hg) (kk H locs ls hP hD hS hL)
    · cases hs
  · -- istore
    simp only [kI_c, Bool.and_eq_true] at hc
    obtain ⟨hn, hv⟩ := hc
    have hn := Nat.eq_of_beq_eq_true hn
    have hv := Nat.eq_of_beq_eq_true hv
    subst hn
    subst hv
    split at hs
    · split at hs
      · rename_i hbl
        cases hs
        exact lv_istore hx hb hd hL.has (by have h9 := Nat.blt_eq.mp hbl; rw [hL.1] at h9; exact h9) rfl (fun ls' h' => kk H locs ls' hP hD hS (hL.st1 h'))
      · cases hs
    · cases hs
  · -- istore_n
    simp only [kI_c, Bool.and_eq_true] at hc
    obtain ⟨hn, hv⟩ := hc
    have hn := Nat.eq_of_beq_eq_true hn
    have hv := Nat.eq_of_beq_eq_true hv
    subst hn
    split at hs
    · split at hs
      · rename_i hbl
        cases hs
        exact lv_istore_n hx hb hd hv hL.has (by have h9 := Nat.blt_eq.mp hbl; rw [hL.1] at h9; exact h9) rfl (fun ls' h' => kk H locs ls' hP hD hS (hL.st1 h'))
      · cases hs
    · cases hs
  · -- astore
    simp only [kI_c, Bool.and_eq_true] at hc
    obtain ⟨hn, hv⟩ := hc
    have hn := Nat.eq_of_beq_eq_true hn
    have hv := Nat.eq_of_beq_eq_true hv
    subst hn
    subst hv
    split at hs
    · split at hs
      · rename_i hbl
        cases hs
        exact lv_astore hx hb hd hL.has (by have h9 := Nat.blt_eq.mp hbl; rw [hL.1] at h9; exact h9) rfl (fun ls' h' => kk H locs ls' hP hD hS (hL.st1 h'))
      · cases hs
    · cases hs
  · -- astore_n
    simp only [kI_c, Bool.and_eq_true] at hc
    obtain ⟨hn, hv⟩ := hc
    have hn := Nat.eq_of_beq_eq_true hn
    have hv := Nat.eq_of_beq_eq_true hv
    subst hn
    split at hs
    · split at hs
      · rename_i hbl
        cases hs
        exact lv_astore_n hx hb hd hv hL.has (by have h9 := Nat.blt_eq.mp hbl; rw [hL.1] at h9; exact h9) rfl (fun ls' h' => kk H locs ls' hP hD hS (hL.st1 h'))
      · cases hs
    · cases hs
  · -- lstore
    simp only [kI_c, Bool.and_eq_true] at hc
    obtain ⟨hn, hv⟩ := hc
    have hn := Nat.eq_of_beq_eq_true hn
    have hv := Nat.eq_of_beq_eq_true hv
    subst hn
    subst hv
    split at hs
    · split at hs
      · rename_i hbl
        cases hs
        exact lv_lstore hx hb hd hL.has (by have h9 := Nat.blt_eq.mp hbl; rw [hL.1] at h9; exact h9) rfl (fun ls' h' => kk H locs ls' hP hD hS (hL.st2 h'))
      · cases hs
    · cases hs
  · -- lstore_n
    simp only [kI_c, Bool.and_eq_true] at hc
    obtain ⟨hn, hv⟩ := hc
    have hn := Nat.eq_of_beq_eq_true hn
    have hv := Nat.eq_of_beq_eq_true hv
    subst hn
    split at hs
    · split at hs
      · rename_i hbl
        cases hs
        exact lv_lstore_n hx hb hd hv hL.has (by have h9 := Nat.blt_eq.mp hbl; rw [hL.1] at h9; exact h9) rfl (fun ls' h' => kk H locs ls' hP hD hS (hL.st2 h'))
      · cases hs
    · cases hs
  · -- iinc
    simp only [kI_c, Bool.and_eq_true, decide_eq_true_eq] at hc
    obtain ⟨⟨hn, hv⟩, hcv⟩ := hc
    have hn := Nat.eq_of_beq_eq_true hn
    have hv := Nat.eq_of_beq_eq_true hv
    subst hn
    subst hv
    split at hs
    · rename_i v hg
      split at hs
      · rename_i hbl
        cases hs
        obtain ⟨k, hk⟩ := List.getElem?_of_mem (kv_al_mem (ad := ad) hg)
        exact lv_iinc (v := v + cv) hx hb hd hL.has hk (by rw [hcv]) (by have h9 := Nat.blt_eq.mp hbl; rw [hL.1] at h9; exact h9) rfl (fun ls' h' => kk H locs ls' hP hD hS (hL.st1 (v := .int (v + cv)) h'))
      · cases hs
    · cases hs
  · -- iadd
    simp only [kI_c] at hc
    have hn := Nat.eq_of_beq_eq_true hc
    subst hn
    split at hs
    · cases hs
      exact lv_iadd hx hb hd (kk H locs ls hP hD hS hL)
    · cases hs
  · -- isub
    simp only [kI_c] at hc
    have hn := Nat.eq_of_beq_eq_true hc
    subst hn
    split at hs
    · cases hs
      exact lv_isub hx hb hd (kk H locs ls hP hD hS hL)
    · cases hs
  · -- imul
    simp only [kI_c] at hc
    have hn := Nat.eq_of_beq_eq_true hc
    subst hn
    split at hs
    · cases hs
      exact lv_imul hx hb hd (kk H locs ls hP hD hS hL)
    · cases hs
  · -- iand
    simp only [kI_c] at hc
    have hn := Nat.eq_of_beq_eq_true hc
    subst hn
    split at hs
    · cases hs
      exact lv_iand hx hb hd (kk H locs ls hP hD hS hL)
    · cases hs
  · -- ior
    simp only [kI_c] at hc
    have hn := Nat.eq_of_beq_eq_true hc
    subst hn
    split at hs
    · cases hs
      exact lv_ior hx hb hd (kk H locs ls hP hD hS hL)
    · cases hs
  · -- ixor
    simp only [kI_c] at hc
    have hn := Nat.eq_of_beq_eq_true hc
    subst hn
    split at hs
    · cases hs
      exact lv_ixor hx hb hd (kk H locs ls hP hD hS hL)
    · cases hs
  · -- idiv
    simp only [kI_c] at hc
    have hn := Nat.eq_of_beq_eq_true hc
    subst hn
    split at hs
    · cases hs
      exact lv_idiv hx hb hd (hps _ List.mem_cons_self) (kk H locs ls hP hD hS hL)
    · cases hs
  · -- irem
    simp only [kI_c] at hc
    have hn := Nat.eq_of_beq_eq_true hc
    subst hn
    split at hs
    · cases hs
      exact lv_irem hx hb hd (hps _ List.mem_cons_self) (kk H locs ls hP hD hS hL)
    · cases hs
  · -- ishl
    simp only [kI_c] at hc
    have hn := Nat.eq_of_beq_eq_true hc
    subst hn
    split at hs
    · cases hs
      exact lv_ishl hx hb hd (kk H locs ls hP hD hS hL)
    · cases hs
  · -- ishr
    simp only [kI_c] at hc
    have hn := Nat.eq_of_beq_eq_true hc
    subst hn
    split at hs
    · cases hs
      exact lv_ishr hx hb hd (kk H locs ls hP hD hS hL)
    · cases hs
  · -- iushr
    simp only [kI_c] at hc
    have hn := Nat.eq_of_beq_eq_true hc
    subst hn
    split at hs
    · cases hs
      exact lv_iushr hx hb hd rfl (kk H locs ls hP hD hS hL)
    · cases hs
  · -- ladd
    simp only [kI_c] at hc
    have hn := Nat.eq_of_beq_eq_true hc
    subst hn
    split at hs
    · cases hs
      exact lv_ladd hx hb hd (kk H locs ls hP hD hS hL)
    · cases hs
  · -- lsub
    simp only [kI_c] at hc
    have hn := Nat.eq_of_beq_eq_true hc
    subst hn
    split at hs
    · cases hs
      exact lv_lsub hx hb hd (kk H locs ls hP hD hS hL)
    · cases hs
  · -- lmul
    simp only [kI_c] at hc
    have hn := Nat.eq_of_beq_eq_true hc
    subst hn
    split at hs
    · cases hs
      exact lv_lmul hx hb hd (kk H locs ls hP hD hS hL)
    · cases hs
  · -- land
    simp only [kI_c] at hc
    have hn := Nat.eq_of_beq_eq_true hc
    subst hn
    split at hs
    · cases hs
      exact lv_land hx hb hd (kk H locs ls hP hD hS hL)
    · cases hs
  · -- lor
    simp only [kI_c] at hc
    have hn := Nat.eq_of_beq_eq_true hc
    subst hn
    split at hs
    · cases hs
      exact lv_lor hx hb hd (kk H locs ls hP hD hS hL)
    · cases hs
  · -- lxor
    simp only [kI_c] at hc
    have hn := Nat.eq_of_beq_eq_true hc
    subst hn
    split at hs
    · cases hs
      exact lv_lxor hx hb hd (kk H locs ls hP hD hS hL)
    · cases hs
  · -- ldiv
    simp only [kI_c] at hc
    have hn := Nat.eq_of_beq_eq_true hc
    subst hn
    split at hs
    · cases hs
      exact lv_ldiv hx hb hd (hps _ List.mem_cons_self) (kk H locs ls hP hD hS hL)
    · cases hs
  · -- lrem
    simp only [kI_c] at hc
    have hn := Nat.eq_of_beq_eq_true hc
    subst hn
    split at hs
    · cases hs
      exact lv_lrem hx hb hd (hps _ List.mem_cons_self) (kk H locs ls hP hD hS hL)
    · cases hs
  · -- lneg
    simp only [kI_c] at hc
    have hn := Nat.eq_of_beq_eq_true hc
    subst hn
    split at hs
    · cases hs
      exact lv_lneg hx hb hd (kk H locs ls hP hD hS hL)
    · cases hs
  · -- lshl
    simp only [kI_c] at hc
    have hn := Nat.eq_of_beq_eq_true hc
    subst hn
    split at hs
    · cases hs
      exact lv_lshl hx hb hd rfl (kk H locs ls hP hD hS hL)
    · cases hs
  · -- lshr
    simp only [kI_c] at hc
    have hn := Nat.eq_of_beq_eq_true hc
    subst hn
    split at hs
    · cases hs
      exact lv_lshr hx hb hd rfl (kk H locs ls hP hD hS hL)
    · cases hs
  · -- lushr
    simp only [kI_c] at hc
    have hn := Nat.eq_of_beq_eq_true hc
    subst hn
    split at hs
    · cases hs
      exact lv_lushr hx hb hd rfl (kk H locs ls hP hD hS hL)
    · cases hs
  · -- lcmp
    simp only [kI_c] at hc
    have hn := Nat.eq_of_beq_eq_true hc
    subst hn
    split at hs
    · cases hs
      exact W.lcmp hx hb hd (kk H locs ls hP hD hS hL)
    · cases hs
  · -- i2l
    simp only [kI_c] at hc
    have hn := Nat.eq_of_beq_eq_true hc
    subst hn
    split at hs
    · cases hs
      exact lv_i2l hx hb hd rfl (kk H locs ls hP hD hS hL)
    · cases hs
  · -- l2i
    simp only [kI_c] at hc
    have hn := Nat.eq_of_beq_eq_true hc
    subst hn
    split at hs
    · cases hs
      exact lv_l2i hx hb hd rfl (kk H locs ls hP hD hS hL)
    · cases hs
  · -- dup
    simp only [kI_c] at hc
    have hn := Nat.eq_of_beq_eq_true hc
    subst hn
    split at hs
    · cases hs
      exact lv_dup hx hb hd rfl (kk H locs ls hP hD hS hL)
    · cases hs
      exact lv_dup hx hb hd rfl (kk H locs ls hP hD hS hL)
    · cases hs
  · -- dup2
    simp only [kI_c] at hc
    have hn := Nat.eq_of_beq_eq_true hc
    subst hn
    split at hs
    · cases hs
      exact lv_dup2_11 hx hb hd rfl rfl (kk H locs ls hP hD hS hL)
    · cases hs
  · -- pop
    simp only [kI_c] at hc
    have hn := Nat.eq_of_beq_eq_true hc
    subst hn
    split at hs
    · cases hs
      exact lv_pop hx hb hd rfl (kk H locs ls hP hD hS hL)
    · cases hs
      exact lv_pop hx hb hd rfl (kk H locs ls hP hD hS hL)
    · cases hs
  · -- getfield
    simp only [kI_c, Bool.and_eq_true, decide_eq_true_eq] at hc
    obtain ⟨⟨⟨⟨hn, hf⟩, hz⟩, hx7⟩, hy⟩ := hc
    have hn := Nat.eq_of_beq_eq_true hn
    have hz := Nat.eq_of_beq_eq_true hz
    have hx7 := Nat.blt_eq.mp hx7
    have hy := Nat.blt_eq.mp hy
    subst hn
    subst hz
    split at hs
    · rename_i a s9
      cases hs
      have hsh : (sh a).1 = x := hps _ List.mem_cons_self
      have ha : a < N := hN a (by omega)
      have he := kv_at (sh := sh) (cy := cy) (ad := ad) (M := M) ha
      rw [kv_E_obj hsh hx7] at he
      exact va_get (ci := x) (C := (kn_at x).1) (T := (kn_at x).2.1) (N := (kn_at x).2.2) hx hb hts (kn_at_gd x hx7) hown hK hP a he (kn_at_ok x hx7) y (by rw [← kn_at_ct x hx7]; exact hy) (hts _ (kw_g (kw_f_ok _ hf) rfl)) (fun _ h9 => h9) (by unfold kv_fs; rw [List.getElem?_map, List.getElem?_range hy]; rfl) hd (kk H locs ls hP hD hS hL)
    · cases hs
  · -- putfield
    simp only [kI_c, Bool.and_eq_true, decide_eq_true_eq, Bool.not_eq_true'] at hc
    obtain ⟨⟨⟨⟨⟨⟨hn0, hf⟩, hz0⟩, hx70⟩, hy0⟩, hfin⟩, hty⟩ := hc
    have hn := Nat.eq_of_beq_eq_true hn0
    have hz := Nat.eq_of_beq_eq_true hz0
    have hx7 := Nat.blt_eq.mp hx70
    have hy := Nat.blt_eq.mp hy0
    clear hz0 hx70 hy0
    subst hn
    split at hs
    · rename_i v a s9
      cases hs
      have hsh : (sh a).1 = x := hps _ List.mem_cons_self
      have ha : a < N := hN a (by omega)
      have he := kv_at (sh := sh) (cy := cy) (ad := ad) (M := M) ha
      rw [kv_E_obj hsh hx7] at he
      simp only [decide_eq_true_eq] at hty
      have hW : (kv_W sh cy ad N M).set a (ad a, .inr (x, (kv_fs ad M a x).set y (.int v))) = kv_W sh cy ad N (km_up M.1 a y v, M.2.1, M.2.2) := kv_set ha (by
        rw [kv_E_obj hsh hx7]
        refine congrArg (fun q => (.inr (x, q) : va_E)) (kv_fs_set hy ?_ ?_)
        · unfold km_ld
          rw [hz]
          simp only [km_up_at, if_true, km_tr]
        · intro k hk
          unfold km_ld
          simp only [km_up_at, if_neg hk]) (fun b hb9 => kv_E_same (by first | rfl | exact km_up_ne hb9) (by first | rfl | exact km_up_ne hb9) (by first | rfl | exact km_up_ne hb9))
      refine va_put (ci := x) (v := .int v) (C := (kn_at x).1) (T := (kn_at x).2.1) (N := (kn_at x).2.2) hx hb hts (kn_at_gd x hx7) (kv_ty x) (kn_at_ty x hx7) (kn_at_nm x hx7) hown hK hP hD hS a he (kn_at_ok x hx7) y (by rw [← kn_at_ct x hx7]; exact hy) (hts _ (kw_g (kw_f_ok _ hf) rfl)) (fun _ h9 => h9) hfin hty (rfl) (rfl) (by unfold kv_fs; rw [List.length_map, List.length_range]; exact hy) hd (fun H1 locs1 hP1 hD1 hS1 => ?_)
      rw [hW] at hP1 hD1
      exact kk H1 locs1 ls hP1 hD1 hS1 hL
    · rename_i v a s9
      cases hs
      have hsh : (sh a).1 = x := hps _ List.mem_cons_self
      have ha : a < N := hN a (by omega)
      have he := kv_at (sh := sh) (cy := cy) (ad := ad) (M := M) ha
      rw [kv_E_obj hsh hx7] at he
      simp only [decide_eq_true_eq] at hty
      have hW : (kv_W sh cy ad N M).set a (ad a, .inr (x, (kv_fs ad M a x).set y (.long v))) = kv_W sh cy ad N (M.1, km_up M.2.1 a y v, M.2.2) := kv_set ha (by
        rw [kv_E_obj hsh hx7]
        refine congrArg (fun q => (.inr (x, q) : va_E)) (kv_fs_set hy ?_ ?_)
        · unfold km_ld
          rw [hz]
          simp only [km_up_at, if_true, km_tr]
        · intro k hk
          unfold km_ld
          simp only [km_up_at, if_neg hk]) (fun b hb9 => kv_E_same (by first | rfl | exact km_up_ne hb9) (by first | rfl | exact km_up_ne hb9) (by first | rfl | exact km_up_ne hb9))
      refine va_put (ci := x) (v := .long v) (C := (kn_at x).1) (T := (kn_at x).2.1) (N := (kn_at x).2.2) hx hb hts (kn_at_gd x hx7) (kv_ty x) (kn_at_ty x hx7) (kn_at_nm x hx7) hown hK hP hD hS a he (kn_at_ok x hx7) y (by rw [← kn_at_ct x hx7]; exact hy) (hts _ (kw_g (kw_f_ok _ hf) rfl)) (fun _ h9 => h9) hfin hty (rfl) (rfl) (by unfold kv_fs; rw [List.length_map, List.length_range]; exact hy) hd (fun H1 locs1 hP1 hD1 hS1 => ?_)
      rw [hW] at hP1 hD1
      exact kk H1 locs1 ls hP1 hD1 hS1 hL
    · rename_i v a s9
      simp only [Bool.or_eq_true, decide_eq_true_eq] at hty
      rcases hty with hty | hty
      · cases hs
        have hsh : (sh a).1 = x := hps _ List.mem_cons_self
        have ha : a < N := hN a (by omega)
        have he := kv_at (sh := sh) (cy := cy) (ad := ad) (M := M) ha
        rw [kv_E_obj hsh hx7] at he
        have hW : (kv_W sh cy ad N M).set a (ad a, .inr (x, (kv_fs ad M a x).set y (.ref (ad v)))) = kv_W sh cy ad N (M.1, M.2.1, km_up M.2.2 a y v) := kv_set ha (by
          rw [kv_E_obj hsh hx7]
          refine congrArg (fun q => (.inr (x, q) : va_E)) (kv_fs_set hy ?_ ?_)
          · unfold km_ld
            rw [hz]
            simp only [km_up_at, if_true, km_tr]
          · intro k hk
            unfold km_ld
            simp only [km_up_at, if_neg hk]) (fun b hb9 => kv_E_same (by first | rfl | exact km_up_ne hb9) (by first | rfl | exact km_up_ne hb9) (by first | rfl | exact km_up_ne hb9))
        refine va_put (ci := x) (v := .ref (ad v)) (C := (kn_at x).1) (T := (kn_at x).2.1) (N := (kn_at x).2.2) hx hb hts (kn_at_gd x hx7) (kv_ty x) (kn_at_ty x hx7) (kn_at_nm x hx7) hown hK hP hD hS a he (kn_at_ok x hx7) y (by rw [← kn_at_ct x hx7]; exact hy) (hts _ (kw_g (kw_f_ok _ hf) rfl)) (fun _ h9 => h9) hfin hty (rfl) (rfl) (by unfold kv_fs; rw [List.length_map, List.length_range]; exact hy) hd (fun H1 locs1 hP1 hD1 hS1 => ?_)
        rw [hW] at hP1 hD1
        exact kk H1 locs1 ls hP1 hD1 hS1 hL
      · cases hs
        have hsh : (sh a).1 = x := hps _ List.mem_cons_self
        have ha : a < N := hN a (by omega)
        have he := kv_at (sh := sh) (cy := cy) (ad := ad) (M := M) ha
        rw [kv_E_obj hsh hx7] at he
        have hW : (kv_W sh cy ad N M).set a (ad a, .inr (x, (kv_fs ad M a x).set y (.ref (ad v)))) = kv_W sh cy ad N (M.1, M.2.1, km_up M.2.2 a y v) := kv_set ha (by
          rw [kv_E_obj hsh hx7]
          refine congrArg (fun q => (.inr (x, q) : va_E)) (kv_fs_set hy ?_ ?_)
          · unfold km_ld
            rw [hz]
            simp only [km_up_at, if_true, km_tr]
          · intro k hk
            unfold km_ld
            simp only [km_up_at, if_neg hk]) (fun b hb9 => kv_E_same (by first | rfl | exact km_up_ne hb9) (by first | rfl | exact km_up_ne hb9) (by first | rfl | exact km_up_ne hb9))
        refine va_put (ci := x) (v := .ref (ad v)) (C := (kn_at x).1) (T := (kn_at x).2.1) (N := (kn_at x).2.2) hx hb hts (kn_at_gd x hx7) (kv_ty x) (kn_at_ty x hx7) (kn_at_nm x hx7) hown hK hP hD hS a he (kn_at_ok x hx7) y (by rw [← kn_at_ct x hx7]; exact hy) (hts _ (kw_g (kw_f_ok _ hf) rfl)) (fun _ h9 => h9) hfin hty (rfl) (rfl) (by unfold kv_fs; rw [List.length_map, List.length_range]; exact hy) hd (fun H1 locs1 hP1 hD1 hS1 => ?_)
        rw [hW] at hP1 hD1
        exact kk H1 locs1 ls hP1 hD1 hS1 hL
    · rename_i v a s9
      cases hs
      have hsh : (sh a).1 = x := hps _ List.mem_cons_self
      have ha : a < N := hN a (by omega)
      have he := kv_at (sh := sh) (cy := cy) (ad := ad) (M := M) ha
      rw [kv_E_obj hsh hx7] at he
      have hbz : v = 0 ∨ v = 1 := hps _ (List.mem_cons_of_mem _ List.mem_cons_self)
      simp only [decide_eq_true_eq] at hty
      have hW : (kv_W sh cy ad N M).set a (ad a, .inr (x, (kv_fs ad M a x).set y (.int v))) = kv_W sh cy ad N (km_up M.1 a y v, M.2.1, M.2.2) := kv_set ha (by
        rw [kv_E_obj hsh hx7]
        refine congrArg (fun q => (.inr (x, q) : va_E)) (kv_fs_set hy ?_ ?_)
        · unfold km_ld
          rw [hz]
          simp only [km_up_at, if_true, km_tr]
        · intro k hk
          unfold km_ld
          simp only [km_up_at, if_neg hk]) (fun b hb9 => kv_E_same (by first | rfl | exact km_up_ne hb9) (by first | rfl | exact km_up_ne hb9) (by first | rfl | exact km_up_ne hb9))
      refine va_put (ci := x) (v := .int v) (C := (kn_at x).1) (T := (kn_at x).2.1) (N := (kn_at x).2.2) hx hb hts (kn_at_gd x hx7) (kv_ty x) (kn_at_ty x hx7) (kn_at_nm x hx7) hown hK hP hD hS a he (kn_at_ok x hx7) y (by rw [← kn_at_ct x hx7]; exact hy) (hts _ (kw_g (kw_f_ok _ hf) rfl)) (fun _ h9 => h9) hfin hty ((kv_nar hbz).2.1) ((kv_nar hbz).2.2) (by unfold kv_fs; rw [List.length_map, List.length_range]; exact hy) hd (fun H1 locs1 hP1 hD1 hS1 => ?_)
      rw [hW] at hP1 hD1
      exact kk H1 locs1 ls hP1 hD1 hS1 hL
    · cases hs
  · -- iaload
    simp only [kI_c] at hc
    have hn := Nat.eq_of_beq_eq_true hc
    subst hn
    split at hs
    · rename_i j a s9
      cases hs
      have hsh : (sh a).1 = 10 := hps _ List.mem_cons_self
      have hin : vp_in j (sh a).2 := hps _ (List.mem_cons_of_mem _ List.mem_cons_self)
      have ha : a < N := hN a (by omega)
      have he := kv_at (sh := sh) (cy := cy) (ad := ad) (M := M) ha
      rw [kv_E_10 hsh] at he
      exact va_iald hx hb hK hP a 0 he rfl hin hd (kk H locs ls hP hD hS hL)
    · cases hs
  · -- laload
    simp only [kI_c] at hc
    have hn := Nat.eq_of_beq_eq_true hc
    subst hn
    split at hs
    · rename_i j a s9
      cases hs
      have hsh : (sh a).1 = 11 := hps _ List.mem_cons_self
      have hin : vp_in j (sh a).2 := hps _ (List.mem_cons_of_mem _ List.mem_cons_self)
      have ha : a < N := hN a (by omega)
      have he := kv_at (sh := sh) (cy := cy) (ad := ad) (M := M) ha
      rw [kv_E_11 hsh] at he
      exact va_lald hx hb hK hP a 1 he rfl hin hd (kk H locs ls hP hD hS hL)
    · cases hs
  · -- baload
    simp only [kI_c] at hc
    have hn := Nat.eq_of_beq_eq_true hc
    subst hn
    split at hs
    · rename_i j a s9
      cases hs
      have hsh : (sh a).1 = 12 := hps _ List.mem_cons_self
      have hin : vp_in j (sh a).2 := hps _ (List.mem_cons_of_mem _ List.mem_cons_self)
      have ha : a < N := hN a (by omega)
      have he := kv_at (sh := sh) (cy := cy) (ad := ad) (M := M) ha
      rw [kv_E_12 hsh] at he
      exact va_zald hx hb hK hP a 2 he rfl hin hd (kk H locs ls hP hD hS hL)
    · cases hs
  · -- aaload
    simp only [kI_c] at hc
    have hn := Nat.eq_of_beq_eq_true hc
    subst hn
    split at hs
    · rename_i j a s9
      cases hs
      have hsh : (sh a).1 = x := hps _ List.mem_cons_self
      have hk9 : x = 13 ∨ x = 14 := hps _ (List.mem_cons_of_mem _ List.mem_cons_self)
      have hin : vp_in j (sh a).2 := hps _ (List.mem_cons_of_mem _ (List.mem_cons_of_mem _ List.mem_cons_self))
      have ha : a < N := hN a (by omega)
      have he := kv_at (sh := sh) (cy := cy) (ad := ad) (M := M) ha
      rcases hk9 with rfl | rfl
      · rw [kv_E_13 hsh] at he
        exact va_aldq hx hb hK hP a 3 he rfl hin hd (kk H locs ls hP hD hS hL)
      · rw [kv_E_14 hsh] at he
        exact kv_aldr hx hb hK hP a 4 he rfl hin hd (kk H locs ls hP hD hS hL)
    · cases hs
  · -- iastore
    simp only [kI_c] at hc
    have hn := Nat.eq_of_beq_eq_true hc
    subst hn
    split at hs
    · rename_i v j a s9
      cases hs
      have hsh : (sh a).1 = 10 := hps _ List.mem_cons_self
      have hin : vp_in j (sh a).2 := hps _ (List.mem_cons_of_mem _ List.mem_cons_self)
      have ha : a < N := hN a (by omega)
      have he := kv_at (sh := sh) (cy := cy) (ad := ad) (M := M) ha
      rw [kv_E_10 hsh] at he
      have hW : (kv_W sh cy ad N M).set a (ad a, .inl (cy.1, (sh a).2, .inl (upd (M.1 a) j.toNatClampNeg v))) = kv_W sh cy ad N (km_up M.1 a j.toNatClampNeg v, M.2.1, M.2.2) := kv_set ha (by
        rw [kv_E_10 hsh]
        have hf : km_up M.1 a j.toNatClampNeg v a = upd (M.1 a) j.toNatClampNeg v := by
          funext q
          simp only [km_up_at, upd, vp_updL]
        dsimp only
        rw [hf]) (fun b hb9 => kv_E_same (by first | rfl | exact km_up_ne hb9) (by first | rfl | exact km_up_ne hb9) (by first | rfl | exact km_up_ne hb9))
      refine va_iast hx hb hK hP hD hS a 0 he rfl hin hd (fun H1 locs1 hP1 hD1 hS1 => ?_)
      rw [hW] at hP1 hD1
      exact kk H1 locs1 ls hP1 hD1 hS1 hL
    · cases hs
  · -- lastore
    simp only [kI_c] at hc
    have hn := Nat.eq_of_beq_eq_true hc
    subst hn
    split at hs
    · rename_i v j a s9
      cases hs
      have hsh : (sh a).1 = 11 := hps _ List.mem_cons_self
      have hin : vp_in j (sh a).2 := hps _ (List.mem_cons_of_mem _ List.mem_cons_self)
      have ha : a < N := hN a (by omega)
      have he := kv_at (sh := sh) (cy := cy) (ad := ad) (M := M) ha
      rw [kv_E_11 hsh] at he
      have hW : (kv_W sh cy ad N M).set a (ad a, .inl (cy.2.1, (sh a).2, .inr (.inl (vp_updL (M.2.1 a) j.toNatClampNeg v)))) = kv_W sh cy ad N (M.1, km_up M.2.1 a j.toNatClampNeg v, M.2.2) := kv_set ha (by
        rw [kv_E_11 hsh]
        have hf : km_up M.2.1 a j.toNatClampNeg v a = vp_updL (M.2.1 a) j.toNatClampNeg v := by
          funext q
          simp only [km_up_at, upd, vp_updL]
        dsimp only
        rw [hf]) (fun b hb9 => kv_E_same (by first | rfl | exact km_up_ne hb9) (by first | rfl | exact km_up_ne hb9) (by first | rfl | exact km_up_ne hb9))
      refine va_last hx hb hK hP hD hS a 1 he rfl hin hd (fun H1 locs1 hP1 hD1 hS1 => ?_)
      rw [hW] at hP1 hD1
      exact kk H1 locs1 ls hP1 hD1 hS1 hL
    · cases hs
  · -- bastore
    simp only [kI_c] at hc
    have hn := Nat.eq_of_beq_eq_true hc
    subst hn
    split at hs
    · rename_i v j a s9
      cases hs
      have hsh : (sh a).1 = 12 := hps _ List.mem_cons_self
      have hin : vp_in j (sh a).2 := hps _ (List.mem_cons_of_mem _ List.mem_cons_self)
      have hbz : v = 0 ∨ v = 1 := hps _ (List.mem_cons_of_mem _ (List.mem_cons_of_mem _ List.mem_cons_self))
      have ha : a < N := hN a (by omega)
      have he := kv_at (sh := sh) (cy := cy) (ad := ad) (M := M) ha
      rw [kv_E_12 hsh] at he
      have hW : (kv_W sh cy ad N M).set a (ad a, .inl (cy.2.2.1, (sh a).2, .inl (upd (M.1 a) j.toNatClampNeg v))) = kv_W sh cy ad N (km_up M.1 a j.toNatClampNeg v, M.2.1, M.2.2) := kv_set ha (by
        rw [kv_E_12 hsh]
        have hf : km_up M.1 a j.toNatClampNeg v a = upd (M.1 a) j.toNatClampNeg v := by
          funext q
          simp only [km_up_at, upd, vp_updL]
        dsimp only
        rw [hf]) (fun b hb9 => kv_E_same (by first | rfl | exact km_up_ne hb9) (by first | rfl | exact km_up_ne hb9) (by first | rfl | exact km_up_ne hb9))
      refine va_zast hx hb hK hP hD hS a 2 he rfl hin hd (fun H1 locs1 hP1 hD1 hS1 => ?_)
      rw [(kv_nar hbz).1] at hP1 hD1
      rw [hW] at hP1 hD1
      exact kk H1 locs1 ls hP1 hD1 hS1 hL
    · cases hs
  · -- aastore
    simp only [kI_c] at hc
    have hn := Nat.eq_of_beq_eq_true hc
    subst hn
    split at hs
    · rename_i v j a s9
      cases hs
      have hsh : (sh a).1 = x := hps _ List.mem_cons_self
      have hk9 : (x = 13 ∧ (sh v).1 = 4) ∨ (x = 14 ∧ (sh v).1 = 11) := hps _ (List.mem_cons_of_mem _ List.mem_cons_self)
      have hin : vp_in j (sh a).2 := hps _ (List.mem_cons_of_mem _ (List.mem_cons_of_mem _ List.mem_cons_self))
      have ha : a < N := hN a (by omega)
      have hv9 : v < N := hN v (by omega)
      have he := kv_at (sh := sh) (cy := cy) (ad := ad) (M := M) ha
      have hev := kv_at (sh := sh) (cy := cy) (ad := ad) (M := M) hv9
      rcases hk9 with ⟨rfl, hv4⟩ | ⟨rfl, hv4⟩
      · rw [kv_E_obj hv4 (by decide)] at hev
        rw [kv_E_13 hsh] at he
        have hW : (kv_W sh cy ad N M).set a (ad a, .inl (cy.2.2.2.1, (sh a).2, .inr (.inr (.inr (.inr (va_up (fun i => some (ad (M.2.2 a i))) j.toNatClampNeg (some (ad v)))))))) = kv_W sh cy ad N (M.1, M.2.1, km_up M.2.2 a j.toNatClampNeg v) := kv_set ha (by
          rw [kv_E_13 hsh]
          have hf : (fun i => some (ad (km_up M.2.2 a j.toNatClampNeg v a i))) = va_up (fun i => some (ad (M.2.2 a i))) j.toNatClampNeg (some (ad v)) := by
            funext q
            simp only [km_up_at, va_up]
            by_cases hq : q = j.toNatClampNeg
            · rw [if_pos hq, if_pos hq]
            · rw [if_neg hq, if_neg hq]
          rw [hf]) (fun b hb9 => kv_E_same (by first | rfl | exact km_up_ne hb9) (by first | rfl | exact km_up_ne hb9) (by first | rfl | exact km_up_ne hb9))
        refine va_astq hx hb hK hP hD hS a 3 v 4 (r := (RX5, TX5, 12)) he rfl hev rfl hin hd (fun H1 locs1 hP1 hD1 hS1 => ?_)
        rw [hW] at hP1 hD1
        exact kk H1 locs1 ls hP1 hD1 hS1 hL
      · rw [kv_E_11 hv4] at hev
        rw [kv_E_14 hsh] at he
        have hW : (kv_W sh cy ad N M).set a (ad a, .inl (cy.2.2.2.2, (sh a).2, .inr (.inr (.inr (.inr (va_up (fun i => some (ad (M.2.2 a i))) j.toNatClampNeg (some (ad v)))))))) = kv_W sh cy ad N (M.1, M.2.1, km_up M.2.2 a j.toNatClampNeg v) := kv_set ha (by
          rw [kv_E_14 hsh]
          have hf : (fun i => some (ad (km_up M.2.2 a j.toNatClampNeg v a i))) = va_up (fun i => some (ad (M.2.2 a i))) j.toNatClampNeg (some (ad v)) := by
            funext q
            simp only [km_up_at, va_up]
            by_cases hq : q = j.toNatClampNeg
            · rw [if_pos hq, if_pos hq]
            · rw [if_neg hq, if_neg hq]
          rw [hf]) (fun b hb9 => kv_E_same (by first | rfl | exact km_up_ne hb9) (by first | rfl | exact km_up_ne hb9) (by first | rfl | exact km_up_ne hb9))
        refine kv_astr hx hb hov hK hP hD hS a 4 1 v he rfl rfl hev hin hd (fun H1 locs1 hP1 hD1 hS1 => ?_)
        rw [hW] at hP1 hD1
        exact kk H1 locs1 ls hP1 hD1 hS1 hL
    · cases hs
  · -- arraylength
    simp only [kI_c] at hc
    have hn := Nat.eq_of_beq_eq_true hc
    subst hn
    split at hs
    · rename_i a s9
      cases hs
      have hsh : (sh a).1 = x := hps _ List.mem_cons_self
      have hk9 : x = 10 ∨ x = 11 := hps _ (List.mem_cons_of_mem _ List.mem_cons_self)
      have ha : a < N := hN a (by omega)
      have he := kv_at (sh := sh) (cy := cy) (ad := ad) (M := M) ha
      rcases hk9 with rfl | rfl
      · rw [kv_E_10 hsh] at he
        exact va_alen hx hb hK hP a 0 he rfl rfl hd (kk H locs ls hP hD hS hL)
      · rw [kv_E_11 hsh] at he
        exact va_alen hx hb hK hP a 1 he rfl rfl hd (kk H locs ls hP hD hS hL)
    · cases hs
  · -- invokestatic
    simp only [kI_c, Bool.and_eq_true] at hc
    obtain ⟨⟨hn, hh⟩, hz⟩ := hc
    have hn := Nat.eq_of_beq_eq_true hn
    have hh : 0 < h := Nat.blt_eq.mp hh
    subst hn
    split at hs
    · simp only [decide_eq_true_eq] at hz
      · rename_i k dp b sp a s9
        split at hs
        · rename_i hw
          cases hs
          have hq : ∀ q ∈ _, q := hps
          simp only [List.forall_mem_cons] at hq
          obtain ⟨hsa, hsb, h1, h2, h3, h4, h5, -⟩ := hq
          have ha : a < N := hN a (by omega)
          have hb9 : b < N := hN b (by omega)
          have he := kv_at (sh := sh) (cy := cy) (ad := ad) (M := M) ha
          have heb := kv_at (sh := sh) (cy := cy) (ad := ad) (M := M) hb9
          rw [kv_E_10 hsa] at he
          rw [kv_E_10 hsb] at heb
          have hW : (kv_W sh cy ad N M).set b (ad b, .inl (cy.1, (sh b).2, .inl (va_cpy (M.1 a) (M.1 b) sp.toNatClampNeg dp.toNatClampNeg k.toNatClampNeg))) = kv_W sh cy ad N (km_cp M.1 a b sp.toNatClampNeg dp.toNatClampNeg k.toNatClampNeg, M.2.1, M.2.2) := kv_set hb9 (by
            rw [kv_E_10 hsb]
            have hf : km_cp M.1 a b sp.toNatClampNeg dp.toNatClampNeg k.toNatClampNeg b = va_cpy (M.1 a) (M.1 b) sp.toNatClampNeg dp.toNatClampNeg k.toNatClampNeg := by
              funext q
              simp only [km_cp, if_true]
            dsimp only
            rw [hf]) (fun d hd9 => kv_E_same (by first | rfl | (funext q; simp only [km_cp, if_neg hd9])) (by first | rfl | (funext q; simp only [km_cp, if_neg hd9])) (by first | rfl | (funext q; simp only [km_cp, if_neg hd9])))
          have hl9 : ((st'.map (km_tr ad)).map fun v => v.category).sum + (nativeFrameWords "java/lang/System" "arraycopy" 5 + 11) ≤ (kR h).locals := by
            rw [km_wd_cat]
            have h9 := Nat.le_of_ble_eq_true hw
            have h8 : nativeFrameWords "java/lang/System" "arraycopy" 5 = 7 := by decide +kernel
            rw [h8]
            show km_wd st' + (7 + 11) ≤ 40 * h
            omega
          refine va_copyi hx hb (hml.trans hL.2.1.symm) hown (hts _ (kw_g (kw_a_ok _ hz) rfl)) (hts _ (kw_g (kw_an _ List.mem_cons_self) rfl)) (hts _ (kw_g (kw_an _ (List.mem_cons_of_mem _ List.mem_cons_self)) rfl)) (hts _ (kw_g (kw_an _ (List.mem_cons_of_mem _ (List.mem_cons_of_mem _ List.mem_cons_self))) rfl)) hK hP hD hS a b 0 0 he heb rfl rfl rfl h1 h2 h3 h4 h5 (fun i _ => rfl) (show 1 ≤ (kR h).frames from hh) hl9 hd (fun H1 locs1 hP1 hD1 hS1 => ?_)
          rw [hW] at hP1 hD1
          exact kk H1 locs1 ls hP1 hD1 hS1 hL
        · cases hs
    · simp only [decide_eq_true_eq] at hz
      · rename_i k dp b sp a s9
        split at hs
        · rename_i hw
          cases hs
          have hq : ∀ q ∈ _, q := hps
          simp only [List.forall_mem_cons] at hq
          obtain ⟨hsa, hsb, h1, h2, h3, h4, h5, -⟩ := hq
          have ha : a < N := hN a (by omega)
          have hb9 : b < N := hN b (by omega)
          have he := kv_at (sh := sh) (cy := cy) (ad := ad) (M := M) ha
          have heb := kv_at (sh := sh) (cy := cy) (ad := ad) (M := M) hb9
          rw [kv_E_11 hsa] at he
          rw [kv_E_11 hsb] at heb
          have hW : (kv_W sh cy ad N M).set b (ad b, .inl (cy.2.1, (sh b).2, .inr (.inl (va_cpy (M.2.1 a) (M.2.1 b) sp.toNatClampNeg dp.toNatClampNeg k.toNatClampNeg)))) = kv_W sh cy ad N (M.1, km_cp M.2.1 a b sp.toNatClampNeg dp.toNatClampNeg k.toNatClampNeg, M.2.2) := kv_set hb9 (by
            rw [kv_E_11 hsb]
            have hf : km_cp M.2.1 a b sp.toNatClampNeg dp.toNatClampNeg k.toNatClampNeg b = va_cpy (M.2.1 a) (M.2.1 b) sp.toNatClampNeg dp.toNatClampNeg k.toNatClampNeg := by
              funext q
              simp only [km_cp, if_true]
            dsimp only
            rw [hf]) (fun d hd9 => kv_E_same (by first | rfl | (funext q; simp only [km_cp, if_neg hd9])) (by first | rfl | (funext q; simp only [km_cp, if_neg hd9])) (by first | rfl | (funext q; simp only [km_cp, if_neg hd9])))
          have hl9 : ((st'.map (km_tr ad)).map fun v => v.category).sum + (nativeFrameWords "java/lang/System" "arraycopy" 5 + 11) ≤ (kR h).locals := by
            rw [km_wd_cat]
            have h9 := Nat.le_of_ble_eq_true hw
            have h8 : nativeFrameWords "java/lang/System" "arraycopy" 5 = 7 := by decide +kernel
            rw [h8]
            show km_wd st' + (7 + 11) ≤ 40 * h
            omega
          refine va_copyl hx hb (hml.trans hL.2.1.symm) hown (hts _ (kw_g (kw_a_ok _ hz) rfl)) (hts _ (kw_g (kw_an _ List.mem_cons_self) rfl)) (hts _ (kw_g (kw_an _ (List.mem_cons_of_mem _ List.mem_cons_self)) rfl)) (hts _ (kw_g (kw_an _ (List.mem_cons_of_mem _ (List.mem_cons_of_mem _ List.mem_cons_self))) rfl)) hK hP hD hS a b 1 1 he heb rfl rfl rfl h1 h2 h3 h4 h5 (fun i _ => rfl) (show 1 ≤ (kR h).frames from hh) hl9 hd (fun H1 locs1 hP1 hD1 hS1 => ?_)
          rw [hW] at hP1 hD1
          exact kk H1 locs1 ls hP1 hD1 hS1 hL
        · cases hs
    · simp only [decide_eq_true_eq] at hz
      · rename_i b a s9
        split at hs
        · rename_i hw
          cases hs
          exact va_mmax hx hb (hml.trans hL.2.1.symm) hown (hts _ (kw_g (kw_x_ok _ hz) rfl)) (hts _ (kw_g (kw_xn _ (by simp)) rfl)) (hts _ (kw_g (kw_xn _ (by simp)) rfl)) (hts _ (kw_g (kw_xn _ (by simp)) rfl)) (show 1 ≤ (kR h).frames from hh) (show ((s9.map (km_tr ad)).map fun v => v.category).sum + 13 ≤ (kR h).locals by rw [km_wd_cat]; have h9 := Nat.le_of_ble_eq_true hw; show km_wd s9 + 13 ≤ 40 * h; omega) (Nat.le_refl 0) (Nat.le_refl 0) hd (kk H locs ls hP hD hS hL)
        · cases hs
    · simp only [decide_eq_true_eq] at hz
      · rename_i b a s9
        split at hs
        · rename_i hw
          cases hs
          exact va_mmin hx hb (hml.trans hL.2.1.symm) hown (hts _ (kw_g (kw_x_ok _ hz) rfl)) (hts _ (kw_g (kw_xn _ (by simp)) rfl)) (hts _ (kw_g (kw_xn _ (by simp)) rfl)) (hts _ (kw_g (kw_xn _ (by simp)) rfl)) (show 1 ≤ (kR h).frames from hh) (show ((s9.map (km_tr ad)).map fun v => v.category).sum + 13 ≤ (kR h).locals by rw [km_wd_cat]; have h9 := Nat.le_of_ble_eq_true hw; show km_wd s9 + 13 ≤ 40 * h; omega) (Nat.le_refl 0) (Nat.le_refl 0) hd (kk H locs ls hP hD hS hL)
        · cases hs
    · cases hs
  · cases hs
end
section
/-! THE SIMULATION, whole: blocks, branches, calls; a run of the abstract machine is a contract of the method -/
theorem kF_in : ∀ {bs : List km_B} {pc : Nat} {b : km_B}, kF pc bs = some b → b ∈ bs ∧ b.1 = pc
  | [], _, _, h => by cases h
  | b0 :: r, pc, b, h => by
    unfold kF at h
    cases hq : Nat.beq pc b0.1 with
    | true =>
      rw [hq] at h
      cases h
      exact ⟨List.mem_cons_self, (Nat.eq_of_beq_eq_true hq).symm⟩
    | false =>
      rw [hq] at h
      have q := kF_in (bs := r) h
      exact ⟨List.mem_cons_of_mem _ q.1, q.2⟩
theorem kZ_spec : ∀ (n : Nat) (st acc xs s : List Value), kZ n st acc = some (xs, s) → ∃ f, st = f ++ s ∧ f.length = n ∧ xs = f.reverse ++ acc
  | 0, st, acc, xs, s, h => by
    cases h
    exact ⟨[], rfl, rfl, rfl⟩
  | n + 1, [], acc, xs, s, h => by cases h
  | n + 1, v :: r, acc, xs, s, h => by
    obtain ⟨f, h1, h2, h3⟩ := kZ_spec n r (v :: acc) xs s h
    exact ⟨v :: f, by rw [h1]; rfl, by rw [List.length_cons, h2], by rw [h3]; simp⟩
theorem kT_or {G : km_G} {M : km_M} {lv : km_L} {s : List Value} {v : Int32} {d : Nat} : ∀ (t : List (Int32 × Nat)) (ns : List Prop), kJo G M (kT lv s v t d ns) → (∃ k g, (k, g) ∈ t ∧ v = k ∧ G g lv s M) ∨ ((∀ n ∈ ns, n) ∧ (∀ e ∈ t, ¬ v = e.1) ∧ G d lv s M)
  | [], ns, h => by
    rcases h with ⟨h1, h2⟩ | h
    · exact Or.inr ⟨(km_and_iff.mp h1).1, (fun e he => by cases he), h2⟩
    · exact h.elim
  | (k, g) :: r, ns, h => by
    rcases h with ⟨h1, h2⟩ | h
    · exact Or.inl ⟨k, g, List.mem_cons_self, h1, h2⟩
    · rcases kT_or r _ h with ⟨k', g', q1, q2, q3⟩ | ⟨q1, q2, q3⟩
      · exact Or.inl ⟨k', g', List.mem_cons_of_mem _ q1, q2, q3⟩
      · refine Or.inr ⟨fun n hn => q1 n (List.mem_cons_of_mem _ hn), fun e he => ?_, q3⟩
        rcases List.mem_cons.mp he with rfl | he
        · exact q1 _ List.mem_cons_self
        · exact q2 e he
/-- which answer a return gives -/
def kR_c (rt : Option FieldType) : Instr → Bool
  | .ireturn => decide (rt = some .int) || decide (rt = some .boolean)
  | .lreturn => decide (rt = some .long)
  | .return_ => decide (rt = none)
  | .areturn => match rt with
    | some (.object _) => true
    | _ => false
  | _ => true
/-- a block's instructions are those of the code, and mean what they say -/
def kB_ok (cc : ByteArray) (oc h : Nat) (rt : Option FieldType) : Nat → List km_I → Prop
  | _, [] => True
  | pc, it :: r => decode cc pc = .ok (it.1, it.2.1) ∧ kI_c oc h pc it = true ∧ kR_c rt it.1 = true ∧ kB_ok cc oc h rt (pc + it.2.1) r
def kP_ok (P : km_P) (q : km_N) : Prop := P.1 = q.2.2.1 ∧ P.2.1 = decide (q.2.2.2.1 = some .boolean) ∧ ∀ b ∈ P.2.2, kB_ok q.2.1 q.2.2.2.2.1 q.2.2.2.2.2.2.2 q.2.2.2.1 b.1 b.2.2
abbrev kq_ws (q : km_N) : List Cond := Cond.code q.1 q.2.1 q.2.2.1 q.2.2.2.1 :: kw_gd
theorem kq_good {q : km_N} (h : kn_ws q) : GoodIn kw_gd (kq_ws q) := fun w hw => (List.mem_cons.mp hw).elim (fun e => e ▸ kw_good _ (kw_g h.1 rfl)) (kw_good w)
/-- what stands of the tables beside the words: the classes' shapes, the grids' class, the nest mates' links -/
def kx_U (D : va_G) (cy : kv_Y) (U : State) : Prop := va_K D vwCl (kv_tys cy) U ∧ (Cond.arrayOver (.array .long)).before #[] U = true ∧ ∀ oc k x, (oc, k, x, 2) ∈ kw_m → va_Nw (.methodLinkNest (kn_o oc) k (kn_y x) RX6) U
theorem kx_U.warm {D : va_G} {cy : kv_Y} {s U : State} (h : kx_U D cy s) (hW : s.WarmedH U.vm) : kx_U D cy U := ⟨va_K.moved hW.alike h.1, over_moved hW.alike h.2.1, fun oc k x hm => va_Nw.warmM hW (h.2.2 oc k x hm)⟩
theorem kx_U.calling {D : va_G} {cy : kv_Y} {U : State} (h : kx_U D cy U) (g : JFrame) (mk : MethodId) (a : Array Value) : kx_U D cy (U.calling g mk a) := ⟨va_K.moved (u := U) (U := U.calling g mk a) (Vm.Alike.refl U.vm) h.1, over_moved (u := U) (E := U.calling g mk a) (Vm.Alike.refl U.vm) h.2.1, fun oc k x hm => va_Nw.same rfl rfl (h.2.2 oc k x hm)⟩
theorem kQ_ic {cd : ClassFile.Cond} {off : Int} {st s : List Value} {P Q : Prop} (h : kQ (.if_icmp cd off) st = some (P, Q, s)) : ∃ a b : Int32, st = .int b :: .int a :: s ∧ (match cd with
    | .eq => P = (a = b) ∧ Q = (¬ a = b)
    | .ne => P = (¬ a = b) ∧ Q = (a = b)
    | .lt => P = (a < b) ∧ Q = (¬ a < b)
    | .ge => P = (b ≤ a) ∧ Q = (¬ b ≤ a)
    | .gt => P = (b < a) ∧ Q = (¬ b < a)
    | .le => P = (a ≤ b) ∧ Q = (¬ a ≤ b)) := by
  rcases st with _ | ⟨v, r⟩
  · cases cd <;> cases h
  rcases r with _ | ⟨w, r⟩
  · cases cd <;> cases v <;> cases h
  cases v <;> first | (cases cd <;> cases h; done) | (cases w <;> first | (cases cd <;> cases h; done) | (cases cd <;> (cases h; exact ⟨_, _, rfl, rfl, rfl⟩)))
theorem kQ_if {cd : ClassFile.Cond} {off : Int} {st s : List Value} {P Q : Prop} (h : kQ (.ifCond cd off) st = some (P, Q, s)) : ∃ a : Int32, st = .int a :: s ∧ (match cd with
    | .eq => P = (a = 0) ∧ Q = (¬ a = 0)
    | .ne => P = (¬ a = 0) ∧ Q = (a = 0)
    | .lt => P = (a < 0) ∧ Q = (¬ a < 0)
    | .ge => P = (0 ≤ a) ∧ Q = (¬ 0 ≤ a)
    | .gt => P = (0 < a) ∧ Q = (¬ 0 < a)
    | .le => P = (a ≤ 0) ∧ Q = (¬ a ≤ 0)) := by
  rcases st with _ | ⟨v, r⟩
  · cases cd <;> cases h
  cases v <;> first | (cases cd <;> cases h; done) | (cases cd <;> (cases h; exact ⟨_, rfl, rfl, rfl⟩))
theorem kL_off {v : Int32} {dflt : Int} {pc d : Nat} (hdf : (pc : Int) + dflt = (d : Int)) : ∀ (t : List (Int32 × Nat)) (pl : List (Int × Int)), t.length = pl.length → ((t.zip pl).all (fun e => decide (e.1.1.toInt = e.2.1) && decide ((pc : Int) + e.2.2 = (e.1.2 : Int)))) = true →
    (∃ g, (∃ k, (k, g) ∈ t ∧ v = k) ∧ (pc : Int) + Op.lookupswitch.offset pl dflt v.toInt = (g : Int)) ∨ ((∀ e ∈ t, ¬ v = e.1) ∧ (pc : Int) + Op.lookupswitch.offset pl dflt v.toInt = (d : Int))
  | [], [], _, _ => Or.inr ⟨(fun e he => by cases he), hdf⟩
  | (k, g) :: t, (a, o) :: pl, hl, h => by
    simp only [List.zip_cons_cons, List.all_cons, Bool.and_eq_true, decide_eq_true_eq] at h
    obtain ⟨⟨h1, h2⟩, h3⟩ := h
    by_cases hv : v = k
    · refine Or.inl ⟨g, ⟨k, List.mem_cons_self, hv⟩, ?_⟩
      rw [Op.lookupswitch.offset_cons, if_pos (by rw [← h1, hv])]
      exact h2
    · rw [lv_osw hv h1]
      rcases kL_off hdf t pl (by simpa using hl) h3 with ⟨g', ⟨k', q1, q2⟩, q3⟩ | ⟨q1, q2⟩
      · exact Or.inl ⟨g', ⟨k', List.mem_cons_of_mem _ q1, q2⟩, q3⟩
      · refine Or.inr ⟨fun e he => ?_, q2⟩
        rcases List.mem_cons.mp he with rfl | he
        · exact hv
        · exact q1 e he
def kq_A (ad : Nat → Nat) (N : Nat) : Nat → Prop := fun x => ∃ a, a < N ∧ x = ad a
theorem kL_one : ∀ {t : List (Int32 × Nat)}, (t.map Prod.fst).Nodup → ∀ {k k' : Int32} {g g' : Nat}, (k, g) ∈ t → (k', g') ∈ t → k = k' → g = g'
  | [], _, _, _, _, _, h, _, _ => by cases h
  | (a, b) :: r, hn, k, k', g, g', h1, h2, e => by
    rw [List.map_cons, List.nodup_cons] at hn
    subst e
    rcases List.mem_cons.mp h1 with e1 | h1
    · rcases List.mem_cons.mp h2 with e2 | h2
      · cases e1; cases e2; rfl
      · cases e1
        exact absurd (List.mem_map.mpr ⟨_, h2, rfl⟩) hn.1
    · rcases List.mem_cons.mp h2 with e2 | h2
      · cases e2
        exact absurd (List.mem_map.mpr ⟨_, h1, rfl⟩) hn.1
      · exact kL_one hn.2 h1 h2 rfl
/-- a call of a static method: what was decided of it -/
theorem kI_stat {oc h pc idx n x y : Nat} {cv : Int32} {w : Int64} {t : List (Int32 × Nat)} (hc : kI_c oc h pc (.invokestatic idx, n, x, y, 0, cv, w, t) = true) :
    n = 3 ∧ ((oc, idx, x, 1) ∈ kw_m ∨ (oc, idx, x, 2) ∈ kw_m) ∧ ∃ qc, kn_m[x]? = some qc ∧ qc.2.2.2.2.2.1 = y ∧ qc.2.2.2.2.2.2.1 = true ∧ qc.2.2.2.2.2.2.2 < h := by
  simp only [kI_c, Bool.and_eq_true, Bool.or_eq_true, decide_eq_true_eq] at hc
  obtain ⟨⟨hn, -⟩, hkm, hq⟩ := hc
  refine ⟨Nat.eq_of_beq_eq_true hn, hkm, ?_⟩
  cases hqc : kn_m[x]? with
  | none => rw [hqc] at hq; cases hq
  | some qc =>
    rw [hqc] at hq
    simp only [Bool.and_eq_true] at hq
    exact ⟨qc, rfl, Nat.eq_of_beq_eq_true hq.1.1, hq.1.2, Nat.blt_eq.mp hq.2⟩
section RUN
variable {l : Launch} {D : va_G} {sh : Nat → Nat × Nat} {N : Nat} {cy : kv_Y} {ad : Nat → Nat} {pg : Nat → km_P}
def kq_Pc (D : va_G) (sh : Nat → Nat × Nat) (N : Nat) (cy : kv_Y) (ad : Nat → Nat) (as : List Value) (M : km_M) : Array Value → State → Prop := va_Pc (as.map (km_tr ad)) (fun U => va_P D vwCl (kv_W sh cy ad N M) U.heap ∧ kx_U D cy U)
def kq_Qc (D : va_G) (sh : Nat → Nat × Nat) (N : Nat) (cy : kv_Y) (ad : Nat → Nat) (K : km_K) : Array Value → State → Outcome → State → Prop := fun _ st oc t => (∃ v M1, oc = .returned (v.map (km_tr ad)) ∧ K v M1 ∧ va_P D vwCl (kv_W sh cy ad N M1) t.heap) ∧ va_F (kq_A ad N) st t
theorem kq_D (hinj : ∀ a b, a < N → b < N → ad a = ad b → a = b) (M : km_M) : va_D (kq_A ad N) (kv_W sh cy ad N M) := by
  have hi : ∀ (i : Nat) (q : Nat × va_E), (kv_W sh cy ad N M)[i]? = some q → i < N ∧ q.1 = ad i := fun i q h => by
    have hl := (List.getElem?_eq_some_iff.mp h).1
    have hN : i < N := by
      unfold kv_W at hl
      rw [List.length_map, List.length_range] at hl
      exact hl
    rw [kv_at hN] at h
    cases h
    exact ⟨hN, rfl⟩
  refine ⟨fun i j x y hx hy e => ?_, fun i x hx => ?_⟩
  · obtain ⟨h1, h2⟩ := hi i x hx
    obtain ⟨h3, h4⟩ := hi j y hy
    exact hinj i j h1 h3 (by rw [← h2, ← h4, e])
  · obtain ⟨h1, h2⟩ := hi i x hx
    exact ⟨i, h1, h2⟩
/-- what a walk of one method stands on -/
def kq_At (p : Program) (s : State) (m : MethodId) (args : Array Value) (meth : Method) (c : Code) (q : km_N) : Prop :=
  p.tables.exec = Jvm.exec ∧ c.code = q.2.1 ∧ c.maxLocals = q.2.2.1 ∧ meth.sig.returnType = q.2.2.2.1 ∧ meth.locks = false ∧ s.vm.findClass (kn_o q.2.2.2.2.1) = some m.cls ∧ (∀ w ∈ kw_gd, w.before args s = true)
/-- contracts by fuel -/
def kq_B (l : Launch) (D : va_G) (sh : Nat → Nat × Nat) (N : Nat) (cy : kv_Y) (ad : Nat → Nat) (pg : Nat → km_P) (f : Nat) : Prop :=
  ∀ (mid : Nat) (q : km_N), kn_m[mid]? = some q → ∀ (as : List Value) (M : km_M) (K : km_K), Nat.ble (km_wd as) (pg mid).1 = true → kG sh pg f mid 0 (kIn (pg mid) as) [] M K →
    Met l q.1 (kq_ws q) (kR q.2.2.2.2.2.2.2) (kq_Pc D sh N cy ad as M) (kq_Qc D sh N cy ad K) 0 0 (kq_A ad N)
section ACT
variable {p : Program} {e : Env} {s : State} {m : MethodId} {args : Array Value} {below : List Frame} {meth : Method} {c : Code} {q : km_N} {K : km_K}
abbrev kq_W (l : Launch) (D : va_G) (sh : Nat → Nat × Nat) (N : Nat) (cy : kv_Y) (ad : Nat → Nat) (p : Program) (e : Env) (s : State) (m : MethodId) (args : Array Value) (below : List Frame) (meth : Method) (c : Code) (q : km_N) (K : km_K) (H : Heap) (locs : List Loc) (g : JFrame) : Prop :=
  W p l e (kR q.2.2.2.2.2.2.2) s m args below meth c H locs 0 0 (MQ below (kq_Qc D sh N cy ad K) args s 0 0 (kq_A ad N)) g
/-- a jump's target is walked -/
def kq_G (l : Launch) (D : va_G) (sh : Nat → Nat × Nat) (N : Nat) (cy : kv_Y) (ad : Nat → Nat) (p : Program) (e : Env) (s : State) (m : MethodId) (args : Array Value) (below : List Frame) (meth : Method) (c : Code) (q : km_N) (K : km_K) (G : km_G) : Prop :=
  ∀ (pc : Nat) (lv : km_L) (st : List Value) (M : km_M) (H : Heap) (locs : List Loc) (ls : Array Slot), G pc lv st M → va_P D vwCl (kv_W sh cy ad N M) H → va_S (kq_A ad N) s.heap H locs → kv_L ad q.2.2.1 lv ls → kq_W l D sh N cy ad p e s m args below meth c q K H locs (F0 m pc ls (st.map (km_tr ad)))
theorem kq_end {H : Heap} {locs : List Loc} {M : km_M} {v : Option Value} (hv : K v M) (hP : va_P D vwCl (kv_W sh cy ad N M) H) (hS : va_S (kq_A ad N) s.heap H locs) :
    ∀ t : State, t.heap = H → s.WarmedH t.vm → kq_Qc D sh N cy ad K args s (.returned (v.map (km_tr ad))) t := fun t ht hW =>
  ⟨⟨v, M, rfl, hv, by rw [ht]; exact hP⟩, hS.F ht⟩
set_option maxHeartbeats 2000000 in
/-- a call, done -/
theorem kq_call {mid : Nat} {qc : km_N} (hq : kn_m[mid]? = some qc) {as rest : List Value} {vr : Option Value} {M1 : km_M} {pc : Nat} {lv : km_L} {H : Heap} {locs : List Loc} {ls : Array Slot} {st0 : List Value} {G : km_G}
    (hG : kq_G l D sh N cy ad p e s m args below meth c q K G) (hg : G (pc + 3) lv (vr.toList ++ rest) M1) (hS : va_S (kq_A ad N) s.heap H locs) (hL : kv_L ad q.2.2.1 lv ls)
    (hr : va_Run p l e (kR q.2.2.2.2.2.2.2) s m args below meth c H locs 0 0 0 0 (F0 m pc ls st0) (rest.map (km_tr ad)) (kq_Qc D sh N cy ad (kEq vr M1) (as.map (km_tr ad)).toArray) (kq_A ad N)) :
    kq_W l D sh N cy ad p e s m args below meth c q K H locs (F0 m pc ls st0) := by
  intro T hT X
  obtain ⟨v, st₀, t, T', L, h0, X', hLf, e1, e2, ⟨⟨v', M', hv, ⟨ev, eM⟩, hP1⟩, hz, hk⟩, st⟩ := hr T hT X
  subst ev
  subst eM
  cases hv
  rw [h0] at hz hk
  have hS1 : va_S (kq_A ad N) s.heap T'.heap (locs ++ L) := ⟨Nat.le_trans hS.1 (by rw [e1]; exact hz), fun x h1 h2 => by rw [e1, hk x (Nat.lt_of_lt_of_le h1 hS.1) h2]; exact hS.2.1 x h1 h2, fun x hx => by
      rcases List.mem_append.mp hx with h | h
      · exact hS.2.2 x h
      · exact hLf x h⟩
  have hw := hG (pc + 3) lv (v'.toList ++ rest) M' T'.heap (locs ++ L) ls hg (by rw [e1]; exact hP1) hS1 hL
  obtain ⟨t2, a1, b1⟩ := hw T' rfl X'
  refine ⟨t2, st t2 ?_, b1⟩
  have es : (v'.toList ++ rest).map (km_tr ad) = (v'.map (km_tr ad)).toList ++ rest.map (km_tr ad) := by
    cases v' <;> simp
  rw [es] at a1
  exact a1
set_option maxHeartbeats 4000000 in
/-- the end of a block: it goes on, branches, returns or calls -/
theorem kO_sim (hN : ∀ a, (sh a).1 < 20 → a < N) {f : Nat} (hB : kq_B l D sh N cy ad pg f) (hpg : ∀ mid qc, kn_m[mid]? = some qc → kP_ok (pg mid) qc) (hA : kq_At p s m args meth c q) (hU : kx_U D cy s)
    {G : km_G} (hG : kq_G l D sh N cy ad p e s m args below meth c q K G) {it : km_I} {pc : Nat} {lv : km_L} {st : List Value} {M : km_M} {o : km_O}
    (hd : decode q.2.1 pc = .ok (it.1, it.2.1)) (hc : kI_c q.2.2.2.2.1 q.2.2.2.2.2.2.2 pc it = true) (hr : kR_c q.2.2.2.1 it.1 = true)
    (ho : kO sh (decide (q.2.2.2.1 = some .boolean)) it pc lv st = some o)
    (h : kX kJo G K (fun m as M' K' => Nat.ble (km_wd as) (pg m).1 = true ∧ ∃ v M1, kG sh pg f m 0 (kIn (pg m) as) [] M' (kEq v M1) ∧ K' v M1) o M)
    {H : Heap} {locs : List Loc} {ls : Array Slot} (hP : va_P D vwCl (kv_W sh cy ad N M) H) (hS : va_S (kq_A ad N) s.heap H locs) (hL : kv_L ad q.2.2.1 lv ls) :
    kq_W l D sh N cy ad p e s m args below meth c q K H locs (F0 m pc ls (st.map (km_tr ad))) := by
  obtain ⟨hx, hb, hml, hrt, hlocks, hown, hts⟩ := hA
  obtain ⟨i, n, x, y, z, cv, w, t⟩ := it
  unfold kO at ho
  dsimp only at ho hd hr
  split at ho
  · -- goto
    simp only [kI_c, Bool.and_eq_true, decide_eq_true_eq] at hc
    obtain ⟨hn, hg⟩ := hc
    have hn := Nat.eq_of_beq_eq_true hn
    subst hn
    cases ho
    exact lv_goto hx hb hd hg (hG _ _ _ _ _ _ _ h hP hS hL)
  · -- if_icmp
    simp only [kI_c, Bool.and_eq_true, decide_eq_true_eq] at hc
    obtain ⟨hn, hg⟩ := hc
    have hn := Nat.eq_of_beq_eq_true hn
    subst hn
    rename_i cond off
    split at ho
    · rename_i P Q' s9 hq
      cases ho
      have h : (P ∧ G x lv s9 M) ∨ ((Q' ∧ G (pc + 3) lv s9 M) ∨ False) := h
      obtain ⟨a, b, rfl, ee⟩ := kQ_ic hq
      cases cond with
      | eq =>
        obtain ⟨rfl, rfl⟩ := ee
        rcases h with ⟨h1, h2⟩ | (⟨h1, h2⟩ | h)
        · exact lv_icmp_eq hx hb hd hg (fun _ => hG _ _ _ _ _ _ _ h2 hP hS hL) (fun h9 => absurd h1 h9)
        · exact lv_icmp_eq hx hb hd hg (fun h9 => absurd h9 h1) (fun _ => hG _ _ _ _ _ _ _ h2 hP hS hL)
        · exact h.elim
      | ne =>
        obtain ⟨rfl, rfl⟩ := ee
        rcases h with ⟨h1, h2⟩ | (⟨h1, h2⟩ | h)
        · exact lv_icmp_ne hx hb hd hg (fun _ => hG _ _ _ _ _ _ _ h2 hP hS hL) (fun h9 => absurd h9 h1)
        · exact lv_icmp_ne hx hb hd hg (fun h9 => absurd h1 h9) (fun _ => hG _ _ _ _ _ _ _ h2 hP hS hL)
        · exact h.elim
      | lt =>
        obtain ⟨rfl, rfl⟩ := ee
        rcases h with ⟨h1, h2⟩ | (⟨h1, h2⟩ | h)
        · exact lv_icmp_lt hx hb hd hg (fun _ => hG _ _ _ _ _ _ _ h2 hP hS hL) (fun h9 => absurd h1 h9)
        · exact lv_icmp_lt hx hb hd hg (fun h9 => absurd h9 h1) (fun _ => hG _ _ _ _ _ _ _ h2 hP hS hL)
        · exact h.elim
      | ge =>
        obtain ⟨rfl, rfl⟩ := ee
        rcases h with ⟨h1, h2⟩ | (⟨h1, h2⟩ | h)
        · exact lv_icmp_ge hx hb hd hg (fun _ => hG _ _ _ _ _ _ _ h2 hP hS hL) (fun h9 => absurd h1 h9)
        · exact lv_icmp_ge hx hb hd hg (fun h9 => absurd h9 h1) (fun _ => hG _ _ _ _ _ _ _ h2 hP hS hL)
        · exact h.elim
      | gt =>
        obtain ⟨rfl, rfl⟩ := ee
        rcases h with ⟨h1, h2⟩ | (⟨h1, h2⟩ | h)
        · exact lv_icmp_gt hx hb hd hg (fun _ => hG _ _ _ _ _ _ _ h2 hP hS hL) (fun h9 => absurd h1 h9)
        · exact lv_icmp_gt hx hb hd hg (fun h9 => absurd h9 h1) (fun _ => hG _ _ _ _ _ _ _ h2 hP hS hL)
        · exact h.elim
      | le =>
        obtain ⟨rfl, rfl⟩ := ee
        rcases h with ⟨h1, h2⟩ | (⟨h1, h2⟩ | h)
        · exact lv_icmp_le hx hb hd hg (fun _ => hG _ _ _ _ _ _ _ h2 hP hS hL) (fun h9 => absurd h1 h9)
        · exact lv_icmp_le hx hb hd hg (fun h9 => absurd h9 h1) (fun _ => hG _ _ _ _ _ _ _ h2 hP hS hL)
        · exact h.elim
    · cases ho
  · -- ifCond
    simp only [kI_c, Bool.and_eq_true, decide_eq_true_eq] at hc
    obtain ⟨hn, hg⟩ := hc
    have hn := Nat.eq_of_beq_eq_true hn
    subst hn
    rename_i cond off
    split at ho
    · rename_i P Q' s9 hq
      cases ho
      have h : (P ∧ G x lv s9 M) ∨ ((Q' ∧ G (pc + 3) lv s9 M) ∨ False) := h
      obtain ⟨a, rfl, ee⟩ := kQ_if hq
      cases cond with
      | eq =>
        obtain ⟨rfl, rfl⟩ := ee
        rcases h with ⟨h1, h2⟩ | (⟨h1, h2⟩ | h)
        · exact lv_if_eq hx hb hd hg (fun _ => hG _ _ _ _ _ _ _ h2 hP hS hL) (fun h9 => absurd h1 h9)
        · exact lv_if_eq hx hb hd hg (fun h9 => absurd h9 h1) (fun _ => hG _ _ _ _ _ _ _ h2 hP hS hL)
        · exact h.elim
      | ne =>
        obtain ⟨rfl, rfl⟩ := ee
        rcases h with ⟨h1, h2⟩ | (⟨h1, h2⟩ | h)
        · exact lv_if_ne hx hb hd hg (fun _ => hG _ _ _ _ _ _ _ h2 hP hS hL) (fun h9 => absurd h9 h1)
        · exact lv_if_ne hx hb hd hg (fun h9 => absurd h1 h9) (fun _ => hG _ _ _ _ _ _ _ h2 hP hS hL)
        · exact h.elim
      | lt =>
        obtain ⟨rfl, rfl⟩ := ee
        rcases h with ⟨h1, h2⟩ | (⟨h1, h2⟩ | h)
        · exact lv_if_lt hx hb hd hg (fun _ => hG _ _ _ _ _ _ _ h2 hP hS hL) (fun h9 => absurd h1 h9)
        · exact lv_if_lt hx hb hd hg (fun h9 => absurd h9 h1) (fun _ => hG _ _ _ _ _ _ _ h2 hP hS hL)
        · exact h.elim
      | ge =>
        obtain ⟨rfl, rfl⟩ := ee
        rcases h with ⟨h1, h2⟩ | (⟨h1, h2⟩ | h)
        · exact lv_if_ge hx hb hd hg (fun _ => hG _ _ _ _ _ _ _ h2 hP hS hL) (fun h9 => absurd h1 h9)
        · exact lv_if_ge hx hb hd hg (fun h9 => absurd h9 h1) (fun _ => hG _ _ _ _ _ _ _ h2 hP hS hL)
        · exact h.elim
      | gt =>
        obtain ⟨rfl, rfl⟩ := ee
        rcases h with ⟨h1, h2⟩ | (⟨h1, h2⟩ | h)
        · exact lv_if_gt hx hb hd hg (fun _ => hG _ _ _ _ _ _ _ h2 hP hS hL) (fun h9 => absurd h1 h9)
        · exact lv_if_gt hx hb hd hg (fun h9 => absurd h9 h1) (fun _ => hG _ _ _ _ _ _ _ h2 hP hS hL)
        · exact h.elim
      | le =>
        obtain ⟨rfl, rfl⟩ := ee
        rcases h with ⟨h1, h2⟩ | (⟨h1, h2⟩ | h)
        · exact lv_if_le hx hb hd hg (fun _ => hG _ _ _ _ _ _ _ h2 hP hS hL) (fun h9 => absurd h1 h9)
        · exact lv_if_le hx hb hd hg (fun h9 => absurd h9 h1) (fun _ => hG _ _ _ _ _ _ _ h2 hP hS hL)
        · exact h.elim
    · cases ho
  · -- tableswitch
    rename_i dflt lo hi offs
    simp only [kI_c, Bool.and_eq_true, decide_eq_true_eq, List.all_eq_true, List.mem_range] at hc
    obtain ⟨⟨⟨⟨⟨hdf, hlo⟩, hhi⟩, hlen⟩, hsz⟩, hall⟩ := hc
    have hsz := Nat.blt_eq.mp hsz
    split at ho
    · rename_i v s9
      cases ho
      rcases kT_or t [] h with ⟨k, g, h1, h2, h3⟩ | ⟨-, h1, h3⟩
      · obtain ⟨j, hj⟩ := List.getElem?_of_mem h1
        have hjl : j < offs.size := by rw [← hlen]; exact (List.getElem?_eq_some_iff.mp hj).1
        have ha := hall j hjl
        rw [hj] at ha
        cases hoj : offs[j]? with
        | none => rw [hoj] at ha; exact absurd ha (by simp)
        | some o9 =>
          rw [hoj] at ha
          simp only [Bool.and_eq_true, decide_eq_true_eq] at ha
          obtain ⟨ha1, ha2⟩ := ha
          have hv : v.toInt = lo + (j : Int) := by
            rw [h2, ha1]
            have h6 := nI_toInt (n := lo.toNat + j) (by omega)
            unfold nI at h6
            rw [h6]
            omega
          exact lv_tableIn hx hb hd (by omega) (by omega) (off := o9) (by rw [show (v.toInt - lo).toNat = j by omega]; exact hoj) ha2 (hG _ _ _ _ _ _ _ h3 hP hS hL)
      · refine lv_tableOut hx hb hd ?_ hdf (hG _ _ _ _ _ _ _ h3 hP hS hL)
        by_cases hv0 : v.toInt < lo
        · exact Or.inl hv0
        · refine Or.inr ?_
          refine Int.not_le.mp fun hle => ?_
          obtain ⟨j, hj⟩ : ∃ j : Nat, v.toInt = lo + (j : Int) := ⟨(v.toInt - lo).toNat, by omega⟩
          have hjl : j < offs.size := by omega
          have ha := hall j hjl
          have hjt : j < t.length := by rw [hlen]; exact hjl
          cases htj : t[j]? with
          | none => exact absurd (List.getElem?_eq_none_iff.mp htj) (by omega)
          | some e9 =>
            obtain ⟨k, g⟩ := e9
            rw [htj] at ha
            cases hoj : offs[j]? with
            | none => rw [hoj] at ha; exact absurd ha (by simp)
            | some o9 =>
              rw [hoj] at ha
              simp only [Bool.and_eq_true, decide_eq_true_eq] at ha
              refine h1 (k, g) (List.mem_of_getElem? htj) ?_
              show v = k
              rw [ha.1]
              exact Int32.toInt_inj.mp (by have h6 := nI_toInt (n := lo.toNat + j) (by omega); unfold nI at h6; rw [h6, hj]; omega)
    · cases ho
  · -- lookupswitch
    rename_i dflt pr
    simp only [kI_c, Bool.and_eq_true, decide_eq_true_eq] at hc
    obtain ⟨⟨⟨⟨hdf, hsort⟩, hlen⟩, hnd⟩, hall⟩ := hc
    split at ho
    · rename_i v s9
      cases ho
      have hj := kT_or t [] h
      rcases kL_off hdf t pr.toList hlen hall with ⟨g, ⟨k, q1, q2⟩, q3⟩ | ⟨q1, q2⟩
      · rcases hj with ⟨k', g', r1, r2, r3⟩ | ⟨r0, r1, r2⟩
        · have eg : g' = g := kL_one hnd r1 q1 (r2.symm.trans q2)
          subst eg
          exact lv_lookup hx hb hd hsort rfl q3 (hG _ _ _ _ _ _ _ r3 hP hS hL)
        · exact absurd (by assumption : v = k) (r1 (k, g) q1)
      · rcases hj with ⟨k', g', r1, r2, r3⟩ | ⟨-, r1, r2⟩
        · exact absurd r2 (q1 (k', g') r1)
        · exact lv_lookup hx hb hd hsort rfl q2 (hG _ _ _ _ _ _ _ r2 hP hS hL)
    · cases ho
  · -- ireturn
    split at ho
    · rename_i v
      split at ho
      · rename_i hrz
        cases ho
        have h : (v = 0 ∨ v = 1) ∧ K (some (.int v)) M := h
        have hn : n = 1 := Nat.eq_of_beq_eq_true hc
        subst hn
        exact W.zret hx hb (hrt.trans (of_decide_eq_true hrz)) (kv_nar h.1).2.1 (kq_end (v := some (.int v)) h.2 hP hS) hS.2.2 hd hlocks
      · rename_i hrz
        cases ho
        have h : K (some (.int v)) M := h
        have hn : n = 1 := Nat.eq_of_beq_eq_true hc
        subst hn
        have hri : q.2.2.2.1 = some .int := by
          simp only [kR_c, Bool.or_eq_true, decide_eq_true_eq] at hr
          exact hr.resolve_right (of_decide_eq_false hrz)
        exact W.iret hx hb (hrt.trans hri) (kq_end (v := some (.int v)) h hP hS) hS.2.2 hd hlocks
    · cases ho
  · -- lreturn
    split at ho
    · rename_i v
      cases ho
      have h : K (some (.long v)) M := h
      have hn : n = 1 := Nat.eq_of_beq_eq_true hc
      subst hn
      have hri : q.2.2.2.1 = some .long := by
        simp only [kR_c, decide_eq_true_eq] at hr
        exact hr
      exact W.lret hx hb (hrt.trans hri) (kq_end (v := some (.long v)) h hP hS) hS.2.2 hd hlocks
    · cases ho
  · -- areturn
    split at ho
    · rename_i v
      cases ho
      have h : K (some (.ref v)) M := h
      have hn : n = 1 := Nat.eq_of_beq_eq_true hc
      subst hn
      obtain ⟨C9, hri⟩ : ∃ C9, q.2.2.2.1 = some (.object C9) := by
        unfold kR_c at hr
        dsimp only at hr
        split at hr
        · rename_i C9 e9
          exact ⟨C9, e9⟩
        · cases hr
      exact W.aret (v := .ref (ad v)) hx hb (hrt.trans hri) (Or.inl ⟨C9, rfl⟩) (Or.inr ⟨_, rfl⟩) (kq_end (v := some (.ref v)) h hP hS) hS.2.2 hd hlocks
    · cases ho
  · -- return
    split at ho
    · cases ho
      have h : K none M := h
      have hn : n = 1 := Nat.eq_of_beq_eq_true hc
      subst hn
      have hri : q.2.2.2.1 = none := by
        simp only [kR_c, decide_eq_true_eq] at hr
        exact hr
      exact W.vret hx hb (hrt.trans hri) (kq_end (v := none) h hP hS) hS.2.2 hd hlocks
    · cases ho
  · -- invokevirtual
    rename_i idx
    split at ho
    · rename_i a as s9 hz
      split at ho
      · rename_i hw
        cases ho
        obtain ⟨hsh, hbl, vr, M1, hg1, hg2⟩ := (h : (sh a).1 = z ∧ Nat.ble (km_wd (.ref a :: as)) (pg x).1 = true ∧ ∃ v M1, kG sh pg f x 0 (kIn (pg x) (.ref a :: as)) [] M (kEq v M1) ∧ G (pc + n) lv (v.toList ++ s9) M1)
        simp only [kI_c, Bool.and_eq_true, decide_eq_true_eq] at hc
        obtain ⟨⟨hn, hkm⟩, hq9⟩ := hc
        have hn := Nat.eq_of_beq_eq_true hn
        subst hn
        cases hqc : kn_m[x]? with
        | none => rw [hqc] at hq9; cases hq9
        | some qc =>
          rw [hqc] at hq9
          simp only [Bool.and_eq_true, decide_eq_true_eq, Bool.not_eq_true'] at hq9
          obtain ⟨⟨⟨⟨⟨hy9, hst9⟩, hh9⟩, hcl9⟩, hz9⟩, hy0⟩ := hq9
          have hy9 := Nat.eq_of_beq_eq_true hy9
          have hh9 := Nat.blt_eq.mp hh9
          have hz9 := Nat.blt_eq.mp hz9
          have hy0 := Nat.blt_eq.mp hy0
          have hws := kn_w qc (List.mem_of_getElem? hqc)
          have hds := kn_d qc (List.mem_of_getElem? hqc)
          unfold kn_ws at hws
          unfold kn_ds at hds
          rw [hst9] at hws hds
          simp only [Bool.and_eq_true, decide_eq_true_eq] at hds
          obtain ⟨⟨⟨⟨⟨hd1, hd2⟩, hd3⟩, hd4⟩, hd5⟩, hd6⟩ := hds
          have hd6 := Nat.le_of_ble_eq_true hd6
          obtain ⟨fr, e1, e2, e3⟩ := kZ_spec _ _ _ _ _ hz
          rw [List.append_nil] at e3
          have efr : fr = as.reverse ++ [.ref a] := by
            have := congrArg List.reverse e3
            rw [List.reverse_reverse, List.reverse_cons] at this
            exact this.symm
          have est : st.map (km_tr ad) = (as.map (km_tr ad)).reverse ++ .ref (ad a) :: s9.map (km_tr ad) := by
            rw [e1, efr]
            simp [km_tr]
          have hal : as.length = y - 1 := by
            have := congrArg List.length e3
            rw [List.length_reverse, e2, List.length_cons] at this
            omega
          have ha : a < N := hN a (by omega)
          have he := kv_at (sh := sh) (cy := cy) (ad := ad) (M := M) ha
          rw [kv_E_obj hsh hz9] at he
          have hkl : Cond.methodLink (kn_o q.2.2.2.2.1) idx qc.1 ∈ lw_tbl := by
            have h8 := kw_m_ok _ hkm
            have h7 : kn_y x = qc.1 := by unfold kn_y; rw [hqc]
            simp only [h7] at h8
            exact h8
          have hM := hB x qc hqc (.ref a :: as) M (kEq vr M1) hbl hg1
          rw [est]
          refine kq_call hqc (as := .ref a :: as) hG hg2 hS hL ?_
          exact va_runV (As := as.map (km_tr ad)) (C := qc.1.cls) (Ts := kw_gd) ⟨hx, hb, hml, hown, hts⟩ hM
            ⟨callB_of (y - 1) hts (kq_good (q := qc) ⟨hws.1, hws.2.1, by rw [hst9]; exact hws.2.2.1, by rw [hst9]; exact hws.2.2.2⟩) rfl rfl rfl (hts _ (kw_g hws.2.1 rfl)) (hts _ (kw_g hkl rfl)) ⟨hd2, hd3, by rw [hd5, hy9]⟩ ⟨hh9, by show 8 + (qc.2.2.1 + 11) + 40 * qc.2.2.2.2.2.2.2 ≤ 40 * q.2.2.2.2.2.2.2; omega⟩, hts _ (kw_g hws.2.2.1 rfl), hts _ (kw_g hws.2.2.2 rfl)⟩
            ⟨fun a9 U g mk q9 => ⟨q9.1, q9.2.1, q9.2.2.calling g mk a9⟩, by rw [hcl9]; exact va_recv hU.1 hP (kn_at_ok z hz9) he, fun U hU9 hW => ⟨rfl, by rw [hU9]; exact hP, hU.warm hW⟩⟩
            rfl (by rw [List.length_map]; exact hal) hL.2.1 rfl (lv_room (by rw [km_wd_cat]; exact Nat.le_of_ble_eq_true hw)) hd ⟨Nat.le_refl 0, Nat.le_refl 0⟩
      · cases ho
    · cases ho
  · -- invokestatic
    rename_i idx
    split at ho
    rotate_left
    · cases ho
    split at ho
    · rename_i as s9 hz
      split at ho
      · rename_i hw
        cases ho
        obtain ⟨hbl, vr, M1, hg1, hg2⟩ := (h : Nat.ble (km_wd as) (pg x).1 = true ∧ ∃ v M1, kG sh pg f x 0 (kIn (pg x) as) [] M (kEq v M1) ∧ G (pc + n) lv (v.toList ++ s9) M1)
        obtain ⟨hn, hkm, qc, hqc, hy9, hst9, hh9⟩ := kI_stat hc
        subst hn
        have hws := kn_w qc (List.mem_of_getElem? hqc)
        have hds := kn_d qc (List.mem_of_getElem? hqc)
        have hg9 := kq_good (q := qc) hws
        unfold kn_ws at hws
        unfold kn_ds at hds
        rw [hst9] at hws hds
        simp only [Bool.and_eq_true, decide_eq_true_eq] at hds
        obtain ⟨⟨⟨⟨⟨hd1, hd2⟩, hd3⟩, hd4⟩, hd5⟩, hd6⟩ := hds
        have hd6 := Nat.le_of_ble_eq_true hd6
        obtain ⟨fr, e1, e2, e3⟩ := kZ_spec _ _ _ _ _ hz
        rw [List.append_nil] at e3
        have efr : fr = as.reverse := by
          have := congrArg List.reverse e3
          rw [List.reverse_reverse] at this
          exact this.symm
        have est : st.map (km_tr ad) = (as.map (km_tr ad)).reverse ++ s9.map (km_tr ad) := by
          rw [e1, efr]
          simp
        have hal : as.length = y := by
          have := congrArg List.length e3
          rw [List.length_reverse, e2] at this
          exact this
        have h7 : kn_y x = qc.1 := by unfold kn_y; rw [hqc]
        have hM := hB x qc hqc as M (kEq vr M1) hbl hg1
        rw [est]
        refine kq_call hqc (as := as) hG hg2 hS hL ?_
        have hpre : PreS s H (kq_Pc D sh N cy ad as M) (as.map (km_tr ad)) := ⟨fun a9 U g mk q9 => ⟨q9.1, q9.2.1, q9.2.2.calling g mk a9⟩, fun U hU9 hW => ⟨rfl, by rw [hU9]; exact hP, hU.warm hW⟩⟩
        have hrm : (kR qc.2.2.2.2.2.2.2).frames + 1 ≤ (kR q.2.2.2.2.2.2.2).frames ∧ 8 + (qc.2.2.1 + 11) + (kR qc.2.2.2.2.2.2.2).locals ≤ (kR q.2.2.2.2.2.2.2).locals := ⟨hh9, by show 8 + (qc.2.2.1 + 11) + 40 * qc.2.2.2.2.2.2.2 ≤ 40 * q.2.2.2.2.2.2.2; omega⟩
        rcases hkm with hkm | hkm
        · have hkl : Cond.methodLink (kn_o q.2.2.2.2.1) idx qc.1 ∈ lw_tbl := by
            have h8 := kw_m_ok _ hkm
            simp only [h7] at h8
            exact h8
          exact va_runS (As := as.map (km_tr ad)) (Ts := kw_gd) ⟨hx, hb, hml, hown, hts⟩ hM
            ⟨callB_of y hts hg9 rfl rfl rfl (hts _ (kw_g hws.2.1 rfl)) (hts _ (kw_g hkl rfl)) ⟨hd2, hd3, by rw [hd5, hy9]⟩ hrm, hts _ (kw_g hws.2.2.1 rfl)⟩
            hpre rfl (by rw [List.length_map]; exact hal) hL.2.1 rfl (lv_room (by rw [km_wd_cat]; exact Nat.le_of_ble_eq_true hw)) hd ⟨Nat.le_refl 0, Nat.le_refl 0⟩
        · have hnw := hU.2.2 _ _ _ hkm
          rw [h7] at hnw
          exact va_runSN (As := as.map (km_tr ad)) (Ts := kw_gd) ⟨hx, hb, hml, hown, hts⟩ hM
            ⟨va_cnB y hts hg9 rfl rfl rfl hnw (hts _ (kw_g hws.2.1 rfl)) ⟨hd2, hd3, by rw [hd5, hy9]⟩ hrm, hts _ (kw_g hws.2.2.1 rfl), trivial⟩
            hpre rfl (by rw [List.length_map]; exact hal) hL.2.1 rfl (lv_room (by rw [km_wd_cat]; exact Nat.le_of_ble_eq_true hw)) hd ⟨Nat.le_refl 0, Nat.le_refl 0⟩
      · cases ho
    · cases ho
  · cases ho
set_option maxHeartbeats 1000000 in
/-- a block is walked -/
theorem kB_sim (hN : ∀ a, (sh a).1 < 20 → a < N) (hinj : ∀ a b, a < N → b < N → ad a = ad b → a = b) {f : Nat} (hB : kq_B l D sh N cy ad pg f) (hpg : ∀ mid qc, kn_m[mid]? = some qc → kP_ok (pg mid) qc) (hA : kq_At p s m args meth c q) (hU : kx_U D cy s)
    {G : km_G} (hG : kq_G l D sh N cy ad p e s m args below meth c q K G) : ∀ (cs : List km_I) (pc : Nat) (lv : km_L) (st : List Value) (M : km_M),
    kB_ok q.2.1 q.2.2.2.2.1 q.2.2.2.2.2.2.2 q.2.2.2.1 pc cs →
    kB sh (decide (q.2.2.2.1 = some .boolean)) kJo G K (fun m as M' K' => Nat.ble (km_wd as) (pg m).1 = true ∧ ∃ v M1, kG sh pg f m 0 (kIn (pg m) as) [] M' (kEq v M1) ∧ K' v M1) cs pc lv st M →
    ∀ (H : Heap) (locs : List Loc) (ls : Array Slot), va_P D vwCl (kv_W sh cy ad N M) H → va_S (kq_A ad N) s.heap H locs → kv_L ad q.2.2.1 lv ls →
    kq_W l D sh N cy ad p e s m args below meth c q K H locs (F0 m pc ls (st.map (km_tr ad)))
  | [], pc, lv, st, M, _, h, H, locs, ls, hP, hS, hL => hG _ _ _ _ _ _ _ h hP hS hL
  | it :: r, pc, lv, st, M, hk, h, H, locs, ls, hP, hS, hL => by
    unfold kB at h
    obtain ⟨k1, k2, k3, k4⟩ := hk
    cases hs : kS sh it lv st M with
    | some o =>
      obtain ⟨ps, lv', st', M'⟩ := o
      rw [hs] at h
      have h := km_and_iff.mp h
      have hA2 := hA
      obtain ⟨hx, hb, hml, hrt, hlocks, hown, hts⟩ := hA
      have hov : (Cond.arrayOver (.array .long)).before args s = true := over_moved (u := s) (E := s) (Vm.Alike.refl s.vm) hU.2.1
      exact kS_sim hN hx hb hml hown hts hov hU.1 k1 k2 hs h.1 hP (kq_D hinj M) hS hL (fun H' locs' ls' hP' _ hS' hL' => kB_sim hN hinj hB hpg hA2 hU hG r _ _ _ _ k4 h.2 H' locs' ls' hP' hS' hL')
    | none =>
      rw [hs] at h
      cases ho : kO sh (decide (q.2.2.2.1 = some .boolean)) it pc lv st with
      | none => rw [ho] at h; exact h.elim
      | some o =>
        rw [ho] at h
        exact kO_sim hN hB hpg hA hU hG k1 k2 k3 ho h hP hS hL
end ACT
/-- contracts by fuel, out of the walks by fuel -/
theorem kq_B_of (hpg : ∀ mid qc, kn_m[mid]? = some qc → kP_ok (pg mid) qc) {f : Nat}
    (hW : ∀ (mid : Nat) (q : km_N), kn_m[mid]? = some q → ∀ (p : Program) (e : Env) (s : State) (m : MethodId) (args : Array Value) (below : List Frame) (meth : Method) (c : Code), kq_At p s m args meth c q → kx_U D cy s → ∀ K : km_K, kq_G l D sh N cy ad p e s m args below meth c q K (fun pc lv st M => kG sh pg f mid pc lv st M K)) : kq_B l D sh N cy ad pg f := by
  intro mid q hq as M K hbl h
  have hds := kn_d q (List.mem_of_getElem? hq)
  unfold kn_ds at hds
  simp only [Bool.and_eq_true, decide_eq_true_eq] at hds
  obtain ⟨⟨⟨⟨⟨hd1, hd2⟩, hd3⟩, hd4⟩, hd5⟩, hd6⟩ := hds
  refine Met.ofW (cc := q.2.1) (maxL := q.2.2.1) (ret := q.2.2.2.1) hd1 rfl ?_
  intro p e s m args below meth c s₁ B hml hv
  obtain ⟨rfl, hP, hU⟩ := hv
  have hts0 := atoms_spec (ws := kq_ws q) B.pre
  have hown : s.vm.findClass (kn_o q.2.2.2.2.1) = some m.cls := by
    rw [← hd4]
    exact findClass_of_methodNamed B.named
  have hA : kq_At p s m (as.map (km_tr ad)).toArray meth c q := ⟨B.exec, B.bytes, hml, B.returns, B.notSynchronized, hown, fun w hw => hts0 w (List.mem_cons_of_mem _ hw)⟩
  rw [lg_entry_eq]
  have hp := hpg mid q hq
  have hL := kv_L.entry (ad := ad) (P := pg mid) (as := as) (Nat.le_of_ble_eq_true hbl)
  rw [hp.1] at hL
  exact hW mid q hq p e s m _ below meth c hA hU K 0 _ [] M s.heap [] _ h hP va_S.rf hL
/-- THE SIMULATION: every run of the abstract machine is a walk of the machine -/
theorem kq_all (hN : ∀ a, (sh a).1 < 20 → a < N) (hinj : ∀ a b, a < N → b < N → ad a = ad b → a = b) (hpg : ∀ mid qc, kn_m[mid]? = some qc → kP_ok (pg mid) qc) : ∀ (f : Nat),
    ∀ (mid : Nat) (q : km_N), kn_m[mid]? = some q → ∀ (p : Program) (e : Env) (s : State) (m : MethodId) (args : Array Value) (below : List Frame) (meth : Method) (c : Code), kq_At p s m args meth c q → kx_U D cy s → ∀ K : km_K, kq_G l D sh N cy ad p e s m args below meth c q K (fun pc lv st M => kG sh pg f mid pc lv st M K)
  | 0 => by
    intro mid q hq p e s m args below meth c hA hU K pc lv st M H locs ls h
    exact h.elim
  | f + 1 => by
    intro mid q hq p e s m args below meth c hA hU K pc lv st M H locs ls h hP hS hL
    have ih := kq_all hN hinj hpg f
    have hB := kq_B_of (l := l) (D := D) (sh := sh) (N := N) (cy := cy) (ad := ad) (pg := pg) hpg (f := f) ih
    unfold kG at h
    cases hb : kF pc (pg mid).2.2 with
    | none => rw [hb] at h; exact h.elim
    | some b =>
      rw [hb] at h
      have hp := hpg mid q hq
      obtain ⟨h1, h2⟩ := kF_in hb
      have hk := hp.2.2 b h1
      rw [h2] at hk
      rw [hp.2.1] at h
      exact kB_sim hN hinj hB hpg hA hU (G := fun pc lv st M => kG sh pg f mid pc (km_mask (kMk (pg mid) pc) lv) st M K) (fun pc lv st M H locs ls g hP hS hL => ih mid q hq p e s m args below meth c hA hU K pc _ st M H locs ls g hP hS (hL.mask _)) b.2.2 pc lv st M hk h H locs ls hP hS hL
/-- a method's contract, out of kC -/
theorem kC_met (hN : ∀ a, (sh a).1 < 20 → a < N) (hinj : ∀ a b, a < N → b < N → ad a = ad b → a = b) (hpg : ∀ mid qc, kn_m[mid]? = some qc → kP_ok (pg mid) qc) {mid : Nat} {q : km_N} (hq : kn_m[mid]? = some q) {as : List Value} {M : km_M} {K : km_K} (h : kC sh pg mid as M K) :
    Met l q.1 (kq_ws q) (kR q.2.2.2.2.2.2.2) (kq_Pc D sh N cy ad as M) (kq_Qc D sh N cy ad K) 0 0 (kq_A ad N) := by
  obtain ⟨h1, f, h2⟩ := h
  exact kq_B_of hpg (kq_all hN hinj hpg f) mid q hq as M K h1 h2
end RUN
end
section
/-! THE PROGRAM: printed by program: every method's blocks, with what each operand means; and that they are the code of the class files -/
/-- PalletNets.place(I)I -/
def kp_0 : km_P := (2, false, [(0, [true, true], [kx_1 (.iload_n 1) 1 1, kx_i (.iconst 0) 1 0, kx_i (.bipush 15) 2 15, kx_3 (.invokestatic 78) 3 37 3 0]),
  (7, [true, true], [kx_1 (.ifCond .ne 10) 3 17]),
  (10, [true], [kx_0 (.aload_n 0) 1, kx_i (.bipush (-2)) 2 (-2), kx_3 (.invokevirtual 82) 3 43 2 5]),
  (16, [], [kx_0 (.ireturn) 1]),
  (17, [true, true], [kx_0 (.aload_n 0) 1, kx_3 (.getfield 10) 3 5 0 2, kx_1 (.getfield 86) 3 4, kx_i (.bipush 10) 2 10, kx_1 (.if_icmp .lt 10) 3 36]),
  (29, [true], [kx_0 (.aload_n 0) 1, kx_i (.bipush (-4)) 2 (-4), kx_3 (.invokevirtual 82) 3 43 2 5]),
  (35, [], [kx_0 (.ireturn) 1]),
  (36, [true, true], [kx_0 (.aload_n 0) 1, kx_3 (.invokevirtual 89) 3 44 1 5]),
  (40, [true, true], [kx_0 (.aload_n 0) 1, kx_3 (.getfield 10) 3 5 0 2, kx_1 (.iload_n 1) 1 1, kx_3 (.invokevirtual 92) 3 216 2 4]),
  (48, [true], [kx_0 (.aload_n 0) 1, kx_3 (.invokevirtual 96) 3 46 1 5]),
  (52, [true], [kx_0 (.aload_n 0) 1, kx_3 (.getfield 10) 3 5 0 2, kx_1 (.getfield 86) 3 4, kx_i (.iconst 1) 1 1, kx_0 (.isub) 1, kx_0 (.ireturn) 1])])
/-- PalletNets.step(I)I -/
def kp_1 : km_P := (2, false, [(0, [true, true], [kx_1 (.iload_n 1) 1 1, kx_i (.iconst 0) 1 0, kx_i (.bipush 9) 2 9, kx_3 (.invokestatic 78) 3 37 3 0]),
  (7, [true, true], [kx_1 (.ifCond .ne 10) 3 17]),
  (10, [true], [kx_0 (.aload_n 0) 1, kx_i (.bipush (-2)) 2 (-2), kx_3 (.invokevirtual 82) 3 43 2 5]),
  (16, [], [kx_0 (.ireturn) 1]),
  (17, [true, true], [kx_0 (.aload_n 0) 1, kx_3 (.getfield 10) 3 5 0 2, kx_3 (.getfield 99) 3 4 1 0, kx_i (.bipush 8) 2 8, kx_1 (.if_icmp .lt 10) 3 36]),
  (29, [true], [kx_0 (.aload_n 0) 1, kx_i (.bipush (-4)) 2 (-4), kx_3 (.invokevirtual 82) 3 43 2 5]),
  (35, [], [kx_0 (.ireturn) 1]),
  (36, [true, true], [kx_0 (.aload_n 0) 1, kx_3 (.invokevirtual 89) 3 44 1 5]),
  (40, [true, true], [kx_0 (.aload_n 0) 1, kx_3 (.getfield 10) 3 5 0 2, kx_1 (.iload_n 1) 1 1, kx_l (.lconst 0) 1 0, kx_l (.lconst 0) 1 0, kx_3 (.invokevirtual 102) 3 217 4 4]),
  (50, [true], [kx_0 (.aload_n 0) 1, kx_3 (.invokevirtual 96) 3 46 1 5]),
  (54, [true], [kx_0 (.aload_n 0) 1, kx_3 (.getfield 10) 3 5 0 2, kx_3 (.getfield 99) 3 4 1 0, kx_i (.iconst 1) 1 1, kx_0 (.isub) 1, kx_0 (.ireturn) 1])])
/-- PalletNets.arc(IIII)I -/
def kp_2 : km_P := (7, false, [(0, [true, true, true, true, true], [kx_0 (.aload_n 0) 1, kx_1 (.iload_n 1) 1 1, kx_3 (.invokevirtual 106) 3 39 2 5]),
  (5, [true, true, true, true, true], [kx_1 (.ifCond .eq 30) 3 35]),
  (8, [true, true, true, true, true], [kx_0 (.aload_n 0) 1, kx_1 (.iload_n 2) 1 2, kx_3 (.invokevirtual 110) 3 38 2 5]),
  (13, [true, true, true, true, true], [kx_1 (.ifCond .eq 22) 3 35]),
  (16, [true, true, true, true, true], [kx_1 (.iload_n 3) 1 3, kx_i (.iconst 0) 1 0, kx_i (.iconst 1) 1 1, kx_3 (.invokestatic 78) 3 37 3 0]),
  (22, [true, true, true, true, true], [kx_1 (.ifCond .eq 13) 3 35]),
  (25, [true, true, true, true, true], [kx_1 (.iload 4) 2 4, kx_i (.iconst 0) 1 0, kx_i (.iconst 2) 1 2, kx_3 (.invokestatic 78) 3 37 3 0]),
  (32, [true, true, true, true, true], [kx_1 (.ifCond .ne 10) 3 42]),
  (35, [true], [kx_0 (.aload_n 0) 1, kx_i (.bipush (-2)) 2 (-2), kx_3 (.invokevirtual 82) 3 43 2 5]),
  (41, [], [kx_0 (.ireturn) 1]),
  (42, [true, true, true, true, true], [kx_0 (.aload_n 0) 1, kx_3 (.invokevirtual 89) 3 44 1 5]),
  (46, [true, true, true, true, true], [kx_1 (.iload_n 3) 1 3, kx_1 (.ifCond .ne 13) 3 60]),
  (50, [true, true, true, false, true], [kx_0 (.aload_n 0) 1, kx_3 (.getfield 10) 3 5 0 2, kx_3 (.getfield 113) 3 4 7 2, kx_1 (.goto 10) 3 67]),
  (60, [true, true, true, false, true], [kx_0 (.aload_n 0) 1, kx_3 (.getfield 10) 3 5 0 2, kx_3 (.getfield 117) 3 4 8 2]),
  (67, [true, true, true, false, true], [kx_1 (.astore 5) 2 5, kx_1 (.aload 5) 2 5, kx_1 (.iload_n 1) 1 1, kx_0 (.laload) 1, kx_1 (.iload_n 2) 1 2, kx_3 (.invokestatic 120) 3 170 2 0]),
  (77, [true, true, true, false, true, true], [kx_1 (.istore 6) 2 6, kx_1 (.aload 5) 2 5, kx_1 (.iload_n 1) 1 1, kx_1 (.aload 5) 2 5, kx_1 (.iload_n 1) 1 1, kx_0 (.laload) 1, kx_1 (.iload_n 2) 1 2, kx_1 (.iload 4) 2 4, kx_3 (.invokestatic 126) 3 171 3 0]),
  (92, [true, false, false, false, false, false, true], [kx_0 (.lastore) 1, kx_0 (.aload_n 0) 1, kx_3 (.invokevirtual 96) 3 46 1 5]),
  (97, [false, false, false, false, false, false, true], [kx_1 (.iload 6) 2 6, kx_0 (.ireturn) 1])])
/-- PalletNets.start(II)I -/
def kp_3 : km_P := (4, false, [(0, [true, true, true], [kx_0 (.aload_n 0) 1, kx_1 (.iload_n 1) 1 1, kx_3 (.invokevirtual 110) 3 38 2 5]),
  (5, [true, true, true], [kx_1 (.ifCond .eq 13) 3 18]),
  (8, [true, true, true], [kx_1 (.iload_n 2) 1 2, kx_i (.iconst 0) 1 0, kx_i (.bipush 15) 2 15, kx_3 (.invokestatic 78) 3 37 3 0]),
  (15, [true, true, true], [kx_1 (.ifCond .ne 10) 3 25]),
  (18, [true], [kx_0 (.aload_n 0) 1, kx_i (.bipush (-2)) 2 (-2), kx_3 (.invokevirtual 82) 3 43 2 5]),
  (24, [], [kx_0 (.ireturn) 1]),
  (25, [true, true, true], [kx_0 (.aload_n 0) 1, kx_3 (.invokevirtual 89) 3 44 1 5]),
  (29, [true, true, true], [kx_0 (.aload_n 0) 1, kx_3 (.getfield 10) 3 5 0 2, kx_3 (.getfield 130) 3 4 4 1, kx_1 (.iload_n 1) 1 1, kx_3 (.invokestatic 120) 3 170 2 0]),
  (40, [true, true, true], [kx_1 (.istore_n 3) 1 3, kx_0 (.aload_n 0) 1, kx_3 (.getfield 10) 3 5 0 2, kx_0 (.aload_n 0) 1, kx_3 (.getfield 10) 3 5 0 2, kx_3 (.getfield 130) 3 4 4 1, kx_1 (.iload_n 1) 1 1, kx_1 (.iload_n 2) 1 2, kx_3 (.invokestatic 126) 3 171 3 0]),
  (57, [true, false, false, true], [kx_3 (.putfield 130) 3 4 4 1, kx_0 (.aload_n 0) 1, kx_3 (.invokevirtual 96) 3 46 1 5]),
  (64, [false, false, false, true], [kx_1 (.iload_n 3) 1 3, kx_0 (.ireturn) 1])])
/-- PalletNets.cost(II)I -/
def kp_4 : km_P := (4, false, [(0, [true, true, true], [kx_0 (.aload_n 0) 1, kx_1 (.iload_n 1) 1 1, kx_3 (.invokevirtual 106) 3 39 2 5]),
  (5, [true, true, true], [kx_1 (.ifCond .eq 13) 3 18]),
  (8, [true, true, true], [kx_1 (.iload_n 2) 1 2, kx_i (.iconst 0) 1 0, kx_i (.bipush 9) 2 9, kx_3 (.invokestatic 78) 3 37 3 0]),
  (15, [true, true, true], [kx_1 (.ifCond .ne 10) 3 25]),
  (18, [true], [kx_0 (.aload_n 0) 1, kx_i (.bipush (-2)) 2 (-2), kx_3 (.invokevirtual 82) 3 43 2 5]),
  (24, [], [kx_0 (.ireturn) 1]),
  (25, [true, true, true], [kx_0 (.aload_n 0) 1, kx_3 (.invokevirtual 89) 3 44 1 5]),
  (29, [true, true, true], [kx_0 (.aload_n 0) 1, kx_3 (.getfield 10) 3 5 0 2, kx_3 (.getfield 134) 3 4 9 2, kx_1 (.iload_n 1) 1 1, kx_0 (.iaload) 1, kx_1 (.istore_n 3) 1 3, kx_0 (.aload_n 0) 1, kx_3 (.getfield 10) 3 5 0 2, kx_3 (.getfield 134) 3 4 9 2, kx_1 (.iload_n 1) 1 1, kx_1 (.iload_n 2) 1 2, kx_0 (.iastore) 1, kx_1 (.iload_n 3) 1 3, kx_0 (.ireturn) 1])])
/-- PalletNets.line(III)I -/
def kp_5 : km_P := (5, false, [(0, [true, true, true, true], [kx_1 (.iload_n 1) 1 1, kx_i (.iconst 1) 1 1, kx_i (.bipush 9) 2 9, kx_3 (.invokestatic 78) 3 37 3 0]),
  (7, [true, true, true, true], [kx_1 (.ifCond .eq 19) 3 26]),
  (10, [true, true, true, true], [kx_0 (.aload_n 0) 1, kx_1 (.iload_n 2) 1 2, kx_3 (.invokevirtual 110) 3 38 2 5]),
  (15, [true, true, true, true], [kx_1 (.ifCond .eq 11) 3 26]),
  (18, [true, true, true, true], [kx_0 (.aload_n 0) 1, kx_1 (.iload_n 3) 1 3, kx_3 (.invokevirtual 110) 3 38 2 5]),
  (23, [true, true, true, true], [kx_1 (.ifCond .ne 10) 3 33]),
  (26, [true], [kx_0 (.aload_n 0) 1, kx_i (.bipush (-2)) 2 (-2), kx_3 (.invokevirtual 82) 3 43 2 5]),
  (32, [], [kx_0 (.ireturn) 1]),
  (33, [true, true, true, true], [kx_0 (.aload_n 0) 1, kx_3 (.getfield 10) 3 5 0 2, kx_i (.iconst 2) 1 2, kx_3 (.invokevirtual 137) 3 218 2 4]),
  (41, [true, true, true, true], [kx_1 (.ifCond .ne 10) 3 51]),
  (44, [true], [kx_0 (.aload_n 0) 1, kx_i (.bipush (-4)) 2 (-4), kx_3 (.invokevirtual 82) 3 43 2 5]),
  (50, [], [kx_0 (.ireturn) 1]),
  (51, [true, true, true, true], [kx_0 (.aload_n 0) 1, kx_3 (.invokevirtual 89) 3 44 1 5]),
  (55, [true, true, true, true], [kx_0 (.aload_n 0) 1, kx_3 (.getfield 10) 3 5 0 2, kx_1 (.getfield 86) 3 4, kx_1 (.istore 4) 2 4, kx_0 (.aload_n 0) 1, kx_3 (.getfield 65) 3 5 11 2, kx_i (.iconst 0) 1 0, kx_1 (.iload_n 2) 1 2, kx_0 (.iastore) 1, kx_0 (.aload_n 0) 1, kx_3 (.getfield 65) 3 5 11 2, kx_i (.iconst 1) 1 1, kx_1 (.iload_n 3) 1 3, kx_0 (.iastore) 1, kx_0 (.aload_n 0) 1, kx_3 (.getfield 10) 3 5 0 2, kx_1 (.iload_n 1) 1 1, kx_0 (.aload_n 0) 1, kx_3 (.getfield 65) 3 5 11 2, kx_i (.iconst 2) 1 2, kx_3 (.invokevirtual 140) 3 219 4 4]),
  (91, [true, false, false, false, true], [kx_0 (.aload_n 0) 1, kx_3 (.invokevirtual 96) 3 46 1 5]),
  (95, [false, false, false, false, true], [kx_1 (.iload 4) 2 4, kx_0 (.ireturn) 1])])
/-- PalletNets.draw(III)I -/
def kp_6 : km_P := (4, false, [(0, [true, true, true, true], [kx_1 (.iload_n 1) 1 1, kx_i (.iconst 0) 1 0, kx_i (.ldc 144) 2 999999, kx_3 (.invokestatic 78) 3 37 3 0]),
  (7, [true, true, true, true], [kx_1 (.ifCond .eq 23) 3 30]),
  (10, [true, true, true, true], [kx_1 (.iload_n 2) 1 2, kx_i (.iconst 1) 1 1, kx_i (.bipush 10) 2 10, kx_3 (.invokestatic 78) 3 37 3 0]),
  (17, [true, true, true, true], [kx_1 (.ifCond .eq 13) 3 30]),
  (20, [true, true, true, true], [kx_1 (.iload_n 3) 1 3, kx_i (.iconst 1) 1 1, kx_i (.bipush 8) 2 8, kx_3 (.invokestatic 78) 3 37 3 0]),
  (27, [true, true, true, true], [kx_1 (.ifCond .ne 10) 3 37]),
  (30, [true], [kx_0 (.aload_n 0) 1, kx_i (.bipush (-2)) 2 (-2), kx_3 (.invokevirtual 82) 3 43 2 5]),
  (36, [], [kx_0 (.ireturn) 1]),
  (37, [true, true, true, true], [kx_0 (.aload_n 0) 1, kx_3 (.invokevirtual 89) 3 44 1 5]),
  (41, [true, true, true, true], [kx_0 (.aload_n 0) 1, kx_3 (.getfield 10) 3 5 0 2, kx_1 (.iload_n 1) 1 1, kx_1 (.iload_n 2) 1 2, kx_1 (.iload_n 3) 1 3, kx_3 (.invokevirtual 145) 3 220 4 4]),
  (51, [true], [kx_0 (.aload_n 0) 1, kx_3 (.invokevirtual 96) 3 46 1 5]),
  (55, [true], [kx_0 (.aload_n 0) 1, kx_3 (.invokevirtual 149) 3 48 1 5]),
  (59, [], [kx_3 (.getfield 153) 3 2 3 0, kx_0 (.ireturn) 1])])
/-- PalletNets.anew()I -/
def kp_7 : km_P := (2, false, [(0, [true], [kx_0 (.aload_n 0) 1, kx_3 (.invokevirtual 89) 3 44 1 5]),
  (4, [true], [kx_0 (.aload_n 0) 1, kx_3 (.getfield 10) 3 5 0 2, kx_1 (.getfield 86) 3 4, kx_1 (.istore_n 1) 1 1, kx_0 (.aload_n 0) 1, kx_3 (.getfield 10) 3 5 0 2, kx_3 (.invokevirtual 156) 3 215 1 4]),
  (19, [true, true], [kx_0 (.aload_n 0) 1, kx_3 (.getfield 10) 3 5 0 2, kx_i (.iconst 0) 1 0, kx_3 (.putfield 159) 3 4 3 3, kx_0 (.aload_n 0) 1, kx_3 (.invokevirtual 96) 3 46 1 5]),
  (31, [false, true], [kx_1 (.iload_n 1) 1 1, kx_0 (.ireturn) 1])])
/-- PalletNets.of(II)I -/
def kp_8 : km_P := (3, false, [(0, [true, true, true], [kx_0 (.aload_n 0) 1, kx_1 (.iload_n 1) 1 1, kx_3 (.invokevirtual 110) 3 38 2 5]),
  (5, [true, true, true], [kx_1 (.ifCond .eq 12) 3 17]),
  (8, [true, true, true], [kx_1 (.iload_n 2) 1 2, kx_i (.iconst 0) 1 0, kx_i (.iconst 5) 1 5, kx_3 (.invokestatic 78) 3 37 3 0]),
  (14, [true, true, true], [kx_1 (.ifCond .ne 10) 3 24]),
  (17, [true], [kx_0 (.aload_n 0) 1, kx_i (.bipush (-2)) 2 (-2), kx_3 (.invokevirtual 82) 3 43 2 5]),
  (23, [], [kx_0 (.ireturn) 1]),
  (24, [true, true, true], [kx_1 (.iload_n 2) 1 2, kx_s (.tableswitch 102 0 4 #[35, 47, 59, 71, 91]) 35 127 [(0, 60), (1, 72), (2, 84), (3, 96), (4, 116)]]),
  (60, [true, true], [kx_0 (.aload_n 0) 1, kx_3 (.getfield 10) 3 5 0 2, kx_3 (.getfield 130) 3 4 4 1, kx_1 (.iload_n 1) 1 1, kx_3 (.invokestatic 120) 3 170 2 0]),
  (71, [], [kx_0 (.ireturn) 1]),
  (72, [true, true], [kx_0 (.aload_n 0) 1, kx_3 (.getfield 10) 3 5 0 2, kx_3 (.getfield 162) 3 4 6 1, kx_1 (.iload_n 1) 1 1, kx_3 (.invokestatic 120) 3 170 2 0]),
  (83, [], [kx_0 (.ireturn) 1]),
  (84, [true, true], [kx_0 (.aload_n 0) 1, kx_3 (.getfield 10) 3 5 0 2, kx_3 (.getfield 165) 3 4 5 1, kx_1 (.iload_n 1) 1 1, kx_3 (.invokestatic 120) 3 170 2 0]),
  (95, [], [kx_0 (.ireturn) 1]),
  (96, [true, true], [kx_0 (.aload_n 0) 1, kx_3 (.invokevirtual 168) 3 49 1 5]),
  (100, [true, true], [kx_0 (.aload_n 0) 1, kx_3 (.getfield 44) 3 5 7 2, kx_1 (.iload_n 1) 1 1, kx_0 (.aload_n 0) 1, kx_3 (.getfield 10) 3 5 0 2, kx_3 (.getfield 130) 3 4 4 1, kx_3 (.invokevirtual 171) 3 161 3 0]),
  (115, [], [kx_0 (.ireturn) 1]),
  (116, [true, true], [kx_0 (.aload_n 0) 1, kx_3 (.invokevirtual 149) 3 48 1 5]),
  (120, [false, true], [kx_i (.iconst 1) 1 1, kx_1 (.iload_n 1) 1 1, kx_0 (.ishl) 1, kx_3 (.invokevirtual 175) 3 194 2 2]),
  (126, [], [kx_0 (.ireturn) 1]),
  (127, [true, true], [kx_0 (.aload_n 0) 1, kx_3 (.invokevirtual 149) 3 48 1 5]),
  (131, [false, true], [kx_i (.iconst 1) 1 1, kx_1 (.iload_n 1) 1 1, kx_0 (.ishl) 1, kx_3 (.invokevirtual 178) 3 195 2 2]),
  (137, [], [kx_0 (.ireturn) 1])])
/-- PalletNets.arcOf(III)I -/
def kp_9 : km_P := (4, false, [(0, [true, true, true, true], [kx_0 (.aload_n 0) 1, kx_1 (.iload_n 1) 1 1, kx_3 (.invokevirtual 106) 3 39 2 5]),
  (5, [true, true, true, true], [kx_1 (.ifCond .eq 20) 3 25]),
  (8, [true, true, true, true], [kx_0 (.aload_n 0) 1, kx_1 (.iload_n 2) 1 2, kx_3 (.invokevirtual 110) 3 38 2 5]),
  (13, [true, true, true, true], [kx_1 (.ifCond .eq 12) 3 25]),
  (16, [true, true, true, true], [kx_1 (.iload_n 3) 1 3, kx_i (.iconst 0) 1 0, kx_i (.iconst 1) 1 1, kx_3 (.invokestatic 78) 3 37 3 0]),
  (22, [true, true, true, true], [kx_1 (.ifCond .ne 10) 3 32]),
  (25, [true], [kx_0 (.aload_n 0) 1, kx_i (.bipush (-2)) 2 (-2), kx_3 (.invokevirtual 82) 3 43 2 5]),
  (31, [], [kx_0 (.ireturn) 1]),
  (32, [true, true, true, true], [kx_1 (.iload_n 3) 1 3, kx_1 (.ifCond .ne 15) 3 48]),
  (36, [true, true, true], [kx_0 (.aload_n 0) 1, kx_3 (.getfield 10) 3 5 0 2, kx_3 (.getfield 113) 3 4 7 2, kx_1 (.iload_n 1) 1 1, kx_0 (.laload) 1, kx_1 (.goto 12) 3 57]),
  (48, [true, true, true], [kx_0 (.aload_n 0) 1, kx_3 (.getfield 10) 3 5 0 2, kx_3 (.getfield 117) 3 4 8 2, kx_1 (.iload_n 1) 1 1, kx_0 (.laload) 1]),
  (57, [false, false, true], [kx_1 (.iload_n 2) 1 2, kx_3 (.invokestatic 120) 3 170 2 0]),
  (61, [], [kx_0 (.ireturn) 1])])
/-- PalletNets.stepOf(II)I -/
def kp_10 : km_P := (3, false, [(0, [true, true, true], [kx_0 (.aload_n 0) 1, kx_1 (.iload_n 1) 1 1, kx_3 (.invokevirtual 106) 3 39 2 5]),
  (5, [true, true, true], [kx_1 (.ifCond .eq 12) 3 17]),
  (8, [true, true, true], [kx_1 (.iload_n 2) 1 2, kx_i (.iconst 0) 1 0, kx_i (.iconst 2) 1 2, kx_3 (.invokestatic 78) 3 37 3 0]),
  (14, [true, true, true], [kx_1 (.ifCond .ne 10) 3 24]),
  (17, [true], [kx_0 (.aload_n 0) 1, kx_i (.bipush (-2)) 2 (-2), kx_3 (.invokevirtual 82) 3 43 2 5]),
  (23, [], [kx_0 (.ireturn) 1]),
  (24, [true, true, true], [kx_1 (.iload_n 2) 1 2, kx_s (.lookupswitch 57 #[(0, 27), (1, 37)]) 27 82 [(0, 52), (1, 62)]]),
  (52, [true, true], [kx_0 (.aload_n 0) 1, kx_3 (.getfield 10) 3 5 0 2, kx_3 (.getfield 134) 3 4 9 2, kx_1 (.iload_n 1) 1 1, kx_0 (.iaload) 1, kx_0 (.ireturn) 1]),
  (62, [true, true], [kx_0 (.aload_n 0) 1, kx_3 (.getfield 10) 3 5 0 2, kx_3 (.getfield 113) 3 4 7 2, kx_1 (.iload_n 1) 1 1, kx_0 (.laload) 1, kx_0 (.aload_n 0) 1, kx_3 (.getfield 10) 3 5 0 2, kx_3 (.invokevirtual 181) 3 212 1 4]),
  (78, [], [kx_3 (.invokestatic 185) 3 172 2 0]),
  (81, [], [kx_0 (.ireturn) 1]),
  (82, [true, true], [kx_0 (.aload_n 0) 1, kx_3 (.getfield 10) 3 5 0 2, kx_3 (.getfield 117) 3 4 8 2, kx_1 (.iload_n 1) 1 1, kx_0 (.laload) 1, kx_0 (.aload_n 0) 1, kx_3 (.getfield 10) 3 5 0 2, kx_3 (.invokevirtual 181) 3 212 1 4]),
  (98, [], [kx_3 (.invokestatic 185) 3 172 2 0]),
  (101, [], [kx_0 (.ireturn) 1])])
/-- PalletNets.can(I)I -/
def kp_11 : km_P := (2, false, [(0, [true, true], [kx_0 (.aload_n 0) 1, kx_1 (.iload_n 1) 1 1, kx_3 (.invokevirtual 106) 3 39 2 5]),
  (5, [true, true], [kx_1 (.ifCond .eq 11) 3 16]),
  (8, [true, true], [kx_0 (.aload_n 0) 1, kx_1 (.iload_n 1) 1 1, kx_3 (.invokevirtual 188) 3 50 2 5]),
  (13, [], [kx_1 (.goto 9) 3 22]),
  (16, [true], [kx_0 (.aload_n 0) 1, kx_i (.bipush (-2)) 2 (-2), kx_3 (.invokevirtual 82) 3 43 2 5]),
  (22, [], [kx_0 (.ireturn) 1])])
/-- PalletNets.goes(I)I -/
def kp_12 : km_P := (4, false, [(0, [true, true], [kx_0 (.aload_n 0) 1, kx_1 (.iload_n 1) 1 1, kx_3 (.invokevirtual 106) 3 39 2 5]),
  (5, [true, true], [kx_1 (.ifCond .ne 10) 3 15]),
  (8, [true], [kx_0 (.aload_n 0) 1, kx_i (.bipush (-2)) 2 (-2), kx_3 (.invokevirtual 82) 3 43 2 5]),
  (14, [], [kx_0 (.ireturn) 1]),
  (15, [true, true], [kx_0 (.aload_n 0) 1, kx_1 (.iload_n 1) 1 1, kx_3 (.invokevirtual 188) 3 50 2 5]),
  (20, [true, true], [kx_1 (.ifCond .eq 10) 3 30]),
  (23, [true], [kx_0 (.aload_n 0) 1, kx_i (.bipush (-3)) 2 (-3), kx_3 (.invokevirtual 82) 3 43 2 5]),
  (29, [], [kx_0 (.ireturn) 1]),
  (30, [true, true], [kx_0 (.aload_n 0) 1, kx_3 (.invokevirtual 89) 3 44 1 5]),
  (34, [true, true], [kx_0 (.aload_n 0) 1, kx_3 (.getfield 10) 3 5 0 2, kx_0 (.aload_n 0) 1, kx_3 (.getfield 10) 3 5 0 2, kx_0 (.aload_n 0) 1, kx_3 (.getfield 10) 3 5 0 2, kx_3 (.getfield 162) 3 4 6 1, kx_1 (.iload_n 1) 1 1, kx_3 (.invokevirtual 191) 3 228 3 4]),
  (53, [true], [kx_3 (.putfield 162) 3 4 6 1, kx_i (.iconst 0) 1 0, kx_1 (.istore_n 2) 1 2, kx_i (.iconst 0) 1 0, kx_1 (.istore_n 3) 1 3]),
  (60, [true, false, true, true], [kx_1 (.iload_n 3) 1 3, kx_0 (.aload_n 0) 1, kx_3 (.getfield 10) 3 5 0 2, kx_3 (.getfield 99) 3 4 1 0, kx_1 (.if_icmp .ge 31) 3 99]),
  (71, [true, false, true, true], [kx_0 (.aload_n 0) 1, kx_3 (.getfield 10) 3 5 0 2, kx_0 (.aload_n 0) 1, kx_3 (.getfield 10) 3 5 0 2, kx_3 (.getfield 162) 3 4 6 1, kx_1 (.iload_n 3) 1 3, kx_i (.iconst (-1)) 1 (-1), kx_3 (.invokevirtual 195) 3 229 4 4]),
  (87, [true, false, true, true], [kx_1 (.ifCond .ne 6) 3 93]),
  (90, [true, false, true, true], [kx_n (.iinc 2 1) 3 2 1]),
  (93, [true, false, true, true], [kx_n (.iinc 3 1) 3 3 1, kx_1 (.goto (-36)) 3 60]),
  (99, [false, false, true], [kx_1 (.iload_n 2) 1 2, kx_0 (.ireturn) 1])])
/-- PalletNets.runs(II)I -/
def kp_13 : km_P := (5, false, [(0, [true, true, true], [kx_1 (.iload_n 1) 1 1, kx_i (.iconst 1) 1 1, kx_i (.bipush 8) 2 8, kx_3 (.invokestatic 78) 3 37 3 0]),
  (7, [true, true, true], [kx_1 (.ifCond .eq 12) 3 19]),
  (10, [true, true, true], [kx_1 (.iload_n 2) 1 2, kx_i (.iconst 0) 1 0, kx_i (.iconst 2) 1 2, kx_3 (.invokestatic 78) 3 37 3 0]),
  (16, [true, true, true], [kx_1 (.ifCond .ne 10) 3 26]),
  (19, [true], [kx_0 (.aload_n 0) 1, kx_i (.bipush (-2)) 2 (-2), kx_3 (.invokevirtual 82) 3 43 2 5]),
  (25, [], [kx_0 (.ireturn) 1]),
  (26, [true, true, true], [kx_0 (.aload_n 0) 1, kx_3 (.invokevirtual 89) 3 44 1 5]),
  (30, [true, true, true], [kx_i (.iconst 0) 1 0, kx_1 (.istore_n 3) 1 3, kx_0 (.aload_n 0) 1, kx_1 (.iload_n 2) 1 2, kx_3 (.invokevirtual 198) 3 51 2 5]),
  (37, [true, true, true, true], [kx_1 (.istore 4) 2 4]),
  (39, [true, true, true, true, true], [kx_1 (.iload_n 3) 1 3, kx_1 (.iload_n 1) 1 1, kx_1 (.if_icmp .ge 54) 3 95]),
  (44, [true, true, true, true, true], [kx_1 (.iload 4) 2 4, kx_i (.iconst (-1)) 1 (-1), kx_1 (.if_icmp .eq 48) 3 95]),
  (50, [true, true, true, true, true], [kx_0 (.aload_n 0) 1, kx_3 (.getfield 10) 3 5 0 2, kx_0 (.aload_n 0) 1, kx_3 (.getfield 10) 3 5 0 2, kx_0 (.aload_n 0) 1, kx_3 (.getfield 10) 3 5 0 2, kx_3 (.getfield 162) 3 4 6 1, kx_1 (.iload 4) 2 4, kx_3 (.invokevirtual 191) 3 228 3 4]),
  (70, [true, true, true, true], [kx_3 (.putfield 162) 3 4 6 1, kx_n (.iinc 3 1) 3 3 1, kx_1 (.iload_n 3) 1 3, kx_1 (.iload_n 1) 1 1, kx_1 (.if_icmp .ge 11) 3 89]),
  (81, [true, true, true, true], [kx_0 (.aload_n 0) 1, kx_1 (.iload_n 2) 1 2, kx_3 (.invokevirtual 198) 3 51 2 5]),
  (86, [true, true, true, true], [kx_1 (.goto 4) 3 90]),
  (89, [true, true, true, true], [kx_i (.iconst (-1)) 1 (-1)]),
  (90, [true, true, true, true], [kx_1 (.istore 4) 2 4, kx_1 (.goto (-53)) 3 39]),
  (95, [false, false, false, true], [kx_1 (.iload_n 3) 1 3, kx_0 (.ireturn) 1])])
/-- PalletNets.restarts()I -/
def kp_14 : km_P := (1, false, [(0, [true], [kx_0 (.aload_n 0) 1, kx_3 (.invokevirtual 89) 3 44 1 5]),
  (4, [true], [kx_0 (.aload_n 0) 1, kx_3 (.getfield 10) 3 5 0 2, kx_0 (.aload_n 0) 1, kx_3 (.getfield 10) 3 5 0 2, kx_3 (.invokevirtual 201) 3 213 1 4]),
  (15, [true], [kx_3 (.putfield 162) 3 4 6 1, kx_0 (.aload_n 0) 1, kx_3 (.getfield 10) 3 5 0 2, kx_3 (.getfield 162) 3 4 6 1, kx_0 (.aload_n 0) 1, kx_3 (.getfield 10) 3 5 0 2, kx_3 (.invokevirtual 181) 3 212 1 4]),
  (32, [], [kx_3 (.invokestatic 185) 3 172 2 0]),
  (35, [], [kx_0 (.ireturn) 1])])
/-- PalletNets.loses(I)I -/
def kp_15 : km_P := (2, false, [(0, [true, true], [kx_0 (.aload_n 0) 1, kx_1 (.iload_n 1) 1 1, kx_3 (.invokevirtual 110) 3 38 2 5]),
  (5, [true, true], [kx_1 (.ifCond .ne 10) 3 15]),
  (8, [true], [kx_0 (.aload_n 0) 1, kx_i (.bipush (-2)) 2 (-2), kx_3 (.invokevirtual 82) 3 43 2 5]),
  (14, [], [kx_0 (.ireturn) 1]),
  (15, [true, true], [kx_0 (.aload_n 0) 1, kx_3 (.getfield 10) 3 5 0 2, kx_3 (.getfield 162) 3 4 6 1, kx_1 (.iload_n 1) 1 1, kx_3 (.invokestatic 120) 3 170 2 0]),
  (26, [true, true], [kx_1 (.ifCond .eq 28) 3 54]),
  (29, [true, true], [kx_0 (.aload_n 0) 1, kx_3 (.getfield 10) 3 5 0 2, kx_3 (.getfield 165) 3 4 5 1, kx_1 (.iload_n 1) 1 1, kx_3 (.invokestatic 120) 3 170 2 0]),
  (40, [true, true], [kx_0 (.aload_n 0) 1, kx_3 (.getfield 10) 3 5 0 2, kx_3 (.getfield 130) 3 4 4 1, kx_1 (.iload_n 1) 1 1, kx_3 (.invokestatic 120) 3 170 2 0]),
  (51, [true, true], [kx_1 (.if_icmp .lt 10) 3 61]),
  (54, [true], [kx_0 (.aload_n 0) 1, kx_i (.bipush (-3)) 2 (-3), kx_3 (.invokevirtual 82) 3 43 2 5]),
  (60, [], [kx_0 (.ireturn) 1]),
  (61, [true, true], [kx_0 (.aload_n 0) 1, kx_3 (.invokevirtual 89) 3 44 1 5]),
  (65, [true, true], [kx_0 (.aload_n 0) 1, kx_3 (.getfield 10) 3 5 0 2, kx_0 (.dup) 1, kx_3 (.getfield 162) 3 4 6 1, kx_1 (.iload_n 1) 1 1, kx_3 (.invokestatic 205) 3 169 1 0]),
  (77, [true, true], [kx_0 (.lsub) 1, kx_3 (.putfield 162) 3 4 6 1, kx_0 (.aload_n 0) 1, kx_3 (.getfield 10) 3 5 0 2, kx_0 (.dup) 1, kx_3 (.getfield 165) 3 4 5 1, kx_1 (.iload_n 1) 1 1, kx_3 (.invokestatic 205) 3 169 1 0]),
  (93, [true, true], [kx_0 (.ladd) 1, kx_3 (.putfield 165) 3 4 5 1, kx_0 (.aload_n 0) 1, kx_3 (.getfield 10) 3 5 0 2, kx_3 (.getfield 162) 3 4 6 1, kx_1 (.iload_n 1) 1 1, kx_3 (.invokestatic 120) 3 170 2 0]),
  (108, [], [kx_0 (.ireturn) 1])])
/-- PalletNets.returns(I)I -/
def kp_16 : km_P := (2, false, [(0, [true, true], [kx_0 (.aload_n 0) 1, kx_1 (.iload_n 1) 1 1, kx_3 (.invokevirtual 110) 3 38 2 5]),
  (5, [true, true], [kx_1 (.ifCond .ne 10) 3 15]),
  (8, [true], [kx_0 (.aload_n 0) 1, kx_i (.bipush (-2)) 2 (-2), kx_3 (.invokevirtual 82) 3 43 2 5]),
  (14, [], [kx_0 (.ireturn) 1]),
  (15, [true, true], [kx_0 (.aload_n 0) 1, kx_3 (.getfield 10) 3 5 0 2, kx_3 (.getfield 165) 3 4 5 1, kx_1 (.iload_n 1) 1 1, kx_3 (.invokestatic 120) 3 170 2 0]),
  (26, [true, true], [kx_1 (.ifCond .eq 19) 3 45]),
  (29, [true, true], [kx_0 (.aload_n 0) 1, kx_3 (.getfield 10) 3 5 0 2, kx_3 (.getfield 162) 3 4 6 1, kx_1 (.iload_n 1) 1 1, kx_3 (.invokestatic 120) 3 170 2 0]),
  (40, [true, true], [kx_i (.bipush 15) 2 15, kx_1 (.if_icmp .lt 10) 3 52]),
  (45, [true], [kx_0 (.aload_n 0) 1, kx_i (.bipush (-3)) 2 (-3), kx_3 (.invokevirtual 82) 3 43 2 5]),
  (51, [], [kx_0 (.ireturn) 1]),
  (52, [true, true], [kx_0 (.aload_n 0) 1, kx_3 (.invokevirtual 89) 3 44 1 5]),
  (56, [true, true], [kx_0 (.aload_n 0) 1, kx_3 (.getfield 10) 3 5 0 2, kx_0 (.dup) 1, kx_3 (.getfield 162) 3 4 6 1, kx_1 (.iload_n 1) 1 1, kx_3 (.invokestatic 205) 3 169 1 0]),
  (68, [true, true], [kx_0 (.ladd) 1, kx_3 (.putfield 162) 3 4 6 1, kx_0 (.aload_n 0) 1, kx_3 (.getfield 10) 3 5 0 2, kx_0 (.dup) 1, kx_3 (.getfield 165) 3 4 5 1, kx_1 (.iload_n 1) 1 1, kx_3 (.invokestatic 205) 3 169 1 0]),
  (84, [true, true], [kx_0 (.lsub) 1, kx_3 (.putfield 165) 3 4 5 1, kx_0 (.aload_n 0) 1, kx_3 (.getfield 10) 3 5 0 2, kx_3 (.getfield 165) 3 4 5 1, kx_1 (.iload_n 1) 1 1, kx_3 (.invokestatic 120) 3 170 2 0]),
  (99, [], [kx_0 (.ireturn) 1])])
/-- PalletNets.keeper(I)I -/
def kp_17 : km_P := (3, false, [(0, [true, true], [kx_1 (.iload_n 1) 1 1, kx_i (.iconst 0) 1 0, kx_i (.iconst 1) 1 1, kx_3 (.invokestatic 78) 3 37 3 0]),
  (6, [true, true], [kx_1 (.ifCond .ne 10) 3 16]),
  (9, [true], [kx_0 (.aload_n 0) 1, kx_i (.bipush (-2)) 2 (-2), kx_3 (.invokevirtual 82) 3 43 2 5]),
  (15, [], [kx_0 (.ireturn) 1]),
  (16, [true, true], [kx_0 (.aload_n 0) 1, kx_3 (.invokevirtual 89) 3 44 1 5]),
  (20, [true, true], [kx_0 (.aload_n 0) 1, kx_3 (.getfield 10) 3 5 0 2, kx_3 (.getfield 159) 3 4 3 3, kx_1 (.ifCond .eq 7) 3 34]),
  (30, [true, true], [kx_i (.iconst 1) 1 1, kx_1 (.goto 4) 3 35]),
  (34, [true, true], [kx_i (.iconst 0) 1 0]),
  (35, [true, true], [kx_1 (.istore_n 2) 1 2, kx_0 (.aload_n 0) 1, kx_3 (.getfield 10) 3 5 0 2, kx_1 (.iload_n 1) 1 1, kx_i (.iconst 1) 1 1, kx_1 (.if_icmp .ne 7) 3 49]),
  (45, [false, false, true], [kx_i (.iconst 1) 1 1, kx_1 (.goto 4) 3 50]),
  (49, [false, false, true], [kx_i (.iconst 0) 1 0]),
  (50, [false, false, true], [kx_3 (.putfield 159) 3 4 3 3, kx_1 (.iload_n 2) 1 2, kx_0 (.ireturn) 1])])
/-- PalletNets.sums()I -/
def kp_18 : km_P := (1, false, [(0, [true], [kx_0 (.aload_n 0) 1, kx_3 (.invokevirtual 168) 3 49 1 5]),
  (4, [true], [kx_0 (.aload_n 0) 1, kx_3 (.getfield 44) 3 5 7 2, kx_1 (.getfield 209) 3 0, kx_0 (.ireturn) 1])])
/-- PalletNets.sum(II)I -/
def kp_19 : km_P := (3, false, [(0, [true, true, true], [kx_1 (.iload_n 1) 1 1, kx_1 (.ifCond .lt 11) 3 12]),
  (4, [true, true, true], [kx_0 (.aload_n 0) 1, kx_1 (.iload_n 2) 1 2, kx_3 (.invokevirtual 110) 3 38 2 5]),
  (9, [true, true, true], [kx_1 (.ifCond .ne 10) 3 19]),
  (12, [true], [kx_0 (.aload_n 0) 1, kx_i (.bipush (-2)) 2 (-2), kx_3 (.invokevirtual 82) 3 43 2 5]),
  (18, [], [kx_0 (.ireturn) 1]),
  (19, [true, true, true], [kx_0 (.aload_n 0) 1, kx_3 (.invokevirtual 168) 3 49 1 5]),
  (23, [true, true, true], [kx_1 (.iload_n 1) 1 1, kx_0 (.aload_n 0) 1, kx_3 (.getfield 44) 3 5 7 2, kx_1 (.getfield 209) 3 0, kx_1 (.if_icmp .ge 15) 3 46]),
  (34, [true, true, true], [kx_0 (.aload_n 0) 1, kx_3 (.getfield 44) 3 5 7 2, kx_1 (.iload_n 1) 1 1, kx_1 (.iload_n 2) 1 2, kx_3 (.invokevirtual 210) 3 159 3 0]),
  (43, [], [kx_1 (.goto 4) 3 47]),
  (46, [], [kx_i (.iconst (-1)) 1 (-1)]),
  (47, [], [kx_0 (.ireturn) 1])])
/-- PalletNets.value(II)I -/
def kp_20 : km_P := (3, false, [(0, [true, true, true], [kx_1 (.iload_n 1) 1 1, kx_1 (.ifCond .lt 12) 3 13]),
  (4, [true, true, true], [kx_1 (.iload_n 2) 1 2, kx_i (.iconst 0) 1 0, kx_i (.iconst 3) 1 3, kx_3 (.invokestatic 78) 3 37 3 0]),
  (10, [true, true, true], [kx_1 (.ifCond .ne 10) 3 20]),
  (13, [true], [kx_0 (.aload_n 0) 1, kx_i (.bipush (-2)) 2 (-2), kx_3 (.invokevirtual 82) 3 43 2 5]),
  (19, [], [kx_0 (.ireturn) 1]),
  (20, [true, true, true], [kx_0 (.aload_n 0) 1, kx_3 (.invokevirtual 168) 3 49 1 5]),
  (24, [true, true, true], [kx_1 (.iload_n 1) 1 1, kx_0 (.aload_n 0) 1, kx_3 (.getfield 44) 3 5 7 2, kx_1 (.getfield 209) 3 0, kx_1 (.if_icmp .lt 5) 3 37]),
  (35, [], [kx_i (.iconst (-1)) 1 (-1), kx_0 (.ireturn) 1]),
  (37, [true, true, true], [kx_1 (.iload_n 2) 1 2, kx_s (.tableswitch 74 0 2 #[26, 42, 58]) 26 112 [(0, 64), (1, 80), (2, 96)]]),
  (64, [true, true], [kx_0 (.aload_n 0) 1, kx_3 (.getfield 44) 3 5 7 2, kx_1 (.iload_n 1) 1 1, kx_0 (.aload_n 0) 1, kx_3 (.getfield 10) 3 5 0 2, kx_3 (.getfield 130) 3 4 4 1, kx_3 (.invokevirtual 214) 3 160 3 0]),
  (79, [], [kx_0 (.ireturn) 1]),
  (80, [true, true], [kx_0 (.aload_n 0) 1, kx_3 (.getfield 44) 3 5 7 2, kx_1 (.iload_n 1) 1 1, kx_0 (.aload_n 0) 1, kx_3 (.getfield 10) 3 5 0 2, kx_3 (.getfield 162) 3 4 6 1, kx_3 (.invokevirtual 214) 3 160 3 0]),
  (95, [], [kx_0 (.ireturn) 1]),
  (96, [true, true], [kx_0 (.aload_n 0) 1, kx_3 (.getfield 44) 3 5 7 2, kx_1 (.iload_n 1) 1 1, kx_0 (.aload_n 0) 1, kx_3 (.getfield 10) 3 5 0 2, kx_3 (.invokevirtual 201) 3 213 1 4]),
  (108, [], [kx_3 (.invokevirtual 214) 3 160 3 0]),
  (111, [], [kx_0 (.ireturn) 1]),
  (112, [true, true], [kx_0 (.aload_n 0) 1, kx_3 (.getfield 44) 3 5 7 2, kx_3 (.getfield 217) 3 0 1 2, kx_1 (.iload_n 1) 1 1, kx_0 (.iaload) 1, kx_0 (.ireturn) 1])])
/-- PalletNets.stucks()I -/
def kp_21 : km_P := (1, false, [(0, [true], [kx_0 (.aload_n 0) 1, kx_3 (.invokevirtual 168) 3 49 1 5]),
  (4, [true], [kx_0 (.aload_n 0) 1, kx_3 (.getfield 51) 3 5 8 2, kx_1 (.getfield 220) 3 3, kx_0 (.ireturn) 1])])
/-- PalletNets.stuck(II)I -/
def kp_22 : km_P := (4, false, [(0, [true, true, true], [kx_1 (.iload_n 1) 1 1, kx_1 (.ifCond .lt 12) 3 13]),
  (4, [true, true, true], [kx_1 (.iload_n 2) 1 2, kx_i (.iconst 0) 1 0, kx_i (.iconst 5) 1 5, kx_3 (.invokestatic 78) 3 37 3 0]),
  (10, [true, true, true], [kx_1 (.ifCond .ne 10) 3 20]),
  (13, [true], [kx_0 (.aload_n 0) 1, kx_i (.bipush (-2)) 2 (-2), kx_3 (.invokevirtual 82) 3 43 2 5]),
  (19, [], [kx_0 (.ireturn) 1]),
  (20, [true, true, true], [kx_0 (.aload_n 0) 1, kx_3 (.invokevirtual 168) 3 49 1 5]),
  (24, [true, true, true], [kx_1 (.iload_n 1) 1 1, kx_0 (.aload_n 0) 1, kx_3 (.getfield 51) 3 5 8 2, kx_1 (.getfield 220) 3 3, kx_1 (.if_icmp .lt 5) 3 37]),
  (35, [], [kx_i (.iconst (-1)) 1 (-1), kx_0 (.ireturn) 1]),
  (37, [true, true, true], [kx_0 (.aload_n 0) 1, kx_3 (.getfield 51) 3 5 8 2, kx_3 (.getfield 221) 3 3 1 2, kx_1 (.iload_n 1) 1 1, kx_0 (.iaload) 1, kx_1 (.istore_n 3) 1 3, kx_1 (.iload_n 2) 1 2, kx_s (.tableswitch 85 0 4 #[36, 38, 50, 62, 71]) 36 133 [(0, 84), (1, 86), (2, 98), (3, 110), (4, 119)]]),
  (84, [false, false, false, true], [kx_1 (.iload_n 3) 1 3, kx_0 (.ireturn) 1]),
  (86, [true, false, false, true], [kx_0 (.aload_n 0) 1, kx_3 (.getfield 10) 3 5 0 2, kx_3 (.getfield 130) 3 4 4 1, kx_1 (.iload_n 3) 1 3, kx_3 (.invokestatic 185) 3 172 2 0]),
  (97, [], [kx_0 (.ireturn) 1]),
  (98, [true, false, false, true], [kx_0 (.aload_n 0) 1, kx_3 (.getfield 10) 3 5 0 2, kx_3 (.getfield 162) 3 4 6 1, kx_1 (.iload_n 3) 1 3, kx_3 (.invokestatic 185) 3 172 2 0]),
  (109, [], [kx_0 (.ireturn) 1]),
  (110, [true, false, false, true], [kx_0 (.aload_n 0) 1, kx_3 (.getfield 51) 3 5 8 2, kx_1 (.iload_n 3) 1 3, kx_3 (.invokevirtual 224) 3 210 2 3]),
  (118, [], [kx_0 (.ireturn) 1]),
  (119, [true, false, false, true], [kx_0 (.aload_n 0) 1, kx_1 (.iload_n 3) 1 3, kx_3 (.invokevirtual 227) 3 42 2 5]),
  (124, [], [kx_1 (.ifCond .eq 7) 3 131]),
  (127, [], [kx_i (.iconst 1) 1 1, kx_1 (.goto 4) 3 132]),
  (131, [], [kx_i (.iconst 0) 1 0]),
  (132, [], [kx_0 (.ireturn) 1]),
  (133, [true, false, false, true], [kx_0 (.aload_n 0) 1, kx_3 (.invokevirtual 149) 3 48 1 5]),
  (137, [false, false, false, true], [kx_1 (.iload_n 3) 1 3, kx_3 (.invokevirtual 178) 3 195 2 2]),
  (141, [], [kx_0 (.ireturn) 1])])
/-- PalletNets.sort(I)I -/
def kp_23 : km_P := (4, false, [(0, [true, true], [kx_0 (.aload_n 0) 1, kx_1 (.iload_n 1) 1 1, kx_3 (.invokevirtual 230) 3 41 2 5]),
  (5, [true, true], [kx_1 (.ifCond .ne 10) 3 15]),
  (8, [true], [kx_0 (.aload_n 0) 1, kx_i (.bipush (-2)) 2 (-2), kx_3 (.invokevirtual 82) 3 43 2 5]),
  (14, [], [kx_0 (.ireturn) 1]),
  (15, [true, true], [kx_0 (.aload_n 0) 1, kx_3 (.invokevirtual 168) 3 49 1 5]),
  (19, [true, true], [kx_0 (.aload_n 0) 1, kx_3 (.getfield 51) 3 5 8 2, kx_1 (.iload_n 1) 1 1, kx_3 (.invokevirtual 233) 3 208 2 3]),
  (27, [true, true], [kx_1 (.ifCond .eq 7) 3 34]),
  (30, [true, true], [kx_i (.iconst 1) 1 1, kx_1 (.goto 4) 3 35]),
  (34, [true, true], [kx_i (.iconst 0) 1 0]),
  (35, [true, true], [kx_1 (.istore_n 2) 1 2, kx_0 (.aload_n 0) 1, kx_3 (.getfield 51) 3 5 8 2, kx_1 (.iload_n 1) 1 1, kx_3 (.invokevirtual 236) 3 209 2 3]),
  (44, [false, false, true], [kx_1 (.ifCond .eq 7) 3 51]),
  (47, [false, false, true], [kx_i (.iconst 2) 1 2, kx_1 (.goto 4) 3 52]),
  (51, [false, false, true], [kx_i (.iconst 0) 1 0]),
  (52, [false, false, true], [kx_1 (.istore_n 3) 1 3, kx_1 (.iload_n 2) 1 2, kx_1 (.iload_n 3) 1 3, kx_0 (.iadd) 1, kx_0 (.ireturn) 1])])
/-- PalletNets.guard(II)I -/
def kp_24 : km_P := (3, false, [(0, [true, true, true], [kx_0 (.aload_n 0) 1, kx_1 (.iload_n 1) 1 1, kx_3 (.invokevirtual 230) 3 41 2 5]),
  (5, [true, true, true], [kx_1 (.ifCond .eq 13) 3 18]),
  (8, [true, true, true], [kx_1 (.iload_n 2) 1 2, kx_i (.iconst 1) 1 1, kx_i (.bipush 9) 2 9, kx_3 (.invokestatic 78) 3 37 3 0]),
  (15, [true, true, true], [kx_1 (.ifCond .ne 10) 3 25]),
  (18, [true], [kx_0 (.aload_n 0) 1, kx_i (.bipush (-2)) 2 (-2), kx_3 (.invokevirtual 82) 3 43 2 5]),
  (24, [], [kx_0 (.ireturn) 1]),
  (25, [true, true, true], [kx_0 (.aload_n 0) 1, kx_3 (.getfield 10) 3 5 0 2, kx_3 (.invokevirtual 201) 3 213 1 4]),
  (32, [true, true, true], [kx_1 (.iload_n 1) 1 1, kx_3 (.invokestatic 185) 3 172 2 0]),
  (36, [true, true, true], [kx_1 (.iload_n 2) 1 2, kx_1 (.if_icmp .ge 10) 3 47]),
  (40, [true], [kx_0 (.aload_n 0) 1, kx_i (.bipush (-3)) 2 (-3), kx_3 (.invokevirtual 82) 3 43 2 5]),
  (46, [], [kx_0 (.ireturn) 1]),
  (47, [true, true, true], [kx_0 (.aload_n 0) 1, kx_3 (.getfield 10) 3 5 0 2, kx_3 (.getfield 239) 3 4 2 0, kx_i (.iconst 5) 1 5, kx_1 (.if_icmp .lt 10) 3 65]),
  (58, [true], [kx_0 (.aload_n 0) 1, kx_i (.bipush (-4)) 2 (-4), kx_3 (.invokevirtual 82) 3 43 2 5]),
  (64, [], [kx_0 (.ireturn) 1]),
  (65, [true, true, true], [kx_0 (.aload_n 0) 1, kx_3 (.invokevirtual 89) 3 44 1 5]),
  (69, [true, true, true], [kx_0 (.aload_n 0) 1, kx_3 (.getfield 10) 3 5 0 2, kx_1 (.iload_n 1) 1 1, kx_1 (.iload_n 2) 1 2, kx_3 (.invokevirtual 242) 3 225 3 4]),
  (78, [true], [kx_0 (.aload_n 0) 1, kx_3 (.getfield 10) 3 5 0 2, kx_3 (.getfield 239) 3 4 2 0, kx_i (.iconst 1) 1 1, kx_0 (.isub) 1, kx_0 (.ireturn) 1])])
/-- PalletNets.guards()I -/
def kp_25 : km_P := (4, false, [(0, [true], [kx_0 (.aload_n 0) 1, kx_3 (.invokevirtual 89) 3 44 1 5]),
  (4, [true], [kx_0 (.aload_n 0) 1, kx_3 (.invokevirtual 168) 3 49 1 5]),
  (8, [true], [kx_i (.iconst 0) 1 0, kx_1 (.istore_n 1) 1 1, kx_i (.iconst 0) 1 0, kx_1 (.istore_n 2) 1 2]),
  (12, [true, true, true], [kx_1 (.iload_n 2) 1 2, kx_0 (.aload_n 0) 1, kx_3 (.getfield 51) 3 5 8 2, kx_1 (.getfield 220) 3 3, kx_1 (.if_icmp .ge 75) 3 95]),
  (23, [true, true, true], [kx_0 (.aload_n 0) 1, kx_3 (.getfield 10) 3 5 0 2, kx_3 (.getfield 239) 3 4 2 0, kx_i (.iconst 5) 1 5, kx_1 (.if_icmp .ge 64) 3 95]),
  (34, [true, true, true], [kx_0 (.aload_n 0) 1, kx_3 (.getfield 51) 3 5 8 2, kx_3 (.getfield 221) 3 3 1 2, kx_1 (.iload_n 2) 1 2, kx_0 (.iaload) 1, kx_1 (.istore_n 3) 1 3, kx_0 (.aload_n 0) 1, kx_1 (.iload_n 3) 1 3, kx_3 (.invokevirtual 227) 3 42 2 5]),
  (49, [true, true, true, true], [kx_1 (.ifCond .ne 40) 3 89]),
  (52, [true, true, true, true], [kx_0 (.aload_n 0) 1, kx_3 (.getfield 10) 3 5 0 2, kx_3 (.invokevirtual 201) 3 213 1 4]),
  (59, [true, true, true, true], [kx_1 (.iload_n 3) 1 3, kx_3 (.invokestatic 185) 3 172 2 0]),
  (63, [true, true, true, true], [kx_1 (.ifCond .le 26) 3 89]),
  (66, [true, true, true, true], [kx_0 (.aload_n 0) 1, kx_3 (.getfield 10) 3 5 0 2, kx_1 (.iload_n 3) 1 3, kx_3 (.invokevirtual 246) 3 227 2 4]),
  (74, [true, true, true, true], [kx_1 (.ifCond .ne 15) 3 89]),
  (77, [true, true, true, true], [kx_0 (.aload_n 0) 1, kx_3 (.getfield 10) 3 5 0 2, kx_1 (.iload_n 3) 1 3, kx_i (.iconst 1) 1 1, kx_3 (.invokevirtual 242) 3 225 3 4]),
  (86, [true, true, true], [kx_n (.iinc 1 1) 3 1 1]),
  (89, [true, true, true], [kx_n (.iinc 2 1) 3 2 1, kx_1 (.goto (-80)) 3 12]),
  (95, [false, true], [kx_1 (.iload_n 1) 1 1, kx_0 (.ireturn) 1])])
/-- PalletNets.drop(I)I -/
def kp_26 : km_P := (2, false, [(0, [true, true], [kx_0 (.aload_n 0) 1, kx_1 (.iload_n 1) 1 1, kx_3 (.invokevirtual 249) 3 40 2 5]),
  (5, [true, true], [kx_1 (.ifCond .ne 10) 3 15]),
  (8, [true], [kx_0 (.aload_n 0) 1, kx_i (.bipush (-2)) 2 (-2), kx_3 (.invokevirtual 82) 3 43 2 5]),
  (14, [], [kx_0 (.ireturn) 1]),
  (15, [true, true], [kx_0 (.aload_n 0) 1, kx_3 (.invokevirtual 89) 3 44 1 5]),
  (19, [true, true], [kx_0 (.aload_n 0) 1, kx_3 (.getfield 10) 3 5 0 2, kx_1 (.iload_n 1) 1 1, kx_3 (.invokevirtual 252) 3 226 2 4]),
  (27, [true], [kx_0 (.aload_n 0) 1, kx_3 (.getfield 10) 3 5 0 2, kx_3 (.getfield 239) 3 4 2 0, kx_0 (.ireturn) 1])])
/-- PalletNets.guardOf(II)I -/
def kp_27 : km_P := (4, false, [(0, [true, true, true], [kx_0 (.aload_n 0) 1, kx_1 (.iload_n 1) 1 1, kx_3 (.invokevirtual 249) 3 40 2 5]),
  (5, [true, true, true], [kx_1 (.ifCond .eq 12) 3 17]),
  (8, [true, true, true], [kx_1 (.iload_n 2) 1 2, kx_i (.iconst 0) 1 0, kx_i (.iconst 4) 1 4, kx_3 (.invokestatic 78) 3 37 3 0]),
  (14, [true, true, true], [kx_1 (.ifCond .ne 10) 3 24]),
  (17, [true], [kx_0 (.aload_n 0) 1, kx_i (.bipush (-2)) 2 (-2), kx_3 (.invokevirtual 82) 3 43 2 5]),
  (23, [], [kx_0 (.ireturn) 1]),
  (24, [true, true, true], [kx_0 (.aload_n 0) 1, kx_3 (.getfield 10) 3 5 0 2, kx_3 (.getfield 255) 3 4 10 2, kx_1 (.iload_n 1) 1 1, kx_0 (.iaload) 1, kx_1 (.istore_n 3) 1 3, kx_1 (.iload_n 2) 1 2, kx_s (.tableswitch 62 0 3 #[29, 31, 41, 53]) 29 97 [(0, 64), (1, 66), (2, 76), (3, 88)]]),
  (64, [false, false, false, true], [kx_1 (.iload_n 3) 1 3, kx_0 (.ireturn) 1]),
  (66, [true, true], [kx_0 (.aload_n 0) 1, kx_3 (.getfield 10) 3 5 0 2, kx_3 (.getfield 258) 3 4 11 2, kx_1 (.iload_n 1) 1 1, kx_0 (.iaload) 1, kx_0 (.ireturn) 1]),
  (76, [true, false, false, true], [kx_0 (.aload_n 0) 1, kx_3 (.getfield 10) 3 5 0 2, kx_3 (.getfield 162) 3 4 6 1, kx_1 (.iload_n 3) 1 3, kx_3 (.invokestatic 185) 3 172 2 0]),
  (87, [], [kx_0 (.ireturn) 1]),
  (88, [true, true], [kx_0 (.aload_n 0) 1, kx_3 (.getfield 10) 3 5 0 2, kx_1 (.iload_n 1) 1 1, kx_3 (.invokevirtual 261) 3 231 2 4]),
  (96, [], [kx_0 (.ireturn) 1]),
  (97, [true, true, false, true], [kx_0 (.aload_n 0) 1, kx_3 (.getfield 38) 3 5 6 2, kx_0 (.aload_n 0) 1, kx_3 (.getfield 10) 3 5 0 2, kx_0 (.aload_n 0) 1, kx_3 (.getfield 10) 3 5 0 2, kx_3 (.invokevirtual 201) 3 213 1 4]),
  (112, [true, true, false, true], [kx_1 (.iload_n 1) 1 1, kx_l (.ldc2_w 264) 3 (-1), kx_3 (.invokevirtual 266) 3 190 5 2]),
  (119, [true, true, false, true], [kx_0 (.aload_n 0) 1, kx_3 (.getfield 38) 3 5 6 2, kx_1 (.iload_n 3) 1 3, kx_3 (.invokevirtual 178) 3 195 2 2]),
  (127, [true, true], [kx_0 (.aload_n 0) 1, kx_3 (.getfield 10) 3 5 0 2, kx_3 (.getfield 258) 3 4 11 2, kx_1 (.iload_n 1) 1 1, kx_0 (.iaload) 1, kx_1 (.if_icmp .lt 7) 3 143]),
  (139, [], [kx_i (.iconst 1) 1 1, kx_1 (.goto 4) 3 144]),
  (143, [], [kx_i (.iconst 0) 1 0]),
  (144, [], [kx_0 (.ireturn) 1])])
/-- PalletNets.all(I)I -/
def kp_28 : km_P := (3, false, [(0, [true, true], [kx_1 (.iload_n 1) 1 1, kx_i (.iconst 0) 1 0, kx_i (.iconst 5) 1 5, kx_3 (.invokestatic 78) 3 37 3 0]),
  (6, [true, true], [kx_1 (.ifCond .ne 10) 3 16]),
  (9, [true], [kx_0 (.aload_n 0) 1, kx_i (.bipush (-2)) 2 (-2), kx_3 (.invokevirtual 82) 3 43 2 5]),
  (15, [], [kx_0 (.ireturn) 1]),
  (16, [true, true], [kx_0 (.aload_n 0) 1, kx_3 (.invokevirtual 149) 3 48 1 5]),
  (20, [true, true], [kx_1 (.astore_n 2) 1 2, kx_1 (.iload_n 1) 1 1, kx_s (.tableswitch 97 0 4 #[34, 39, 59, 71, 85]) 34 119 [(0, 56), (1, 61), (2, 81), (3, 93), (4, 107)]]),
  (56, [false, false, true], [kx_1 (.aload_n 2) 1 2, kx_3 (.getfield 153) 3 2 3 0, kx_0 (.ireturn) 1]),
  (61, [true, false, true], [kx_1 (.aload_n 2) 1 2, kx_0 (.aload_n 0) 1, kx_3 (.getfield 10) 3 5 0 2, kx_3 (.getfield 99) 3 4 1 0, kx_3 (.invokevirtual 270) 3 199 2 2]),
  (72, [], [kx_1 (.ifCond .eq 7) 3 79]),
  (75, [], [kx_i (.iconst 1) 1 1, kx_1 (.goto 4) 3 80]),
  (79, [], [kx_i (.iconst 0) 1 0]),
  (80, [], [kx_0 (.ireturn) 1]),
  (81, [true, false, true], [kx_1 (.aload_n 2) 1 2, kx_0 (.aload_n 0) 1, kx_3 (.getfield 10) 3 5 0 2, kx_3 (.getfield 99) 3 4 1 0, kx_3 (.invokevirtual 273) 3 198 2 2]),
  (92, [], [kx_0 (.ireturn) 1]),
  (93, [true, false, true], [kx_1 (.aload_n 2) 1 2, kx_0 (.aload_n 0) 1, kx_3 (.getfield 10) 3 5 0 2, kx_i (.iconst 0) 1 0, kx_3 (.invokevirtual 276) 3 200 3 2]),
  (102, [false, false, true], [kx_1 (.aload_n 2) 1 2, kx_3 (.invokevirtual 280) 3 203 1 2]),
  (106, [], [kx_0 (.ireturn) 1]),
  (107, [true, false, true], [kx_1 (.aload_n 2) 1 2, kx_0 (.aload_n 0) 1, kx_3 (.getfield 10) 3 5 0 2, kx_3 (.getfield 99) 3 4 1 0, kx_3 (.invokevirtual 283) 3 197 2 2]),
  (118, [], [kx_0 (.ireturn) 1]),
  (119, [true, false, true], [kx_1 (.aload_n 2) 1 2, kx_0 (.aload_n 0) 1, kx_3 (.getfield 10) 3 5 0 2, kx_3 (.invokevirtual 181) 3 212 1 4]),
  (127, [], [kx_3 (.invokevirtual 175) 3 194 2 2]),
  (130, [], [kx_0 (.ireturn) 1])])
/-- PalletNets.found(II)J -/
def kp_29 : km_P := (4, false, [(0, [true, true, true], [kx_1 (.iload_n 1) 1 1, kx_1 (.ifCond .lt 12) 3 13]),
  (4, [true, true, true], [kx_1 (.iload_n 2) 1 2, kx_i (.iconst 0) 1 0, kx_i (.iconst 3) 1 3, kx_3 (.invokestatic 78) 3 37 3 0]),
  (10, [true, true, true], [kx_1 (.ifCond .ne 11) 3 21]),
  (13, [true], [kx_0 (.aload_n 0) 1, kx_i (.bipush (-2)) 2 (-2), kx_3 (.invokevirtual 82) 3 43 2 5]),
  (19, [], [kx_0 (.i2l) 1, kx_0 (.lreturn) 1]),
  (21, [true, true, true], [kx_0 (.aload_n 0) 1, kx_3 (.invokevirtual 149) 3 48 1 5]),
  (25, [true, true, true], [kx_1 (.astore_n 3) 1 3, kx_1 (.iload_n 1) 1 1, kx_1 (.aload_n 3) 1 3, kx_3 (.getfield 153) 3 2 3 0, kx_1 (.if_icmp .lt 7) 3 38]),
  (34, [], [kx_l (.ldc2_w 264) 3 (-1), kx_0 (.lreturn) 1]),
  (38, [true, true, true, true], [kx_1 (.iload_n 2) 1 2, kx_s (.tableswitch 68 0 2 #[25, 35, 43]) 25 107 [(0, 64), (1, 74), (2, 82)]]),
  (64, [false, true, false, true], [kx_1 (.aload_n 3) 1 3, kx_3 (.getfield 286) 3 2 0 2, kx_1 (.iload_n 1) 1 1, kx_0 (.laload) 1, kx_3 (.invokestatic 289) 3 176 1 0]),
  (73, [], [kx_0 (.lreturn) 1]),
  (74, [false, true, false, true], [kx_1 (.aload_n 3) 1 3, kx_3 (.getfield 293) 3 2 1 2, kx_1 (.iload_n 1) 1 1, kx_0 (.iaload) 1, kx_0 (.i2l) 1, kx_0 (.lreturn) 1]),
  (82, [true, true, false, true], [kx_1 (.aload_n 3) 1 3, kx_0 (.aload_n 0) 1, kx_3 (.getfield 10) 3 5 0 2, kx_i (.iconst 0) 1 0, kx_3 (.invokevirtual 276) 3 200 3 2]),
  (91, [false, true, false, true], [kx_1 (.aload_n 3) 1 3, kx_3 (.getfield 296) 3 2 2 2, kx_1 (.iload_n 1) 1 1, kx_0 (.iaload) 1, kx_i (.iconst (-1)) 1 (-1), kx_1 (.if_icmp .ne 7) 3 105]),
  (101, [], [kx_l (.lconst 0) 1 0, kx_1 (.goto 4) 3 106]),
  (105, [], [kx_l (.lconst 1) 1 1]),
  (106, [], [kx_0 (.lreturn) 1]),
  (107, [true, true, false, true], [kx_1 (.aload_n 3) 1 3, kx_1 (.iload_n 1) 1 1, kx_0 (.aload_n 0) 1, kx_3 (.getfield 10) 3 5 0 2, kx_3 (.getfield 99) 3 4 1 0, kx_3 (.invokevirtual 299) 3 196 3 2]),
  (119, [], [kx_0 (.i2l) 1, kx_0 (.lreturn) 1])])
/-- PalletNets.home(I)I -/
def kp_30 : km_P := (3, false, [(0, [true, true], [kx_1 (.iload_n 1) 1 1, kx_i (.iconst 0) 1 0, kx_i (.iconst 2) 1 2, kx_3 (.invokestatic 78) 3 37 3 0]),
  (6, [true, true], [kx_1 (.ifCond .ne 10) 3 16]),
  (9, [true], [kx_0 (.aload_n 0) 1, kx_i (.bipush (-2)) 2 (-2), kx_3 (.invokevirtual 82) 3 43 2 5]),
  (15, [], [kx_0 (.ireturn) 1]),
  (16, [true, true], [kx_0 (.aload_n 0) 1, kx_3 (.getfield 38) 3 5 6 2, kx_0 (.aload_n 0) 1, kx_3 (.getfield 10) 3 5 0 2, kx_0 (.aload_n 0) 1, kx_3 (.getfield 10) 3 5 0 2, kx_3 (.getfield 162) 3 4 6 1, kx_i (.iconst (-1)) 1 (-1), kx_l (.ldc2_w 264) 3 (-1), kx_3 (.invokevirtual 266) 3 190 5 2]),
  (38, [true, true], [kx_0 (.aload_n 0) 1, kx_3 (.getfield 38) 3 5 6 2, kx_0 (.aload_n 0) 1, kx_3 (.getfield 10) 3 5 0 2, kx_0 (.aload_n 0) 1, kx_3 (.getfield 38) 3 5 6 2, kx_0 (.aload_n 0) 1, kx_3 (.getfield 10) 3 5 0 2, kx_3 (.invokevirtual 201) 3 213 1 4]),
  (57, [true, true], [kx_3 (.invokevirtual 302) 3 193 2 2]),
  (60, [true, true], [kx_3 (.invokevirtual 276) 3 200 3 2]),
  (63, [true, true], [kx_0 (.aload_n 0) 1, kx_3 (.getfield 38) 3 5 6 2, kx_3 (.getfield 296) 3 2 2 2, kx_i (.iconst 0) 1 0, kx_0 (.iaload) 1, kx_1 (.istore_n 2) 1 2, kx_1 (.iload_n 2) 1 2, kx_i (.iconst (-1)) 1 (-1), kx_1 (.if_icmp .ne 5) 3 80]),
  (78, [], [kx_i (.iconst (-1)) 1 (-1), kx_0 (.ireturn) 1]),
  (80, [true, true, true], [kx_1 (.iload_n 1) 1 1, kx_s (.lookupswitch 39 #[(0, 27), (1, 33)]) 27 120 [(0, 108), (1, 114)]]),
  (108, [false, false, true], [kx_1 (.iload_n 2) 1 2, kx_i (.sipush 1000) 3 1000, kx_0 (.idiv) 1, kx_0 (.ireturn) 1]),
  (114, [false, false, true], [kx_1 (.iload_n 2) 1 2, kx_i (.sipush 1000) 3 1000, kx_0 (.irem) 1, kx_0 (.ireturn) 1]),
  (120, [true], [kx_0 (.aload_n 0) 1, kx_3 (.getfield 38) 3 5 6 2, kx_0 (.aload_n 0) 1, kx_3 (.getfield 10) 3 5 0 2, kx_3 (.invokevirtual 306) 3 204 2 2]),
  (131, [], [kx_0 (.ireturn) 1])])
/-- PalletNets.type(I)I -/
def kp_31 : km_P := (2, false, [(0, [true, true], [kx_1 (.iload_n 1) 1 1, kx_i (.iconst 0) 1 0, kx_i (.bipush 127) 2 127, kx_3 (.invokestatic 78) 3 37 3 0]),
  (7, [true, true], [kx_1 (.ifCond .ne 10) 3 17]),
  (10, [true], [kx_0 (.aload_n 0) 1, kx_i (.bipush (-2)) 2 (-2), kx_3 (.invokevirtual 82) 3 43 2 5]),
  (16, [], [kx_0 (.ireturn) 1]),
  (17, [true, true], [kx_0 (.aload_n 0) 1, kx_3 (.getfield 61) 3 5 10 2, kx_3 (.getfield 310) 3 1 1 0, kx_i (.bipush 120) 2 120, kx_1 (.if_icmp .lt 10) 3 36]),
  (29, [true], [kx_0 (.aload_n 0) 1, kx_i (.bipush (-4)) 2 (-4), kx_3 (.invokevirtual 82) 3 43 2 5]),
  (35, [], [kx_0 (.ireturn) 1]),
  (36, [true, true], [kx_0 (.aload_n 0) 1, kx_3 (.getfield 61) 3 5 10 2, kx_3 (.getfield 313) 3 1 0 2, kx_0 (.aload_n 0) 1, kx_3 (.getfield 61) 3 5 10 2, kx_3 (.getfield 310) 3 1 1 0, kx_1 (.iload_n 1) 1 1, kx_0 (.iastore) 1, kx_0 (.aload_n 0) 1, kx_3 (.getfield 61) 3 5 10 2, kx_0 (.dup) 1, kx_3 (.getfield 310) 3 1 1 0, kx_i (.iconst 1) 1 1, kx_0 (.iadd) 1, kx_3 (.putfield 310) 3 1 1 0, kx_0 (.aload_n 0) 1, kx_3 (.getfield 61) 3 5 10 2, kx_3 (.getfield 310) 3 1 1 0, kx_0 (.ireturn) 1])])
/-- PalletNets.clear()I -/
def kp_32 : km_P := (2, false, [(0, [true], [kx_0 (.aload_n 0) 1, kx_3 (.getfield 61) 3 5 10 2, kx_3 (.getfield 310) 3 1 1 0, kx_1 (.istore_n 1) 1 1, kx_0 (.aload_n 0) 1, kx_3 (.getfield 61) 3 5 10 2, kx_i (.iconst 0) 1 0, kx_3 (.putfield 310) 3 1 1 0, kx_1 (.iload_n 1) 1 1, kx_0 (.ireturn) 1])])
/-- PalletNets.reads()I -/
def kp_33 : km_P := (2, false, [(0, [true], [kx_0 (.aload_n 0) 1, kx_3 (.getfield 16) 3 5 1 2, kx_0 (.aload_n 0) 1, kx_3 (.getfield 10) 3 5 0 2, kx_3 (.invokevirtual 316) 3 211 2 4]),
  (11, [true], [kx_0 (.aload_n 0) 1, kx_3 (.getfield 61) 3 5 10 2, kx_0 (.aload_n 0) 1, kx_3 (.getfield 10) 3 5 0 2, kx_3 (.invokevirtual 320) 3 177 2 1]),
  (22, [true], [kx_1 (.istore_n 1) 1 1, kx_0 (.aload_n 0) 1, kx_3 (.getfield 61) 3 5 10 2, kx_3 (.getfield 323) 3 1 2 0, kx_i (.iconst (-1)) 1 (-1), kx_1 (.if_icmp .eq 25) 3 56]),
  (34, [true], [kx_0 (.aload_n 0) 1, kx_3 (.getfield 10) 3 5 0 2, kx_0 (.aload_n 0) 1, kx_3 (.getfield 16) 3 5 1 2, kx_3 (.invokevirtual 316) 3 211 2 4]),
  (45, [true], [kx_i (.bipush (-10)) 2 (-10), kx_0 (.aload_n 0) 1, kx_3 (.getfield 61) 3 5 10 2, kx_3 (.getfield 323) 3 1 2 0, kx_0 (.isub) 1, kx_0 (.ireturn) 1]),
  (56, [true, true], [kx_0 (.aload_n 0) 1, kx_0 (.aload_n 0) 1, kx_3 (.getfield 16) 3 5 1 2, kx_3 (.invokevirtual 326) 3 45 2 5]),
  (64, [true, true], [kx_0 (.aload_n 0) 1, kx_3 (.invokevirtual 329) 3 47 1 5]),
  (68, [false, true], [kx_1 (.iload_n 1) 1 1, kx_0 (.ireturn) 1])])
/-- PalletNets.back()I -/
def kp_34 : km_P := (1, false, [(0, [true], [kx_0 (.aload_n 0) 1, kx_3 (.getfield 23) 3 5 3 0, kx_1 (.ifCond .ne 10) 3 14]),
  (7, [true], [kx_0 (.aload_n 0) 1, kx_i (.bipush (-3)) 2 (-3), kx_3 (.invokevirtual 82) 3 43 2 5]),
  (13, [], [kx_0 (.ireturn) 1]),
  (14, [true], [kx_0 (.aload_n 0) 1, kx_0 (.dup) 1, kx_3 (.getfield 23) 3 5 3 0, kx_i (.iconst 1) 1 1, kx_0 (.isub) 1, kx_3 (.putfield 23) 3 5 3 0, kx_0 (.aload_n 0) 1, kx_3 (.getfield 10) 3 5 0 2, kx_0 (.aload_n 0) 1, kx_3 (.getfield 19) 3 5 2 2, kx_0 (.aload_n 0) 1, kx_3 (.getfield 23) 3 5 3 0, kx_1 (.aaload) 1 13, kx_3 (.invokevirtual 316) 3 211 2 4]),
  (40, [true], [kx_0 (.aload_n 0) 1, kx_3 (.invokevirtual 329) 3 47 1 5]),
  (44, [true], [kx_0 (.aload_n 0) 1, kx_3 (.getfield 23) 3 5 3 0, kx_0 (.ireturn) 1])])
/-- PalletNets.told(I)I -/
def kp_35 : km_P := (2, false, [(0, [true, true], [kx_1 (.iload_n 1) 1 1, kx_s (.tableswitch 119 0 8 #[51, 56, 61, 66, 74, 82, 90, 98, 114]) 51 120 [(0, 52), (1, 57), (2, 62), (3, 67), (4, 75), (5, 83), (6, 91), (7, 99), (8, 115)]]),
  (52, [true], [kx_0 (.aload_n 0) 1, kx_3 (.getfield 69) 3 5 12 0, kx_0 (.ireturn) 1]),
  (57, [true], [kx_0 (.aload_n 0) 1, kx_3 (.getfield 72) 3 5 13 0, kx_0 (.ireturn) 1]),
  (62, [true], [kx_0 (.aload_n 0) 1, kx_3 (.getfield 75) 3 5 14 0, kx_0 (.ireturn) 1]),
  (67, [true], [kx_0 (.aload_n 0) 1, kx_3 (.getfield 61) 3 5 10 2, kx_3 (.getfield 310) 3 1 1 0, kx_0 (.ireturn) 1]),
  (75, [true], [kx_0 (.aload_n 0) 1, kx_3 (.getfield 10) 3 5 0 2, kx_1 (.getfield 86) 3 4, kx_0 (.ireturn) 1]),
  (83, [true], [kx_0 (.aload_n 0) 1, kx_3 (.getfield 10) 3 5 0 2, kx_3 (.getfield 99) 3 4 1 0, kx_0 (.ireturn) 1]),
  (91, [true], [kx_0 (.aload_n 0) 1, kx_3 (.getfield 10) 3 5 0 2, kx_3 (.getfield 239) 3 4 2 0, kx_0 (.ireturn) 1]),
  (99, [true], [kx_0 (.aload_n 0) 1, kx_3 (.getfield 10) 3 5 0 2, kx_3 (.getfield 159) 3 4 3 3, kx_1 (.ifCond .eq 7) 3 113]),
  (109, [], [kx_i (.iconst 1) 1 1, kx_1 (.goto 4) 3 114]),
  (113, [], [kx_i (.iconst 0) 1 0]),
  (114, [], [kx_0 (.ireturn) 1]),
  (115, [true], [kx_0 (.aload_n 0) 1, kx_3 (.getfield 23) 3 5 3 0, kx_0 (.ireturn) 1]),
  (120, [true], [kx_0 (.aload_n 0) 1, kx_i (.bipush (-2)) 2 (-2), kx_3 (.invokevirtual 82) 3 43 2 5]),
  (126, [], [kx_0 (.ireturn) 1])])
/-- PalletNets.digest()J -/
def kp_36 : km_P := (5, false, [(0, [true], [kx_l (.ldc2_w 332) 3 2221, kx_1 (.lstore_n 1) 1 1, kx_i (.iconst 0) 1 0, kx_1 (.istore_n 3) 1 3]),
  (6, [true, true, false, true], [kx_1 (.iload_n 3) 1 3, kx_i (.bipush 8) 2 8, kx_1 (.if_icmp .gt 22) 3 31]),
  (12, [true, true, false, true], [kx_l (.ldc2_w 334) 3 31, kx_1 (.lload_n 1) 1 1, kx_0 (.lmul) 1, kx_0 (.aload_n 0) 1, kx_1 (.iload_n 3) 1 3, kx_3 (.invokevirtual 336) 3 35 2 5]),
  (22, [true, false, false, true], [kx_0 (.i2l) 1, kx_0 (.ladd) 1, kx_1 (.lstore_n 1) 1 1, kx_n (.iinc 3 1) 3 3 1, kx_1 (.goto (-22)) 3 6]),
  (31, [true, true], [kx_i (.iconst 0) 1 0, kx_1 (.istore_n 3) 1 3]),
  (33, [true, true, false, true], [kx_1 (.iload_n 3) 1 3, kx_0 (.aload_n 0) 1, kx_3 (.getfield 10) 3 5 0 2, kx_1 (.getfield 86) 3 4, kx_1 (.if_icmp .ge 39) 3 80]),
  (44, [true, true, false, true], [kx_i (.iconst 0) 1 0, kx_1 (.istore 4) 2 4]),
  (47, [true, true, false, true, true], [kx_1 (.iload 4) 2 4, kx_i (.iconst 2) 1 2, kx_1 (.if_icmp .gt 24) 3 74]),
  (53, [true, true, false, true, true], [kx_l (.ldc2_w 334) 3 31, kx_1 (.lload_n 1) 1 1, kx_0 (.lmul) 1, kx_0 (.aload_n 0) 1, kx_1 (.iload_n 3) 1 3, kx_1 (.iload 4) 2 4, kx_3 (.invokevirtual 339) 3 8 3 5]),
  (65, [true, false, false, true, true], [kx_0 (.i2l) 1, kx_0 (.ladd) 1, kx_1 (.lstore_n 1) 1 1, kx_n (.iinc 4 1) 3 4 1, kx_1 (.goto (-24)) 3 47]),
  (74, [true, true, false, true], [kx_n (.iinc 3 1) 3 3 1, kx_1 (.goto (-44)) 3 33]),
  (80, [true, true], [kx_i (.iconst 0) 1 0, kx_1 (.istore_n 3) 1 3]),
  (82, [true, true, false, true], [kx_1 (.iload_n 3) 1 3, kx_0 (.aload_n 0) 1, kx_3 (.getfield 10) 3 5 0 2, kx_3 (.getfield 99) 3 4 1 0, kx_1 (.if_icmp .ge 39) 3 129]),
  (93, [true, true, false, true], [kx_i (.iconst 0) 1 0, kx_1 (.istore 4) 2 4]),
  (96, [true, true, false, true, true], [kx_1 (.iload 4) 2 4, kx_i (.iconst 2) 1 2, kx_1 (.if_icmp .gt 24) 3 123]),
  (102, [true, true, false, true, true], [kx_l (.ldc2_w 334) 3 31, kx_1 (.lload_n 1) 1 1, kx_0 (.lmul) 1, kx_0 (.aload_n 0) 1, kx_1 (.iload_n 3) 1 3, kx_1 (.iload 4) 2 4, kx_3 (.invokevirtual 342) 3 10 3 5]),
  (114, [true, false, false, true, true], [kx_0 (.i2l) 1, kx_0 (.ladd) 1, kx_1 (.lstore_n 1) 1 1, kx_n (.iinc 4 1) 3 4 1, kx_1 (.goto (-24)) 3 96]),
  (123, [true, true, false, true], [kx_n (.iinc 3 1) 3 3 1, kx_1 (.goto (-44)) 3 82]),
  (129, [true, true], [kx_i (.iconst 0) 1 0, kx_1 (.istore_n 3) 1 3]),
  (131, [true, true, false, true], [kx_1 (.iload_n 3) 1 3, kx_0 (.aload_n 0) 1, kx_3 (.getfield 10) 3 5 0 2, kx_3 (.getfield 239) 3 4 2 0, kx_1 (.if_icmp .ge 37) 3 176]),
  (142, [true, true, false, true], [kx_l (.ldc2_w 334) 3 31, kx_1 (.lload_n 1) 1 1, kx_0 (.lmul) 1, kx_0 (.aload_n 0) 1, kx_1 (.iload_n 3) 1 3, kx_i (.iconst 0) 1 0, kx_3 (.invokevirtual 345) 3 27 3 5]),
  (153, [true, false, false, true], [kx_0 (.i2l) 1, kx_0 (.ladd) 1, kx_1 (.lstore_n 1) 1 1, kx_l (.ldc2_w 334) 3 31, kx_1 (.lload_n 1) 1 1, kx_0 (.lmul) 1, kx_0 (.aload_n 0) 1, kx_1 (.iload_n 3) 1 3, kx_i (.iconst 1) 1 1, kx_3 (.invokevirtual 345) 3 27 3 5]),
  (167, [true, false, false, true], [kx_0 (.i2l) 1, kx_0 (.ladd) 1, kx_1 (.lstore_n 1) 1 1, kx_n (.iinc 3 1) 3 3 1, kx_1 (.goto (-42)) 3 131]),
  (176, [true, true], [kx_i (.iconst 0) 1 0, kx_1 (.istore_n 3) 1 3]),
  (178, [true, true, false, true], [kx_1 (.iload_n 3) 1 3, kx_i (.iconst 3) 1 3, kx_1 (.if_icmp .gt 22) 3 202]),
  (183, [true, true, false, true], [kx_l (.ldc2_w 334) 3 31, kx_1 (.lload_n 1) 1 1, kx_0 (.lmul) 1, kx_0 (.aload_n 0) 1, kx_1 (.iload_n 3) 1 3, kx_3 (.invokevirtual 348) 3 28 2 5]),
  (193, [true, false, false, true], [kx_0 (.i2l) 1, kx_0 (.ladd) 1, kx_1 (.lstore_n 1) 1 1, kx_n (.iinc 3 1) 3 3 1, kx_1 (.goto (-21)) 3 178]),
  (202, [true, true], [kx_l (.ldc2_w 334) 3 31, kx_1 (.lload_n 1) 1 1, kx_0 (.lmul) 1, kx_0 (.aload_n 0) 1, kx_3 (.invokevirtual 351) 3 18 1 5]),
  (211, [true], [kx_0 (.i2l) 1, kx_0 (.ladd) 1, kx_1 (.lstore_n 1) 1 1, kx_l (.ldc2_w 334) 3 31, kx_1 (.lload_n 1) 1 1, kx_0 (.lmul) 1, kx_0 (.aload_n 0) 1, kx_3 (.invokevirtual 354) 3 21 1 5]),
  (223, [], [kx_0 (.i2l) 1, kx_0 (.ladd) 1, kx_0 (.lreturn) 1])])
/-- PalletNets.within(III)Z -/
def kp_37 : km_P := (3, true, [(0, [true, true, true], [kx_0 (.iload_n 0) 1, kx_1 (.iload_n 1) 1 1, kx_1 (.if_icmp .lt 12) 3 14]),
  (5, [true, false, true], [kx_0 (.iload_n 0) 1, kx_1 (.iload_n 2) 1 2, kx_1 (.if_icmp .gt 7) 3 14]),
  (10, [], [kx_i (.iconst 1) 1 1, kx_1 (.goto 4) 3 15]),
  (14, [], [kx_i (.iconst 0) 1 0]),
  (15, [], [kx_0 (.ireturn) 1])])
/-- PalletNets.isPlace(I)Z -/
def kp_38 : km_P := (2, true, [(0, [true, true], [kx_1 (.iload_n 1) 1 1, kx_i (.iconst 0) 1 0, kx_0 (.aload_n 0) 1, kx_3 (.getfield 10) 3 5 0 2, kx_1 (.getfield 86) 3 4, kx_i (.iconst 1) 1 1, kx_0 (.isub) 1, kx_3 (.invokestatic 78) 3 37 3 0]),
  (14, [], [kx_0 (.ireturn) 1])])
/-- PalletNets.isStep(I)Z -/
def kp_39 : km_P := (2, true, [(0, [true, true], [kx_1 (.iload_n 1) 1 1, kx_i (.iconst 0) 1 0, kx_0 (.aload_n 0) 1, kx_3 (.getfield 10) 3 5 0 2, kx_3 (.getfield 99) 3 4 1 0, kx_i (.iconst 1) 1 1, kx_0 (.isub) 1, kx_3 (.invokestatic 78) 3 37 3 0]),
  (14, [], [kx_0 (.ireturn) 1])])
/-- PalletNets.isGuard(I)Z -/
def kp_40 : km_P := (2, true, [(0, [true, true], [kx_1 (.iload_n 1) 1 1, kx_i (.iconst 0) 1 0, kx_0 (.aload_n 0) 1, kx_3 (.getfield 10) 3 5 0 2, kx_3 (.getfield 239) 3 4 2 0, kx_i (.iconst 1) 1 1, kx_0 (.isub) 1, kx_3 (.invokestatic 78) 3 37 3 0]),
  (14, [], [kx_0 (.ireturn) 1])])
/-- PalletNets.isSet(I)Z -/
def kp_41 : km_P := (2, true, [(0, [true, true], [kx_1 (.iload_n 1) 1 1, kx_i (.iconst 1) 1 1, kx_0 (.aload_n 0) 1, kx_3 (.getfield 10) 3 5 0 2, kx_3 (.invokevirtual 181) 3 212 1 4]),
  (9, [], [kx_3 (.invokestatic 78) 3 37 3 0]),
  (12, [], [kx_0 (.ireturn) 1])])
/-- PalletNets.isSafe(I)Z -/
def kp_42 : km_P := (2, true, [(0, [true, true], [kx_0 (.aload_n 0) 1, kx_3 (.getfield 10) 3 5 0 2, kx_3 (.getfield 130) 3 4 4 1, kx_0 (.aload_n 0) 1, kx_3 (.getfield 51) 3 5 8 2, kx_1 (.iload_n 1) 1 1, kx_3 (.invokevirtual 224) 3 210 2 3]),
  (15, [], [kx_3 (.invokestatic 185) 3 172 2 0]),
  (18, [], [kx_1 (.ifCond .le 7) 3 25]),
  (21, [], [kx_i (.iconst 1) 1 1, kx_1 (.goto 4) 3 26]),
  (25, [], [kx_i (.iconst 0) 1 0]),
  (26, [], [kx_0 (.ireturn) 1])])
/-- PalletNets.refuse(I)I -/
def kp_43 : km_P := (2, false, [(0, [true, true], [kx_1 (.iload_n 1) 1 1, kx_s (.lookupswitch 53 #[(-3, 40), (-2, 27)]) 27 54 [(-3, 41), (-2, 28)]]),
  (28, [true, true], [kx_0 (.aload_n 0) 1, kx_0 (.dup) 1, kx_3 (.getfield 69) 3 5 12 0, kx_i (.iconst 1) 1 1, kx_0 (.iadd) 1, kx_3 (.putfield 69) 3 5 12 0, kx_1 (.goto 26) 3 64]),
  (41, [true, true], [kx_0 (.aload_n 0) 1, kx_0 (.dup) 1, kx_3 (.getfield 72) 3 5 13 0, kx_i (.iconst 1) 1 1, kx_0 (.iadd) 1, kx_3 (.putfield 72) 3 5 13 0, kx_1 (.goto 13) 3 64]),
  (54, [true, true], [kx_0 (.aload_n 0) 1, kx_0 (.dup) 1, kx_3 (.getfield 75) 3 5 14 0, kx_i (.iconst 1) 1 1, kx_0 (.iadd) 1, kx_3 (.putfield 75) 3 5 14 0]),
  (64, [false, true], [kx_1 (.iload_n 1) 1 1, kx_0 (.ireturn) 1])])
/-- PalletNets.save()V -/
def kp_44 : km_P := (1, false, [(0, [true], [kx_0 (.aload_n 0) 1, kx_0 (.aload_n 0) 1, kx_3 (.getfield 10) 3 5 0 2, kx_3 (.invokevirtual 326) 3 45 2 5]),
  (8, [true], [kx_0 (.aload_n 0) 1, kx_i (.iconst 0) 1 0, kx_3 (.putfield 34) 3 5 5 3, kx_0 (.return_) 1])])
/-- PalletNets.keep(LPalletNets$State;)V -/
def kp_45 : km_P := (4, false, [(0, [true, true], [kx_0 (.aload_n 0) 1, kx_3 (.getfield 23) 3 5 3 0, kx_i (.iconst 5) 1 5, kx_1 (.if_icmp .lt 49) 3 54]),
  (8, [true, true], [kx_0 (.aload_n 0) 1, kx_3 (.getfield 19) 3 5 2 2, kx_i (.iconst 0) 1 0, kx_1 (.aaload) 1 13, kx_1 (.astore_n 2) 1 2, kx_i (.iconst 1) 1 1, kx_1 (.istore_n 3) 1 3]),
  (17, [true, true, true, true], [kx_1 (.iload_n 3) 1 3, kx_i (.iconst 5) 1 5, kx_1 (.if_icmp .ge 23) 3 42]),
  (22, [true, true, true, true], [kx_0 (.aload_n 0) 1, kx_3 (.getfield 19) 3 5 2 2, kx_1 (.iload_n 3) 1 3, kx_i (.iconst 1) 1 1, kx_0 (.isub) 1, kx_0 (.aload_n 0) 1, kx_3 (.getfield 19) 3 5 2 2, kx_1 (.iload_n 3) 1 3, kx_1 (.aaload) 1 13, kx_1 (.aastore) 1 13, kx_n (.iinc 3 1) 3 3 1, kx_1 (.goto (-22)) 3 17]),
  (42, [true, true, true], [kx_0 (.aload_n 0) 1, kx_3 (.getfield 19) 3 5 2 2, kx_i (.iconst 4) 1 4, kx_1 (.aload_n 2) 1 2, kx_1 (.aastore) 1 13, kx_0 (.aload_n 0) 1, kx_i (.iconst 4) 1 4, kx_3 (.putfield 23) 3 5 3 0]),
  (54, [true, true], [kx_0 (.aload_n 0) 1, kx_3 (.getfield 19) 3 5 2 2, kx_0 (.aload_n 0) 1, kx_3 (.getfield 23) 3 5 3 0, kx_1 (.aaload) 1 13, kx_1 (.aload_n 1) 1 1, kx_3 (.invokevirtual 316) 3 211 2 4]),
  (67, [true], [kx_0 (.aload_n 0) 1, kx_0 (.dup) 1, kx_3 (.getfield 23) 3 5 3 0, kx_i (.iconst 1) 1 1, kx_0 (.iadd) 1, kx_3 (.putfield 23) 3 5 3 0, kx_0 (.return_) 1])])
/-- PalletNets.renew()V -/
def kp_46 : km_P := (1, false, [(0, [true], [kx_0 (.aload_n 0) 1, kx_3 (.getfield 10) 3 5 0 2, kx_3 (.invokevirtual 357) 3 214 1 4]),
  (7, [true], [kx_0 (.aload_n 0) 1, kx_3 (.invokevirtual 329) 3 47 1 5]),
  (11, [], [kx_0 (.return_) 1])])
/-- PalletNets.forget()V -/
def kp_47 : km_P := (1, false, [(0, [true], [kx_0 (.aload_n 0) 1, kx_i (.iconst 0) 1 0, kx_3 (.putfield 34) 3 5 5 3, kx_0 (.aload_n 0) 1, kx_i (.iconst 0) 1 0, kx_3 (.putfield 55) 3 5 9 3, kx_0 (.return_) 1])])
/-- PalletNets.homeSearch()LPalletNets$Search; -/
def kp_48 : km_P := (1, false, [(0, [true], [kx_0 (.aload_n 0) 1, kx_3 (.getfield 34) 3 5 5 3, kx_1 (.ifCond .ne 30) 3 34]),
  (7, [true], [kx_0 (.aload_n 0) 1, kx_3 (.getfield 30) 3 5 4 2, kx_0 (.aload_n 0) 1, kx_3 (.getfield 10) 3 5 0 2, kx_0 (.aload_n 0) 1, kx_3 (.getfield 10) 3 5 0 2, kx_3 (.invokevirtual 201) 3 213 1 4]),
  (22, [true], [kx_i (.iconst (-1)) 1 (-1), kx_l (.ldc2_w 264) 3 (-1), kx_3 (.invokevirtual 266) 3 190 5 2]),
  (29, [true], [kx_0 (.aload_n 0) 1, kx_i (.iconst 1) 1 1, kx_3 (.putfield 34) 3 5 5 3]),
  (34, [true], [kx_0 (.aload_n 0) 1, kx_3 (.getfield 30) 3 5 4 2, kx_0 (.areturn) 1])])
/-- PalletNets.analyse()V -/
def kp_49 : km_P := (1, false, [(0, [true], [kx_0 (.aload_n 0) 1, kx_3 (.getfield 55) 3 5 9 3, kx_1 (.ifCond .ne 30) 3 34]),
  (7, [true], [kx_0 (.aload_n 0) 1, kx_3 (.getfield 44) 3 5 7 2, kx_0 (.aload_n 0) 1, kx_3 (.getfield 10) 3 5 0 2, kx_3 (.invokevirtual 360) 3 162 2 0]),
  (18, [true], [kx_0 (.aload_n 0) 1, kx_3 (.getfield 51) 3 5 8 2, kx_0 (.aload_n 0) 1, kx_3 (.getfield 10) 3 5 0 2, kx_3 (.invokevirtual 363) 3 205 2 3]),
  (29, [true], [kx_0 (.aload_n 0) 1, kx_i (.iconst 1) 1 1, kx_3 (.putfield 55) 3 5 9 3]),
  (34, [], [kx_0 (.return_) 1])])
/-- PalletNets.hindrance(I)I -/
def kp_50 : km_P := (5, false, [(0, [true, true], [kx_0 (.aload_n 0) 1, kx_3 (.getfield 10) 3 5 0 2, kx_0 (.aload_n 0) 1, kx_3 (.getfield 10) 3 5 0 2, kx_3 (.getfield 162) 3 4 6 1, kx_1 (.iload_n 1) 1 1, kx_i (.iconst (-1)) 1 (-1), kx_3 (.invokevirtual 195) 3 229 4 4]),
  (16, [true, true], [kx_1 (.istore_n 2) 1 2, kx_1 (.iload_n 2) 1 2, kx_1 (.ifCond .ne 13) 3 31]),
  (21, [true, true, true], [kx_0 (.aload_n 0) 1, kx_3 (.getfield 10) 3 5 0 2, kx_3 (.getfield 159) 3 4 3 3, kx_1 (.ifCond .ne 5) 3 33]),
  (31, [false, false, true], [kx_1 (.iload_n 2) 1 2, kx_0 (.ireturn) 1]),
  (33, [true, true], [kx_0 (.aload_n 0) 1, kx_3 (.getfield 10) 3 5 0 2, kx_3 (.invokevirtual 201) 3 213 1 4]),
  (40, [true, true], [kx_1 (.lstore_n 3) 1 3, kx_0 (.aload_n 0) 1, kx_3 (.getfield 38) 3 5 6 2, kx_0 (.aload_n 0) 1, kx_3 (.getfield 10) 3 5 0 2, kx_0 (.aload_n 0) 1, kx_3 (.getfield 10) 3 5 0 2, kx_0 (.aload_n 0) 1, kx_3 (.getfield 10) 3 5 0 2, kx_3 (.getfield 162) 3 4 6 1, kx_1 (.iload_n 1) 1 1, kx_3 (.invokevirtual 191) 3 228 3 4]),
  (64, [true, false, false, true], [kx_i (.iconst (-1)) 1 (-1), kx_1 (.lload_n 3) 1 3, kx_3 (.invokevirtual 266) 3 190 5 2]),
  (69, [true, false, false, true], [kx_0 (.aload_n 0) 1, kx_3 (.getfield 38) 3 5 6 2, kx_1 (.lload_n 3) 1 3, kx_3 (.invokevirtual 302) 3 193 2 2]),
  (77, [], [kx_i (.iconst (-1)) 1 (-1), kx_1 (.if_icmp .ne 7) 3 85]),
  (81, [], [kx_i (.iconst 4) 1 4, kx_1 (.goto 4) 3 86]),
  (85, [], [kx_i (.iconst 0) 1 0]),
  (86, [], [kx_0 (.ireturn) 1])])
/-- PalletNets.chosen(I)I -/
def kp_51 : km_P := (6, false, [(0, [true, true], [kx_i (.iconst (-1)) 1 (-1), kx_1 (.istore_n 2) 1 2, kx_i (.iconst 0) 1 0, kx_1 (.istore_n 3) 1 3]),
  (4, [true, true, true, true], [kx_1 (.iload_n 3) 1 3, kx_0 (.aload_n 0) 1, kx_3 (.getfield 10) 3 5 0 2, kx_3 (.getfield 99) 3 4 1 0, kx_1 (.if_icmp .ge 87) 3 99]),
  (15, [true, true, true, true], [kx_1 (.iload_n 1) 1 1, kx_i (.iconst 2) 1 2, kx_1 (.if_icmp .ne 17) 3 34]),
  (20, [true, true, true, true], [kx_0 (.aload_n 0) 1, kx_3 (.getfield 10) 3 5 0 2, kx_3 (.getfield 99) 3 4 1 0, kx_i (.iconst 1) 1 1, kx_0 (.isub) 1, kx_1 (.iload_n 3) 1 3, kx_0 (.isub) 1, kx_1 (.goto 4) 3 35]),
  (34, [true, true, true, true], [kx_1 (.iload_n 3) 1 3]),
  (35, [true, true, true, true], [kx_1 (.istore 4) 2 4, kx_1 (.iload_n 2) 1 2, kx_i (.iconst (-1)) 1 (-1), kx_1 (.if_icmp .eq 30) 3 69]),
  (42, [true, true, true, true, true], [kx_1 (.iload_n 1) 1 1, kx_i (.iconst 1) 1 1, kx_1 (.if_icmp .ne 29) 3 73]),
  (47, [true, true, true, true, true], [kx_0 (.aload_n 0) 1, kx_3 (.getfield 10) 3 5 0 2, kx_3 (.getfield 134) 3 4 9 2, kx_1 (.iload 4) 2 4, kx_0 (.iaload) 1, kx_0 (.aload_n 0) 1, kx_3 (.getfield 10) 3 5 0 2, kx_3 (.getfield 134) 3 4 9 2, kx_1 (.iload_n 2) 1 2, kx_0 (.iaload) 1, kx_1 (.if_icmp .ge 7) 3 73]),
  (69, [true, true, true, true, true], [kx_i (.iconst 1) 1 1, kx_1 (.goto 4) 3 74]),
  (73, [true, true, true, true, true], [kx_i (.iconst 0) 1 0]),
  (74, [true, true, true, true, true], [kx_1 (.istore 5) 2 5, kx_1 (.iload 5) 2 5, kx_1 (.ifCond .eq 15) 3 93]),
  (81, [true, true, true, true, true], [kx_0 (.aload_n 0) 1, kx_1 (.iload 4) 2 4, kx_3 (.invokevirtual 188) 3 50 2 5]),
  (87, [true, true, true, true, true], [kx_1 (.ifCond .ne 6) 3 93]),
  (90, [true, true, false, true, true], [kx_1 (.iload 4) 2 4, kx_1 (.istore_n 2) 1 2]),
  (93, [true, true, true, true], [kx_n (.iinc 3 1) 3 3 1, kx_1 (.goto (-92)) 3 4]),
  (99, [false, false, true], [kx_1 (.iload_n 2) 1 2, kx_0 (.ireturn) 1])])
/-- PalletNetsModel.in(III)Z -/
def kp_52 : km_P := (3, true, [(0, [true, true, true], [kx_0 (.iload_n 0) 1, kx_1 (.iload_n 1) 1 1, kx_1 (.if_icmp .lt 12) 3 14]),
  (5, [true, false, true], [kx_0 (.iload_n 0) 1, kx_1 (.iload_n 2) 1 2, kx_1 (.if_icmp .gt 7) 3 14]),
  (10, [], [kx_i (.iconst 1) 1 1, kx_1 (.goto 4) 3 15]),
  (14, [], [kx_i (.iconst 0) 1 0]),
  (15, [], [kx_0 (.ireturn) 1])])
/-- PalletNetsModel.has(II)Z -/
def kp_53 : km_P := (2, true, [(0, [true, true], [kx_0 (.iload_n 0) 1, kx_1 (.iload_n 1) 1 1, kx_0 (.ishr) 1, kx_i (.iconst 1) 1 1, kx_0 (.iand) 1, kx_i (.iconst 1) 1 1, kx_1 (.if_icmp .ne 7) 3 13]),
  (9, [], [kx_i (.iconst 1) 1 1, kx_1 (.goto 4) 3 14]),
  (13, [], [kx_i (.iconst 0) 1 0]),
  (14, [], [kx_0 (.ireturn) 1])])
/-- PalletNetsModel.bad()I -/
def kp_54 : km_P := (1, false, [(0, [true], [kx_0 (.aload_n 0) 1, kx_0 (.dup) 1, kx_3 (.getfield 66) 3 6 4 0, kx_i (.iconst 1) 1 1, kx_0 (.iadd) 1, kx_3 (.putfield 66) 3 6 4 0, kx_i (.bipush (-2)) 2 (-2), kx_0 (.ireturn) 1])])
/-- PalletNetsModel.no()I -/
def kp_55 : km_P := (1, false, [(0, [true], [kx_0 (.aload_n 0) 1, kx_0 (.dup) 1, kx_3 (.getfield 70) 3 6 5 0, kx_i (.iconst 1) 1 1, kx_0 (.iadd) 1, kx_3 (.putfield 70) 3 6 5 0, kx_i (.bipush (-3)) 2 (-3), kx_0 (.ireturn) 1])])
/-- PalletNetsModel.full()I -/
def kp_56 : km_P := (1, false, [(0, [true], [kx_0 (.aload_n 0) 1, kx_0 (.dup) 1, kx_3 (.getfield 73) 3 6 6 0, kx_i (.iconst 1) 1 1, kx_0 (.iadd) 1, kx_3 (.putfield 73) 3 6 6 0, kx_i (.bipush (-4)) 2 (-4), kx_0 (.ireturn) 1])])
/-- PalletNetsModel.isPlace(I)Z -/
def kp_57 : km_P := (2, true, [(0, [true, true], [kx_1 (.iload_n 1) 1 1, kx_i (.iconst 0) 1 0, kx_0 (.aload_n 0) 1, kx_3 (.getfield 7) 3 6 0 2, kx_i (.iconst 0) 1 0, kx_0 (.iaload) 1, kx_i (.iconst 1) 1 1, kx_0 (.isub) 1, kx_3 (.invokestatic 76) 3 52 3 0]),
  (13, [], [kx_0 (.ireturn) 1])])
/-- PalletNetsModel.isStep(I)Z -/
def kp_58 : km_P := (2, true, [(0, [true, true], [kx_1 (.iload_n 1) 1 1, kx_i (.iconst 0) 1 0, kx_0 (.aload_n 0) 1, kx_3 (.getfield 7) 3 6 0 2, kx_i (.iconst 1) 1 1, kx_0 (.iaload) 1, kx_i (.iconst 1) 1 1, kx_0 (.isub) 1, kx_3 (.invokestatic 76) 3 52 3 0]),
  (13, [], [kx_0 (.ireturn) 1])])
/-- PalletNetsModel.keepsState()V -/
def kp_59 : km_P := (2, false, [(0, [true], [kx_i (.iconst 0) 1 0, kx_1 (.istore_n 1) 1 1]),
  (2, [true, true], [kx_1 (.iload_n 1) 1 1, kx_i (.sipush 212) 3 212, kx_1 (.if_icmp .ge 30) 3 36]),
  (9, [true, true], [kx_0 (.aload_n 0) 1, kx_3 (.getfield 13) 3 6 1 2, kx_i (.sipush 212) 3 212, kx_0 (.aload_n 0) 1, kx_3 (.getfield 80) 3 6 3 0, kx_0 (.imul) 1, kx_1 (.iload_n 1) 1 1, kx_0 (.iadd) 1, kx_0 (.aload_n 0) 1, kx_3 (.getfield 7) 3 6 0 2, kx_1 (.iload_n 1) 1 1, kx_0 (.iaload) 1, kx_0 (.iastore) 1, kx_n (.iinc 1 1) 3 1 1, kx_1 (.goto (-31)) 3 2]),
  (36, [true], [kx_0 (.aload_n 0) 1, kx_0 (.aload_n 0) 1, kx_3 (.getfield 80) 3 6 3 0, kx_i (.iconst 1) 1 1, kx_0 (.iadd) 1, kx_i (.iconst 5) 1 5, kx_0 (.irem) 1, kx_3 (.putfield 80) 3 6 3 0, kx_0 (.aload_n 0) 1, kx_0 (.dup) 1, kx_3 (.getfield 83) 3 6 2 0, kx_0 (.aload_n 0) 1, kx_3 (.getfield 83) 3 6 2 0, kx_i (.iconst 5) 1 5, kx_1 (.if_icmp .ge 7) 3 65]),
  (61, [], [kx_i (.iconst 1) 1 1, kx_1 (.goto 4) 3 66]),
  (65, [], [kx_i (.iconst 0) 1 0]),
  (66, [], [kx_0 (.iadd) 1, kx_3 (.putfield 83) 3 6 2 0, kx_0 (.return_) 1])])
/-- PalletNetsModel.settles([I)V -/
def kp_60 : km_P := (2, false, [(0, [true], [kx_0 (.aload_n 0) 1, kx_i (.sipush 200) 3 200, kx_i (.iconst 0) 1 0, kx_0 (.iastore) 1, kx_i (.iconst 0) 1 0, kx_1 (.istore_n 1) 1 1]),
  (8, [true, true], [kx_1 (.iload_n 1) 1 1, kx_i (.bipush 10) 2 10, kx_1 (.if_icmp .ge 38) 3 49]),
  (14, [true, true], [kx_0 (.aload_n 0) 1, kx_i (.bipush 12) 2 12, kx_1 (.iload_n 1) 1 1, kx_0 (.iadd) 1, kx_i (.iconst 0) 1 0, kx_0 (.iastore) 1, kx_0 (.aload_n 0) 1, kx_i (.bipush 22) 2 22, kx_1 (.iload_n 1) 1 1, kx_0 (.iadd) 1, kx_1 (.iload_n 1) 1 1, kx_0 (.aload_n 0) 1, kx_i (.iconst 0) 1 0, kx_0 (.iaload) 1, kx_1 (.if_icmp .ge 11) 3 41]),
  (33, [true, true], [kx_0 (.aload_n 0) 1, kx_i (.iconst 2) 1 2, kx_1 (.iload_n 1) 1 1, kx_0 (.iadd) 1, kx_0 (.iaload) 1, kx_1 (.goto 4) 3 42]),
  (41, [true, true], [kx_i (.iconst 0) 1 0]),
  (42, [true, true], [kx_0 (.iastore) 1, kx_n (.iinc 1 1) 3 1 1, kx_1 (.goto (-38)) 3 8]),
  (49, [], [kx_0 (.return_) 1])])
/-- PalletNetsModel.adds([II)I -/
def kp_61 : km_P := (2, false, [(0, [true, true], [kx_0 (.aload_n 0) 1, kx_i (.iconst 2) 1 2, kx_0 (.aload_n 0) 1, kx_i (.iconst 0) 1 0, kx_0 (.iaload) 1, kx_0 (.iadd) 1, kx_1 (.iload_n 1) 1 1, kx_0 (.iastore) 1, kx_0 (.aload_n 0) 1, kx_i (.iconst 0) 1 0, kx_0 (.dup2) 1, kx_0 (.iaload) 1, kx_i (.iconst 1) 1 1, kx_0 (.iadd) 1, kx_0 (.iastore) 1, kx_0 (.aload_n 0) 1, kx_i (.iconst 0) 1 0, kx_0 (.iaload) 1, kx_i (.iconst 1) 1 1, kx_0 (.isub) 1, kx_0 (.ireturn) 1])])
/-- PalletNetsModel.addsStep([II)I -/
def kp_62 : km_P := (4, false, [(0, [true, true], [kx_0 (.aload_n 0) 1, kx_i (.iconst 1) 1 1, kx_0 (.iaload) 1, kx_1 (.istore_n 2) 1 2, kx_0 (.aload_n 0) 1, kx_i (.bipush 32) 2 32, kx_1 (.iload_n 2) 1 2, kx_0 (.iadd) 1, kx_1 (.iload_n 1) 1 1, kx_0 (.iastore) 1, kx_i (.iconst 0) 1 0, kx_1 (.istore_n 3) 1 3]),
  (13, [true, false, true, true], [kx_1 (.iload_n 3) 1 3, kx_i (.bipush 10) 2 10, kx_1 (.if_icmp .ge 33) 3 49]),
  (19, [true, false, true, true], [kx_0 (.aload_n 0) 1, kx_i (.bipush 40) 2 40, kx_i (.bipush 10) 2 10, kx_1 (.iload_n 2) 1 2, kx_0 (.imul) 1, kx_0 (.iadd) 1, kx_1 (.iload_n 3) 1 3, kx_0 (.iadd) 1, kx_i (.iconst 0) 1 0, kx_0 (.iastore) 1, kx_0 (.aload_n 0) 1, kx_i (.bipush 120) 2 120, kx_i (.bipush 10) 2 10, kx_1 (.iload_n 2) 1 2, kx_0 (.imul) 1, kx_0 (.iadd) 1, kx_1 (.iload_n 3) 1 3, kx_0 (.iadd) 1, kx_i (.iconst 0) 1 0, kx_0 (.iastore) 1, kx_n (.iinc 3 1) 3 3 1, kx_1 (.goto (-33)) 3 13]),
  (49, [true, false, true], [kx_0 (.aload_n 0) 1, kx_i (.iconst 1) 1 1, kx_0 (.dup2) 1, kx_0 (.iaload) 1, kx_i (.iconst 1) 1 1, kx_0 (.iadd) 1, kx_0 (.iastore) 1, kx_1 (.iload_n 2) 1 2, kx_0 (.ireturn) 1])])
/-- PalletNetsModel.place(I)I -/
def kp_63 : km_P := (2, false, [(0, [true, true], [kx_1 (.iload_n 1) 1 1, kx_i (.iconst 0) 1 0, kx_i (.bipush 15) 2 15, kx_3 (.invokestatic 76) 3 52 3 0]),
  (7, [true, true], [kx_1 (.ifCond .ne 8) 3 15]),
  (10, [true], [kx_0 (.aload_n 0) 1, kx_3 (.invokevirtual 86) 3 54 1 6]),
  (14, [], [kx_0 (.ireturn) 1]),
  (15, [true, true], [kx_0 (.aload_n 0) 1, kx_3 (.getfield 7) 3 6 0 2, kx_i (.iconst 0) 1 0, kx_0 (.iaload) 1, kx_i (.bipush 10) 2 10, kx_1 (.if_icmp .ne 8) 3 31]),
  (26, [true], [kx_0 (.aload_n 0) 1, kx_3 (.invokevirtual 90) 3 56 1 6]),
  (30, [], [kx_0 (.ireturn) 1]),
  (31, [true, true], [kx_0 (.aload_n 0) 1, kx_3 (.invokevirtual 93) 3 59 1 6]),
  (35, [true, true], [kx_0 (.aload_n 0) 1, kx_3 (.getfield 7) 3 6 0 2, kx_1 (.iload_n 1) 1 1, kx_3 (.invokestatic 96) 3 61 2 0]),
  (43, [true], [kx_0 (.pop) 1, kx_0 (.aload_n 0) 1, kx_3 (.getfield 7) 3 6 0 2, kx_3 (.invokestatic 100) 3 60 1 0]),
  (51, [true], [kx_0 (.aload_n 0) 1, kx_3 (.getfield 7) 3 6 0 2, kx_i (.iconst 0) 1 0, kx_0 (.iaload) 1, kx_i (.iconst 1) 1 1, kx_0 (.isub) 1, kx_0 (.ireturn) 1])])
/-- PalletNetsModel.step(I)I -/
def kp_64 : km_P := (2, false, [(0, [true, true], [kx_1 (.iload_n 1) 1 1, kx_i (.iconst 0) 1 0, kx_i (.bipush 9) 2 9, kx_3 (.invokestatic 76) 3 52 3 0]),
  (7, [true, true], [kx_1 (.ifCond .ne 8) 3 15]),
  (10, [true], [kx_0 (.aload_n 0) 1, kx_3 (.invokevirtual 86) 3 54 1 6]),
  (14, [], [kx_0 (.ireturn) 1]),
  (15, [true, true], [kx_0 (.aload_n 0) 1, kx_3 (.getfield 7) 3 6 0 2, kx_i (.iconst 1) 1 1, kx_0 (.iaload) 1, kx_i (.bipush 8) 2 8, kx_1 (.if_icmp .ne 8) 3 31]),
  (26, [true], [kx_0 (.aload_n 0) 1, kx_3 (.invokevirtual 90) 3 56 1 6]),
  (30, [], [kx_0 (.ireturn) 1]),
  (31, [true, true], [kx_0 (.aload_n 0) 1, kx_3 (.invokevirtual 93) 3 59 1 6]),
  (35, [true, true], [kx_0 (.aload_n 0) 1, kx_3 (.getfield 7) 3 6 0 2, kx_1 (.iload_n 1) 1 1, kx_3 (.invokestatic 104) 3 62 2 0]),
  (43, [true], [kx_0 (.pop) 1, kx_0 (.aload_n 0) 1, kx_3 (.getfield 7) 3 6 0 2, kx_3 (.invokestatic 100) 3 60 1 0]),
  (51, [true], [kx_0 (.aload_n 0) 1, kx_3 (.getfield 7) 3 6 0 2, kx_i (.iconst 1) 1 1, kx_0 (.iaload) 1, kx_i (.iconst 1) 1 1, kx_0 (.isub) 1, kx_0 (.ireturn) 1])])
/-- PalletNetsModel.arc(IIII)I -/
def kp_65 : km_P := (7, false, [(0, [true, true, true, true, true], [kx_0 (.aload_n 0) 1, kx_1 (.iload_n 1) 1 1, kx_3 (.invokevirtual 107) 3 58 2 6]),
  (5, [true, true, true, true, true], [kx_1 (.ifCond .eq 30) 3 35]),
  (8, [true, true, true, true, true], [kx_0 (.aload_n 0) 1, kx_1 (.iload_n 2) 1 2, kx_3 (.invokevirtual 111) 3 57 2 6]),
  (13, [true, true, true, true, true], [kx_1 (.ifCond .eq 22) 3 35]),
  (16, [true, true, true, true, true], [kx_1 (.iload_n 3) 1 3, kx_i (.iconst 0) 1 0, kx_i (.iconst 1) 1 1, kx_3 (.invokestatic 76) 3 52 3 0]),
  (22, [true, true, true, true, true], [kx_1 (.ifCond .eq 13) 3 35]),
  (25, [true, true, true, true, true], [kx_1 (.iload 4) 2 4, kx_i (.iconst 0) 1 0, kx_i (.iconst 2) 1 2, kx_3 (.invokestatic 76) 3 52 3 0]),
  (32, [true, true, true, true, true], [kx_1 (.ifCond .ne 8) 3 40]),
  (35, [true], [kx_0 (.aload_n 0) 1, kx_3 (.invokevirtual 86) 3 54 1 6]),
  (39, [], [kx_0 (.ireturn) 1]),
  (40, [true, true, true, true, true], [kx_0 (.aload_n 0) 1, kx_3 (.invokevirtual 93) 3 59 1 6]),
  (44, [true, true, true, true, true], [kx_1 (.iload_n 3) 1 3, kx_1 (.ifCond .ne 8) 3 53]),
  (48, [true, true, true, false, true], [kx_i (.bipush 40) 2 40, kx_1 (.goto 5) 3 55]),
  (53, [true, true, true, false, true], [kx_i (.bipush 120) 2 120]),
  (55, [true, true, true, false, true], [kx_i (.bipush 10) 2 10, kx_1 (.iload_n 1) 1 1, kx_0 (.imul) 1, kx_0 (.iadd) 1, kx_1 (.iload_n 2) 1 2, kx_0 (.iadd) 1, kx_1 (.istore 5) 2 5, kx_0 (.aload_n 0) 1, kx_3 (.getfield 7) 3 6 0 2, kx_1 (.iload 5) 2 5, kx_0 (.iaload) 1, kx_1 (.istore 6) 2 6, kx_0 (.aload_n 0) 1, kx_3 (.getfield 7) 3 6 0 2, kx_1 (.iload 5) 2 5, kx_1 (.iload 4) 2 4, kx_0 (.iastore) 1, kx_0 (.aload_n 0) 1, kx_3 (.getfield 7) 3 6 0 2, kx_3 (.invokestatic 100) 3 60 1 0]),
  (89, [false, false, false, false, false, false, true], [kx_1 (.iload 6) 2 6, kx_0 (.ireturn) 1])])
/-- PalletNetsModel.start(II)I -/
def kp_66 : km_P := (4, false, [(0, [true, true, true], [kx_0 (.aload_n 0) 1, kx_1 (.iload_n 1) 1 1, kx_3 (.invokevirtual 111) 3 57 2 6]),
  (5, [true, true, true], [kx_1 (.ifCond .eq 13) 3 18]),
  (8, [true, true, true], [kx_1 (.iload_n 2) 1 2, kx_i (.iconst 0) 1 0, kx_i (.bipush 15) 2 15, kx_3 (.invokestatic 76) 3 52 3 0]),
  (15, [true, true, true], [kx_1 (.ifCond .ne 8) 3 23]),
  (18, [true], [kx_0 (.aload_n 0) 1, kx_3 (.invokevirtual 86) 3 54 1 6]),
  (22, [], [kx_0 (.ireturn) 1]),
  (23, [true, true, true], [kx_0 (.aload_n 0) 1, kx_3 (.invokevirtual 93) 3 59 1 6]),
  (27, [true, true, true], [kx_0 (.aload_n 0) 1, kx_3 (.getfield 7) 3 6 0 2, kx_i (.iconst 2) 1 2, kx_1 (.iload_n 1) 1 1, kx_0 (.iadd) 1, kx_0 (.iaload) 1, kx_1 (.istore_n 3) 1 3, kx_0 (.aload_n 0) 1, kx_3 (.getfield 7) 3 6 0 2, kx_i (.iconst 2) 1 2, kx_1 (.iload_n 1) 1 1, kx_0 (.iadd) 1, kx_1 (.iload_n 2) 1 2, kx_0 (.iastore) 1, kx_0 (.aload_n 0) 1, kx_3 (.getfield 7) 3 6 0 2, kx_3 (.invokestatic 100) 3 60 1 0]),
  (52, [false, false, false, true], [kx_1 (.iload_n 3) 1 3, kx_0 (.ireturn) 1])])
/-- PalletNetsModel.cost(II)I -/
def kp_67 : km_P := (4, false, [(0, [true, true, true], [kx_0 (.aload_n 0) 1, kx_1 (.iload_n 1) 1 1, kx_3 (.invokevirtual 107) 3 58 2 6]),
  (5, [true, true, true], [kx_1 (.ifCond .eq 13) 3 18]),
  (8, [true, true, true], [kx_1 (.iload_n 2) 1 2, kx_i (.iconst 0) 1 0, kx_i (.bipush 9) 2 9, kx_3 (.invokestatic 76) 3 52 3 0]),
  (15, [true, true, true], [kx_1 (.ifCond .ne 8) 3 23]),
  (18, [true], [kx_0 (.aload_n 0) 1, kx_3 (.invokevirtual 86) 3 54 1 6]),
  (22, [], [kx_0 (.ireturn) 1]),
  (23, [true, true, true], [kx_0 (.aload_n 0) 1, kx_3 (.invokevirtual 93) 3 59 1 6]),
  (27, [true, true, true], [kx_0 (.aload_n 0) 1, kx_3 (.getfield 7) 3 6 0 2, kx_i (.bipush 32) 2 32, kx_1 (.iload_n 1) 1 1, kx_0 (.iadd) 1, kx_0 (.iaload) 1, kx_1 (.istore_n 3) 1 3, kx_0 (.aload_n 0) 1, kx_3 (.getfield 7) 3 6 0 2, kx_i (.bipush 32) 2 32, kx_1 (.iload_n 1) 1 1, kx_0 (.iadd) 1, kx_1 (.iload_n 2) 1 2, kx_0 (.iastore) 1, kx_1 (.iload_n 3) 1 3, kx_0 (.ireturn) 1])])
/-- PalletNetsModel.lays([IIII)V -/
def kp_68 : km_P := (11, false, [(0, [true, true, true, true], [kx_0 (.aload_n 0) 1, kx_1 (.iload_n 1) 1 1, kx_3 (.invokestatic 96) 3 61 2 0]),
  (5, [true, false, true, true], [kx_1 (.istore 4) 2 4, kx_i (.iconst 0) 1 0, kx_1 (.istore 5) 2 5]),
  (10, [true, false, true, true, true, true], [kx_1 (.iload 5) 2 5, kx_1 (.iload_n 2) 1 2, kx_1 (.if_icmp .ge 15) 3 28]),
  (16, [true, false, true, true, true, true], [kx_0 (.aload_n 0) 1, kx_i (.iconst 0) 1 0, kx_3 (.invokestatic 96) 3 61 2 0]),
  (21, [true, false, true, true, true, true], [kx_0 (.pop) 1, kx_n (.iinc 5 1) 3 5 1, kx_1 (.goto (-15)) 3 10]),
  (28, [true, false, true, true, true], [kx_i (.iconst (-1)) 1 (-1), kx_1 (.istore 5) 2 5, kx_1 (.iload_n 3) 1 3, kx_1 (.istore 6) 2 6, kx_i (.iconst 1) 1 1, kx_1 (.istore 7) 2 7, kx_i (.iconst 1) 1 1, kx_1 (.istore 8) 2 8]),
  (40, [true, false, true, false, true, true, true, true, true], [kx_1 (.iload 8) 2 8, kx_1 (.iload_n 2) 1 2, kx_1 (.if_icmp .ge 16) 3 59]),
  (46, [true, false, true, false, true, true, true, true, true], [kx_1 (.iload 7) 2 7, kx_i (.bipush 10) 2 10, kx_0 (.imul) 1, kx_1 (.istore 7) 2 7, kx_n (.iinc 8 1) 3 8 1, kx_1 (.goto (-16)) 3 40]),
  (59, [true, false, true, false, true, true, true, true], [kx_i (.iconst 0) 1 0, kx_1 (.istore 8) 2 8]),
  (62, [true, false, true, false, true, true, true, true, true], [kx_1 (.iload 8) 2 8, kx_1 (.iload_n 2) 1 2, kx_1 (.if_icmp .gt 157) 3 222]),
  (68, [true, false, true, false, true, true, true, true, true], [kx_0 (.aload_n 0) 1, kx_i (.iconst 1) 1 1, kx_3 (.invokestatic 104) 3 62 2 0]),
  (73, [true, false, true, false, true, true, true, true, true], [kx_1 (.istore 9) 2 9, kx_1 (.iload 8) 2 8, kx_1 (.iload_n 2) 1 2, kx_1 (.if_icmp .ge 11) 3 89]),
  (81, [true, false, true, false, true, true, true, true, true, true], [kx_1 (.iload 6) 2 6, kx_1 (.iload 7) 2 7, kx_0 (.idiv) 1, kx_1 (.goto 4) 3 90]),
  (89, [true, false, true, false, true, true, true, true, true, true], [kx_i (.iconst (-1)) 1 (-1)]),
  (90, [true, false, true, false, true, true, true, true, true, true], [kx_1 (.istore 10) 2 10, kx_0 (.aload_n 0) 1, kx_i (.bipush 40) 2 40, kx_i (.bipush 10) 2 10, kx_1 (.iload 9) 2 9, kx_0 (.imul) 1, kx_0 (.iadd) 1, kx_1 (.iload 4) 2 4, kx_0 (.iadd) 1, kx_1 (.iload 8) 2 8, kx_0 (.iadd) 1, kx_i (.iconst 1) 1 1, kx_0 (.iastore) 1, kx_0 (.aload_n 0) 1, kx_i (.bipush 120) 2 120, kx_i (.bipush 10) 2 10, kx_1 (.iload 9) 2 9, kx_0 (.imul) 1, kx_0 (.iadd) 1, kx_1 (.iload 8) 2 8, kx_1 (.iload_n 2) 1 2, kx_1 (.if_icmp .ge 13) 3 134]),
  (124, [true, false, true, false, true, true, true, true, true, true, true], [kx_1 (.iload 4) 2 4, kx_1 (.iload 8) 2 8, kx_0 (.iadd) 1, kx_i (.iconst 1) 1 1, kx_0 (.iadd) 1, kx_1 (.goto 5) 3 136]),
  (134, [true, false, true, false, true, true, true, true, true, true, true], [kx_1 (.iload 4) 2 4]),
  (136, [true, false, true, false, true, true, true, true, true, true, true], [kx_0 (.iadd) 1, kx_i (.iconst 1) 1 1, kx_0 (.iastore) 1, kx_1 (.iload 10) 2 10, kx_1 (.ifCond .lt 17) 3 158]),
  (144, [true, false, true, false, true, true, true, true, true, true, true], [kx_0 (.aload_n 0) 1, kx_i (.bipush 40) 2 40, kx_i (.bipush 10) 2 10, kx_1 (.iload 9) 2 9, kx_0 (.imul) 1, kx_0 (.iadd) 1, kx_1 (.iload 10) 2 10, kx_0 (.iadd) 1, kx_i (.iconst 1) 1 1, kx_0 (.iastore) 1]),
  (158, [true, false, true, false, true, true, true, true, true, true, true], [kx_1 (.iload 5) 2 5, kx_1 (.ifCond .lt 17) 3 177]),
  (163, [true, false, true, false, true, true, true, true, true, true, true], [kx_0 (.aload_n 0) 1, kx_i (.bipush 120) 2 120, kx_i (.bipush 10) 2 10, kx_1 (.iload 9) 2 9, kx_0 (.imul) 1, kx_0 (.iadd) 1, kx_1 (.iload 5) 2 5, kx_0 (.iadd) 1, kx_i (.iconst 1) 1 1, kx_0 (.iastore) 1]),
  (177, [true, false, true, false, true, false, true, true, true, false, true], [kx_1 (.iload 10) 2 10, kx_1 (.istore 5) 2 5, kx_1 (.iload 8) 2 8, kx_1 (.iload_n 2) 1 2, kx_1 (.if_icmp .ge 11) 3 195]),
  (187, [true, false, true, false, true, true, true, true, true], [kx_1 (.iload 6) 2 6, kx_1 (.iload 7) 2 7, kx_0 (.irem) 1, kx_1 (.goto 5) 3 197]),
  (195, [true, false, true, false, true, true, true, true, true], [kx_1 (.iload 6) 2 6]),
  (197, [true, false, true, false, true, true, false, true, true], [kx_1 (.istore 6) 2 6, kx_1 (.iload 7) 2 7, kx_i (.iconst 1) 1 1, kx_1 (.if_icmp .le 11) 3 213]),
  (205, [true, false, true, false, true, true, true, true, true], [kx_1 (.iload 7) 2 7, kx_i (.bipush 10) 2 10, kx_0 (.idiv) 1, kx_1 (.goto 4) 3 214]),
  (213, [true, false, true, false, true, true, true, false, true], [kx_i (.iconst 1) 1 1]),
  (214, [true, false, true, false, true, true, true, false, true], [kx_1 (.istore 7) 2 7, kx_n (.iinc 8 1) 3 8 1, kx_1 (.goto (-157)) 3 62]),
  (222, [], [kx_0 (.return_) 1])])
/-- PalletNetsModel.line(III)I -/
def kp_69 : km_P := (5, false, [(0, [true, true, true, true], [kx_1 (.iload_n 1) 1 1, kx_i (.iconst 1) 1 1, kx_i (.bipush 9) 2 9, kx_3 (.invokestatic 76) 3 52 3 0]),
  (7, [true, true, true, true], [kx_1 (.ifCond .eq 19) 3 26]),
  (10, [true, true, true, true], [kx_0 (.aload_n 0) 1, kx_1 (.iload_n 2) 1 2, kx_3 (.invokevirtual 111) 3 57 2 6]),
  (15, [true, true, true, true], [kx_1 (.ifCond .eq 11) 3 26]),
  (18, [true, true, true, true], [kx_0 (.aload_n 0) 1, kx_1 (.iload_n 3) 1 3, kx_3 (.invokevirtual 111) 3 57 2 6]),
  (23, [true, true, true, true], [kx_1 (.ifCond .ne 8) 3 31]),
  (26, [true], [kx_0 (.aload_n 0) 1, kx_3 (.invokevirtual 86) 3 54 1 6]),
  (30, [], [kx_0 (.ireturn) 1]),
  (31, [true, true, true, true], [kx_0 (.aload_n 0) 1, kx_3 (.getfield 7) 3 6 0 2, kx_i (.iconst 0) 1 0, kx_0 (.iaload) 1, kx_i (.iconst 3) 1 3, kx_0 (.iadd) 1, kx_i (.bipush 10) 2 10, kx_1 (.if_icmp .gt 16) 3 57]),
  (44, [true, true, true, true], [kx_0 (.aload_n 0) 1, kx_3 (.getfield 7) 3 6 0 2, kx_i (.iconst 1) 1 1, kx_0 (.iaload) 1, kx_i (.iconst 3) 1 3, kx_0 (.iadd) 1, kx_i (.bipush 8) 2 8, kx_1 (.if_icmp .le 8) 3 62]),
  (57, [true], [kx_0 (.aload_n 0) 1, kx_3 (.invokevirtual 90) 3 56 1 6]),
  (61, [], [kx_0 (.ireturn) 1]),
  (62, [true, true, true, true], [kx_0 (.aload_n 0) 1, kx_3 (.invokevirtual 93) 3 59 1 6]),
  (66, [true, true, true, true], [kx_0 (.aload_n 0) 1, kx_3 (.getfield 7) 3 6 0 2, kx_i (.iconst 0) 1 0, kx_0 (.iaload) 1, kx_1 (.istore 4) 2 4, kx_0 (.aload_n 0) 1, kx_3 (.getfield 7) 3 6 0 2, kx_1 (.iload_n 1) 1 1, kx_i (.iconst 2) 1 2, kx_i (.bipush 10) 2 10, kx_1 (.iload_n 2) 1 2, kx_0 (.imul) 1, kx_1 (.iload_n 3) 1 3, kx_0 (.iadd) 1, kx_3 (.invokestatic 114) 3 68 4 0]),
  (89, [true, false, false, false, true], [kx_0 (.aload_n 0) 1, kx_3 (.getfield 7) 3 6 0 2, kx_3 (.invokestatic 100) 3 60 1 0]),
  (96, [false, false, false, false, true], [kx_1 (.iload 4) 2 4, kx_0 (.ireturn) 1])])
/-- PalletNetsModel.draws(I)I -/
def kp_70 : km_P := (2, false, [(0, [true, true], [kx_0 (.aload_n 0) 1, kx_0 (.aload_n 0) 1, kx_3 (.getfield 118) 3 6 7 1, kx_l (.ldc2_w 122) 3 1103515245, kx_0 (.lmul) 1, kx_l (.ldc2_w 124) 3 12345, kx_0 (.ladd) 1, kx_l (.ldc2_w 126) 3 2147483648, kx_0 (.lrem) 1, kx_3 (.putfield 118) 3 6 7 1, kx_0 (.aload_n 0) 1, kx_3 (.getfield 118) 3 6 7 1, kx_l (.ldc2_w 128) 3 65536, kx_0 (.ldiv) 1, kx_1 (.iload_n 1) 1 1, kx_0 (.i2l) 1, kx_0 (.lrem) 1, kx_0 (.l2i) 1, kx_0 (.ireturn) 1])])
/-- PalletNetsModel.draw(III)I -/
def kp_71 : km_P := (7, false, [(0, [true, true, true, true], [kx_1 (.iload_n 1) 1 1, kx_i (.iconst 0) 1 0, kx_i (.ldc 130) 2 999999, kx_3 (.invokestatic 76) 3 52 3 0]),
  (7, [true, true, true, true], [kx_1 (.ifCond .eq 23) 3 30]),
  (10, [true, true, true, true], [kx_1 (.iload_n 2) 1 2, kx_i (.iconst 1) 1 1, kx_i (.bipush 10) 2 10, kx_3 (.invokestatic 76) 3 52 3 0]),
  (17, [true, true, true, true], [kx_1 (.ifCond .eq 13) 3 30]),
  (20, [true, true, true, true], [kx_1 (.iload_n 3) 1 3, kx_i (.iconst 1) 1 1, kx_i (.bipush 8) 2 8, kx_3 (.invokestatic 76) 3 52 3 0]),
  (27, [true, true, true, true], [kx_1 (.ifCond .ne 8) 3 35]),
  (30, [true], [kx_0 (.aload_n 0) 1, kx_3 (.invokevirtual 86) 3 54 1 6]),
  (34, [], [kx_0 (.ireturn) 1]),
  (35, [true, true, true, true], [kx_0 (.aload_n 0) 1, kx_3 (.invokevirtual 93) 3 59 1 6]),
  (39, [true, true, true, true], [kx_0 (.aload_n 0) 1, kx_1 (.iload_n 1) 1 1, kx_0 (.i2l) 1, kx_3 (.putfield 118) 3 6 7 1, kx_0 (.aload_n 0) 1, kx_3 (.getfield 7) 3 6 0 2, kx_i (.iconst 0) 1 0, kx_i (.iconst 0) 1 0, kx_0 (.iastore) 1, kx_0 (.aload_n 0) 1, kx_3 (.getfield 7) 3 6 0 2, kx_i (.iconst 1) 1 1, kx_i (.iconst 0) 1 0, kx_0 (.iastore) 1, kx_i (.iconst 0) 1 0, kx_1 (.istore 4) 2 4]),
  (62, [true, false, true, true, true], [kx_1 (.iload 4) 2 4, kx_1 (.iload_n 2) 1 2, kx_1 (.if_icmp .ge 22) 3 87]),
  (68, [true, false, true, true, true], [kx_0 (.aload_n 0) 1, kx_3 (.getfield 7) 3 6 0 2, kx_0 (.aload_n 0) 1, kx_i (.iconst 3) 1 3, kx_3 (.invokevirtual 131) 3 70 2 6]),
  (77, [true, false, true, true, true], [kx_3 (.invokestatic 96) 3 61 2 0]),
  (80, [true, false, true, true, true], [kx_0 (.pop) 1, kx_n (.iinc 4 1) 3 4 1, kx_1 (.goto (-22)) 3 62]),
  (87, [true, false, true, true], [kx_i (.iconst 0) 1 0, kx_1 (.istore 4) 2 4]),
  (90, [true, false, true, true, true], [kx_1 (.iload 4) 2 4, kx_1 (.iload_n 3) 1 3, kx_1 (.if_icmp .ge 131) 3 224]),
  (96, [true, false, true, true, true], [kx_0 (.aload_n 0) 1, kx_3 (.getfield 7) 3 6 0 2, kx_0 (.aload_n 0) 1, kx_i (.bipush 10) 2 10, kx_3 (.invokevirtual 131) 3 70 2 6]),
  (106, [true, false, true, true, true], [kx_3 (.invokestatic 104) 3 62 2 0]),
  (109, [true, false, true, true, true], [kx_0 (.pop) 1, kx_i (.iconst 0) 1 0, kx_1 (.istore 5) 2 5]),
  (113, [true, false, true, true, true, true], [kx_1 (.iload 5) 2 5, kx_1 (.iload_n 2) 1 2, kx_1 (.if_icmp .ge 102) 3 218]),
  (119, [true, false, true, true, true, true], [kx_0 (.aload_n 0) 1, kx_i (.bipush 9) 2 9, kx_3 (.invokevirtual 131) 3 70 2 6]),
  (125, [true, false, true, true, true, true], [kx_1 (.istore 6) 2 6, kx_0 (.aload_n 0) 1, kx_3 (.getfield 7) 3 6 0 2, kx_i (.bipush 40) 2 40, kx_i (.bipush 10) 2 10, kx_1 (.iload 4) 2 4, kx_0 (.imul) 1, kx_0 (.iadd) 1, kx_1 (.iload 5) 2 5, kx_0 (.iadd) 1, kx_1 (.iload 6) 2 6, kx_1 (.ifCond .eq 9) 3 153]),
  (147, [true, false, true, true, true, true, true], [kx_1 (.iload 6) 2 6, kx_i (.iconst 4) 1 4, kx_1 (.if_icmp .ne 7) 3 157]),
  (153, [true, false, true, true, true, true, true], [kx_i (.iconst 1) 1 1, kx_1 (.goto 14) 3 168]),
  (157, [true, false, true, true, true, true, true], [kx_1 (.iload 6) 2 6, kx_i (.iconst 1) 1 1, kx_1 (.if_icmp .ne 7) 3 167]),
  (163, [true, false, true, true, true, true, true], [kx_i (.iconst 2) 1 2, kx_1 (.goto 4) 3 168]),
  (167, [true, false, true, true, true, true, true], [kx_i (.iconst 0) 1 0]),
  (168, [true, false, true, true, true, true, true], [kx_0 (.iastore) 1, kx_0 (.aload_n 0) 1, kx_3 (.getfield 7) 3 6 0 2, kx_i (.bipush 120) 2 120, kx_i (.bipush 10) 2 10, kx_1 (.iload 4) 2 4, kx_0 (.imul) 1, kx_0 (.iadd) 1, kx_1 (.iload 5) 2 5, kx_0 (.iadd) 1, kx_1 (.iload 6) 2 6, kx_i (.iconst 2) 1 2, kx_1 (.if_icmp .eq 9) 3 196]),
  (190, [true, false, true, true, true, true, true], [kx_1 (.iload 6) 2 6, kx_i (.iconst 4) 1 4, kx_1 (.if_icmp .ne 7) 3 200]),
  (196, [true, false, true, true, true, true], [kx_i (.iconst 1) 1 1, kx_1 (.goto 14) 3 211]),
  (200, [true, false, true, true, true, true, true], [kx_1 (.iload 6) 2 6, kx_i (.iconst 3) 1 3, kx_1 (.if_icmp .ne 7) 3 210]),
  (206, [true, false, true, true, true, true], [kx_i (.iconst 2) 1 2, kx_1 (.goto 4) 3 211]),
  (210, [true, false, true, true, true, true], [kx_i (.iconst 0) 1 0]),
  (211, [true, false, true, true, true, true], [kx_0 (.iastore) 1, kx_n (.iinc 5 1) 3 5 1, kx_1 (.goto (-102)) 3 113]),
  (218, [true, false, true, true, true], [kx_n (.iinc 4 1) 3 4 1, kx_1 (.goto (-131)) 3 90]),
  (224, [true], [kx_0 (.aload_n 0) 1, kx_3 (.getfield 7) 3 6 0 2, kx_3 (.invokestatic 100) 3 60 1 0]),
  (231, [true], [kx_0 (.aload_n 0) 1, kx_0 (.aload_n 0) 1, kx_3 (.getfield 7) 3 6 0 2, kx_3 (.invokestatic 135) 3 78 1 0]),
  (239, [true], [kx_i (.iconst (-1)) 1 (-1), kx_3 (.invokevirtual 139) 3 86 3 6]),
  (243, [true], [kx_0 (.aload_n 0) 1, kx_3 (.getfield 143) 3 6 8 0, kx_0 (.ireturn) 1])])
/-- PalletNetsModel.anew()I -/
def kp_72 : km_P := (2, false, [(0, [true], [kx_0 (.aload_n 0) 1, kx_3 (.invokevirtual 93) 3 59 1 6]),
  (4, [true], [kx_0 (.aload_n 0) 1, kx_3 (.getfield 7) 3 6 0 2, kx_i (.iconst 0) 1 0, kx_0 (.iaload) 1, kx_1 (.istore_n 1) 1 1, kx_0 (.aload_n 0) 1, kx_3 (.getfield 7) 3 6 0 2, kx_i (.iconst 0) 1 0, kx_i (.iconst 0) 1 0, kx_0 (.iastore) 1, kx_0 (.aload_n 0) 1, kx_3 (.getfield 7) 3 6 0 2, kx_i (.iconst 1) 1 1, kx_i (.iconst 0) 1 0, kx_0 (.iastore) 1, kx_0 (.aload_n 0) 1, kx_3 (.getfield 7) 3 6 0 2, kx_i (.sipush 211) 3 211, kx_i (.iconst 0) 1 0, kx_0 (.iastore) 1, kx_0 (.aload_n 0) 1, kx_3 (.getfield 7) 3 6 0 2, kx_3 (.invokestatic 100) 3 60 1 0]),
  (41, [false, true], [kx_1 (.iload_n 1) 1 1, kx_0 (.ireturn) 1])])
/-- PalletNetsModel.arcOf(III)I -/
def kp_73 : km_P := (4, false, [(0, [true, true, true, true], [kx_0 (.aload_n 0) 1, kx_1 (.iload_n 1) 1 1, kx_3 (.invokevirtual 107) 3 58 2 6]),
  (5, [true, true, true, true], [kx_1 (.ifCond .eq 46) 3 51]),
  (8, [true, true, true, true], [kx_0 (.aload_n 0) 1, kx_1 (.iload_n 2) 1 2, kx_3 (.invokevirtual 111) 3 57 2 6]),
  (13, [true, true, true, true], [kx_1 (.ifCond .eq 38) 3 51]),
  (16, [true, true, true, true], [kx_1 (.iload_n 3) 1 3, kx_i (.iconst 0) 1 0, kx_i (.iconst 1) 1 1, kx_3 (.invokestatic 76) 3 52 3 0]),
  (22, [true, true, true, true], [kx_1 (.ifCond .eq 29) 3 51]),
  (25, [true, true, true, true], [kx_0 (.aload_n 0) 1, kx_3 (.getfield 7) 3 6 0 2, kx_1 (.iload_n 3) 1 3, kx_1 (.ifCond .ne 8) 3 38]),
  (33, [false, true, true], [kx_i (.bipush 40) 2 40, kx_1 (.goto 5) 3 40]),
  (38, [false, true, true], [kx_i (.bipush 120) 2 120]),
  (40, [false, true, true], [kx_i (.bipush 10) 2 10, kx_1 (.iload_n 1) 1 1, kx_0 (.imul) 1, kx_0 (.iadd) 1, kx_1 (.iload_n 2) 1 2, kx_0 (.iadd) 1, kx_0 (.iaload) 1, kx_1 (.goto 7) 3 55]),
  (51, [true], [kx_0 (.aload_n 0) 1, kx_3 (.invokevirtual 86) 3 54 1 6]),
  (55, [], [kx_0 (.ireturn) 1])])
/-- PalletNetsModel.stepIs(II)I -/
def kp_74 : km_P := (5, false, [(0, [true, true, true], [kx_i (.iconst 0) 1 0, kx_1 (.istore_n 3) 1 3, kx_i (.iconst 0) 1 0, kx_1 (.istore 4) 2 4]),
  (5, [true, true, true, true, true], [kx_1 (.iload 4) 2 4, kx_0 (.aload_n 0) 1, kx_3 (.getfield 7) 3 6 0 2, kx_i (.iconst 0) 1 0, kx_0 (.iaload) 1, kx_1 (.if_icmp .ge 37) 3 50]),
  (16, [true, true, true, true, true], [kx_1 (.iload_n 3) 1 3, kx_0 (.aload_n 0) 1, kx_3 (.getfield 7) 3 6 0 2, kx_1 (.iload_n 2) 1 2, kx_i (.iconst 1) 1 1, kx_1 (.if_icmp .ne 8) 3 31]),
  (26, [true, true, true, false, true], [kx_i (.bipush 40) 2 40, kx_1 (.goto 5) 3 33]),
  (31, [true, true, true, false, true], [kx_i (.bipush 120) 2 120]),
  (33, [true, true, true, false, true], [kx_i (.bipush 10) 2 10, kx_1 (.iload_n 1) 1 1, kx_0 (.imul) 1, kx_0 (.iadd) 1, kx_1 (.iload 4) 2 4, kx_0 (.iadd) 1, kx_0 (.iaload) 1, kx_0 (.iadd) 1, kx_1 (.istore_n 3) 1 3, kx_n (.iinc 4 1) 3 4 1, kx_1 (.goto (-42)) 3 5]),
  (50, [true, true, true, true], [kx_1 (.iload_n 2) 1 2, kx_1 (.ifCond .ne 15) 3 66]),
  (54, [true, true], [kx_0 (.aload_n 0) 1, kx_3 (.getfield 7) 3 6 0 2, kx_i (.bipush 32) 2 32, kx_1 (.iload_n 1) 1 1, kx_0 (.iadd) 1, kx_0 (.iaload) 1, kx_1 (.goto 4) 3 67]),
  (66, [false, false, false, true], [kx_1 (.iload_n 3) 1 3]),
  (67, [], [kx_0 (.ireturn) 1])])
/-- PalletNetsModel.stepOf(II)I -/
def kp_75 : km_P := (3, false, [(0, [true, true, true], [kx_0 (.aload_n 0) 1, kx_1 (.iload_n 1) 1 1, kx_3 (.invokevirtual 107) 3 58 2 6]),
  (5, [true, true, true], [kx_1 (.ifCond .eq 21) 3 26]),
  (8, [true, true, true], [kx_1 (.iload_n 2) 1 2, kx_i (.iconst 0) 1 0, kx_i (.iconst 2) 1 2, kx_3 (.invokestatic 76) 3 52 3 0]),
  (14, [true, true, true], [kx_1 (.ifCond .eq 12) 3 26]),
  (17, [true, true, true], [kx_0 (.aload_n 0) 1, kx_1 (.iload_n 1) 1 1, kx_1 (.iload_n 2) 1 2, kx_3 (.invokevirtual 146) 3 74 3 6]),
  (23, [], [kx_1 (.goto 7) 3 30]),
  (26, [true], [kx_0 (.aload_n 0) 1, kx_3 (.invokevirtual 86) 3 54 1 6]),
  (30, [], [kx_0 (.ireturn) 1])])
/-- PalletNetsModel.at(JI)I -/
def kp_76 : km_P := (3, false, [(0, [true, false, true], [kx_0 (.lload_n 0) 1, kx_i (.iconst 4) 1 4, kx_1 (.iload_n 2) 1 2, kx_0 (.imul) 1, kx_0 (.lshr) 1, kx_l (.ldc2_w 150) 3 15, kx_0 (.land) 1, kx_0 (.l2i) 1, kx_0 (.ireturn) 1])])
/-- PalletNetsModel.tokensFrom(I)J -/
def kp_77 : km_P := (5, false, [(0, [true, true], [kx_l (.lconst 0) 1 0, kx_1 (.lstore_n 2) 1 2, kx_i (.iconst 0) 1 0, kx_1 (.istore 4) 2 4]),
  (5, [true, true, true, false, true], [kx_1 (.iload 4) 2 4, kx_0 (.aload_n 0) 1, kx_3 (.getfield 7) 3 6 0 2, kx_i (.iconst 0) 1 0, kx_0 (.iaload) 1, kx_1 (.if_icmp .ge 27) 3 40]),
  (16, [true, true, true, false, true], [kx_1 (.lload_n 2) 1 2, kx_0 (.aload_n 0) 1, kx_3 (.getfield 7) 3 6 0 2, kx_1 (.iload_n 1) 1 1, kx_1 (.iload 4) 2 4, kx_0 (.iadd) 1, kx_0 (.iaload) 1, kx_0 (.i2l) 1, kx_i (.iconst 4) 1 4, kx_1 (.iload 4) 2 4, kx_0 (.imul) 1, kx_0 (.lshl) 1, kx_0 (.lor) 1, kx_1 (.lstore_n 2) 1 2, kx_n (.iinc 4 1) 3 4 1, kx_1 (.goto (-32)) 3 5]),
  (40, [false, false, true], [kx_1 (.lload_n 2) 1 2, kx_0 (.lreturn) 1])])
/-- PalletNetsModel.tokensHome([I)J -/
def kp_78 : km_P := (4, false, [(0, [true], [kx_l (.lconst 0) 1 0, kx_1 (.lstore_n 1) 1 1, kx_i (.iconst 0) 1 0, kx_1 (.istore_n 3) 1 3]),
  (4, [true, true, false, true], [kx_1 (.iload_n 3) 1 3, kx_0 (.aload_n 0) 1, kx_i (.iconst 0) 1 0, kx_0 (.iaload) 1, kx_1 (.if_icmp .ge 29) 3 37]),
  (11, [true, true, false, true], [kx_1 (.lload_n 1) 1 1, kx_0 (.aload_n 0) 1, kx_i (.iconst 2) 1 2, kx_1 (.iload_n 3) 1 3, kx_0 (.iadd) 1, kx_0 (.iaload) 1, kx_0 (.aload_n 0) 1, kx_i (.bipush 12) 2 12, kx_1 (.iload_n 3) 1 3, kx_0 (.iadd) 1, kx_0 (.iaload) 1, kx_0 (.isub) 1, kx_0 (.i2l) 1, kx_i (.iconst 4) 1 4, kx_1 (.iload_n 3) 1 3, kx_0 (.imul) 1, kx_0 (.lshl) 1, kx_0 (.lor) 1, kx_1 (.lstore_n 1) 1 1, kx_n (.iinc 3 1) 3 3 1, kx_1 (.goto (-30)) 3 4]),
  (37, [false, true], [kx_1 (.lload_n 1) 1 1, kx_0 (.lreturn) 1])])
/-- PalletNetsModel.together(JI)I -/
def kp_79 : km_P := (6, false, [(0, [true, true, false, true], [kx_i (.iconst 0) 1 0, kx_1 (.istore 4) 2 4, kx_i (.iconst 0) 1 0, kx_1 (.istore 5) 2 5]),
  (6, [true, true, false, true, true, true], [kx_1 (.iload 5) 2 5, kx_0 (.aload_n 0) 1, kx_3 (.getfield 7) 3 6 0 2, kx_i (.iconst 0) 1 0, kx_0 (.iaload) 1, kx_1 (.if_icmp .ge 33) 3 47]),
  (17, [true, true, false, true, true, true], [kx_1 (.iload 4) 2 4, kx_1 (.iload_n 3) 1 3, kx_1 (.iload 5) 2 5, kx_3 (.invokestatic 152) 3 53 2 0]),
  (25, [true, true, false, true, false, true], [kx_1 (.ifCond .eq 12) 3 37]),
  (28, [true, true, false, true, false, true], [kx_1 (.lload_n 1) 1 1, kx_1 (.iload 5) 2 5, kx_3 (.invokestatic 156) 3 76 2 0]),
  (34, [true, true, false, true, false, true], [kx_1 (.goto 4) 3 38]),
  (37, [true, true, false, true, false, true], [kx_i (.iconst 0) 1 0]),
  (38, [true, true, false, true, false, true], [kx_0 (.iadd) 1, kx_1 (.istore 4) 2 4, kx_n (.iinc 5 1) 3 5 1, kx_1 (.goto (-38)) 3 6]),
  (47, [false, false, false, false, true], [kx_1 (.iload 4) 2 4, kx_0 (.ireturn) 1])])
/-- PalletNetsModel.placesSet()I -/
def kp_80 : km_P := (1, false, [(0, [true], [kx_i (.iconst 1) 1 1, kx_0 (.aload_n 0) 1, kx_3 (.getfield 7) 3 6 0 2, kx_i (.iconst 0) 1 0, kx_0 (.iaload) 1, kx_0 (.ishl) 1, kx_i (.iconst 1) 1 1, kx_0 (.isub) 1, kx_0 (.ireturn) 1])])
/-- PalletNetsModel.roomFor(JI)I -/
def kp_81 : km_P := (8, false, [(0, [true, true, false, true], [kx_i (.iconst 0) 1 0, kx_1 (.istore 4) 2 4, kx_i (.iconst 0) 1 0, kx_1 (.istore 5) 2 5]),
  (6, [true, true, false, true, true, true], [kx_1 (.iload 5) 2 5, kx_0 (.aload_n 0) 1, kx_3 (.getfield 7) 3 6 0 2, kx_i (.iconst 0) 1 0, kx_0 (.iaload) 1, kx_1 (.if_icmp .ge 75) 3 89]),
  (17, [true, true, false, true, true, true], [kx_0 (.aload_n 0) 1, kx_3 (.getfield 7) 3 6 0 2, kx_i (.bipush 40) 2 40, kx_i (.bipush 10) 2 10, kx_1 (.iload_n 3) 1 3, kx_0 (.imul) 1, kx_0 (.iadd) 1, kx_1 (.iload 5) 2 5, kx_0 (.iadd) 1, kx_0 (.iaload) 1, kx_1 (.istore 6) 2 6, kx_1 (.lload_n 1) 1 1, kx_1 (.iload 5) 2 5, kx_3 (.invokestatic 156) 3 76 2 0]),
  (40, [true, true, false, true, true, true, true], [kx_1 (.iload 6) 2 6, kx_0 (.isub) 1, kx_1 (.istore 7) 2 7, kx_1 (.iload 7) 2 7, kx_1 (.ifCond .ge 5) 3 52]),
  (50, [], [kx_i (.iconst 1) 1 1, kx_0 (.ireturn) 1]),
  (52, [true, true, false, true, true, true, false, true], [kx_1 (.iload 7) 2 7, kx_0 (.aload_n 0) 1, kx_3 (.getfield 7) 3 6 0 2, kx_i (.bipush 120) 2 120, kx_i (.bipush 10) 2 10, kx_1 (.iload_n 3) 1 3, kx_0 (.imul) 1, kx_0 (.iadd) 1, kx_1 (.iload 5) 2 5, kx_0 (.iadd) 1, kx_0 (.iaload) 1, kx_0 (.iadd) 1, kx_i (.bipush 15) 2 15, kx_1 (.if_icmp .le 7) 3 79]),
  (75, [true, true, false, true, false, true], [kx_i (.iconst 2) 1 2, kx_1 (.goto 5) 3 81]),
  (79, [true, true, false, true, true, true], [kx_1 (.iload 4) 2 4]),
  (81, [true, true, false, true, false, true], [kx_1 (.istore 4) 2 4, kx_n (.iinc 5 1) 3 5 1, kx_1 (.goto (-80)) 3 6]),
  (89, [false, false, false, false, true], [kx_1 (.iload 4) 2 4, kx_0 (.ireturn) 1])])
/-- PalletNetsModel.behind(JI)J -/
def kp_82 : km_P := (7, false, [(0, [true, true, false, true], [kx_1 (.lload_n 1) 1 1, kx_1 (.lstore 4) 2 4, kx_i (.iconst 0) 1 0, kx_1 (.istore 6) 2 6]),
  (6, [true, false, false, true, true, false, true], [kx_1 (.iload 6) 2 6, kx_0 (.aload_n 0) 1, kx_3 (.getfield 7) 3 6 0 2, kx_i (.iconst 0) 1 0, kx_0 (.iaload) 1, kx_1 (.if_icmp .ge 51) 3 65]),
  (17, [true, false, false, true, true, false, true], [kx_1 (.lload 4) 2 4, kx_0 (.aload_n 0) 1, kx_3 (.getfield 7) 3 6 0 2, kx_i (.bipush 120) 2 120, kx_i (.bipush 10) 2 10, kx_1 (.iload_n 3) 1 3, kx_0 (.imul) 1, kx_0 (.iadd) 1, kx_1 (.iload 6) 2 6, kx_0 (.iadd) 1, kx_0 (.iaload) 1, kx_0 (.aload_n 0) 1, kx_3 (.getfield 7) 3 6 0 2, kx_i (.bipush 40) 2 40, kx_i (.bipush 10) 2 10, kx_1 (.iload_n 3) 1 3, kx_0 (.imul) 1, kx_0 (.iadd) 1, kx_1 (.iload 6) 2 6, kx_0 (.iadd) 1, kx_0 (.iaload) 1, kx_0 (.isub) 1, kx_0 (.i2l) 1, kx_i (.iconst 4) 1 4, kx_1 (.iload 6) 2 6, kx_0 (.imul) 1, kx_0 (.lshl) 1, kx_0 (.ladd) 1, kx_1 (.lstore 4) 2 4, kx_n (.iinc 6 1) 3 6 1, kx_1 (.goto (-56)) 3 6]),
  (65, [false, false, false, false, true], [kx_1 (.lload 4) 2 4, kx_0 (.lreturn) 1])])
/-- PalletNetsModel.bars(IJI)Z -/
def kp_83 : km_P := (7, true, [(0, [true, true, true, false, true], [kx_0 (.aload_n 0) 1, kx_1 (.lload_n 2) 1 2, kx_0 (.aload_n 0) 1, kx_3 (.getfield 7) 3 6 0 2, kx_i (.sipush 201) 3 201, kx_1 (.iload_n 1) 1 1, kx_0 (.iadd) 1, kx_0 (.iaload) 1, kx_3 (.invokevirtual 160) 3 79 3 6]),
  (15, [true, true, true, false, true], [kx_1 (.istore 5) 2 5, kx_0 (.aload_n 0) 1, kx_0 (.aload_n 0) 1, kx_1 (.lload_n 2) 1 2, kx_1 (.iload 4) 2 4, kx_3 (.invokevirtual 163) 3 82 3 6]),
  (25, [true, true, false, false, false, true], [kx_0 (.aload_n 0) 1, kx_3 (.getfield 7) 3 6 0 2, kx_i (.sipush 201) 3 201, kx_1 (.iload_n 1) 1 1, kx_0 (.iadd) 1, kx_0 (.iaload) 1, kx_3 (.invokevirtual 160) 3 79 3 6]),
  (38, [true, true, false, false, false, true], [kx_1 (.istore 6) 2 6, kx_1 (.iload 6) 2 6, kx_0 (.aload_n 0) 1, kx_3 (.getfield 7) 3 6 0 2, kx_i (.sipush 206) 3 206, kx_1 (.iload_n 1) 1 1, kx_0 (.iadd) 1, kx_0 (.iaload) 1, kx_1 (.if_icmp .ge 14) 3 66]),
  (55, [false, false, false, false, false, true, true], [kx_1 (.iload 6) 2 6, kx_1 (.iload 5) 2 5, kx_1 (.if_icmp .ge 7) 3 66]),
  (62, [], [kx_i (.iconst 1) 1 1, kx_1 (.goto 4) 3 67]),
  (66, [], [kx_i (.iconst 0) 1 0]),
  (67, [], [kx_0 (.ireturn) 1])])
/-- PalletNetsModel.why(JII)I -/
def kp_84 : km_P := (7, false, [(0, [true, true, false, true, true], [kx_0 (.aload_n 0) 1, kx_1 (.lload_n 1) 1 1, kx_1 (.iload_n 3) 1 3, kx_3 (.invokevirtual 167) 3 81 3 6]),
  (6, [true, true, false, true, true], [kx_1 (.istore 5) 2 5, kx_i (.iconst 0) 1 0, kx_1 (.istore 6) 2 6]),
  (11, [true, true, false, true, true, true, true], [kx_1 (.iload 6) 2 6, kx_0 (.aload_n 0) 1, kx_3 (.getfield 7) 3 6 0 2, kx_i (.sipush 200) 3 200, kx_0 (.iaload) 1, kx_1 (.if_icmp .ge 39) 3 60]),
  (24, [true, true, false, true, true, true, true], [kx_1 (.iload 5) 2 5, kx_1 (.ifCond .ne 34) 3 60]),
  (29, [true, true, false, true, true, false, true], [kx_1 (.iload 6) 2 6, kx_1 (.iload 4) 2 4, kx_1 (.if_icmp .eq 18) 3 51]),
  (36, [true, true, false, true, true, false, true], [kx_0 (.aload_n 0) 1, kx_1 (.iload 6) 2 6, kx_1 (.lload_n 1) 1 1, kx_1 (.iload_n 3) 1 3, kx_3 (.invokevirtual 170) 3 83 4 6]),
  (44, [true, true, false, true, true, false, true], [kx_1 (.ifCond .eq 7) 3 51]),
  (47, [true, true, false, true, true, false, true], [kx_i (.iconst 3) 1 3, kx_1 (.goto 4) 3 52]),
  (51, [true, true, false, true, true, false, true], [kx_i (.iconst 0) 1 0]),
  (52, [true, true, false, true, true, false, true], [kx_1 (.istore 5) 2 5, kx_n (.iinc 6 1) 3 6 1, kx_1 (.goto (-46)) 3 11]),
  (60, [false, false, false, false, false, true], [kx_1 (.iload 5) 2 5, kx_0 (.ireturn) 1])])
/-- PalletNetsModel.placeIn(J)I -/
def kp_85 : km_P := (4, false, [(0, [true, true], [kx_i (.iconst 0) 1 0, kx_1 (.istore_n 3) 1 3]),
  (2, [true, true, false, true], [kx_1 (.iload_n 3) 1 3, kx_0 (.aload_n 0) 1, kx_3 (.getfield 143) 3 6 8 0, kx_1 (.if_icmp .ge 22) 3 29]),
  (10, [true, true, false, true], [kx_0 (.aload_n 0) 1, kx_3 (.getfield 16) 3 6 9 2, kx_1 (.iload_n 3) 1 3, kx_0 (.laload) 1, kx_1 (.lload_n 1) 1 1, kx_0 (.lcmp) 1, kx_1 (.ifCond .ne 5) 3 23]),
  (21, [false, false, false, true], [kx_1 (.iload_n 3) 1 3, kx_0 (.ireturn) 1]),
  (23, [true, true, false, true], [kx_n (.iinc 3 1) 3 3 1, kx_1 (.goto (-24)) 3 2]),
  (29, [], [kx_i (.iconst (-1)) 1 (-1), kx_0 (.ireturn) 1])])
/-- PalletNetsModel.searches(JI)V -/
def kp_86 : km_P := (8, false, [(0, [true, true, false, true], [kx_0 (.aload_n 0) 1, kx_i (.iconst 1) 1 1, kx_3 (.putfield 143) 3 6 8 0, kx_0 (.aload_n 0) 1, kx_3 (.getfield 16) 3 6 9 2, kx_i (.iconst 0) 1 0, kx_1 (.lload_n 1) 1 1, kx_0 (.lastore) 1, kx_0 (.aload_n 0) 1, kx_3 (.getfield 20) 3 6 10 2, kx_i (.iconst 0) 1 0, kx_i (.iconst 0) 1 0, kx_0 (.iastore) 1, kx_i (.iconst 0) 1 0, kx_1 (.istore 4) 2 4]),
  (22, [true, false, false, true, true], [kx_1 (.iload 4) 2 4, kx_0 (.aload_n 0) 1, kx_3 (.getfield 143) 3 6 8 0, kx_1 (.if_icmp .ge 120) 3 148]),
  (31, [true, false, false, true, true], [kx_i (.iconst 0) 1 0, kx_1 (.istore 5) 2 5]),
  (34, [true, false, false, true, true, true], [kx_1 (.iload 5) 2 5, kx_0 (.aload_n 0) 1, kx_3 (.getfield 7) 3 6 0 2, kx_i (.iconst 1) 1 1, kx_0 (.iaload) 1, kx_1 (.if_icmp .ge 100) 3 142]),
  (45, [true, false, false, true, true, true], [kx_0 (.aload_n 0) 1, kx_3 (.getfield 143) 3 6 8 0, kx_i (.sipush 200) 3 200, kx_1 (.if_icmp .ge 84) 3 136]),
  (55, [true, false, false, true, true, true], [kx_0 (.aload_n 0) 1, kx_0 (.aload_n 0) 1, kx_3 (.getfield 16) 3 6 9 2, kx_1 (.iload 4) 2 4, kx_0 (.laload) 1, kx_1 (.iload 5) 2 5, kx_1 (.iload_n 3) 1 3, kx_3 (.invokevirtual 174) 3 84 4 6]),
  (69, [true, false, false, true, true, true], [kx_1 (.ifCond .ne 67) 3 136]),
  (72, [true, false, false, true, true, true], [kx_0 (.aload_n 0) 1, kx_0 (.aload_n 0) 1, kx_3 (.getfield 16) 3 6 9 2, kx_1 (.iload 4) 2 4, kx_0 (.laload) 1, kx_1 (.iload 5) 2 5, kx_3 (.invokevirtual 163) 3 82 3 6]),
  (85, [true, false, false, true, true, true], [kx_1 (.lstore 6) 2 6, kx_0 (.aload_n 0) 1, kx_1 (.lload 6) 2 6, kx_3 (.invokevirtual 178) 3 85 2 6]),
  (93, [true, false, false, true, true, true, true], [kx_i (.iconst (-1)) 1 (-1), kx_1 (.if_icmp .ne 42) 3 136]),
  (97, [true, false, false, true, true, true, true], [kx_0 (.aload_n 0) 1, kx_3 (.getfield 16) 3 6 9 2, kx_0 (.aload_n 0) 1, kx_3 (.getfield 143) 3 6 8 0, kx_1 (.lload 6) 2 6, kx_0 (.lastore) 1, kx_0 (.aload_n 0) 1, kx_3 (.getfield 20) 3 6 10 2, kx_0 (.aload_n 0) 1, kx_3 (.getfield 143) 3 6 8 0, kx_0 (.aload_n 0) 1, kx_3 (.getfield 20) 3 6 10 2, kx_1 (.iload 4) 2 4, kx_0 (.iaload) 1, kx_i (.iconst 1) 1 1, kx_0 (.iadd) 1, kx_0 (.iastore) 1, kx_0 (.aload_n 0) 1, kx_0 (.dup) 1, kx_3 (.getfield 143) 3 6 8 0, kx_i (.iconst 1) 1 1, kx_0 (.iadd) 1, kx_3 (.putfield 143) 3 6 8 0]),
  (136, [true, false, false, true, true, true], [kx_n (.iinc 5 1) 3 5 1, kx_1 (.goto (-105)) 3 34]),
  (142, [true, false, false, true, true], [kx_n (.iinc 4 1) 3 4 1, kx_1 (.goto (-123)) 3 22]),
  (148, [], [kx_0 (.return_) 1])])
/-- PalletNetsModel.searchesHome()V -/
def kp_87 : km_P := (1, false, [(0, [true], [kx_0 (.aload_n 0) 1, kx_0 (.aload_n 0) 1, kx_3 (.getfield 7) 3 6 0 2, kx_3 (.invokestatic 135) 3 78 1 0]),
  (8, [], [kx_i (.iconst (-1)) 1 (-1), kx_3 (.invokevirtual 139) 3 86 3 6]),
  (12, [], [kx_0 (.return_) 1])])
/-- PalletNetsModel.leads(II)I -/
def kp_88 : km_P := (3, false, [(0, [true, true, true], [kx_0 (.aload_n 0) 1, kx_0 (.aload_n 0) 1, kx_3 (.getfield 16) 3 6 9 2, kx_1 (.iload_n 1) 1 1, kx_0 (.laload) 1, kx_1 (.iload_n 2) 1 2, kx_i (.iconst (-1)) 1 (-1), kx_3 (.invokevirtual 174) 3 84 4 6]),
  (12, [true, true, true], [kx_1 (.ifCond .ne 21) 3 33]),
  (15, [true, true, true], [kx_0 (.aload_n 0) 1, kx_0 (.aload_n 0) 1, kx_0 (.aload_n 0) 1, kx_3 (.getfield 16) 3 6 9 2, kx_1 (.iload_n 1) 1 1, kx_0 (.laload) 1, kx_1 (.iload_n 2) 1 2, kx_3 (.invokevirtual 163) 3 82 3 6]),
  (27, [], [kx_3 (.invokevirtual 178) 3 85 2 6]),
  (30, [], [kx_1 (.goto 4) 3 34]),
  (33, [], [kx_i (.iconst (-1)) 1 (-1)]),
  (34, [], [kx_0 (.ireturn) 1])])
/-- PalletNetsModel.layNext()V -/
def kp_89 : km_P := (3, false, [(0, [true], [kx_i (.iconst 0) 1 0, kx_1 (.istore_n 1) 1 1]),
  (2, [true, true], [kx_1 (.iload_n 1) 1 1, kx_0 (.aload_n 0) 1, kx_3 (.getfield 143) 3 6 8 0, kx_1 (.if_icmp .ge 44) 3 51]),
  (10, [true, true], [kx_i (.iconst 0) 1 0, kx_1 (.istore_n 2) 1 2]),
  (12, [true, true, true], [kx_1 (.iload_n 2) 1 2, kx_0 (.aload_n 0) 1, kx_3 (.getfield 7) 3 6 0 2, kx_i (.iconst 1) 1 1, kx_0 (.iaload) 1, kx_1 (.if_icmp .ge 26) 3 45]),
  (22, [true, true, true], [kx_0 (.aload_n 0) 1, kx_3 (.getfield 23) 3 6 11 2, kx_i (.bipush 8) 2 8, kx_1 (.iload_n 1) 1 1, kx_0 (.imul) 1, kx_1 (.iload_n 2) 1 2, kx_0 (.iadd) 1, kx_0 (.aload_n 0) 1, kx_1 (.iload_n 1) 1 1, kx_1 (.iload_n 2) 1 2, kx_3 (.invokevirtual 182) 3 88 3 6]),
  (38, [true, true, true], [kx_0 (.iastore) 1, kx_n (.iinc 2 1) 3 2 1, kx_1 (.goto (-30)) 3 12]),
  (45, [true, true], [kx_n (.iinc 1 1) 3 1 1, kx_1 (.goto (-46)) 3 2]),
  (51, [], [kx_0 (.return_) 1])])
/-- PalletNetsModel.layWays()V -/
def kp_90 : km_P := (5, false, [(0, [true], [kx_0 (.aload_n 0) 1, kx_3 (.invokevirtual 185) 3 89 1 6]),
  (4, [true], [kx_i (.iconst 0) 1 0, kx_1 (.istore_n 1) 1 1]),
  (6, [true, true], [kx_1 (.iload_n 1) 1 1, kx_0 (.aload_n 0) 1, kx_3 (.getfield 143) 3 6 8 0, kx_1 (.if_icmp .ge 24) 3 35]),
  (14, [true, true], [kx_0 (.aload_n 0) 1, kx_3 (.getfield 26) 3 6 12 2, kx_1 (.iload_n 1) 1 1, kx_1 (.iload_n 1) 1 1, kx_1 (.ifCond .ne 7) 3 27]),
  (23, [true, true], [kx_i (.iconst 1) 1 1, kx_1 (.goto 4) 3 28]),
  (27, [true, true], [kx_i (.iconst 0) 1 0]),
  (28, [true, true], [kx_0 (.bastore) 1, kx_n (.iinc 1 1) 3 1 1, kx_1 (.goto (-26)) 3 6]),
  (35, [true], [kx_i (.iconst 1) 1 1, kx_1 (.istore_n 1) 1 1]),
  (37, [true, true], [kx_1 (.iload_n 1) 1 1, kx_1 (.ifCond .eq 111) 3 149]),
  (41, [true], [kx_i (.iconst 0) 1 0, kx_1 (.istore_n 1) 1 1, kx_0 (.aload_n 0) 1, kx_3 (.getfield 143) 3 6 8 0, kx_i (.iconst 1) 1 1, kx_0 (.isub) 1, kx_1 (.istore_n 2) 1 2]),
  (50, [true, true, true], [kx_1 (.iload_n 2) 1 2, kx_1 (.ifCond .le 95) 3 146]),
  (54, [true, true, true], [kx_i (.iconst 0) 1 0, kx_1 (.istore_n 3) 1 3]),
  (56, [true, true, true, true], [kx_1 (.iload_n 3) 1 3, kx_0 (.aload_n 0) 1, kx_3 (.getfield 7) 3 6 0 2, kx_i (.iconst 1) 1 1, kx_0 (.iaload) 1, kx_1 (.if_icmp .ge 77) 3 140]),
  (66, [true, true, true, true], [kx_0 (.aload_n 0) 1, kx_3 (.getfield 26) 3 6 12 2, kx_1 (.iload_n 2) 1 2, kx_0 (.baload) 1, kx_1 (.ifCond .ne 68) 3 140]),
  (75, [true, true, true, true], [kx_0 (.aload_n 0) 1, kx_3 (.getfield 23) 3 6 11 2, kx_i (.bipush 8) 2 8, kx_1 (.iload_n 2) 1 2, kx_0 (.imul) 1, kx_1 (.iload_n 3) 1 3, kx_0 (.iadd) 1, kx_0 (.iaload) 1, kx_1 (.istore 4) 2 4, kx_0 (.aload_n 0) 1, kx_3 (.getfield 26) 3 6 12 2, kx_1 (.iload_n 2) 1 2, kx_1 (.iload 4) 2 4, kx_i (.iconst (-1)) 1 (-1), kx_1 (.if_icmp .eq 17) 3 113]),
  (99, [true, true, true, true, true], [kx_0 (.aload_n 0) 1, kx_3 (.getfield 26) 3 6 12 2, kx_1 (.iload 4) 2 4, kx_0 (.baload) 1, kx_1 (.ifCond .eq 7) 3 113]),
  (109, [true, true, true, true], [kx_i (.iconst 1) 1 1, kx_1 (.goto 4) 3 114]),
  (113, [true, true, true, true], [kx_i (.iconst 0) 1 0]),
  (114, [true, true, true, true], [kx_0 (.bastore) 1, kx_1 (.iload_n 1) 1 1, kx_1 (.ifCond .ne 12) 3 128]),
  (119, [true, false, true, true], [kx_0 (.aload_n 0) 1, kx_3 (.getfield 26) 3 6 12 2, kx_1 (.iload_n 2) 1 2, kx_0 (.baload) 1, kx_1 (.ifCond .eq 7) 3 132]),
  (128, [true, false, true, true], [kx_i (.iconst 1) 1 1, kx_1 (.goto 4) 3 133]),
  (132, [true, false, true, true], [kx_i (.iconst 0) 1 0]),
  (133, [true, false, true, true], [kx_1 (.istore_n 1) 1 1, kx_n (.iinc 3 1) 3 3 1, kx_1 (.goto (-81)) 3 56]),
  (140, [true, true, true], [kx_n (.iinc 2 (-1)) 3 2 (-1), kx_1 (.goto (-93)) 3 50]),
  (146, [true, true], [kx_1 (.goto (-109)) 3 37]),
  (149, [], [kx_0 (.return_) 1])])
/-- PalletNetsModel.standing(I)I -/
def kp_91 : km_P := (5, false, [(0, [true, true], [kx_0 (.aload_n 0) 1, kx_i (.bipush 22) 2 22, kx_3 (.invokevirtual 188) 3 77 2 6]),
  (6, [true, true], [kx_1 (.lstore_n 2) 1 2, kx_0 (.aload_n 0) 1, kx_1 (.lload_n 2) 1 2, kx_1 (.iload_n 1) 1 1, kx_i (.iconst (-1)) 1 (-1), kx_3 (.invokevirtual 174) 3 84 4 6]),
  (14, [true, true, true], [kx_1 (.istore 4) 2 4, kx_1 (.iload 4) 2 4, kx_1 (.ifCond .ne 14) 3 32]),
  (21, [true, true, true, false, true], [kx_0 (.aload_n 0) 1, kx_3 (.getfield 7) 3 6 0 2, kx_i (.sipush 211) 3 211, kx_0 (.iaload) 1, kx_1 (.ifCond .ne 6) 3 35]),
  (32, [false, false, false, false, true], [kx_1 (.iload 4) 2 4, kx_0 (.ireturn) 1]),
  (35, [true, true, true], [kx_0 (.aload_n 0) 1, kx_0 (.aload_n 0) 1, kx_1 (.lload_n 2) 1 2, kx_1 (.iload_n 1) 1 1, kx_3 (.invokevirtual 163) 3 82 3 6]),
  (42, [true], [kx_i (.iconst (-1)) 1 (-1), kx_3 (.invokevirtual 139) 3 86 3 6]),
  (46, [true], [kx_0 (.aload_n 0) 1, kx_0 (.aload_n 0) 1, kx_3 (.getfield 7) 3 6 0 2, kx_3 (.invokestatic 135) 3 78 1 0]),
  (54, [], [kx_3 (.invokevirtual 178) 3 85 2 6]),
  (57, [], [kx_i (.iconst (-1)) 1 (-1), kx_1 (.if_icmp .ne 7) 3 65]),
  (61, [], [kx_i (.iconst 4) 1 4, kx_1 (.goto 4) 3 66]),
  (65, [], [kx_i (.iconst 0) 1 0]),
  (66, [], [kx_0 (.ireturn) 1])])
/-- PalletNetsModel.can(I)I -/
def kp_92 : km_P := (2, false, [(0, [true, true], [kx_0 (.aload_n 0) 1, kx_1 (.iload_n 1) 1 1, kx_3 (.invokevirtual 107) 3 58 2 6]),
  (5, [true, true], [kx_1 (.ifCond .eq 11) 3 16]),
  (8, [true, true], [kx_0 (.aload_n 0) 1, kx_1 (.iload_n 1) 1 1, kx_3 (.invokevirtual 192) 3 91 2 6]),
  (13, [], [kx_1 (.goto 7) 3 20]),
  (16, [true], [kx_0 (.aload_n 0) 1, kx_3 (.invokevirtual 86) 3 54 1 6]),
  (20, [], [kx_0 (.ireturn) 1])])
/-- PalletNetsModel.canMany()I -/
def kp_93 : km_P := (5, false, [(0, [true], [kx_0 (.aload_n 0) 1, kx_i (.bipush 22) 2 22, kx_3 (.invokevirtual 188) 3 77 2 6]),
  (6, [true], [kx_1 (.lstore_n 1) 1 1, kx_i (.iconst 0) 1 0, kx_1 (.istore_n 3) 1 3, kx_i (.iconst 0) 1 0, kx_1 (.istore 4) 2 4]),
  (12, [true, true, false, true, true], [kx_1 (.iload 4) 2 4, kx_0 (.aload_n 0) 1, kx_3 (.getfield 7) 3 6 0 2, kx_i (.iconst 1) 1 1, kx_0 (.iaload) 1, kx_1 (.if_icmp .ge 28) 3 48]),
  (23, [true, true, false, true, true], [kx_1 (.iload_n 3) 1 3, kx_0 (.aload_n 0) 1, kx_1 (.lload_n 1) 1 1, kx_1 (.iload 4) 2 4, kx_i (.iconst (-1)) 1 (-1), kx_3 (.invokevirtual 174) 3 84 4 6]),
  (32, [true, true, false, false, true], [kx_1 (.ifCond .ne 7) 3 39]),
  (35, [true, true, false, false, true], [kx_i (.iconst 1) 1 1, kx_1 (.goto 4) 3 40]),
  (39, [true, true, false, false, true], [kx_i (.iconst 0) 1 0]),
  (40, [true, true, false, false, true], [kx_0 (.iadd) 1, kx_1 (.istore_n 3) 1 3, kx_n (.iinc 4 1) 3 4 1, kx_1 (.goto (-33)) 3 12]),
  (48, [false, false, false, true], [kx_1 (.iload_n 3) 1 3, kx_0 (.ireturn) 1])])
/-- PalletNetsModel.lets(I)V -/
def kp_94 : km_P := (5, false, [(0, [true, true], [kx_0 (.aload_n 0) 1, kx_0 (.aload_n 0) 1, kx_i (.bipush 22) 2 22, kx_3 (.invokevirtual 188) 3 77 2 6]),
  (7, [true, true], [kx_1 (.iload_n 1) 1 1, kx_3 (.invokevirtual 163) 3 82 3 6]),
  (11, [true], [kx_1 (.lstore_n 2) 1 2, kx_i (.iconst 0) 1 0, kx_1 (.istore 4) 2 4]),
  (15, [true, false, true, false, true], [kx_1 (.iload 4) 2 4, kx_0 (.aload_n 0) 1, kx_3 (.getfield 7) 3 6 0 2, kx_i (.iconst 0) 1 0, kx_0 (.iaload) 1, kx_1 (.if_icmp .ge 25) 3 48]),
  (26, [true, false, true, false, true], [kx_0 (.aload_n 0) 1, kx_3 (.getfield 7) 3 6 0 2, kx_i (.bipush 22) 2 22, kx_1 (.iload 4) 2 4, kx_0 (.iadd) 1, kx_1 (.lload_n 2) 1 2, kx_1 (.iload 4) 2 4, kx_3 (.invokestatic 156) 3 76 2 0]),
  (41, [true, false, true, false, true], [kx_0 (.iastore) 1, kx_n (.iinc 4 1) 3 4 1, kx_1 (.goto (-30)) 3 15]),
  (48, [], [kx_0 (.return_) 1])])
/-- PalletNetsModel.goes(I)I -/
def kp_95 : km_P := (2, false, [(0, [true, true], [kx_0 (.aload_n 0) 1, kx_1 (.iload_n 1) 1 1, kx_3 (.invokevirtual 107) 3 58 2 6]),
  (5, [true, true], [kx_1 (.ifCond .ne 8) 3 13]),
  (8, [true], [kx_0 (.aload_n 0) 1, kx_3 (.invokevirtual 86) 3 54 1 6]),
  (12, [], [kx_0 (.ireturn) 1]),
  (13, [true, true], [kx_0 (.aload_n 0) 1, kx_1 (.iload_n 1) 1 1, kx_3 (.invokevirtual 192) 3 91 2 6]),
  (18, [true, true], [kx_1 (.ifCond .eq 8) 3 26]),
  (21, [true], [kx_0 (.aload_n 0) 1, kx_3 (.invokevirtual 195) 3 55 1 6]),
  (25, [], [kx_0 (.ireturn) 1]),
  (26, [true, true], [kx_0 (.aload_n 0) 1, kx_3 (.invokevirtual 93) 3 59 1 6]),
  (30, [true, true], [kx_0 (.aload_n 0) 1, kx_1 (.iload_n 1) 1 1, kx_3 (.invokevirtual 198) 3 94 2 6]),
  (35, [true], [kx_0 (.aload_n 0) 1, kx_3 (.invokevirtual 202) 3 93 1 6]),
  (39, [], [kx_0 (.ireturn) 1])])
/-- PalletNetsModel.chosen(I)I -/
def kp_96 : km_P := (5, false, [(0, [true, true], [kx_i (.iconst (-1)) 1 (-1), kx_1 (.istore_n 2) 1 2, kx_i (.iconst 0) 1 0, kx_1 (.istore_n 3) 1 3]),
  (4, [true, true, true, true], [kx_1 (.iload_n 3) 1 3, kx_0 (.aload_n 0) 1, kx_3 (.getfield 7) 3 6 0 2, kx_i (.iconst 1) 1 1, kx_0 (.iaload) 1, kx_1 (.if_icmp .ge 71) 3 82]),
  (14, [true, true, true, true], [kx_0 (.aload_n 0) 1, kx_1 (.iload_n 3) 1 3, kx_3 (.invokevirtual 192) 3 91 2 6]),
  (19, [true, true, true, true], [kx_1 (.ifCond .ne 57) 3 76]),
  (22, [true, true, true, true], [kx_1 (.iload_n 2) 1 2, kx_i (.iconst (-1)) 1 (-1), kx_1 (.if_icmp .eq 34) 3 58]),
  (27, [true, true, true, true], [kx_1 (.iload_n 1) 1 1, kx_i (.iconst 2) 1 2, kx_1 (.if_icmp .eq 29) 3 58]),
  (32, [true, true, true, true], [kx_1 (.iload_n 1) 1 1, kx_i (.iconst 1) 1 1, kx_1 (.if_icmp .ne 28) 3 62]),
  (37, [true, true, true, true], [kx_0 (.aload_n 0) 1, kx_3 (.getfield 7) 3 6 0 2, kx_i (.bipush 32) 2 32, kx_1 (.iload_n 3) 1 3, kx_0 (.iadd) 1, kx_0 (.iaload) 1, kx_0 (.aload_n 0) 1, kx_3 (.getfield 7) 3 6 0 2, kx_i (.bipush 32) 2 32, kx_1 (.iload_n 2) 1 2, kx_0 (.iadd) 1, kx_0 (.iaload) 1, kx_1 (.if_icmp .ge 7) 3 62]),
  (58, [true, true, true, true], [kx_i (.iconst 1) 1 1, kx_1 (.goto 4) 3 63]),
  (62, [true, true, true, true], [kx_i (.iconst 0) 1 0]),
  (63, [true, true, true, true], [kx_1 (.istore 4) 2 4, kx_1 (.iload 4) 2 4, kx_1 (.ifCond .eq 7) 3 74]),
  (70, [true, true, false, true], [kx_1 (.iload_n 3) 1 3, kx_1 (.goto 4) 3 75]),
  (74, [true, true, true, true], [kx_1 (.iload_n 2) 1 2]),
  (75, [true, true, false, true], [kx_1 (.istore_n 2) 1 2]),
  (76, [true, true, true, true], [kx_n (.iinc 3 1) 3 3 1, kx_1 (.goto (-75)) 3 4]),
  (82, [false, false, true], [kx_1 (.iload_n 2) 1 2, kx_0 (.ireturn) 1])])
/-- PalletNetsModel.runs(II)I -/
def kp_97 : km_P := (6, false, [(0, [true, true, true], [kx_1 (.iload_n 1) 1 1, kx_i (.iconst 1) 1 1, kx_i (.bipush 8) 2 8, kx_3 (.invokestatic 76) 3 52 3 0]),
  (7, [true, true, true], [kx_1 (.ifCond .eq 12) 3 19]),
  (10, [true, true, true], [kx_1 (.iload_n 2) 1 2, kx_i (.iconst 0) 1 0, kx_i (.iconst 2) 1 2, kx_3 (.invokestatic 76) 3 52 3 0]),
  (16, [true, true, true], [kx_1 (.ifCond .ne 8) 3 24]),
  (19, [true], [kx_0 (.aload_n 0) 1, kx_3 (.invokevirtual 86) 3 54 1 6]),
  (23, [], [kx_0 (.ireturn) 1]),
  (24, [true, true, true], [kx_0 (.aload_n 0) 1, kx_3 (.invokevirtual 93) 3 59 1 6]),
  (28, [true, true, true], [kx_i (.iconst 0) 1 0, kx_1 (.istore_n 3) 1 3, kx_i (.iconst 1) 1 1, kx_1 (.istore 4) 2 4]),
  (33, [true, true, true, true, true], [kx_1 (.iload 4) 2 4, kx_1 (.ifCond .eq 45) 3 80]),
  (38, [true, true, true, true], [kx_1 (.iload_n 3) 1 3, kx_1 (.iload_n 1) 1 1, kx_1 (.if_icmp .ge 40) 3 80]),
  (43, [true, true, true, true], [kx_0 (.aload_n 0) 1, kx_1 (.iload_n 2) 1 2, kx_3 (.invokevirtual 205) 3 96 2 6]),
  (48, [true, true, true, true], [kx_1 (.istore 5) 2 5, kx_1 (.iload 5) 2 5, kx_i (.iconst (-1)) 1 (-1), kx_1 (.if_icmp .eq 7) 3 60]),
  (56, [true, true, true, true, false, true], [kx_i (.iconst 1) 1 1, kx_1 (.goto 4) 3 61]),
  (60, [true, true, true, true, false, true], [kx_i (.iconst 0) 1 0]),
  (61, [true, true, true, true, false, true], [kx_1 (.istore 4) 2 4, kx_1 (.iload 4) 2 4, kx_1 (.ifCond .eq 12) 3 77]),
  (68, [true, true, true, true, true, true], [kx_0 (.aload_n 0) 1, kx_1 (.iload 5) 2 5, kx_3 (.invokevirtual 198) 3 94 2 6]),
  (74, [true, true, true, true, true], [kx_n (.iinc 3 1) 3 3 1]),
  (77, [true, true, true, true, true], [kx_1 (.goto (-44)) 3 33]),
  (80, [false, false, false, true], [kx_1 (.iload_n 3) 1 3, kx_0 (.ireturn) 1])])
/-- PalletNetsModel.restarts()I -/
def kp_98 : km_P := (2, false, [(0, [true], [kx_0 (.aload_n 0) 1, kx_3 (.invokevirtual 93) 3 59 1 6]),
  (4, [true], [kx_i (.iconst 0) 1 0, kx_1 (.istore_n 1) 1 1]),
  (6, [true, true], [kx_1 (.iload_n 1) 1 1, kx_0 (.aload_n 0) 1, kx_3 (.getfield 7) 3 6 0 2, kx_i (.iconst 0) 1 0, kx_0 (.iaload) 1, kx_1 (.if_icmp .ge 36) 3 49]),
  (16, [true, true], [kx_0 (.aload_n 0) 1, kx_3 (.getfield 7) 3 6 0 2, kx_i (.bipush 22) 2 22, kx_1 (.iload_n 1) 1 1, kx_0 (.iadd) 1, kx_0 (.aload_n 0) 1, kx_3 (.getfield 7) 3 6 0 2, kx_i (.iconst 2) 1 2, kx_1 (.iload_n 1) 1 1, kx_0 (.iadd) 1, kx_0 (.iaload) 1, kx_0 (.aload_n 0) 1, kx_3 (.getfield 7) 3 6 0 2, kx_i (.bipush 12) 2 12, kx_1 (.iload_n 1) 1 1, kx_0 (.iadd) 1, kx_0 (.iaload) 1, kx_0 (.isub) 1, kx_0 (.iastore) 1, kx_n (.iinc 1 1) 3 1 1, kx_1 (.goto (-40)) 3 6]),
  (49, [true], [kx_0 (.aload_n 0) 1, kx_0 (.aload_n 0) 1, kx_3 (.getfield 7) 3 6 0 2, kx_3 (.invokestatic 135) 3 78 1 0]),
  (57, [true], [kx_0 (.aload_n 0) 1, kx_3 (.invokevirtual 208) 3 80 1 6]),
  (61, [], [kx_3 (.invokevirtual 160) 3 79 3 6]),
  (64, [], [kx_0 (.ireturn) 1])])
/-- PalletNetsModel.loses(I)I -/
def kp_99 : km_P := (2, false, [(0, [true, true], [kx_0 (.aload_n 0) 1, kx_1 (.iload_n 1) 1 1, kx_3 (.invokevirtual 111) 3 57 2 6]),
  (5, [true, true], [kx_1 (.ifCond .ne 8) 3 13]),
  (8, [true], [kx_0 (.aload_n 0) 1, kx_3 (.invokevirtual 86) 3 54 1 6]),
  (12, [], [kx_0 (.ireturn) 1]),
  (13, [true, true], [kx_0 (.aload_n 0) 1, kx_3 (.getfield 7) 3 6 0 2, kx_i (.bipush 22) 2 22, kx_1 (.iload_n 1) 1 1, kx_0 (.iadd) 1, kx_0 (.iaload) 1, kx_1 (.ifCond .eq 23) 3 45]),
  (25, [true, true], [kx_0 (.aload_n 0) 1, kx_3 (.getfield 7) 3 6 0 2, kx_i (.bipush 12) 2 12, kx_1 (.iload_n 1) 1 1, kx_0 (.iadd) 1, kx_0 (.iaload) 1, kx_0 (.aload_n 0) 1, kx_3 (.getfield 7) 3 6 0 2, kx_i (.iconst 2) 1 2, kx_1 (.iload_n 1) 1 1, kx_0 (.iadd) 1, kx_0 (.iaload) 1, kx_1 (.if_icmp .ne 8) 3 50]),
  (45, [true], [kx_0 (.aload_n 0) 1, kx_3 (.invokevirtual 195) 3 55 1 6]),
  (49, [], [kx_0 (.ireturn) 1]),
  (50, [true, true], [kx_0 (.aload_n 0) 1, kx_3 (.invokevirtual 93) 3 59 1 6]),
  (54, [true, true], [kx_0 (.aload_n 0) 1, kx_3 (.getfield 7) 3 6 0 2, kx_i (.bipush 22) 2 22, kx_1 (.iload_n 1) 1 1, kx_0 (.iadd) 1, kx_0 (.dup2) 1, kx_0 (.iaload) 1, kx_i (.iconst 1) 1 1, kx_0 (.isub) 1, kx_0 (.iastore) 1, kx_0 (.aload_n 0) 1, kx_3 (.getfield 7) 3 6 0 2, kx_i (.bipush 12) 2 12, kx_1 (.iload_n 1) 1 1, kx_0 (.iadd) 1, kx_0 (.dup2) 1, kx_0 (.iaload) 1, kx_i (.iconst 1) 1 1, kx_0 (.iadd) 1, kx_0 (.iastore) 1, kx_0 (.aload_n 0) 1, kx_3 (.getfield 7) 3 6 0 2, kx_i (.bipush 22) 2 22, kx_1 (.iload_n 1) 1 1, kx_0 (.iadd) 1, kx_0 (.iaload) 1, kx_0 (.ireturn) 1])])
/-- PalletNetsModel.returns(I)I -/
def kp_100 : km_P := (2, false, [(0, [true, true], [kx_0 (.aload_n 0) 1, kx_1 (.iload_n 1) 1 1, kx_3 (.invokevirtual 111) 3 57 2 6]),
  (5, [true, true], [kx_1 (.ifCond .ne 8) 3 13]),
  (8, [true], [kx_0 (.aload_n 0) 1, kx_3 (.invokevirtual 86) 3 54 1 6]),
  (12, [], [kx_0 (.ireturn) 1]),
  (13, [true, true], [kx_0 (.aload_n 0) 1, kx_3 (.getfield 7) 3 6 0 2, kx_i (.bipush 12) 2 12, kx_1 (.iload_n 1) 1 1, kx_0 (.iadd) 1, kx_0 (.iaload) 1, kx_1 (.ifCond .eq 17) 3 39]),
  (25, [true, true], [kx_0 (.aload_n 0) 1, kx_3 (.getfield 7) 3 6 0 2, kx_i (.bipush 22) 2 22, kx_1 (.iload_n 1) 1 1, kx_0 (.iadd) 1, kx_0 (.iaload) 1, kx_i (.bipush 15) 2 15, kx_1 (.if_icmp .ne 8) 3 44]),
  (39, [true], [kx_0 (.aload_n 0) 1, kx_3 (.invokevirtual 195) 3 55 1 6]),
  (43, [], [kx_0 (.ireturn) 1]),
  (44, [true, true], [kx_0 (.aload_n 0) 1, kx_3 (.invokevirtual 93) 3 59 1 6]),
  (48, [true, true], [kx_0 (.aload_n 0) 1, kx_3 (.getfield 7) 3 6 0 2, kx_i (.bipush 22) 2 22, kx_1 (.iload_n 1) 1 1, kx_0 (.iadd) 1, kx_0 (.dup2) 1, kx_0 (.iaload) 1, kx_i (.iconst 1) 1 1, kx_0 (.iadd) 1, kx_0 (.iastore) 1, kx_0 (.aload_n 0) 1, kx_3 (.getfield 7) 3 6 0 2, kx_i (.bipush 12) 2 12, kx_1 (.iload_n 1) 1 1, kx_0 (.iadd) 1, kx_0 (.dup2) 1, kx_0 (.iaload) 1, kx_i (.iconst 1) 1 1, kx_0 (.isub) 1, kx_0 (.iastore) 1, kx_0 (.aload_n 0) 1, kx_3 (.getfield 7) 3 6 0 2, kx_i (.bipush 12) 2 12, kx_1 (.iload_n 1) 1 1, kx_0 (.iadd) 1, kx_0 (.iaload) 1, kx_0 (.ireturn) 1])])
/-- PalletNetsModel.keeper(I)I -/
def kp_101 : km_P := (3, false, [(0, [true, true], [kx_1 (.iload_n 1) 1 1, kx_i (.iconst 0) 1 0, kx_i (.iconst 1) 1 1, kx_3 (.invokestatic 76) 3 52 3 0]),
  (6, [true, true], [kx_1 (.ifCond .ne 8) 3 14]),
  (9, [true], [kx_0 (.aload_n 0) 1, kx_3 (.invokevirtual 86) 3 54 1 6]),
  (13, [], [kx_0 (.ireturn) 1]),
  (14, [true, true], [kx_0 (.aload_n 0) 1, kx_3 (.invokevirtual 93) 3 59 1 6]),
  (18, [true, true], [kx_0 (.aload_n 0) 1, kx_3 (.getfield 7) 3 6 0 2, kx_i (.sipush 211) 3 211, kx_0 (.iaload) 1, kx_1 (.istore_n 2) 1 2, kx_0 (.aload_n 0) 1, kx_3 (.getfield 7) 3 6 0 2, kx_i (.sipush 211) 3 211, kx_1 (.iload_n 1) 1 1, kx_0 (.iastore) 1, kx_1 (.iload_n 2) 1 2, kx_0 (.ireturn) 1])])
/-- PalletNetsModel.common(JJ)J -/
def kp_102 : km_P := (10, false, [(0, [true, false, true], [kx_0 (.lload_n 0) 1, kx_l (.lconst 0) 1 0, kx_0 (.lcmp) 1, kx_1 (.ifCond .ge 8) 3 11]),
  (6, [true, false, true], [kx_0 (.lload_n 0) 1, kx_0 (.lneg) 1, kx_1 (.goto 4) 3 12]),
  (11, [true, false, true], [kx_0 (.lload_n 0) 1]),
  (12, [false, false, true], [kx_1 (.lstore 4) 2 4, kx_1 (.lload_n 2) 1 2, kx_l (.lconst 0) 1 0, kx_0 (.lcmp) 1, kx_1 (.ifCond .ge 8) 3 25]),
  (20, [false, false, true, false, true], [kx_1 (.lload_n 2) 1 2, kx_0 (.lneg) 1, kx_1 (.goto 4) 3 26]),
  (25, [false, false, true, false, true], [kx_1 (.lload_n 2) 1 2]),
  (26, [false, false, false, false, true], [kx_1 (.lstore 6) 2 6]),
  (28, [false, false, false, false, true, false, true], [kx_1 (.lload 6) 2 6, kx_l (.lconst 0) 1 0, kx_0 (.lcmp) 1, kx_1 (.ifCond .eq 21) 3 53]),
  (35, [false, false, false, false, true, false, true], [kx_1 (.lload 4) 2 4, kx_1 (.lload 6) 2 6, kx_0 (.lrem) 1, kx_1 (.lstore 8) 2 8, kx_1 (.lload 6) 2 6, kx_1 (.lstore 4) 2 4, kx_1 (.lload 8) 2 8, kx_1 (.lstore 6) 2 6, kx_1 (.goto (-22)) 3 28]),
  (53, [false, false, false, false, true], [kx_1 (.lload 4) 2 4, kx_0 (.lreturn) 1])])
/-- PalletNetsModel.shortens(I)V -/
def kp_103 : km_P := (5, false, [(0, [true, true], [kx_l (.lconst 0) 1 0, kx_1 (.lstore_n 2) 1 2, kx_i (.iconst 0) 1 0, kx_1 (.istore 4) 2 4]),
  (5, [true, true, true, false, true], [kx_1 (.iload 4) 2 4, kx_i (.bipush 10) 2 10, kx_1 (.if_icmp .ge 26) 3 35]),
  (12, [true, true, true, false, true], [kx_1 (.lload_n 2) 1 2, kx_0 (.aload_n 0) 1, kx_3 (.getfield 30) 3 6 13 2, kx_i (.bipush 10) 2 10, kx_1 (.iload_n 1) 1 1, kx_0 (.imul) 1, kx_1 (.iload 4) 2 4, kx_0 (.iadd) 1, kx_0 (.laload) 1, kx_3 (.invokestatic 211) 3 102 2 0]),
  (28, [true, true, false, false, true], [kx_1 (.lstore_n 2) 1 2, kx_n (.iinc 4 1) 3 4 1, kx_1 (.goto (-27)) 3 5]),
  (35, [true, true, true], [kx_i (.iconst 0) 1 0, kx_1 (.istore 4) 2 4]),
  (38, [true, true, true, false, true], [kx_1 (.iload 4) 2 4, kx_i (.bipush 10) 2 10, kx_1 (.if_icmp .ge 31) 3 73]),
  (45, [true, true, true, false, true], [kx_1 (.lload_n 2) 1 2, kx_l (.lconst 1) 1 1, kx_0 (.lcmp) 1, kx_1 (.ifCond .le 25) 3 73]),
  (51, [true, true, true, false, true], [kx_0 (.aload_n 0) 1, kx_3 (.getfield 30) 3 6 13 2, kx_i (.bipush 10) 2 10, kx_1 (.iload_n 1) 1 1, kx_0 (.imul) 1, kx_1 (.iload 4) 2 4, kx_0 (.iadd) 1, kx_0 (.dup2) 1, kx_0 (.laload) 1, kx_1 (.lload_n 2) 1 2, kx_0 (.ldiv) 1, kx_0 (.lastore) 1, kx_n (.iinc 4 1) 3 4 1, kx_1 (.goto (-32)) 3 38]),
  (73, [], [kx_0 (.return_) 1])])
/-- PalletNetsModel.takesOff(III)V -/
def kp_104 : km_P := (9, false, [(0, [true, true, true, true], [kx_0 (.aload_n 0) 1, kx_3 (.getfield 30) 3 6 13 2, kx_i (.bipush 10) 2 10, kx_1 (.iload_n 1) 1 1, kx_0 (.imul) 1, kx_1 (.iload_n 3) 1 3, kx_0 (.iadd) 1, kx_0 (.laload) 1, kx_1 (.lstore 4) 2 4, kx_0 (.aload_n 0) 1, kx_3 (.getfield 30) 3 6 13 2, kx_i (.bipush 10) 2 10, kx_1 (.iload_n 2) 1 2, kx_0 (.imul) 1, kx_1 (.iload_n 3) 1 3, kx_0 (.iadd) 1, kx_0 (.laload) 1, kx_1 (.lstore 6) 2 6, kx_i (.iconst 0) 1 0, kx_1 (.istore 8) 2 8]),
  (29, [true, true, true, false, true, false, true, false, true], [kx_1 (.iload 8) 2 8, kx_i (.bipush 10) 2 10, kx_1 (.if_icmp .ge 52) 3 85]),
  (36, [true, true, true, false, true, false, true, false, true], [kx_0 (.aload_n 0) 1, kx_3 (.getfield 30) 3 6 13 2, kx_i (.bipush 10) 2 10, kx_1 (.iload_n 1) 1 1, kx_0 (.imul) 1, kx_1 (.iload 8) 2 8, kx_0 (.iadd) 1, kx_0 (.aload_n 0) 1, kx_3 (.getfield 30) 3 6 13 2, kx_i (.bipush 10) 2 10, kx_1 (.iload_n 1) 1 1, kx_0 (.imul) 1, kx_1 (.iload 8) 2 8, kx_0 (.iadd) 1, kx_0 (.laload) 1, kx_1 (.lload 6) 2 6, kx_0 (.lmul) 1, kx_0 (.aload_n 0) 1, kx_3 (.getfield 30) 3 6 13 2, kx_i (.bipush 10) 2 10, kx_1 (.iload_n 2) 1 2, kx_0 (.imul) 1, kx_1 (.iload 8) 2 8, kx_0 (.iadd) 1, kx_0 (.laload) 1, kx_1 (.lload 4) 2 4, kx_0 (.lmul) 1, kx_0 (.lsub) 1, kx_0 (.lastore) 1, kx_n (.iinc 8 1) 3 8 1, kx_1 (.goto (-53)) 3 29]),
  (85, [true, true], [kx_0 (.aload_n 0) 1, kx_1 (.iload_n 1) 1 1, kx_3 (.invokevirtual 215) 3 103 2 6]),
  (90, [], [kx_0 (.return_) 1])])
/-- PalletNetsModel.swaps(II)V -/
def kp_105 : km_P := (6, false, [(0, [true, true, true], [kx_i (.iconst 0) 1 0, kx_1 (.istore_n 3) 1 3]),
  (2, [true, true, true, true], [kx_1 (.iload_n 3) 1 3, kx_i (.bipush 10) 2 10, kx_1 (.if_icmp .ge 57) 3 62]),
  (8, [true, true, true, true], [kx_0 (.aload_n 0) 1, kx_3 (.getfield 30) 3 6 13 2, kx_i (.bipush 10) 2 10, kx_1 (.iload_n 1) 1 1, kx_0 (.imul) 1, kx_1 (.iload_n 3) 1 3, kx_0 (.iadd) 1, kx_0 (.laload) 1, kx_1 (.lstore 4) 2 4, kx_0 (.aload_n 0) 1, kx_3 (.getfield 30) 3 6 13 2, kx_i (.bipush 10) 2 10, kx_1 (.iload_n 1) 1 1, kx_0 (.imul) 1, kx_1 (.iload_n 3) 1 3, kx_0 (.iadd) 1, kx_0 (.aload_n 0) 1, kx_3 (.getfield 30) 3 6 13 2, kx_i (.bipush 10) 2 10, kx_1 (.iload_n 2) 1 2, kx_0 (.imul) 1, kx_1 (.iload_n 3) 1 3, kx_0 (.iadd) 1, kx_0 (.laload) 1, kx_0 (.lastore) 1, kx_0 (.aload_n 0) 1, kx_3 (.getfield 30) 3 6 13 2, kx_i (.bipush 10) 2 10, kx_1 (.iload_n 2) 1 2, kx_0 (.imul) 1, kx_1 (.iload_n 3) 1 3, kx_0 (.iadd) 1, kx_1 (.lload 4) 2 4, kx_0 (.lastore) 1, kx_n (.iinc 3 1) 3 3 1, kx_1 (.goto (-57)) 3 2]),
  (62, [], [kx_0 (.return_) 1])])
/-- PalletNetsModel.solves(I)I -/
def kp_106 : km_P := (6, false, [(0, [true, true], [kx_i (.iconst 0) 1 0, kx_1 (.istore_n 2) 1 2]),
  (2, [true, true, true], [kx_1 (.iload_n 2) 1 2, kx_0 (.aload_n 0) 1, kx_3 (.getfield 7) 3 6 0 2, kx_i (.iconst 1) 1 1, kx_0 (.iaload) 1, kx_1 (.if_icmp .ge 91) 3 100]),
  (12, [true, true, true], [kx_i (.iconst 0) 1 0, kx_1 (.istore_n 3) 1 3]),
  (14, [true, true, true, true], [kx_1 (.iload_n 3) 1 3, kx_i (.bipush 10) 2 10, kx_1 (.if_icmp .ge 72) 3 89]),
  (20, [true, true, true, true], [kx_0 (.aload_n 0) 1, kx_3 (.getfield 30) 3 6 13 2, kx_i (.bipush 10) 2 10, kx_1 (.iload_n 2) 1 2, kx_0 (.imul) 1, kx_1 (.iload_n 3) 1 3, kx_0 (.iadd) 1, kx_1 (.iload_n 3) 1 3, kx_0 (.aload_n 0) 1, kx_3 (.getfield 7) 3 6 0 2, kx_i (.iconst 0) 1 0, kx_0 (.iaload) 1, kx_1 (.if_icmp .ge 44) 3 81]),
  (40, [true, true, true, true], [kx_1 (.iload_n 1) 1 1, kx_1 (.iload_n 3) 1 3, kx_3 (.invokestatic 152) 3 53 2 0]),
  (45, [true, true, true, true], [kx_1 (.ifCond .eq 36) 3 81]),
  (48, [true, true, true, true], [kx_0 (.aload_n 0) 1, kx_3 (.getfield 7) 3 6 0 2, kx_i (.bipush 120) 2 120, kx_i (.bipush 10) 2 10, kx_1 (.iload_n 2) 1 2, kx_0 (.imul) 1, kx_0 (.iadd) 1, kx_1 (.iload_n 3) 1 3, kx_0 (.iadd) 1, kx_0 (.iaload) 1, kx_0 (.aload_n 0) 1, kx_3 (.getfield 7) 3 6 0 2, kx_i (.bipush 40) 2 40, kx_i (.bipush 10) 2 10, kx_1 (.iload_n 2) 1 2, kx_0 (.imul) 1, kx_0 (.iadd) 1, kx_1 (.iload_n 3) 1 3, kx_0 (.iadd) 1, kx_0 (.iaload) 1, kx_0 (.isub) 1, kx_0 (.i2l) 1, kx_1 (.goto 4) 3 82]),
  (81, [true, true, true, true], [kx_l (.lconst 0) 1 0]),
  (82, [true, true, true, true], [kx_0 (.lastore) 1, kx_n (.iinc 3 1) 3 3 1, kx_1 (.goto (-72)) 3 14]),
  (89, [true, true, true], [kx_0 (.aload_n 0) 1, kx_1 (.iload_n 2) 1 2, kx_3 (.invokevirtual 215) 3 103 2 6]),
  (94, [true, true, true], [kx_n (.iinc 2 1) 3 2 1, kx_1 (.goto (-95)) 3 2]),
  (100, [true], [kx_i (.iconst 0) 1 0, kx_1 (.istore_n 2) 1 2, kx_i (.iconst 0) 1 0, kx_1 (.istore_n 3) 1 3]),
  (104, [true, false, true, true], [kx_1 (.iload_n 3) 1 3, kx_0 (.aload_n 0) 1, kx_3 (.getfield 7) 3 6 0 2, kx_i (.iconst 0) 1 0, kx_0 (.iaload) 1, kx_1 (.if_icmp .ge 125) 3 236]),
  (114, [true, false, true, true], [kx_1 (.iload_n 2) 1 2, kx_1 (.istore 4) 2 4]),
  (117, [true, false, true, true, true], [kx_1 (.iload 4) 2 4, kx_0 (.aload_n 0) 1, kx_3 (.getfield 7) 3 6 0 2, kx_i (.iconst 1) 1 1, kx_0 (.iaload) 1, kx_1 (.if_icmp .ge 26) 3 151]),
  (128, [true, false, true, true, true], [kx_0 (.aload_n 0) 1, kx_3 (.getfield 30) 3 6 13 2, kx_i (.bipush 10) 2 10, kx_1 (.iload 4) 2 4, kx_0 (.imul) 1, kx_1 (.iload_n 3) 1 3, kx_0 (.iadd) 1, kx_0 (.laload) 1, kx_l (.lconst 0) 1 0, kx_0 (.lcmp) 1, kx_1 (.ifCond .ne 9) 3 151]),
  (145, [true, false, true, true, true], [kx_n (.iinc 4 1) 3 4 1, kx_1 (.goto (-31)) 3 117]),
  (151, [true, false, true, true, true], [kx_1 (.iload 4) 2 4, kx_0 (.aload_n 0) 1, kx_3 (.getfield 7) 3 6 0 2, kx_i (.iconst 1) 1 1, kx_0 (.iaload) 1, kx_1 (.if_icmp .ge 71) 3 230]),
  (162, [true, false, true, true, true], [kx_0 (.aload_n 0) 1, kx_1 (.iload 4) 2 4, kx_1 (.iload_n 2) 1 2, kx_3 (.invokevirtual 218) 3 105 3 6]),
  (169, [true, false, true, true], [kx_i (.iconst 0) 1 0, kx_1 (.istore 5) 2 5]),
  (172, [true, false, true, true, false, true], [kx_1 (.iload 5) 2 5, kx_0 (.aload_n 0) 1, kx_3 (.getfield 7) 3 6 0 2, kx_i (.iconst 1) 1 1, kx_0 (.iaload) 1, kx_1 (.if_icmp .ge 40) 3 220]),
  (183, [true, false, true, true, false, true], [kx_1 (.iload 5) 2 5, kx_1 (.iload_n 2) 1 2, kx_1 (.if_icmp .eq 28) 3 214]),
  (189, [true, false, true, true, false, true], [kx_0 (.aload_n 0) 1, kx_3 (.getfield 30) 3 6 13 2, kx_i (.bipush 10) 2 10, kx_1 (.iload 5) 2 5, kx_0 (.imul) 1, kx_1 (.iload_n 3) 1 3, kx_0 (.iadd) 1, kx_0 (.laload) 1, kx_l (.lconst 0) 1 0, kx_0 (.lcmp) 1, kx_1 (.ifCond .eq 11) 3 214]),
  (206, [true, false, true, true, false, true], [kx_0 (.aload_n 0) 1, kx_1 (.iload 5) 2 5, kx_1 (.iload_n 2) 1 2, kx_1 (.iload_n 3) 1 3, kx_3 (.invokevirtual 222) 3 104 4 6]),
  (214, [true, false, true, true, false, true], [kx_n (.iinc 5 1) 3 5 1, kx_1 (.goto (-45)) 3 172]),
  (220, [true, false, true, true], [kx_0 (.aload_n 0) 1, kx_3 (.getfield 33) 3 6 14 2, kx_1 (.iload_n 2) 1 2, kx_1 (.iload_n 3) 1 3, kx_0 (.iastore) 1, kx_n (.iinc 2 1) 3 2 1]),
  (230, [true, false, true, true], [kx_n (.iinc 3 1) 3 3 1, kx_1 (.goto (-129)) 3 104]),
  (236, [false, false, true], [kx_1 (.iload_n 2) 1 2, kx_0 (.ireturn) 1])])
/-- PalletNetsModel.sizeOf(I)I -/
def kp_107 : km_P := (3, false, [(0, [true], [kx_i (.iconst 0) 1 0, kx_1 (.istore_n 1) 1 1, kx_i (.iconst 0) 1 0, kx_1 (.istore_n 2) 1 2]),
  (4, [true, true, true], [kx_1 (.iload_n 2) 1 2, kx_i (.bipush 10) 2 10, kx_1 (.if_icmp .ge 25) 3 32]),
  (10, [true, true, true], [kx_1 (.iload_n 1) 1 1, kx_0 (.iload_n 0) 1, kx_1 (.iload_n 2) 1 2, kx_3 (.invokestatic 152) 3 53 2 0]),
  (16, [true, false, true], [kx_1 (.ifCond .eq 7) 3 23]),
  (19, [true, false, true], [kx_i (.iconst 1) 1 1, kx_1 (.goto 4) 3 24]),
  (23, [true, false, true], [kx_i (.iconst 0) 1 0]),
  (24, [true, false, true], [kx_0 (.iadd) 1, kx_1 (.istore_n 1) 1 1, kx_n (.iinc 2 1) 3 2 1, kx_1 (.goto (-25)) 3 4]),
  (32, [false, true], [kx_1 (.iload_n 1) 1 1, kx_0 (.ireturn) 1])])
/-- PalletNetsModel.isSum(I)Z -/
def kp_108 : km_P := (12, true, [(0, [true, true], [kx_0 (.aload_n 0) 1, kx_1 (.iload_n 1) 1 1, kx_3 (.invokevirtual 226) 3 106 2 6]),
  (5, [true, true], [kx_1 (.istore_n 2) 1 2, kx_1 (.iload_n 2) 1 2, kx_1 (.iload_n 1) 1 1, kx_3 (.invokestatic 229) 3 107 1 0]),
  (11, [true, true, true], [kx_i (.iconst 1) 1 1, kx_0 (.isub) 1, kx_1 (.if_icmp .eq 5) 3 18]),
  (16, [], [kx_i (.iconst 0) 1 0, kx_0 (.ireturn) 1]),
  (18, [true, true, true], [kx_1 (.iload_n 1) 1 1, kx_1 (.istore_n 3) 1 3, kx_i (.iconst 0) 1 0, kx_1 (.istore 4) 2 4]),
  (23, [true, false, true, true, true], [kx_1 (.iload 4) 2 4, kx_1 (.iload_n 2) 1 2, kx_1 (.if_icmp .ge 23) 3 49]),
  (29, [true, false, true, true, true], [kx_1 (.iload_n 3) 1 3, kx_i (.iconst 1) 1 1, kx_0 (.aload_n 0) 1, kx_3 (.getfield 33) 3 6 14 2, kx_1 (.iload 4) 2 4, kx_0 (.iaload) 1, kx_0 (.ishl) 1, kx_i (.iconst (-1)) 1 (-1), kx_0 (.ixor) 1, kx_0 (.iand) 1, kx_1 (.istore_n 3) 1 3, kx_n (.iinc 4 1) 3 4 1, kx_1 (.goto (-23)) 3 23]),
  (49, [true, false, true, true], [kx_i (.iconst 0) 1 0, kx_1 (.istore 4) 2 4]),
  (52, [true, false, true, true, true], [kx_1 (.iload_n 3) 1 3, kx_1 (.iload 4) 2 4, kx_3 (.invokestatic 152) 3 53 2 0]),
  (58, [true, false, true, true, true], [kx_1 (.ifCond .ne 9) 3 67]),
  (61, [true, false, true, true, true], [kx_n (.iinc 4 1) 3 4 1, kx_1 (.goto (-12)) 3 52]),
  (67, [true, false, true, false, true], [kx_l (.lconst 1) 1 1, kx_1 (.lstore 5) 2 5, kx_i (.iconst 0) 1 0, kx_1 (.istore 7) 2 7]),
  (73, [true, false, true, false, true, true, false, true], [kx_1 (.iload 7) 2 7, kx_1 (.iload_n 2) 1 2, kx_1 (.if_icmp .ge 108) 3 184]),
  (79, [true, false, true, false, true, true, false, true], [kx_0 (.aload_n 0) 1, kx_3 (.getfield 30) 3 6 13 2, kx_i (.bipush 10) 2 10, kx_1 (.iload 7) 2 7, kx_0 (.imul) 1, kx_0 (.aload_n 0) 1, kx_3 (.getfield 33) 3 6 14 2, kx_1 (.iload 7) 2 7, kx_0 (.iaload) 1, kx_0 (.iadd) 1, kx_0 (.laload) 1, kx_1 (.lstore 8) 2 8, kx_0 (.aload_n 0) 1, kx_3 (.getfield 30) 3 6 13 2, kx_i (.bipush 10) 2 10, kx_1 (.iload 7) 2 7, kx_0 (.imul) 1, kx_1 (.iload 4) 2 4, kx_0 (.iadd) 1, kx_0 (.laload) 1, kx_1 (.lstore 10) 2 10, kx_1 (.lload 10) 2 10, kx_l (.lconst 0) 1 0, kx_0 (.lcmp) 1, kx_1 (.ifCond .eq 30) 3 148]),
  (121, [true, false, true, false, true, true, false, true, true, false, true], [kx_1 (.lload 8) 2 8, kx_l (.lconst 0) 1 0, kx_0 (.lcmp) 1, kx_1 (.ifCond .le 7) 3 132]),
  (128, [true, false, true, false, true, true, false, true, true, false, true], [kx_i (.iconst 1) 1 1, kx_1 (.goto 4) 3 133]),
  (132, [true, false, true, false, true, true, false, true, true, false, true], [kx_i (.iconst 0) 1 0]),
  (133, [true, false, true, false, true, true, false, true, true, false, true], [kx_1 (.lload 10) 2 10, kx_l (.lconst 0) 1 0, kx_0 (.lcmp) 1, kx_1 (.ifCond .le 7) 3 144]),
  (140, [true, false, true, false, true, true, false, true, true], [kx_i (.iconst 1) 1 1, kx_1 (.goto 4) 3 145]),
  (144, [true, false, true, false, true, true, false, true, true], [kx_i (.iconst 0) 1 0]),
  (145, [true, false, true, false, true, true, false, true, true], [kx_1 (.if_icmp .ne 5) 3 150]),
  (148, [], [kx_i (.iconst 0) 1 0, kx_0 (.ireturn) 1]),
  (150, [true, false, true, false, true, true, false, true, true], [kx_1 (.lload 5) 2 5, kx_1 (.lload 5) 2 5, kx_1 (.lload 8) 2 8, kx_3 (.invokestatic 211) 3 102 2 0]),
  (159, [true, false, true, false, true, false, false, true, true], [kx_0 (.ldiv) 1, kx_1 (.lload 8) 2 8, kx_l (.lconst 0) 1 0, kx_0 (.lcmp) 1, kx_1 (.ifCond .ge 9) 3 173]),
  (167, [true, false, true, false, true, false, false, true, true], [kx_1 (.lload 8) 2 8, kx_0 (.lneg) 1, kx_1 (.goto 5) 3 175]),
  (173, [true, false, true, false, true, false, false, true, true], [kx_1 (.lload 8) 2 8]),
  (175, [true, false, true, false, true, false, false, true], [kx_0 (.lmul) 1, kx_1 (.lstore 5) 2 5, kx_n (.iinc 7 1) 3 7 1, kx_1 (.goto (-108)) 3 73]),
  (184, [true, false, true, false, true, true], [kx_i (.iconst 0) 1 0, kx_1 (.istore 7) 2 7]),
  (187, [true, false, true, false, true, true, false, true], [kx_1 (.iload 7) 2 7, kx_i (.bipush 10) 2 10, kx_1 (.if_icmp .ge 17) 3 208]),
  (194, [true, false, true, false, true, true, false, true], [kx_0 (.aload_n 0) 1, kx_3 (.getfield 36) 3 6 15 2, kx_1 (.iload 7) 2 7, kx_l (.lconst 0) 1 0, kx_0 (.lastore) 1, kx_n (.iinc 7 1) 3 7 1, kx_1 (.goto (-18)) 3 187]),
  (208, [true, false, true, false, true, true], [kx_0 (.aload_n 0) 1, kx_3 (.getfield 36) 3 6 15 2, kx_1 (.iload 4) 2 4, kx_1 (.lload 5) 2 5, kx_0 (.lastore) 1, kx_i (.iconst 0) 1 0, kx_1 (.istore 7) 2 7]),
  (220, [true, false, true, false, true, true, false, true], [kx_1 (.iload 7) 2 7, kx_1 (.iload_n 2) 1 2, kx_1 (.if_icmp .ge 57) 3 280]),
  (226, [true, false, true, false, true, true, false, true], [kx_0 (.aload_n 0) 1, kx_3 (.getfield 36) 3 6 15 2, kx_0 (.aload_n 0) 1, kx_3 (.getfield 33) 3 6 14 2, kx_1 (.iload 7) 2 7, kx_0 (.iaload) 1, kx_0 (.aload_n 0) 1, kx_3 (.getfield 30) 3 6 13 2, kx_i (.bipush 10) 2 10, kx_1 (.iload 7) 2 7, kx_0 (.imul) 1, kx_1 (.iload 4) 2 4, kx_0 (.iadd) 1, kx_0 (.laload) 1, kx_0 (.lneg) 1, kx_1 (.lload 5) 2 5, kx_0 (.aload_n 0) 1, kx_3 (.getfield 30) 3 6 13 2, kx_i (.bipush 10) 2 10, kx_1 (.iload 7) 2 7, kx_0 (.imul) 1, kx_0 (.aload_n 0) 1, kx_3 (.getfield 33) 3 6 14 2, kx_1 (.iload 7) 2 7, kx_0 (.iaload) 1, kx_0 (.iadd) 1, kx_0 (.laload) 1, kx_0 (.ldiv) 1, kx_0 (.lmul) 1, kx_0 (.lastore) 1, kx_n (.iinc 7 1) 3 7 1, kx_1 (.goto (-57)) 3 220]),
  (280, [], [kx_i (.iconst 1) 1 1, kx_0 (.ireturn) 1])])
/-- PalletNetsModel.laySums()V -/
def kp_109 : km_P := (3, false, [(0, [true], [kx_0 (.aload_n 0) 1, kx_i (.iconst 0) 1 0, kx_3 (.putfield 232) 3 6 16 0, kx_i (.iconst 1) 1 1, kx_1 (.istore_n 1) 1 1]),
  (7, [true, true], [kx_1 (.iload_n 1) 1 1, kx_0 (.aload_n 0) 1, kx_3 (.invokevirtual 208) 3 80 1 6]),
  (12, [true, true], [kx_1 (.if_icmp .gt 72) 3 84]),
  (15, [true, true], [kx_0 (.aload_n 0) 1, kx_1 (.iload_n 1) 1 1, kx_3 (.invokevirtual 235) 3 108 2 6]),
  (20, [true, true], [kx_1 (.ifCond .eq 58) 3 78]),
  (23, [true, true], [kx_0 (.aload_n 0) 1, kx_3 (.getfield 39) 3 6 17 2, kx_0 (.aload_n 0) 1, kx_3 (.getfield 232) 3 6 16 0, kx_1 (.iload_n 1) 1 1, kx_0 (.iastore) 1, kx_i (.iconst 0) 1 0, kx_1 (.istore_n 2) 1 2]),
  (35, [true, true, true], [kx_1 (.iload_n 2) 1 2, kx_i (.bipush 10) 2 10, kx_1 (.if_icmp .ge 30) 3 68]),
  (41, [true, true, true], [kx_0 (.aload_n 0) 1, kx_3 (.getfield 42) 3 6 18 2, kx_i (.bipush 10) 2 10, kx_0 (.aload_n 0) 1, kx_3 (.getfield 232) 3 6 16 0, kx_0 (.imul) 1, kx_1 (.iload_n 2) 1 2, kx_0 (.iadd) 1, kx_0 (.aload_n 0) 1, kx_3 (.getfield 36) 3 6 15 2, kx_1 (.iload_n 2) 1 2, kx_0 (.laload) 1, kx_0 (.l2i) 1, kx_0 (.iastore) 1, kx_n (.iinc 2 1) 3 2 1, kx_1 (.goto (-30)) 3 35]),
  (68, [true, true], [kx_0 (.aload_n 0) 1, kx_0 (.dup) 1, kx_3 (.getfield 232) 3 6 16 0, kx_i (.iconst 1) 1 1, kx_0 (.iadd) 1, kx_3 (.putfield 232) 3 6 16 0]),
  (78, [true, true], [kx_n (.iinc 1 1) 3 1 1, kx_1 (.goto (-74)) 3 7]),
  (84, [], [kx_0 (.return_) 1])])
/-- PalletNetsModel.sums()I -/
def kp_110 : km_P := (1, false, [(0, [true], [kx_0 (.aload_n 0) 1, kx_3 (.invokevirtual 238) 3 109 1 6]),
  (4, [true], [kx_0 (.aload_n 0) 1, kx_3 (.getfield 232) 3 6 16 0, kx_0 (.ireturn) 1])])
/-- PalletNetsModel.sum(II)I -/
def kp_111 : km_P := (3, false, [(0, [true, true, true], [kx_1 (.iload_n 1) 1 1, kx_1 (.ifCond .lt 11) 3 12]),
  (4, [true, true, true], [kx_0 (.aload_n 0) 1, kx_1 (.iload_n 2) 1 2, kx_3 (.invokevirtual 111) 3 57 2 6]),
  (9, [true, true, true], [kx_1 (.ifCond .ne 8) 3 17]),
  (12, [true], [kx_0 (.aload_n 0) 1, kx_3 (.invokevirtual 86) 3 54 1 6]),
  (16, [], [kx_0 (.ireturn) 1]),
  (17, [true, true, true], [kx_0 (.aload_n 0) 1, kx_3 (.invokevirtual 238) 3 109 1 6]),
  (21, [true, true, true], [kx_1 (.iload_n 1) 1 1, kx_0 (.aload_n 0) 1, kx_3 (.getfield 232) 3 6 16 0, kx_1 (.if_icmp .ge 17) 3 43]),
  (29, [true, true, true], [kx_0 (.aload_n 0) 1, kx_3 (.getfield 42) 3 6 18 2, kx_i (.bipush 10) 2 10, kx_1 (.iload_n 1) 1 1, kx_0 (.imul) 1, kx_1 (.iload_n 2) 1 2, kx_0 (.iadd) 1, kx_0 (.iaload) 1, kx_1 (.goto 4) 3 44]),
  (43, [], [kx_i (.iconst (-1)) 1 (-1)]),
  (44, [], [kx_0 (.ireturn) 1])])
/-- PalletNetsModel.worth(IJ)I -/
def kp_112 : km_P := (6, false, [(0, [true, true, true], [kx_i (.iconst 0) 1 0, kx_1 (.istore 4) 2 4, kx_i (.iconst 0) 1 0, kx_1 (.istore 5) 2 5]),
  (6, [true, true, true, false, true, true], [kx_1 (.iload 5) 2 5, kx_0 (.aload_n 0) 1, kx_3 (.getfield 7) 3 6 0 2, kx_i (.iconst 0) 1 0, kx_0 (.iaload) 1, kx_1 (.if_icmp .ge 33) 3 47]),
  (17, [true, true, true, false, true, true], [kx_1 (.iload 4) 2 4, kx_0 (.aload_n 0) 1, kx_3 (.getfield 42) 3 6 18 2, kx_i (.bipush 10) 2 10, kx_1 (.iload_n 1) 1 1, kx_0 (.imul) 1, kx_1 (.iload 5) 2 5, kx_0 (.iadd) 1, kx_0 (.iaload) 1, kx_1 (.lload_n 2) 1 2, kx_1 (.iload 5) 2 5, kx_3 (.invokestatic 156) 3 76 2 0]),
  (37, [true, true, true, false, false, true], [kx_0 (.imul) 1, kx_0 (.iadd) 1, kx_1 (.istore 4) 2 4, kx_n (.iinc 5 1) 3 5 1, kx_1 (.goto (-38)) 3 6]),
  (47, [false, false, false, false, true], [kx_1 (.iload 4) 2 4, kx_0 (.ireturn) 1])])
/-- PalletNetsModel.value(II)I -/
def kp_113 : km_P := (3, false, [(0, [true, true, true], [kx_1 (.iload_n 1) 1 1, kx_1 (.ifCond .lt 12) 3 13]),
  (4, [true, true, true], [kx_1 (.iload_n 2) 1 2, kx_i (.iconst 0) 1 0, kx_i (.iconst 3) 1 3, kx_3 (.invokestatic 76) 3 52 3 0]),
  (10, [true, true, true], [kx_1 (.ifCond .ne 8) 3 18]),
  (13, [true], [kx_0 (.aload_n 0) 1, kx_3 (.invokevirtual 86) 3 54 1 6]),
  (17, [], [kx_0 (.ireturn) 1]),
  (18, [true, true, true], [kx_0 (.aload_n 0) 1, kx_3 (.invokevirtual 238) 3 109 1 6]),
  (22, [true, true, true], [kx_1 (.iload_n 1) 1 1, kx_0 (.aload_n 0) 1, kx_3 (.getfield 232) 3 6 16 0, kx_1 (.if_icmp .lt 5) 3 32]),
  (30, [], [kx_i (.iconst (-1)) 1 (-1), kx_0 (.ireturn) 1]),
  (32, [true, true, true], [kx_1 (.iload_n 2) 1 2, kx_i (.iconst 3) 1 3, kx_1 (.if_icmp .ne 12) 3 46]),
  (37, [true, true], [kx_0 (.aload_n 0) 1, kx_3 (.getfield 39) 3 6 17 2, kx_1 (.iload_n 1) 1 1, kx_0 (.iaload) 1, kx_1 (.goto 41) 3 84]),
  (46, [true, true, true], [kx_0 (.aload_n 0) 1, kx_1 (.iload_n 1) 1 1, kx_1 (.iload_n 2) 1 2, kx_1 (.ifCond .ne 11) 3 60]),
  (52, [true], [kx_0 (.aload_n 0) 1, kx_i (.iconst 2) 1 2, kx_3 (.invokevirtual 188) 3 77 2 6]),
  (57, [], [kx_1 (.goto 24) 3 81]),
  (60, [true, false, true], [kx_1 (.iload_n 2) 1 2, kx_i (.iconst 1) 1 1, kx_1 (.if_icmp .ne 12) 3 74]),
  (65, [true], [kx_0 (.aload_n 0) 1, kx_i (.bipush 22) 2 22, kx_3 (.invokevirtual 188) 3 77 2 6]),
  (71, [], [kx_1 (.goto 10) 3 81]),
  (74, [true], [kx_0 (.aload_n 0) 1, kx_3 (.getfield 7) 3 6 0 2, kx_3 (.invokestatic 135) 3 78 1 0]),
  (81, [], [kx_3 (.invokevirtual 241) 3 112 3 6]),
  (84, [], [kx_0 (.ireturn) 1])])
/-- PalletNetsModel.bound(I)I -/
def kp_114 : km_P := (5, false, [(0, [true, true], [kx_0 (.aload_n 0) 1, kx_3 (.invokevirtual 238) 3 109 1 6]),
  (4, [true, true], [kx_i (.iconst (-1)) 1 (-1), kx_1 (.istore_n 2) 1 2, kx_i (.iconst 0) 1 0, kx_1 (.istore_n 3) 1 3]),
  (8, [true, true, true, true], [kx_1 (.iload_n 3) 1 3, kx_0 (.aload_n 0) 1, kx_3 (.getfield 232) 3 6 16 0, kx_1 (.if_icmp .ge 64) 3 77]),
  (16, [true, true, true, true], [kx_0 (.aload_n 0) 1, kx_3 (.getfield 39) 3 6 17 2, kx_1 (.iload_n 3) 1 3, kx_0 (.iaload) 1, kx_1 (.iload_n 1) 1 1, kx_3 (.invokestatic 152) 3 53 2 0]),
  (26, [true, true, true, true], [kx_1 (.ifCond .eq 45) 3 71]),
  (29, [true, true, true, true], [kx_0 (.aload_n 0) 1, kx_1 (.iload_n 3) 1 3, kx_0 (.aload_n 0) 1, kx_i (.iconst 2) 1 2, kx_3 (.invokevirtual 188) 3 77 2 6]),
  (36, [true, true, true, true], [kx_3 (.invokevirtual 241) 3 112 3 6]),
  (39, [true, true, true, true], [kx_0 (.aload_n 0) 1, kx_3 (.getfield 42) 3 6 18 2, kx_i (.bipush 10) 2 10, kx_1 (.iload_n 3) 1 3, kx_0 (.imul) 1, kx_1 (.iload_n 1) 1 1, kx_0 (.iadd) 1, kx_0 (.iaload) 1, kx_0 (.idiv) 1, kx_1 (.istore 4) 2 4, kx_1 (.iload_n 2) 1 2, kx_i (.iconst (-1)) 1 (-1), kx_1 (.if_icmp .eq 9) 3 64]),
  (58, [true, true, true, true, true], [kx_1 (.iload 4) 2 4, kx_1 (.iload_n 2) 1 2, kx_1 (.if_icmp .ge 8) 3 69]),
  (64, [true, true, false, true, true], [kx_1 (.iload 4) 2 4, kx_1 (.goto 4) 3 70]),
  (69, [true, true, true, true], [kx_1 (.iload_n 2) 1 2]),
  (70, [true, true, false, true], [kx_1 (.istore_n 2) 1 2]),
  (71, [true, true, true, true], [kx_n (.iinc 3 1) 3 3 1, kx_1 (.goto (-66)) 3 8]),
  (77, [false, false, true], [kx_1 (.iload_n 2) 1 2, kx_0 (.ireturn) 1])])
/-- PalletNetsModel.extreme(IZ)I -/
def kp_115 : km_P := (6, false, [(0, [true, true, true], [kx_0 (.aload_n 0) 1, kx_3 (.invokevirtual 245) 3 87 1 6]),
  (4, [true, true, true], [kx_0 (.aload_n 0) 1, kx_3 (.getfield 16) 3 6 9 2, kx_i (.iconst 0) 1 0, kx_0 (.laload) 1, kx_1 (.iload_n 1) 1 1, kx_3 (.invokestatic 156) 3 76 2 0]),
  (14, [true, true, true], [kx_1 (.istore_n 3) 1 3, kx_i (.iconst 1) 1 1, kx_1 (.istore 4) 2 4]),
  (18, [true, true, true, true, true], [kx_1 (.iload 4) 2 4, kx_0 (.aload_n 0) 1, kx_3 (.getfield 143) 3 6 8 0, kx_1 (.if_icmp .ge 44) 3 68]),
  (27, [true, true, true, true, true], [kx_0 (.aload_n 0) 1, kx_3 (.getfield 16) 3 6 9 2, kx_1 (.iload 4) 2 4, kx_0 (.laload) 1, kx_1 (.iload_n 1) 1 1, kx_3 (.invokestatic 156) 3 76 2 0]),
  (38, [true, true, true, true, true], [kx_1 (.istore 5) 2 5, kx_1 (.iload_n 2) 1 2, kx_1 (.iload 5) 2 5, kx_1 (.iload_n 3) 1 3, kx_1 (.if_icmp .le 7) 3 51]),
  (47, [true, true, true, true, true, true], [kx_i (.iconst 1) 1 1, kx_1 (.goto 4) 3 52]),
  (51, [true, true, true, true, true, true], [kx_i (.iconst 0) 1 0]),
  (52, [true, true, true, true, true, true], [kx_1 (.if_icmp .ne 8) 3 60]),
  (55, [true, true, true, false, true, true], [kx_1 (.iload 5) 2 5, kx_1 (.goto 4) 3 61]),
  (60, [true, true, true, true, true], [kx_1 (.iload_n 3) 1 3]),
  (61, [true, true, true, false, true], [kx_1 (.istore_n 3) 1 3, kx_n (.iinc 4 1) 3 4 1, kx_1 (.goto (-47)) 3 18]),
  (68, [false, false, false, true], [kx_1 (.iload_n 3) 1 3, kx_0 (.ireturn) 1])])
/-- PalletNetsModel.of(II)I -/
def kp_116 : km_P := (3, false, [(0, [true, true, true], [kx_0 (.aload_n 0) 1, kx_1 (.iload_n 1) 1 1, kx_3 (.invokevirtual 111) 3 57 2 6]),
  (5, [true, true, true], [kx_1 (.ifCond .eq 12) 3 17]),
  (8, [true, true, true], [kx_1 (.iload_n 2) 1 2, kx_i (.iconst 0) 1 0, kx_i (.iconst 5) 1 5, kx_3 (.invokestatic 76) 3 52 3 0]),
  (14, [true, true, true], [kx_1 (.ifCond .ne 8) 3 22]),
  (17, [true], [kx_0 (.aload_n 0) 1, kx_3 (.invokevirtual 86) 3 54 1 6]),
  (21, [], [kx_0 (.ireturn) 1]),
  (22, [true, true, true], [kx_1 (.iload_n 2) 1 2, kx_s (.tableswitch 64 0 3 #[29, 38, 48, 58]) 29 87 [(0, 52), (1, 61), (2, 71), (3, 81)]]),
  (52, [true, true], [kx_0 (.aload_n 0) 1, kx_3 (.getfield 7) 3 6 0 2, kx_i (.iconst 2) 1 2, kx_1 (.iload_n 1) 1 1, kx_0 (.iadd) 1, kx_0 (.iaload) 1, kx_0 (.ireturn) 1]),
  (61, [true, true], [kx_0 (.aload_n 0) 1, kx_3 (.getfield 7) 3 6 0 2, kx_i (.bipush 22) 2 22, kx_1 (.iload_n 1) 1 1, kx_0 (.iadd) 1, kx_0 (.iaload) 1, kx_0 (.ireturn) 1]),
  (71, [true, true], [kx_0 (.aload_n 0) 1, kx_3 (.getfield 7) 3 6 0 2, kx_i (.bipush 12) 2 12, kx_1 (.iload_n 1) 1 1, kx_0 (.iadd) 1, kx_0 (.iaload) 1, kx_0 (.ireturn) 1]),
  (81, [true, true], [kx_0 (.aload_n 0) 1, kx_1 (.iload_n 1) 1 1, kx_3 (.invokevirtual 248) 3 114 2 6]),
  (86, [], [kx_0 (.ireturn) 1]),
  (87, [true, true, true], [kx_0 (.aload_n 0) 1, kx_1 (.iload_n 1) 1 1, kx_1 (.iload_n 2) 1 2, kx_i (.iconst 4) 1 4, kx_1 (.if_icmp .ne 7) 3 98]),
  (94, [], [kx_i (.iconst 1) 1 1, kx_1 (.goto 4) 3 99]),
  (98, [], [kx_i (.iconst 0) 1 0]),
  (99, [], [kx_3 (.invokevirtual 251) 3 115 3 6]),
  (102, [], [kx_0 (.ireturn) 1])])
/-- PalletNetsModel.layArcs()V -/
def kp_117 : km_P := (3, false, [(0, [true], [kx_i (.iconst 0) 1 0, kx_1 (.istore_n 1) 1 1]),
  (2, [true, true], [kx_1 (.iload_n 1) 1 1, kx_0 (.aload_n 0) 1, kx_3 (.getfield 7) 3 6 0 2, kx_i (.iconst 1) 1 1, kx_0 (.iaload) 1, kx_1 (.if_icmp .ge 107) 3 116]),
  (12, [true, true], [kx_0 (.aload_n 0) 1, kx_3 (.getfield 45) 3 6 19 2, kx_1 (.iload_n 1) 1 1, kx_i (.iconst 0) 1 0, kx_0 (.iastore) 1, kx_0 (.aload_n 0) 1, kx_3 (.getfield 48) 3 6 20 2, kx_1 (.iload_n 1) 1 1, kx_i (.iconst 0) 1 0, kx_0 (.iastore) 1, kx_i (.iconst 0) 1 0, kx_1 (.istore_n 2) 1 2]),
  (28, [true, true, true], [kx_1 (.iload_n 2) 1 2, kx_0 (.aload_n 0) 1, kx_3 (.getfield 7) 3 6 0 2, kx_i (.iconst 0) 1 0, kx_0 (.iaload) 1, kx_1 (.if_icmp .ge 75) 3 110]),
  (38, [true, true, true], [kx_0 (.aload_n 0) 1, kx_3 (.getfield 45) 3 6 19 2, kx_1 (.iload_n 1) 1 1, kx_0 (.dup2) 1, kx_0 (.iaload) 1, kx_0 (.aload_n 0) 1, kx_3 (.getfield 7) 3 6 0 2, kx_i (.bipush 40) 2 40, kx_i (.bipush 10) 2 10, kx_1 (.iload_n 1) 1 1, kx_0 (.imul) 1, kx_0 (.iadd) 1, kx_1 (.iload_n 2) 1 2, kx_0 (.iadd) 1, kx_0 (.iaload) 1, kx_1 (.ifCond .le 9) 3 68]),
  (62, [true, true, true], [kx_i (.iconst 1) 1 1, kx_1 (.iload_n 2) 1 2, kx_0 (.ishl) 1, kx_1 (.goto 4) 3 69]),
  (68, [true, true, true], [kx_i (.iconst 0) 1 0]),
  (69, [true, true, true], [kx_0 (.ior) 1, kx_0 (.iastore) 1, kx_0 (.aload_n 0) 1, kx_3 (.getfield 48) 3 6 20 2, kx_1 (.iload_n 1) 1 1, kx_0 (.dup2) 1, kx_0 (.iaload) 1, kx_0 (.aload_n 0) 1, kx_3 (.getfield 7) 3 6 0 2, kx_i (.bipush 120) 2 120, kx_i (.bipush 10) 2 10, kx_1 (.iload_n 1) 1 1, kx_0 (.imul) 1, kx_0 (.iadd) 1, kx_1 (.iload_n 2) 1 2, kx_0 (.iadd) 1, kx_0 (.iaload) 1, kx_1 (.ifCond .le 9) 3 101]),
  (95, [true, true, true], [kx_i (.iconst 1) 1 1, kx_1 (.iload_n 2) 1 2, kx_0 (.ishl) 1, kx_1 (.goto 4) 3 102]),
  (101, [true, true, true], [kx_i (.iconst 0) 1 0]),
  (102, [true, true, true], [kx_0 (.ior) 1, kx_0 (.iastore) 1, kx_n (.iinc 2 1) 3 2 1, kx_1 (.goto (-79)) 3 28]),
  (110, [true, true], [kx_n (.iinc 1 1) 3 1 1, kx_1 (.goto (-111)) 3 2]),
  (116, [], [kx_0 (.return_) 1])])
/-- PalletNetsModel.isStuck(I)Z -/
def kp_118 : km_P := (4, true, [(0, [true, true], [kx_i (.iconst 1) 1 1, kx_1 (.istore_n 2) 1 2, kx_i (.iconst 0) 1 0, kx_1 (.istore_n 3) 1 3]),
  (4, [true, true, true, true], [kx_1 (.iload_n 3) 1 3, kx_0 (.aload_n 0) 1, kx_3 (.getfield 7) 3 6 0 2, kx_i (.iconst 1) 1 1, kx_0 (.iaload) 1, kx_1 (.if_icmp .ge 41) 3 52]),
  (14, [true, true, true, true], [kx_1 (.iload_n 2) 1 2, kx_1 (.ifCond .eq 29) 3 44]),
  (18, [true, true, false, true], [kx_0 (.aload_n 0) 1, kx_3 (.getfield 48) 3 6 20 2, kx_1 (.iload_n 3) 1 3, kx_0 (.iaload) 1, kx_1 (.iload_n 1) 1 1, kx_0 (.iand) 1, kx_1 (.ifCond .eq 14) 3 40]),
  (29, [true, true, false, true], [kx_0 (.aload_n 0) 1, kx_3 (.getfield 45) 3 6 19 2, kx_1 (.iload_n 3) 1 3, kx_0 (.iaload) 1, kx_1 (.iload_n 1) 1 1, kx_0 (.iand) 1, kx_1 (.ifCond .eq 7) 3 44]),
  (40, [true, true, false, true], [kx_i (.iconst 1) 1 1, kx_1 (.goto 4) 3 45]),
  (44, [true, true, false, true], [kx_i (.iconst 0) 1 0]),
  (45, [true, true, false, true], [kx_1 (.istore_n 2) 1 2, kx_n (.iinc 3 1) 3 3 1, kx_1 (.goto (-45)) 3 4]),
  (52, [false, false, true], [kx_1 (.iload_n 2) 1 2, kx_0 (.ireturn) 1])])
/-- PalletNetsModel.isKept(I)Z -/
def kp_119 : km_P := (4, true, [(0, [true, true], [kx_i (.iconst 1) 1 1, kx_1 (.istore_n 2) 1 2, kx_i (.iconst 0) 1 0, kx_1 (.istore_n 3) 1 3]),
  (4, [true, true, true, true], [kx_1 (.iload_n 3) 1 3, kx_0 (.aload_n 0) 1, kx_3 (.getfield 7) 3 6 0 2, kx_i (.iconst 1) 1 1, kx_0 (.iaload) 1, kx_1 (.if_icmp .ge 41) 3 52]),
  (14, [true, true, true, true], [kx_1 (.iload_n 2) 1 2, kx_1 (.ifCond .eq 29) 3 44]),
  (18, [true, true, false, true], [kx_0 (.aload_n 0) 1, kx_3 (.getfield 45) 3 6 19 2, kx_1 (.iload_n 3) 1 3, kx_0 (.iaload) 1, kx_1 (.iload_n 1) 1 1, kx_0 (.iand) 1, kx_1 (.ifCond .eq 14) 3 40]),
  (29, [true, true, false, true], [kx_0 (.aload_n 0) 1, kx_3 (.getfield 48) 3 6 20 2, kx_1 (.iload_n 3) 1 3, kx_0 (.iaload) 1, kx_1 (.iload_n 1) 1 1, kx_0 (.iand) 1, kx_1 (.ifCond .eq 7) 3 44]),
  (40, [true, true, false, true], [kx_i (.iconst 1) 1 1, kx_1 (.goto 4) 3 45]),
  (44, [true, true, false, true], [kx_i (.iconst 0) 1 0]),
  (45, [true, true, false, true], [kx_1 (.istore_n 2) 1 2, kx_n (.iinc 3 1) 3 3 1, kx_1 (.goto (-45)) 3 4]),
  (52, [false, false, true], [kx_1 (.iload_n 2) 1 2, kx_0 (.ireturn) 1])])
/-- PalletNetsModel.held(I)I -/
def kp_120 : km_P := (4, false, [(0, [true, true], [kx_i (.iconst 0) 1 0, kx_1 (.istore_n 2) 1 2, kx_i (.iconst 0) 1 0, kx_1 (.istore_n 3) 1 3]),
  (4, [true, true, true, true], [kx_1 (.iload_n 3) 1 3, kx_1 (.iload_n 1) 1 1, kx_1 (.if_icmp .gt 33) 3 39]),
  (9, [true, true, true, true], [kx_1 (.iload_n 2) 1 2, kx_1 (.iload_n 3) 1 3, kx_1 (.iload_n 1) 1 1, kx_i (.iconst (-1)) 1 (-1), kx_0 (.ixor) 1, kx_0 (.iand) 1, kx_1 (.ifCond .ne 15) 3 30]),
  (18, [true, true, false, true], [kx_0 (.aload_n 0) 1, kx_1 (.iload_n 3) 1 3, kx_3 (.invokevirtual 255) 3 119 2 6]),
  (23, [true, true, false, true], [kx_1 (.ifCond .eq 7) 3 30]),
  (26, [true, true, false, true], [kx_1 (.iload_n 3) 1 3, kx_1 (.goto 4) 3 31]),
  (30, [true, true, false, true], [kx_i (.iconst 0) 1 0]),
  (31, [true, true, false, true], [kx_0 (.ior) 1, kx_1 (.istore_n 2) 1 2, kx_n (.iinc 3 1) 3 3 1, kx_1 (.goto (-32)) 3 4]),
  (39, [false, false, true], [kx_1 (.iload_n 2) 1 2, kx_0 (.ireturn) 1])])
/-- PalletNetsModel.isLeast(I)Z -/
def kp_121 : km_P := (4, true, [(0, [true, true], [kx_0 (.aload_n 0) 1, kx_3 (.getfield 51) 3 6 21 2, kx_1 (.iload_n 1) 1 1, kx_0 (.baload) 1, kx_1 (.istore_n 2) 1 2, kx_i (.iconst 1) 1 1, kx_1 (.istore_n 3) 1 3]),
  (9, [true, true, true, true], [kx_1 (.iload_n 2) 1 2, kx_1 (.ifCond .eq 37) 3 47]),
  (13, [true, true, true, true], [kx_1 (.iload_n 3) 1 3, kx_1 (.iload_n 1) 1 1, kx_1 (.if_icmp .ge 32) 3 47]),
  (18, [true, true, false, true], [kx_1 (.iload_n 3) 1 3, kx_1 (.iload_n 1) 1 1, kx_i (.iconst (-1)) 1 (-1), kx_0 (.ixor) 1, kx_0 (.iand) 1, kx_1 (.ifCond .ne 12) 3 35]),
  (26, [true, true, false, true], [kx_0 (.aload_n 0) 1, kx_3 (.getfield 51) 3 6 21 2, kx_1 (.iload_n 3) 1 3, kx_0 (.baload) 1, kx_1 (.ifCond .ne 7) 3 39]),
  (35, [true, true, false, true], [kx_i (.iconst 1) 1 1, kx_1 (.goto 4) 3 40]),
  (39, [true, true, false, true], [kx_i (.iconst 0) 1 0]),
  (40, [true, true, false, true], [kx_1 (.istore_n 2) 1 2, kx_n (.iinc 3 1) 3 3 1, kx_1 (.goto (-35)) 3 9]),
  (47, [false, false, true], [kx_1 (.iload_n 2) 1 2, kx_0 (.ireturn) 1])])
/-- PalletNetsModel.layStucks()V -/
def kp_122 : km_P := (3, false, [(0, [true], [kx_0 (.aload_n 0) 1, kx_3 (.invokevirtual 258) 3 117 1 6]),
  (4, [true], [kx_i (.iconst 1) 1 1, kx_1 (.istore_n 1) 1 1]),
  (6, [true, true], [kx_1 (.iload_n 1) 1 1, kx_0 (.aload_n 0) 1, kx_3 (.invokevirtual 208) 3 80 1 6]),
  (11, [true, true], [kx_1 (.if_icmp .gt 20) 3 31]),
  (14, [true, true], [kx_0 (.aload_n 0) 1, kx_3 (.getfield 51) 3 6 21 2, kx_1 (.iload_n 1) 1 1, kx_0 (.aload_n 0) 1, kx_1 (.iload_n 1) 1 1, kx_3 (.invokevirtual 261) 3 118 2 6]),
  (24, [true, true], [kx_0 (.bastore) 1, kx_n (.iinc 1 1) 3 1 1, kx_1 (.goto (-22)) 3 6]),
  (31, [true], [kx_0 (.aload_n 0) 1, kx_i (.iconst 0) 1 0, kx_3 (.putfield 264) 3 6 22 0, kx_i (.iconst 1) 1 1, kx_1 (.istore_n 1) 1 1]),
  (38, [true, true], [kx_1 (.iload_n 1) 1 1, kx_0 (.aload_n 0) 1, kx_3 (.getfield 7) 3 6 0 2, kx_i (.iconst 0) 1 0, kx_0 (.iaload) 1, kx_1 (.if_icmp .gt 61) 3 106]),
  (48, [true, true], [kx_i (.iconst 1) 1 1, kx_1 (.istore_n 2) 1 2]),
  (50, [true, true, true], [kx_1 (.iload_n 2) 1 2, kx_0 (.aload_n 0) 1, kx_3 (.invokevirtual 208) 3 80 1 6]),
  (55, [true, true, true], [kx_1 (.if_icmp .gt 45) 3 100]),
  (58, [true, true, true], [kx_1 (.iload_n 2) 1 2, kx_3 (.invokestatic 229) 3 107 1 0]),
  (62, [true, true, true], [kx_1 (.iload_n 1) 1 1, kx_1 (.if_icmp .ne 31) 3 94]),
  (66, [true, true, true], [kx_0 (.aload_n 0) 1, kx_1 (.iload_n 2) 1 2, kx_3 (.invokevirtual 267) 3 121 2 6]),
  (71, [true, true, true], [kx_1 (.ifCond .eq 23) 3 94]),
  (74, [true, true, true], [kx_0 (.aload_n 0) 1, kx_3 (.getfield 54) 3 6 23 2, kx_0 (.aload_n 0) 1, kx_3 (.getfield 264) 3 6 22 0, kx_1 (.iload_n 2) 1 2, kx_0 (.iastore) 1, kx_0 (.aload_n 0) 1, kx_0 (.dup) 1, kx_3 (.getfield 264) 3 6 22 0, kx_i (.iconst 1) 1 1, kx_0 (.iadd) 1, kx_3 (.putfield 264) 3 6 22 0]),
  (94, [true, true, true], [kx_n (.iinc 2 1) 3 2 1, kx_1 (.goto (-47)) 3 50]),
  (100, [true, true], [kx_n (.iinc 1 1) 3 1 1, kx_1 (.goto (-65)) 3 38]),
  (106, [], [kx_0 (.return_) 1])])
/-- PalletNetsModel.stucks()I -/
def kp_123 : km_P := (1, false, [(0, [true], [kx_0 (.aload_n 0) 1, kx_3 (.invokevirtual 270) 3 122 1 6]),
  (4, [true], [kx_0 (.aload_n 0) 1, kx_3 (.getfield 264) 3 6 22 0, kx_0 (.ireturn) 1])])
/-- PalletNetsModel.isSafe(I)Z -/
def kp_124 : km_P := (2, true, [(0, [true, true], [kx_0 (.aload_n 0) 1, kx_0 (.aload_n 0) 1, kx_i (.iconst 2) 1 2, kx_3 (.invokevirtual 188) 3 77 2 6]),
  (6, [true, true], [kx_0 (.aload_n 0) 1, kx_1 (.iload_n 1) 1 1, kx_3 (.invokevirtual 273) 3 120 2 6]),
  (11, [], [kx_3 (.invokevirtual 160) 3 79 3 6]),
  (14, [], [kx_1 (.ifCond .le 7) 3 21]),
  (17, [], [kx_i (.iconst 1) 1 1, kx_1 (.goto 4) 3 22]),
  (21, [], [kx_i (.iconst 0) 1 0]),
  (22, [], [kx_0 (.ireturn) 1])])
/-- PalletNetsModel.fewest(I)I -/
def kp_125 : km_P := (5, false, [(0, [true, true], [kx_0 (.aload_n 0) 1, kx_3 (.invokevirtual 245) 3 87 1 6]),
  (4, [true, true], [kx_0 (.aload_n 0) 1, kx_0 (.aload_n 0) 1, kx_3 (.getfield 16) 3 6 9 2, kx_i (.iconst 0) 1 0, kx_0 (.laload) 1, kx_1 (.iload_n 1) 1 1, kx_3 (.invokevirtual 160) 3 79 3 6]),
  (15, [true, true], [kx_1 (.istore_n 2) 1 2, kx_i (.iconst 1) 1 1, kx_1 (.istore_n 3) 1 3]),
  (18, [true, true, true, true], [kx_1 (.iload_n 3) 1 3, kx_0 (.aload_n 0) 1, kx_3 (.getfield 143) 3 6 8 0, kx_1 (.if_icmp .ge 35) 3 58]),
  (26, [true, true, true, true], [kx_0 (.aload_n 0) 1, kx_0 (.aload_n 0) 1, kx_3 (.getfield 16) 3 6 9 2, kx_1 (.iload_n 3) 1 3, kx_0 (.laload) 1, kx_1 (.iload_n 1) 1 1, kx_3 (.invokevirtual 160) 3 79 3 6]),
  (37, [true, true, true, true], [kx_1 (.istore 4) 2 4, kx_1 (.iload 4) 2 4, kx_1 (.iload_n 2) 1 2, kx_1 (.if_icmp .ge 8) 3 50]),
  (45, [true, true, false, true, true], [kx_1 (.iload 4) 2 4, kx_1 (.goto 4) 3 51]),
  (50, [true, true, true, true], [kx_1 (.iload_n 2) 1 2]),
  (51, [true, true, false, true], [kx_1 (.istore_n 2) 1 2, kx_n (.iinc 3 1) 3 3 1, kx_1 (.goto (-37)) 3 18]),
  (58, [false, false, true], [kx_1 (.iload_n 2) 1 2, kx_0 (.ireturn) 1])])
/-- PalletNetsModel.stuck(II)I -/
def kp_126 : km_P := (4, false, [(0, [true, true, true], [kx_1 (.iload_n 1) 1 1, kx_1 (.ifCond .lt 12) 3 13]),
  (4, [true, true, true], [kx_1 (.iload_n 2) 1 2, kx_i (.iconst 0) 1 0, kx_i (.iconst 5) 1 5, kx_3 (.invokestatic 76) 3 52 3 0]),
  (10, [true, true, true], [kx_1 (.ifCond .ne 8) 3 18]),
  (13, [true], [kx_0 (.aload_n 0) 1, kx_3 (.invokevirtual 86) 3 54 1 6]),
  (17, [], [kx_0 (.ireturn) 1]),
  (18, [true, true, true], [kx_0 (.aload_n 0) 1, kx_3 (.invokevirtual 270) 3 122 1 6]),
  (22, [true, true, true], [kx_1 (.iload_n 1) 1 1, kx_0 (.aload_n 0) 1, kx_3 (.getfield 264) 3 6 22 0, kx_1 (.if_icmp .lt 5) 3 32]),
  (30, [], [kx_i (.iconst (-1)) 1 (-1), kx_0 (.ireturn) 1]),
  (32, [true, true, true], [kx_0 (.aload_n 0) 1, kx_3 (.getfield 54) 3 6 23 2, kx_1 (.iload_n 1) 1 1, kx_0 (.iaload) 1, kx_1 (.istore_n 3) 1 3, kx_1 (.iload_n 2) 1 2, kx_s (.tableswitch 81 0 4 #[36, 38, 49, 61, 67]) 36 121 [(0, 76), (1, 78), (2, 89), (3, 101), (4, 107)]]),
  (76, [false, false, false, true], [kx_1 (.iload_n 3) 1 3, kx_0 (.ireturn) 1]),
  (78, [true, false, false, true], [kx_0 (.aload_n 0) 1, kx_0 (.aload_n 0) 1, kx_i (.iconst 2) 1 2, kx_3 (.invokevirtual 188) 3 77 2 6]),
  (84, [false, false, false, true], [kx_1 (.iload_n 3) 1 3, kx_3 (.invokevirtual 160) 3 79 3 6]),
  (88, [], [kx_0 (.ireturn) 1]),
  (89, [true, false, false, true], [kx_0 (.aload_n 0) 1, kx_0 (.aload_n 0) 1, kx_i (.bipush 22) 2 22, kx_3 (.invokevirtual 188) 3 77 2 6]),
  (96, [false, false, false, true], [kx_1 (.iload_n 3) 1 3, kx_3 (.invokevirtual 160) 3 79 3 6]),
  (100, [], [kx_0 (.ireturn) 1]),
  (101, [true, false, false, true], [kx_0 (.aload_n 0) 1, kx_1 (.iload_n 3) 1 3, kx_3 (.invokevirtual 273) 3 120 2 6]),
  (106, [], [kx_0 (.ireturn) 1]),
  (107, [true, false, false, true], [kx_0 (.aload_n 0) 1, kx_1 (.iload_n 3) 1 3, kx_3 (.invokevirtual 276) 3 124 2 6]),
  (112, [], [kx_1 (.ifCond .eq 7) 3 119]),
  (115, [], [kx_i (.iconst 1) 1 1, kx_1 (.goto 4) 3 120]),
  (119, [], [kx_i (.iconst 0) 1 0]),
  (120, [], [kx_0 (.ireturn) 1]),
  (121, [true, false, false, true], [kx_0 (.aload_n 0) 1, kx_1 (.iload_n 3) 1 3, kx_3 (.invokevirtual 279) 3 125 2 6]),
  (126, [], [kx_0 (.ireturn) 1])])
/-- PalletNetsModel.sort(I)I -/
def kp_127 : km_P := (2, false, [(0, [true, true], [kx_1 (.iload_n 1) 1 1, kx_i (.iconst 1) 1 1, kx_0 (.aload_n 0) 1, kx_3 (.invokevirtual 208) 3 80 1 6]),
  (6, [true, true], [kx_3 (.invokestatic 76) 3 52 3 0]),
  (9, [true, true], [kx_1 (.ifCond .ne 8) 3 17]),
  (12, [true], [kx_0 (.aload_n 0) 1, kx_3 (.invokevirtual 86) 3 54 1 6]),
  (16, [], [kx_0 (.ireturn) 1]),
  (17, [true, true], [kx_0 (.aload_n 0) 1, kx_3 (.invokevirtual 258) 3 117 1 6]),
  (21, [true, true], [kx_0 (.aload_n 0) 1, kx_1 (.iload_n 1) 1 1, kx_3 (.invokevirtual 261) 3 118 2 6]),
  (26, [true, true], [kx_1 (.ifCond .eq 7) 3 33]),
  (29, [true, true], [kx_i (.iconst 1) 1 1, kx_1 (.goto 4) 3 34]),
  (33, [true, true], [kx_i (.iconst 0) 1 0]),
  (34, [true, true], [kx_0 (.aload_n 0) 1, kx_1 (.iload_n 1) 1 1, kx_3 (.invokevirtual 255) 3 119 2 6]),
  (39, [], [kx_1 (.ifCond .eq 7) 3 46]),
  (42, [], [kx_i (.iconst 2) 1 2, kx_1 (.goto 4) 3 47]),
  (46, [], [kx_i (.iconst 0) 1 0]),
  (47, [], [kx_0 (.iadd) 1, kx_0 (.ireturn) 1])])
/-- PalletNetsModel.addsGuard([III)V -/
def kp_128 : km_P := (3, false, [(0, [true, true, true], [kx_0 (.aload_n 0) 1, kx_i (.sipush 201) 3 201, kx_0 (.aload_n 0) 1, kx_i (.sipush 200) 3 200, kx_0 (.iaload) 1, kx_0 (.iadd) 1, kx_1 (.iload_n 1) 1 1, kx_0 (.iastore) 1, kx_0 (.aload_n 0) 1, kx_i (.sipush 206) 3 206, kx_0 (.aload_n 0) 1, kx_i (.sipush 200) 3 200, kx_0 (.iaload) 1, kx_0 (.iadd) 1, kx_1 (.iload_n 2) 1 2, kx_0 (.iastore) 1, kx_0 (.aload_n 0) 1, kx_i (.sipush 200) 3 200, kx_0 (.dup2) 1, kx_0 (.iaload) 1, kx_i (.iconst 1) 1 1, kx_0 (.iadd) 1, kx_0 (.iastore) 1, kx_0 (.return_) 1])])
/-- PalletNetsModel.guard(II)I -/
def kp_129 : km_P := (3, false, [(0, [true, true, true], [kx_1 (.iload_n 1) 1 1, kx_i (.iconst 1) 1 1, kx_0 (.aload_n 0) 1, kx_3 (.invokevirtual 208) 3 80 1 6]),
  (6, [true, true, true], [kx_3 (.invokestatic 76) 3 52 3 0]),
  (9, [true, true, true], [kx_1 (.ifCond .eq 13) 3 22]),
  (12, [true, true, true], [kx_1 (.iload_n 2) 1 2, kx_i (.iconst 1) 1 1, kx_i (.bipush 9) 2 9, kx_3 (.invokestatic 76) 3 52 3 0]),
  (19, [true, true, true], [kx_1 (.ifCond .ne 8) 3 27]),
  (22, [true], [kx_0 (.aload_n 0) 1, kx_3 (.invokevirtual 86) 3 54 1 6]),
  (26, [], [kx_0 (.ireturn) 1]),
  (27, [true, true, true], [kx_0 (.aload_n 0) 1, kx_0 (.aload_n 0) 1, kx_3 (.getfield 7) 3 6 0 2, kx_3 (.invokestatic 135) 3 78 1 0]),
  (35, [true, true, true], [kx_1 (.iload_n 1) 1 1, kx_3 (.invokevirtual 160) 3 79 3 6]),
  (39, [true, true, true], [kx_1 (.iload_n 2) 1 2, kx_1 (.if_icmp .ge 8) 3 48]),
  (43, [true], [kx_0 (.aload_n 0) 1, kx_3 (.invokevirtual 195) 3 55 1 6]),
  (47, [], [kx_0 (.ireturn) 1]),
  (48, [true, true, true], [kx_0 (.aload_n 0) 1, kx_3 (.getfield 7) 3 6 0 2, kx_i (.sipush 200) 3 200, kx_0 (.iaload) 1, kx_i (.iconst 5) 1 5, kx_1 (.if_icmp .ne 8) 3 65]),
  (60, [true], [kx_0 (.aload_n 0) 1, kx_3 (.invokevirtual 90) 3 56 1 6]),
  (64, [], [kx_0 (.ireturn) 1]),
  (65, [true, true, true], [kx_0 (.aload_n 0) 1, kx_3 (.invokevirtual 93) 3 59 1 6]),
  (69, [true, true, true], [kx_0 (.aload_n 0) 1, kx_3 (.getfield 7) 3 6 0 2, kx_1 (.iload_n 1) 1 1, kx_1 (.iload_n 2) 1 2, kx_3 (.invokestatic 282) 3 128 3 0]),
  (78, [true], [kx_0 (.aload_n 0) 1, kx_3 (.getfield 7) 3 6 0 2, kx_i (.sipush 200) 3 200, kx_0 (.iaload) 1, kx_i (.iconst 1) 1 1, kx_0 (.isub) 1, kx_0 (.ireturn) 1])])
/-- PalletNetsModel.isGuarded(I)Z -/
def kp_130 : km_P := (4, true, [(0, [true, true], [kx_i (.iconst 0) 1 0, kx_1 (.istore_n 2) 1 2, kx_i (.iconst 0) 1 0, kx_1 (.istore_n 3) 1 3]),
  (4, [true, true, true, true], [kx_1 (.iload_n 3) 1 3, kx_0 (.aload_n 0) 1, kx_3 (.getfield 7) 3 6 0 2, kx_i (.sipush 200) 3 200, kx_0 (.iaload) 1, kx_1 (.if_icmp .ge 33) 3 46]),
  (16, [true, true, true, true], [kx_1 (.iload_n 2) 1 2, kx_1 (.ifCond .ne 17) 3 34]),
  (20, [true, true, false, true], [kx_0 (.aload_n 0) 1, kx_3 (.getfield 7) 3 6 0 2, kx_i (.sipush 201) 3 201, kx_1 (.iload_n 3) 1 3, kx_0 (.iadd) 1, kx_0 (.iaload) 1, kx_1 (.iload_n 1) 1 1, kx_1 (.if_icmp .ne 7) 3 38]),
  (34, [true, true, false, true], [kx_i (.iconst 1) 1 1, kx_1 (.goto 4) 3 39]),
  (38, [true, true, false, true], [kx_i (.iconst 0) 1 0]),
  (39, [true, true, false, true], [kx_1 (.istore_n 2) 1 2, kx_n (.iinc 3 1) 3 3 1, kx_1 (.goto (-39)) 3 4]),
  (46, [false, false, true], [kx_1 (.iload_n 2) 1 2, kx_0 (.ireturn) 1])])
/-- PalletNetsModel.guards()I -/
def kp_131 : km_P := (4, false, [(0, [true], [kx_0 (.aload_n 0) 1, kx_3 (.invokevirtual 93) 3 59 1 6]),
  (4, [true], [kx_0 (.aload_n 0) 1, kx_3 (.invokevirtual 270) 3 122 1 6]),
  (8, [true], [kx_i (.iconst 0) 1 0, kx_1 (.istore_n 1) 1 1, kx_i (.iconst 0) 1 0, kx_1 (.istore_n 2) 1 2]),
  (12, [true, true, true], [kx_1 (.iload_n 2) 1 2, kx_0 (.aload_n 0) 1, kx_3 (.getfield 264) 3 6 22 0, kx_1 (.if_icmp .ge 71) 3 88]),
  (20, [true, true, true], [kx_0 (.aload_n 0) 1, kx_3 (.getfield 54) 3 6 23 2, kx_1 (.iload_n 2) 1 2, kx_0 (.iaload) 1, kx_1 (.istore_n 3) 1 3, kx_0 (.aload_n 0) 1, kx_3 (.getfield 7) 3 6 0 2, kx_i (.sipush 200) 3 200, kx_0 (.iaload) 1, kx_i (.iconst 5) 1 5, kx_1 (.if_icmp .ge 46) 3 82]),
  (39, [true, true, true, true], [kx_0 (.aload_n 0) 1, kx_1 (.iload_n 3) 1 3, kx_3 (.invokevirtual 276) 3 124 2 6]),
  (44, [true, true, true, true], [kx_1 (.ifCond .ne 38) 3 82]),
  (47, [true, true, true, true], [kx_0 (.aload_n 0) 1, kx_0 (.aload_n 0) 1, kx_3 (.getfield 7) 3 6 0 2, kx_3 (.invokestatic 135) 3 78 1 0]),
  (55, [true, true, true, true], [kx_1 (.iload_n 3) 1 3, kx_3 (.invokevirtual 160) 3 79 3 6]),
  (59, [true, true, true, true], [kx_1 (.ifCond .le 23) 3 82]),
  (62, [true, true, true, true], [kx_0 (.aload_n 0) 1, kx_1 (.iload_n 3) 1 3, kx_3 (.invokevirtual 286) 3 130 2 6]),
  (67, [true, true, true, true], [kx_1 (.ifCond .ne 15) 3 82]),
  (70, [true, true, true, true], [kx_0 (.aload_n 0) 1, kx_3 (.getfield 7) 3 6 0 2, kx_1 (.iload_n 3) 1 3, kx_i (.iconst 1) 1 1, kx_3 (.invokestatic 282) 3 128 3 0]),
  (79, [true, true, true], [kx_n (.iinc 1 1) 3 1 1]),
  (82, [true, true, true], [kx_n (.iinc 2 1) 3 2 1, kx_1 (.goto (-73)) 3 12]),
  (88, [false, true], [kx_1 (.iload_n 1) 1 1, kx_0 (.ireturn) 1])])
/-- PalletNetsModel.drop(I)I -/
def kp_132 : km_P := (3, false, [(0, [true, true], [kx_1 (.iload_n 1) 1 1, kx_i (.iconst 0) 1 0, kx_0 (.aload_n 0) 1, kx_3 (.getfield 7) 3 6 0 2, kx_i (.sipush 200) 3 200, kx_0 (.iaload) 1, kx_i (.iconst 1) 1 1, kx_0 (.isub) 1, kx_3 (.invokestatic 76) 3 52 3 0]),
  (15, [true, true], [kx_1 (.ifCond .ne 8) 3 23]),
  (18, [true], [kx_0 (.aload_n 0) 1, kx_3 (.invokevirtual 86) 3 54 1 6]),
  (22, [], [kx_0 (.ireturn) 1]),
  (23, [true, true], [kx_0 (.aload_n 0) 1, kx_3 (.invokevirtual 93) 3 59 1 6]),
  (27, [true, true], [kx_0 (.aload_n 0) 1, kx_3 (.getfield 7) 3 6 0 2, kx_i (.sipush 200) 3 200, kx_0 (.dup2) 1, kx_0 (.iaload) 1, kx_i (.iconst 1) 1 1, kx_0 (.isub) 1, kx_0 (.iastore) 1, kx_1 (.iload_n 1) 1 1, kx_1 (.istore_n 2) 1 2]),
  (41, [true, false, true], [kx_1 (.iload_n 2) 1 2, kx_0 (.aload_n 0) 1, kx_3 (.getfield 7) 3 6 0 2, kx_i (.sipush 200) 3 200, kx_0 (.iaload) 1, kx_1 (.if_icmp .ge 53) 3 103]),
  (53, [true, false, true], [kx_0 (.aload_n 0) 1, kx_3 (.getfield 7) 3 6 0 2, kx_i (.sipush 201) 3 201, kx_1 (.iload_n 2) 1 2, kx_0 (.iadd) 1, kx_0 (.aload_n 0) 1, kx_3 (.getfield 7) 3 6 0 2, kx_i (.sipush 201) 3 201, kx_1 (.iload_n 2) 1 2, kx_0 (.iadd) 1, kx_i (.iconst 1) 1 1, kx_0 (.iadd) 1, kx_0 (.iaload) 1, kx_0 (.iastore) 1, kx_0 (.aload_n 0) 1, kx_3 (.getfield 7) 3 6 0 2, kx_i (.sipush 206) 3 206, kx_1 (.iload_n 2) 1 2, kx_0 (.iadd) 1, kx_0 (.aload_n 0) 1, kx_3 (.getfield 7) 3 6 0 2, kx_i (.sipush 206) 3 206, kx_1 (.iload_n 2) 1 2, kx_0 (.iadd) 1, kx_i (.iconst 1) 1 1, kx_0 (.iadd) 1, kx_0 (.iaload) 1, kx_0 (.iastore) 1, kx_n (.iinc 2 1) 3 2 1, kx_1 (.goto (-59)) 3 41]),
  (103, [true], [kx_0 (.aload_n 0) 1, kx_3 (.getfield 7) 3 6 0 2, kx_i (.sipush 200) 3 200, kx_0 (.iaload) 1, kx_0 (.ireturn) 1])])
/-- PalletNetsModel.barredBy(I)I -/
def kp_133 : km_P := (6, false, [(0, [true, true], [kx_0 (.aload_n 0) 1, kx_i (.bipush 22) 2 22, kx_3 (.invokevirtual 188) 3 77 2 6]),
  (6, [true, true], [kx_1 (.lstore_n 2) 1 2, kx_i (.iconst 0) 1 0, kx_1 (.istore 4) 2 4, kx_i (.iconst 0) 1 0, kx_1 (.istore 5) 2 5]),
  (13, [true, true, true, false, true, true], [kx_1 (.iload 5) 2 5, kx_0 (.aload_n 0) 1, kx_3 (.getfield 7) 3 6 0 2, kx_i (.iconst 1) 1 1, kx_0 (.iaload) 1, kx_1 (.if_icmp .ge 43) 3 64]),
  (24, [true, true, true, false, true, true], [kx_1 (.iload 4) 2 4, kx_0 (.aload_n 0) 1, kx_1 (.lload_n 2) 1 2, kx_1 (.iload 5) 2 5, kx_3 (.invokevirtual 167) 3 81 3 6]),
  (33, [true, true, true, false, false, true], [kx_1 (.ifCond .ne 21) 3 54]),
  (36, [true, true, true, false, false, true], [kx_0 (.aload_n 0) 1, kx_1 (.iload_n 1) 1 1, kx_1 (.lload_n 2) 1 2, kx_1 (.iload 5) 2 5, kx_3 (.invokevirtual 170) 3 83 4 6]),
  (44, [true, true, true, false, false, true], [kx_1 (.ifCond .eq 10) 3 54]),
  (47, [true, true, true, false, false, true], [kx_i (.iconst 1) 1 1, kx_1 (.iload 5) 2 5, kx_0 (.ishl) 1, kx_1 (.goto 4) 3 55]),
  (54, [true, true, true, false, false, true], [kx_i (.iconst 0) 1 0]),
  (55, [true, true, true, false, false, true], [kx_0 (.ior) 1, kx_1 (.istore 4) 2 4, kx_n (.iinc 5 1) 3 5 1, kx_1 (.goto (-48)) 3 13]),
  (64, [false, false, false, false, true], [kx_1 (.iload 4) 2 4, kx_0 (.ireturn) 1])])
/-- PalletNetsModel.isNeedless(I)Z -/
def kp_134 : km_P := (4, true, [(0, [true, true], [kx_0 (.aload_n 0) 1, kx_0 (.aload_n 0) 1, kx_3 (.getfield 7) 3 6 0 2, kx_3 (.invokestatic 135) 3 78 1 0]),
  (8, [true, true], [kx_1 (.iload_n 1) 1 1, kx_3 (.invokevirtual 139) 3 86 3 6]),
  (12, [true, true], [kx_i (.iconst 1) 1 1, kx_1 (.istore_n 2) 1 2, kx_i (.iconst 0) 1 0, kx_1 (.istore_n 3) 1 3]),
  (16, [true, true, true, true], [kx_1 (.iload_n 3) 1 3, kx_0 (.aload_n 0) 1, kx_3 (.getfield 143) 3 6 8 0, kx_1 (.if_icmp .ge 52) 3 73]),
  (24, [true, true, true, true], [kx_1 (.iload_n 2) 1 2, kx_1 (.ifCond .eq 40) 3 65]),
  (28, [true, true, false, true], [kx_0 (.aload_n 0) 1, kx_0 (.aload_n 0) 1, kx_3 (.getfield 16) 3 6 9 2, kx_1 (.iload_n 3) 1 3, kx_0 (.laload) 1, kx_0 (.aload_n 0) 1, kx_3 (.getfield 7) 3 6 0 2, kx_i (.sipush 201) 3 201, kx_1 (.iload_n 1) 1 1, kx_0 (.iadd) 1, kx_0 (.iaload) 1, kx_3 (.invokevirtual 160) 3 79 3 6]),
  (48, [true, true, false, true], [kx_0 (.aload_n 0) 1, kx_3 (.getfield 7) 3 6 0 2, kx_i (.sipush 206) 3 206, kx_1 (.iload_n 1) 1 1, kx_0 (.iadd) 1, kx_0 (.iaload) 1, kx_1 (.if_icmp .lt 7) 3 65]),
  (61, [true, true, false, true], [kx_i (.iconst 1) 1 1, kx_1 (.goto 4) 3 66]),
  (65, [true, true, false, true], [kx_i (.iconst 0) 1 0]),
  (66, [true, true, false, true], [kx_1 (.istore_n 2) 1 2, kx_n (.iinc 3 1) 3 3 1, kx_1 (.goto (-54)) 3 16]),
  (73, [false, false, true], [kx_1 (.iload_n 2) 1 2, kx_0 (.ireturn) 1])])
/-- PalletNetsModel.guardOf(II)I -/
def kp_135 : km_P := (3, false, [(0, [true, true, true], [kx_1 (.iload_n 1) 1 1, kx_i (.iconst 0) 1 0, kx_0 (.aload_n 0) 1, kx_3 (.getfield 7) 3 6 0 2, kx_i (.sipush 200) 3 200, kx_0 (.iaload) 1, kx_i (.iconst 1) 1 1, kx_0 (.isub) 1, kx_3 (.invokestatic 76) 3 52 3 0]),
  (15, [true, true, true], [kx_1 (.ifCond .eq 12) 3 27]),
  (18, [true, true, true], [kx_1 (.iload_n 2) 1 2, kx_i (.iconst 0) 1 0, kx_i (.iconst 4) 1 4, kx_3 (.invokestatic 76) 3 52 3 0]),
  (24, [true, true, true], [kx_1 (.ifCond .ne 8) 3 32]),
  (27, [true], [kx_0 (.aload_n 0) 1, kx_3 (.invokevirtual 86) 3 54 1 6]),
  (31, [], [kx_0 (.ireturn) 1]),
  (32, [true, true, true], [kx_1 (.iload_n 2) 1 2, kx_s (.tableswitch 80 0 3 #[31, 42, 53, 74]) 31 113 [(0, 64), (1, 75), (2, 86), (3, 107)]]),
  (64, [true, true], [kx_0 (.aload_n 0) 1, kx_3 (.getfield 7) 3 6 0 2, kx_i (.sipush 201) 3 201, kx_1 (.iload_n 1) 1 1, kx_0 (.iadd) 1, kx_0 (.iaload) 1, kx_0 (.ireturn) 1]),
  (75, [true, true], [kx_0 (.aload_n 0) 1, kx_3 (.getfield 7) 3 6 0 2, kx_i (.sipush 206) 3 206, kx_1 (.iload_n 1) 1 1, kx_0 (.iadd) 1, kx_0 (.iaload) 1, kx_0 (.ireturn) 1]),
  (86, [true, true], [kx_0 (.aload_n 0) 1, kx_0 (.aload_n 0) 1, kx_i (.bipush 22) 2 22, kx_3 (.invokevirtual 188) 3 77 2 6]),
  (93, [true, true], [kx_0 (.aload_n 0) 1, kx_3 (.getfield 7) 3 6 0 2, kx_i (.sipush 201) 3 201, kx_1 (.iload_n 1) 1 1, kx_0 (.iadd) 1, kx_0 (.iaload) 1, kx_3 (.invokevirtual 160) 3 79 3 6]),
  (106, [], [kx_0 (.ireturn) 1]),
  (107, [true, true], [kx_0 (.aload_n 0) 1, kx_1 (.iload_n 1) 1 1, kx_3 (.invokevirtual 289) 3 133 2 6]),
  (112, [], [kx_0 (.ireturn) 1]),
  (113, [true, true], [kx_0 (.aload_n 0) 1, kx_1 (.iload_n 1) 1 1, kx_3 (.invokevirtual 292) 3 134 2 6]),
  (118, [], [kx_1 (.ifCond .eq 7) 3 125]),
  (121, [], [kx_i (.iconst 1) 1 1, kx_1 (.goto 4) 3 126]),
  (125, [], [kx_i (.iconst 0) 1 0]),
  (126, [], [kx_0 (.ireturn) 1])])
/-- PalletNetsModel.canAt(I)I -/
def kp_136 : km_P := (4, false, [(0, [true, true], [kx_i (.iconst 0) 1 0, kx_1 (.istore_n 2) 1 2, kx_i (.iconst 0) 1 0, kx_1 (.istore_n 3) 1 3]),
  (4, [true, true, true, true], [kx_1 (.iload_n 3) 1 3, kx_0 (.aload_n 0) 1, kx_3 (.getfield 7) 3 6 0 2, kx_i (.iconst 1) 1 1, kx_0 (.iaload) 1, kx_1 (.if_icmp .ge 34) 3 45]),
  (14, [true, true, true, true], [kx_1 (.iload_n 2) 1 2, kx_0 (.aload_n 0) 1, kx_0 (.aload_n 0) 1, kx_3 (.getfield 16) 3 6 9 2, kx_1 (.iload_n 1) 1 1, kx_0 (.laload) 1, kx_1 (.iload_n 3) 1 3, kx_i (.iconst (-1)) 1 (-1), kx_3 (.invokevirtual 174) 3 84 4 6]),
  (27, [true, true, false, true], [kx_1 (.ifCond .ne 9) 3 36]),
  (30, [true, true, false, true], [kx_i (.iconst 1) 1 1, kx_1 (.iload_n 3) 1 3, kx_0 (.ishl) 1, kx_1 (.goto 4) 3 37]),
  (36, [true, true, false, true], [kx_i (.iconst 0) 1 0]),
  (37, [true, true, false, true], [kx_0 (.ior) 1, kx_1 (.istore_n 2) 1 2, kx_n (.iinc 3 1) 3 3 1, kx_1 (.goto (-38)) 3 4]),
  (45, [false, false, true], [kx_1 (.iload_n 2) 1 2, kx_0 (.ireturn) 1])])
/-- PalletNetsModel.isClosed()Z -/
def kp_137 : km_P := (4, true, [(0, [true], [kx_i (.iconst 1) 1 1, kx_1 (.istore_n 1) 1 1, kx_i (.iconst 0) 1 0, kx_1 (.istore_n 2) 1 2]),
  (4, [true, true, true], [kx_1 (.iload_n 2) 1 2, kx_0 (.aload_n 0) 1, kx_3 (.getfield 143) 3 6 8 0, kx_1 (.if_icmp .ge 71) 3 80]),
  (12, [true, true, true], [kx_i (.iconst 0) 1 0, kx_1 (.istore_n 3) 1 3]),
  (14, [true, true, true, true], [kx_1 (.iload_n 3) 1 3, kx_0 (.aload_n 0) 1, kx_3 (.getfield 7) 3 6 0 2, kx_i (.iconst 1) 1 1, kx_0 (.iaload) 1, kx_1 (.if_icmp .ge 53) 3 74]),
  (24, [true, true, true, true], [kx_1 (.iload_n 1) 1 1, kx_1 (.ifCond .eq 41) 3 66]),
  (28, [true, false, true, true], [kx_0 (.aload_n 0) 1, kx_0 (.aload_n 0) 1, kx_3 (.getfield 16) 3 6 9 2, kx_1 (.iload_n 2) 1 2, kx_0 (.laload) 1, kx_1 (.iload_n 3) 1 3, kx_i (.iconst (-1)) 1 (-1), kx_3 (.invokevirtual 174) 3 84 4 6]),
  (40, [true, false, true, true], [kx_1 (.ifCond .ne 22) 3 62]),
  (43, [true, false, true, true], [kx_0 (.aload_n 0) 1, kx_0 (.aload_n 0) 1, kx_0 (.aload_n 0) 1, kx_3 (.getfield 16) 3 6 9 2, kx_1 (.iload_n 2) 1 2, kx_0 (.laload) 1, kx_1 (.iload_n 3) 1 3, kx_3 (.invokevirtual 163) 3 82 3 6]),
  (55, [true, false, true, true], [kx_3 (.invokevirtual 178) 3 85 2 6]),
  (58, [true, false, true, true], [kx_i (.iconst (-1)) 1 (-1), kx_1 (.if_icmp .eq 7) 3 66]),
  (62, [true, false, true, true], [kx_i (.iconst 1) 1 1, kx_1 (.goto 4) 3 67]),
  (66, [true, false, true, true], [kx_i (.iconst 0) 1 0]),
  (67, [true, false, true, true], [kx_1 (.istore_n 1) 1 1, kx_n (.iinc 3 1) 3 3 1, kx_1 (.goto (-57)) 3 14]),
  (74, [true, true, true], [kx_n (.iinc 2 1) 3 2 1, kx_1 (.goto (-73)) 3 4]),
  (80, [false, true], [kx_1 (.iload_n 1) 1 1, kx_0 (.ireturn) 1])])
/-- PalletNetsModel.allIs(I)I -/
def kp_138 : km_P := (5, false, [(0, [true, true], [kx_0 (.aload_n 0) 1, kx_3 (.invokevirtual 245) 3 87 1 6]),
  (4, [true, true], [kx_i (.iconst 0) 1 0, kx_1 (.istore_n 2) 1 2, kx_1 (.iload_n 1) 1 1, kx_1 (.ifCond .ne 8) 3 15]),
  (10, [true], [kx_0 (.aload_n 0) 1, kx_3 (.getfield 143) 3 6 8 0, kx_0 (.ireturn) 1]),
  (15, [true, true, true], [kx_1 (.iload_n 1) 1 1, kx_i (.iconst 1) 1 1, kx_1 (.if_icmp .ne 16) 3 33]),
  (20, [true], [kx_0 (.aload_n 0) 1, kx_3 (.invokevirtual 295) 3 137 1 6]),
  (24, [], [kx_1 (.ifCond .eq 7) 3 31]),
  (27, [], [kx_i (.iconst 1) 1 1, kx_1 (.goto 4) 3 32]),
  (31, [], [kx_i (.iconst 0) 1 0]),
  (32, [], [kx_0 (.ireturn) 1]),
  (33, [true, true, true], [kx_1 (.iload_n 1) 1 1, kx_i (.iconst 3) 1 3, kx_1 (.if_icmp .ne 7) 3 42]),
  (38, [true, true, true], [kx_0 (.aload_n 0) 1, kx_3 (.invokevirtual 299) 3 90 1 6]),
  (42, [true, true, true], [kx_i (.iconst 0) 1 0, kx_1 (.istore_n 3) 1 3]),
  (44, [true, true, true, true], [kx_1 (.iload_n 3) 1 3, kx_0 (.aload_n 0) 1, kx_3 (.getfield 143) 3 6 8 0, kx_1 (.if_icmp .ge 116) 3 165]),
  (52, [true, true, true, true], [kx_0 (.aload_n 0) 1, kx_0 (.aload_n 0) 1, kx_3 (.getfield 16) 3 6 9 2, kx_1 (.iload_n 3) 1 3, kx_0 (.laload) 1, kx_0 (.aload_n 0) 1, kx_3 (.invokevirtual 208) 3 80 1 6]),
  (63, [true, true, true, true], [kx_3 (.invokevirtual 160) 3 79 3 6]),
  (66, [true, true, true, true], [kx_1 (.istore 4) 2 4, kx_1 (.iload_n 1) 1 1, kx_s (.tableswitch 77 2 4 #[27, 46, 66]) 27 146 [(2, 96), (3, 115), (4, 135)]]),
  (96, [true, true, true, true], [kx_1 (.iload_n 2) 1 2, kx_0 (.aload_n 0) 1, kx_1 (.iload_n 3) 1 3, kx_3 (.invokevirtual 302) 3 136 2 6]),
  (102, [true, true, false, true], [kx_1 (.ifCond .ne 7) 3 109]),
  (105, [true, true, false, true], [kx_i (.iconst 1) 1 1, kx_1 (.goto 4) 3 110]),
  (109, [true, true, false, true], [kx_i (.iconst 0) 1 0]),
  (110, [true, true, false, true], [kx_0 (.iadd) 1, kx_1 (.istore_n 2) 1 2, kx_1 (.goto 47) 3 159]),
  (115, [true, true, true, true], [kx_1 (.iload_n 2) 1 2, kx_0 (.aload_n 0) 1, kx_3 (.getfield 26) 3 6 12 2, kx_1 (.iload_n 3) 1 3, kx_0 (.baload) 1, kx_1 (.ifCond .eq 7) 3 129]),
  (125, [true, true, false, true], [kx_i (.iconst 0) 1 0, kx_1 (.goto 4) 3 130]),
  (129, [true, true, false, true], [kx_i (.iconst 1) 1 1]),
  (130, [true, true, false, true], [kx_0 (.iadd) 1, kx_1 (.istore_n 2) 1 2, kx_1 (.goto 27) 3 159]),
  (135, [true, true, true, true], [kx_1 (.iload_n 2) 1 2, kx_0 (.aload_n 0) 1, kx_1 (.iload_n 3) 1 3, kx_3 (.invokevirtual 302) 3 136 2 6]),
  (141, [true, true, false, true], [kx_0 (.ior) 1, kx_1 (.istore_n 2) 1 2, kx_1 (.goto 16) 3 159]),
  (146, [true, true, true, true, true], [kx_1 (.iload 4) 2 4, kx_1 (.iload_n 2) 1 2, kx_1 (.if_icmp .le 8) 3 157]),
  (152, [true, true, false, true, true], [kx_1 (.iload 4) 2 4, kx_1 (.goto 4) 3 158]),
  (157, [true, true, true, true], [kx_1 (.iload_n 2) 1 2]),
  (158, [true, true, false, true], [kx_1 (.istore_n 2) 1 2]),
  (159, [true, true, true, true], [kx_n (.iinc 3 1) 3 3 1, kx_1 (.goto (-118)) 3 44]),
  (165, [false, false, true], [kx_1 (.iload_n 2) 1 2, kx_0 (.ireturn) 1])])
/-- PalletNetsModel.all(I)I -/
def kp_139 : km_P := (2, false, [(0, [true, true], [kx_1 (.iload_n 1) 1 1, kx_i (.iconst 0) 1 0, kx_i (.iconst 5) 1 5, kx_3 (.invokestatic 76) 3 52 3 0]),
  (6, [true, true], [kx_1 (.ifCond .eq 11) 3 17]),
  (9, [true, true], [kx_0 (.aload_n 0) 1, kx_1 (.iload_n 1) 1 1, kx_3 (.invokevirtual 305) 3 138 2 6]),
  (14, [], [kx_1 (.goto 7) 3 21]),
  (17, [true], [kx_0 (.aload_n 0) 1, kx_3 (.invokevirtual 86) 3 54 1 6]),
  (21, [], [kx_0 (.ireturn) 1])])
/-- PalletNetsModel.found(II)J -/
def kp_140 : km_P := (3, false, [(0, [true, true, true], [kx_1 (.iload_n 1) 1 1, kx_1 (.ifCond .lt 12) 3 13]),
  (4, [true, true, true], [kx_1 (.iload_n 2) 1 2, kx_i (.iconst 0) 1 0, kx_i (.iconst 3) 1 3, kx_3 (.invokestatic 76) 3 52 3 0]),
  (10, [true, true, true], [kx_1 (.ifCond .ne 9) 3 19]),
  (13, [true], [kx_0 (.aload_n 0) 1, kx_3 (.invokevirtual 86) 3 54 1 6]),
  (17, [], [kx_0 (.i2l) 1, kx_0 (.lreturn) 1]),
  (19, [true, true, true], [kx_0 (.aload_n 0) 1, kx_3 (.invokevirtual 245) 3 87 1 6]),
  (23, [true, true, true], [kx_1 (.iload_n 1) 1 1, kx_0 (.aload_n 0) 1, kx_3 (.getfield 143) 3 6 8 0, kx_1 (.if_icmp .lt 7) 3 35]),
  (31, [], [kx_l (.ldc2_w 308) 3 (-1), kx_0 (.lreturn) 1]),
  (35, [true, true, true], [kx_1 (.iload_n 2) 1 2, kx_s (.tableswitch 62 0 2 #[28, 35, 43]) 28 98 [(0, 64), (1, 71), (2, 79)]]),
  (64, [true, true], [kx_0 (.aload_n 0) 1, kx_3 (.getfield 16) 3 6 9 2, kx_1 (.iload_n 1) 1 1, kx_0 (.laload) 1, kx_0 (.lreturn) 1]),
  (71, [true, true], [kx_0 (.aload_n 0) 1, kx_3 (.getfield 20) 3 6 10 2, kx_1 (.iload_n 1) 1 1, kx_0 (.iaload) 1, kx_0 (.i2l) 1, kx_0 (.lreturn) 1]),
  (79, [true, true], [kx_0 (.aload_n 0) 1, kx_3 (.invokevirtual 299) 3 90 1 6]),
  (83, [true, true], [kx_0 (.aload_n 0) 1, kx_3 (.getfield 26) 3 6 12 2, kx_1 (.iload_n 1) 1 1, kx_0 (.baload) 1, kx_1 (.ifCond .eq 7) 3 96]),
  (92, [], [kx_l (.lconst 1) 1 1, kx_1 (.goto 4) 3 97]),
  (96, [], [kx_l (.lconst 0) 1 0]),
  (97, [], [kx_0 (.lreturn) 1]),
  (98, [true, true], [kx_0 (.aload_n 0) 1, kx_1 (.iload_n 1) 1 1, kx_3 (.invokevirtual 302) 3 136 2 6]),
  (103, [], [kx_0 (.i2l) 1, kx_0 (.lreturn) 1])])
/-- PalletNetsModel.layFar()V -/
def kp_141 : km_P := (8, false, [(0, [true], [kx_0 (.aload_n 0) 1, kx_3 (.invokevirtual 185) 3 89 1 6]),
  (4, [true], [kx_0 (.aload_n 0) 1, kx_3 (.getfield 7) 3 6 0 2, kx_3 (.invokestatic 135) 3 78 1 0]),
  (11, [true], [kx_1 (.lstore_n 1) 1 1, kx_i (.iconst 0) 1 0, kx_1 (.istore_n 3) 1 3]),
  (14, [true, true, false, true], [kx_1 (.iload_n 3) 1 3, kx_0 (.aload_n 0) 1, kx_3 (.getfield 143) 3 6 8 0, kx_1 (.if_icmp .ge 31) 3 50]),
  (22, [true, true, false, true], [kx_0 (.aload_n 0) 1, kx_3 (.getfield 57) 3 6 24 2, kx_1 (.iload_n 3) 1 3, kx_0 (.aload_n 0) 1, kx_3 (.getfield 16) 3 6 9 2, kx_1 (.iload_n 3) 1 3, kx_0 (.laload) 1, kx_1 (.lload_n 1) 1 1, kx_0 (.lcmp) 1, kx_1 (.ifCond .ne 7) 3 42]),
  (38, [true, true, false, true], [kx_i (.iconst 0) 1 0, kx_1 (.goto 4) 3 43]),
  (42, [true, true, false, true], [kx_i (.iconst (-1)) 1 (-1)]),
  (43, [true, true, false, true], [kx_0 (.iastore) 1, kx_n (.iinc 3 1) 3 3 1, kx_1 (.goto (-33)) 3 14]),
  (50, [true], [kx_i (.iconst 1) 1 1, kx_1 (.istore_n 3) 1 3]),
  (52, [true, false, false, true], [kx_1 (.iload_n 3) 1 3, kx_1 (.ifCond .eq 145) 3 198]),
  (56, [true], [kx_i (.iconst 0) 1 0, kx_1 (.istore_n 3) 1 3, kx_i (.iconst 0) 1 0, kx_1 (.istore 4) 2 4]),
  (61, [true, false, false, true, true], [kx_1 (.iload 4) 2 4, kx_0 (.aload_n 0) 1, kx_3 (.getfield 143) 3 6 8 0, kx_1 (.if_icmp .ge 128) 3 195]),
  (70, [true, false, false, true, true], [kx_i (.iconst 0) 1 0, kx_1 (.istore 5) 2 5]),
  (73, [true, false, false, true, true, true], [kx_1 (.iload 5) 2 5, kx_0 (.aload_n 0) 1, kx_3 (.getfield 7) 3 6 0 2, kx_i (.iconst 1) 1 1, kx_0 (.iaload) 1, kx_1 (.if_icmp .ge 108) 3 189]),
  (84, [true, false, false, true, true, true], [kx_0 (.aload_n 0) 1, kx_3 (.getfield 23) 3 6 11 2, kx_i (.bipush 8) 2 8, kx_1 (.iload 4) 2 4, kx_0 (.imul) 1, kx_1 (.iload 5) 2 5, kx_0 (.iadd) 1, kx_0 (.iaload) 1, kx_1 (.istore 6) 2 6, kx_1 (.iload 6) 2 6, kx_i (.iconst (-1)) 1 (-1), kx_1 (.if_icmp .eq 13) 3 115]),
  (105, [true, false, false, true, true, true, true], [kx_0 (.aload_n 0) 1, kx_3 (.getfield 57) 3 6 24 2, kx_1 (.iload 6) 2 6, kx_0 (.iaload) 1, kx_1 (.ifCond .ge 7) 3 119]),
  (115, [true, false, false, true, true, true], [kx_i (.iconst (-1)) 1 (-1), kx_1 (.goto 27) 3 143]),
  (119, [true, false, false, true, true, true, true], [kx_0 (.aload_n 0) 1, kx_3 (.getfield 57) 3 6 24 2, kx_1 (.iload 6) 2 6, kx_0 (.iaload) 1, kx_i (.sipush 1000) 3 1000, kx_0 (.aload_n 0) 1, kx_3 (.getfield 7) 3 6 0 2, kx_i (.bipush 32) 2 32, kx_1 (.iload 5) 2 5, kx_0 (.iadd) 1, kx_0 (.iaload) 1, kx_0 (.imul) 1, kx_0 (.iadd) 1, kx_i (.iconst 1) 1 1, kx_0 (.iadd) 1]),
  (143, [true, false, false, true, true, true], [kx_1 (.istore 7) 2 7, kx_1 (.iload 7) 2 7, kx_1 (.ifCond .lt 36) 3 183]),
  (150, [true, false, false, true, true, true, false, true], [kx_0 (.aload_n 0) 1, kx_3 (.getfield 57) 3 6 24 2, kx_1 (.iload 4) 2 4, kx_0 (.iaload) 1, kx_1 (.ifCond .lt 15) 3 172]),
  (160, [true, false, false, true, true, true, false, true], [kx_1 (.iload 7) 2 7, kx_0 (.aload_n 0) 1, kx_3 (.getfield 57) 3 6 24 2, kx_1 (.iload 4) 2 4, kx_0 (.iaload) 1, kx_1 (.if_icmp .ge 14) 3 183]),
  (172, [true, false, false, false, true, true, false, true], [kx_0 (.aload_n 0) 1, kx_3 (.getfield 57) 3 6 24 2, kx_1 (.iload 4) 2 4, kx_1 (.iload 7) 2 7, kx_0 (.iastore) 1, kx_i (.iconst 1) 1 1, kx_1 (.istore_n 3) 1 3]),
  (183, [true, false, false, true, true, true], [kx_n (.iinc 5 1) 3 5 1, kx_1 (.goto (-113)) 3 73]),
  (189, [true, false, false, true, true], [kx_n (.iinc 4 1) 3 4 1, kx_1 (.goto (-131)) 3 61]),
  (195, [true, false, false, true], [kx_1 (.goto (-143)) 3 52]),
  (198, [], [kx_0 (.return_) 1])])
/-- PalletNetsModel.home(I)I -/
def kp_142 : km_P := (5, false, [(0, [true, true], [kx_1 (.iload_n 1) 1 1, kx_i (.iconst 0) 1 0, kx_i (.iconst 2) 1 2, kx_3 (.invokestatic 76) 3 52 3 0]),
  (6, [true, true], [kx_1 (.ifCond .ne 8) 3 14]),
  (9, [true], [kx_0 (.aload_n 0) 1, kx_3 (.invokevirtual 86) 3 54 1 6]),
  (13, [], [kx_0 (.ireturn) 1]),
  (14, [true, true], [kx_0 (.aload_n 0) 1, kx_0 (.aload_n 0) 1, kx_i (.bipush 22) 2 22, kx_3 (.invokevirtual 188) 3 77 2 6]),
  (21, [true, true], [kx_i (.iconst (-1)) 1 (-1), kx_3 (.invokevirtual 139) 3 86 3 6]),
  (25, [true, true], [kx_0 (.aload_n 0) 1, kx_3 (.invokevirtual 310) 3 141 1 6]),
  (29, [true, true], [kx_0 (.aload_n 0) 1, kx_3 (.getfield 57) 3 6 24 2, kx_i (.iconst 0) 1 0, kx_0 (.iaload) 1, kx_1 (.ifCond .ge 5) 3 40]),
  (38, [], [kx_i (.iconst (-1)) 1 (-1), kx_0 (.ireturn) 1]),
  (40, [true, true], [kx_1 (.iload_n 1) 1 1, kx_i (.iconst 2) 1 2, kx_1 (.if_icmp .ge 31) 3 73]),
  (45, [true, true], [kx_1 (.iload_n 1) 1 1, kx_1 (.ifCond .ne 16) 3 62]),
  (49, [true], [kx_0 (.aload_n 0) 1, kx_3 (.getfield 57) 3 6 24 2, kx_i (.iconst 0) 1 0, kx_0 (.iaload) 1, kx_i (.sipush 1000) 3 1000, kx_0 (.idiv) 1, kx_1 (.goto 13) 3 72]),
  (62, [true], [kx_0 (.aload_n 0) 1, kx_3 (.getfield 57) 3 6 24 2, kx_i (.iconst 0) 1 0, kx_0 (.iaload) 1, kx_i (.sipush 1000) 3 1000, kx_0 (.irem) 1]),
  (72, [], [kx_0 (.ireturn) 1]),
  (73, [true], [kx_i (.iconst (-1)) 1 (-1), kx_1 (.istore_n 2) 1 2, kx_0 (.aload_n 0) 1, kx_3 (.getfield 7) 3 6 0 2, kx_i (.iconst 1) 1 1, kx_0 (.iaload) 1, kx_i (.iconst 1) 1 1, kx_0 (.isub) 1, kx_1 (.istore_n 3) 1 3]),
  (84, [true, false, true, true], [kx_1 (.iload_n 3) 1 3, kx_1 (.ifCond .lt 80) 3 165]),
  (88, [true, false, true, true], [kx_0 (.aload_n 0) 1, kx_3 (.getfield 57) 3 6 24 2, kx_i (.iconst 0) 1 0, kx_0 (.iaload) 1, kx_1 (.ifCond .le 71) 3 165]),
  (97, [true, false, true, true], [kx_0 (.aload_n 0) 1, kx_3 (.getfield 23) 3 6 11 2, kx_1 (.iload_n 3) 1 3, kx_0 (.iaload) 1, kx_1 (.istore 4) 2 4, kx_1 (.iload 4) 2 4, kx_i (.iconst (-1)) 1 (-1), kx_1 (.if_icmp .eq 49) 3 157]),
  (111, [true, false, true, true, true], [kx_0 (.aload_n 0) 1, kx_3 (.getfield 57) 3 6 24 2, kx_1 (.iload 4) 2 4, kx_0 (.iaload) 1, kx_1 (.ifCond .lt 39) 3 157]),
  (121, [true, false, true, true, true], [kx_0 (.aload_n 0) 1, kx_3 (.getfield 57) 3 6 24 2, kx_1 (.iload 4) 2 4, kx_0 (.iaload) 1, kx_i (.sipush 1000) 3 1000, kx_0 (.aload_n 0) 1, kx_3 (.getfield 7) 3 6 0 2, kx_i (.bipush 32) 2 32, kx_1 (.iload_n 3) 1 3, kx_0 (.iadd) 1, kx_0 (.iaload) 1, kx_0 (.imul) 1, kx_0 (.iadd) 1, kx_i (.iconst 1) 1 1, kx_0 (.iadd) 1, kx_0 (.aload_n 0) 1, kx_3 (.getfield 57) 3 6 24 2, kx_i (.iconst 0) 1 0, kx_0 (.iaload) 1, kx_1 (.if_icmp .ne 7) 3 157]),
  (153, [true, false, false, true], [kx_1 (.iload_n 3) 1 3, kx_1 (.goto 4) 3 158]),
  (157, [true, false, true, true], [kx_1 (.iload_n 2) 1 2]),
  (158, [true, false, false, true], [kx_1 (.istore_n 2) 1 2, kx_n (.iinc 3 (-1)) 3 3 (-1), kx_1 (.goto (-78)) 3 84]),
  (165, [false, false, true], [kx_1 (.iload_n 2) 1 2, kx_0 (.ireturn) 1])])
/-- PalletNetsModel.type(I)I -/
def kp_143 : km_P := (2, false, [(0, [true, true], [kx_1 (.iload_n 1) 1 1, kx_i (.iconst 0) 1 0, kx_i (.bipush 127) 2 127, kx_3 (.invokestatic 76) 3 52 3 0]),
  (7, [true, true], [kx_1 (.ifCond .ne 8) 3 15]),
  (10, [true], [kx_0 (.aload_n 0) 1, kx_3 (.invokevirtual 86) 3 54 1 6]),
  (14, [], [kx_0 (.ireturn) 1]),
  (15, [true, true], [kx_0 (.aload_n 0) 1, kx_3 (.getfield 313) 3 6 25 0, kx_i (.bipush 120) 2 120, kx_1 (.if_icmp .ne 8) 3 29]),
  (24, [true], [kx_0 (.aload_n 0) 1, kx_3 (.invokevirtual 90) 3 56 1 6]),
  (28, [], [kx_0 (.ireturn) 1]),
  (29, [true, true], [kx_0 (.aload_n 0) 1, kx_3 (.getfield 60) 3 6 26 2, kx_0 (.aload_n 0) 1, kx_3 (.getfield 313) 3 6 25 0, kx_1 (.iload_n 1) 1 1, kx_0 (.iastore) 1, kx_0 (.aload_n 0) 1, kx_0 (.dup) 1, kx_3 (.getfield 313) 3 6 25 0, kx_i (.iconst 1) 1 1, kx_0 (.iadd) 1, kx_3 (.putfield 313) 3 6 25 0, kx_0 (.aload_n 0) 1, kx_3 (.getfield 313) 3 6 25 0, kx_0 (.ireturn) 1])])
/-- PalletNetsModel.clear()I -/
def kp_144 : km_P := (2, false, [(0, [true], [kx_0 (.aload_n 0) 1, kx_3 (.getfield 313) 3 6 25 0, kx_1 (.istore_n 1) 1 1, kx_0 (.aload_n 0) 1, kx_i (.iconst 0) 1 0, kx_3 (.putfield 313) 3 6 25 0, kx_1 (.iload_n 1) 1 1, kx_0 (.ireturn) 1])])
/-- PalletNetsModel.look()I -/
def kp_145 : km_P := (1, false, [(0, [true], [kx_0 (.aload_n 0) 1, kx_3 (.getfield 316) 3 6 27 0, kx_0 (.aload_n 0) 1, kx_3 (.getfield 313) 3 6 25 0, kx_1 (.if_icmp .ge 30) 3 38]),
  (11, [true], [kx_0 (.aload_n 0) 1, kx_3 (.getfield 60) 3 6 26 2, kx_0 (.aload_n 0) 1, kx_3 (.getfield 316) 3 6 27 0, kx_0 (.iaload) 1, kx_i (.bipush 32) 2 32, kx_1 (.if_icmp .ne 16) 3 38]),
  (25, [true], [kx_0 (.aload_n 0) 1, kx_0 (.dup) 1, kx_3 (.getfield 316) 3 6 27 0, kx_i (.iconst 1) 1 1, kx_0 (.iadd) 1, kx_3 (.putfield 316) 3 6 27 0, kx_1 (.goto (-35)) 3 0]),
  (38, [true], [kx_0 (.aload_n 0) 1, kx_0 (.aload_n 0) 1, kx_3 (.getfield 316) 3 6 27 0, kx_3 (.putfield 319) 3 6 28 0, kx_0 (.aload_n 0) 1, kx_3 (.getfield 316) 3 6 27 0, kx_0 (.aload_n 0) 1, kx_3 (.getfield 313) 3 6 25 0, kx_1 (.if_icmp .ge 15) 3 69]),
  (57, [true], [kx_0 (.aload_n 0) 1, kx_3 (.getfield 60) 3 6 26 2, kx_0 (.aload_n 0) 1, kx_3 (.getfield 316) 3 6 27 0, kx_0 (.iaload) 1, kx_1 (.goto 4) 3 70]),
  (69, [], [kx_i (.iconst (-1)) 1 (-1)]),
  (70, [], [kx_0 (.ireturn) 1])])
/-- PalletNetsModel.take()I -/
def kp_146 : km_P := (2, false, [(0, [true], [kx_0 (.aload_n 0) 1, kx_3 (.invokevirtual 322) 3 145 1 6]),
  (4, [true], [kx_1 (.istore_n 1) 1 1, kx_0 (.aload_n 0) 1, kx_0 (.dup) 1, kx_3 (.getfield 316) 3 6 27 0, kx_1 (.iload_n 1) 1 1, kx_1 (.ifCond .ge 7) 3 18]),
  (14, [false, true], [kx_i (.iconst 0) 1 0, kx_1 (.goto 4) 3 19]),
  (18, [false, true], [kx_i (.iconst 1) 1 1]),
  (19, [false, true], [kx_0 (.iadd) 1, kx_3 (.putfield 316) 3 6 27 0, kx_1 (.iload_n 1) 1 1, kx_0 (.ireturn) 1])])
/-- PalletNetsModel.isThere(I)Z -/
def kp_147 : km_P := (2, true, [(0, [true, true], [kx_1 (.iload_n 1) 1 1, kx_i (.bipush 48) 2 48, kx_i (.bipush 57) 2 57, kx_3 (.invokestatic 76) 3 52 3 0]),
  (8, [true, true], [kx_1 (.ifCond .eq 20) 3 28]),
  (11, [true, true], [kx_1 (.iload_n 1) 1 1, kx_i (.bipush 48) 2 48, kx_0 (.isub) 1, kx_0 (.aload_n 0) 1, kx_3 (.getfield 63) 3 6 29 2, kx_i (.iconst 0) 1 0, kx_0 (.iaload) 1, kx_1 (.if_icmp .ge 7) 3 28]),
  (24, [], [kx_i (.iconst 1) 1 1, kx_1 (.goto 4) 3 29]),
  (28, [], [kx_i (.iconst 0) 1 0]),
  (29, [], [kx_0 (.ireturn) 1])])
/-- PalletNetsModel.readsPlace()Z -/
def kp_148 : km_P := (3, true, [(0, [true], [kx_0 (.aload_n 0) 1, kx_3 (.getfield 63) 3 6 29 2, kx_i (.iconst 0) 1 0, kx_0 (.iaload) 1, kx_i (.bipush 10) 2 10, kx_1 (.if_icmp .ne 5) 3 13]),
  (11, [], [kx_i (.iconst 0) 1 0, kx_0 (.ireturn) 1]),
  (13, [true], [kx_0 (.aload_n 0) 1, kx_3 (.invokevirtual 322) 3 145 1 6]),
  (17, [true], [kx_0 (.pop) 1, kx_0 (.aload_n 0) 1, kx_3 (.getfield 316) 3 6 27 0, kx_1 (.istore_n 1) 1 1, kx_i (.iconst 0) 1 0, kx_1 (.istore_n 2) 1 2]),
  (25, [true, true, true], [kx_0 (.aload_n 0) 1, kx_3 (.getfield 316) 3 6 27 0, kx_0 (.aload_n 0) 1, kx_3 (.getfield 313) 3 6 25 0, kx_1 (.if_icmp .ge 68) 3 101]),
  (36, [true, true, true], [kx_0 (.aload_n 0) 1, kx_3 (.getfield 60) 3 6 26 2, kx_0 (.aload_n 0) 1, kx_3 (.getfield 316) 3 6 27 0, kx_0 (.iaload) 1, kx_i (.bipush 48) 2 48, kx_i (.bipush 57) 2 57, kx_3 (.invokestatic 76) 3 52 3 0]),
  (52, [true, true, true], [kx_1 (.ifCond .eq 49) 3 101]),
  (55, [true, true, true], [kx_0 (.aload_n 0) 1, kx_3 (.getfield 316) 3 6 27 0, kx_1 (.iload_n 1) 1 1, kx_0 (.isub) 1, kx_i (.iconst 2) 1 2, kx_1 (.if_icmp .ge 23) 3 85]),
  (65, [true, true, true], [kx_i (.bipush 10) 2 10, kx_1 (.iload_n 2) 1 2, kx_0 (.imul) 1, kx_0 (.aload_n 0) 1, kx_3 (.getfield 60) 3 6 26 2, kx_0 (.aload_n 0) 1, kx_3 (.getfield 316) 3 6 27 0, kx_0 (.iaload) 1, kx_0 (.iadd) 1, kx_i (.bipush 48) 2 48, kx_0 (.isub) 1, kx_1 (.goto 5) 3 87]),
  (85, [true, true], [kx_i (.bipush 99) 2 99]),
  (87, [true, true], [kx_1 (.istore_n 2) 1 2, kx_0 (.aload_n 0) 1, kx_0 (.dup) 1, kx_3 (.getfield 316) 3 6 27 0, kx_i (.iconst 1) 1 1, kx_0 (.iadd) 1, kx_3 (.putfield 316) 3 6 27 0, kx_1 (.goto (-73)) 3 25]),
  (101, [true, true, true], [kx_0 (.aload_n 0) 1, kx_3 (.getfield 316) 3 6 27 0, kx_1 (.iload_n 1) 1 1, kx_1 (.if_icmp .eq 9) 3 115]),
  (109, [true, false, true], [kx_1 (.iload_n 2) 1 2, kx_i (.bipush 15) 2 15, kx_1 (.if_icmp .le 5) 3 117]),
  (115, [], [kx_i (.iconst 0) 1 0, kx_0 (.ireturn) 1]),
  (117, [true, false, true], [kx_0 (.aload_n 0) 1, kx_3 (.invokevirtual 325) 3 146 1 6]),
  (121, [true, false, true], [kx_i (.bipush 59) 2 59, kx_1 (.if_icmp .eq 5) 3 128]),
  (126, [], [kx_i (.iconst 0) 1 0, kx_0 (.ireturn) 1]),
  (128, [true, false, true], [kx_0 (.aload_n 0) 1, kx_3 (.getfield 63) 3 6 29 2, kx_1 (.iload_n 2) 1 2, kx_3 (.invokestatic 96) 3 61 2 0]),
  (136, [true], [kx_0 (.pop) 1, kx_0 (.aload_n 0) 1, kx_3 (.getfield 63) 3 6 29 2, kx_3 (.invokestatic 100) 3 60 1 0]),
  (144, [], [kx_i (.iconst 1) 1 1, kx_0 (.ireturn) 1])])
/-- PalletNetsModel.readsArcs(I)I -/
def kp_149 : km_P := (3, false, [(0, [true, true], [kx_0 (.aload_n 0) 1, kx_3 (.invokevirtual 325) 3 146 1 6]),
  (4, [true, true], [kx_1 (.istore_n 2) 1 2]),
  (5, [true, true, true], [kx_0 (.aload_n 0) 1, kx_1 (.iload_n 2) 1 2, kx_3 (.invokevirtual 328) 3 147 2 6]),
  (10, [true, true, true], [kx_1 (.ifCond .eq 44) 3 54]),
  (13, [true, true, true], [kx_0 (.aload_n 0) 1, kx_3 (.getfield 63) 3 6 29 2, kx_1 (.iload_n 1) 1 1, kx_1 (.iload_n 2) 1 2, kx_0 (.iadd) 1, kx_i (.bipush 48) 2 48, kx_0 (.isub) 1, kx_0 (.iaload) 1, kx_i (.iconst 2) 1 2, kx_1 (.if_icmp .ne 6) 3 31]),
  (28, [], [kx_i (.bipush (-2)) 2 (-2), kx_0 (.ireturn) 1]),
  (31, [true, true, true], [kx_0 (.aload_n 0) 1, kx_3 (.getfield 63) 3 6 29 2, kx_1 (.iload_n 1) 1 1, kx_1 (.iload_n 2) 1 2, kx_0 (.iadd) 1, kx_i (.bipush 48) 2 48, kx_0 (.isub) 1, kx_0 (.dup2) 1, kx_0 (.iaload) 1, kx_i (.iconst 1) 1 1, kx_0 (.iadd) 1, kx_0 (.iastore) 1, kx_0 (.aload_n 0) 1, kx_3 (.invokevirtual 325) 3 146 1 6]),
  (50, [true, true], [kx_1 (.istore_n 2) 1 2, kx_1 (.goto (-46)) 3 5]),
  (54, [false, false, true], [kx_1 (.iload_n 2) 1 2, kx_0 (.ireturn) 1])])
/-- PalletNetsModel.readsStep()Z -/
def kp_150 : km_P := (3, true, [(0, [true], [kx_0 (.aload_n 0) 1, kx_3 (.getfield 63) 3 6 29 2, kx_i (.iconst 1) 1 1, kx_0 (.iaload) 1, kx_i (.bipush 8) 2 8, kx_1 (.if_icmp .ne 5) 3 13]),
  (11, [], [kx_i (.iconst 0) 1 0, kx_0 (.ireturn) 1]),
  (13, [true], [kx_0 (.aload_n 0) 1, kx_3 (.invokevirtual 325) 3 146 1 6]),
  (17, [true], [kx_1 (.istore_n 1) 1 1, kx_1 (.iload_n 1) 1 1, kx_i (.bipush 48) 2 48, kx_i (.bipush 57) 2 57, kx_3 (.invokestatic 76) 3 52 3 0]),
  (26, [true, true], [kx_1 (.ifCond .ne 5) 3 31]),
  (29, [], [kx_i (.iconst 0) 1 0, kx_0 (.ireturn) 1]),
  (31, [true, true], [kx_0 (.aload_n 0) 1, kx_3 (.getfield 63) 3 6 29 2, kx_1 (.iload_n 1) 1 1, kx_i (.bipush 48) 2 48, kx_0 (.isub) 1, kx_3 (.invokestatic 104) 3 62 2 0]),
  (42, [true], [kx_1 (.istore_n 2) 1 2, kx_0 (.aload_n 0) 1, kx_i (.bipush 40) 2 40, kx_i (.bipush 10) 2 10, kx_1 (.iload_n 2) 1 2, kx_0 (.imul) 1, kx_0 (.iadd) 1, kx_3 (.invokevirtual 331) 3 149 2 6]),
  (54, [true, false, true], [kx_i (.bipush 62) 2 62, kx_1 (.if_icmp .ne 19) 3 75]),
  (59, [true, false, true], [kx_0 (.aload_n 0) 1, kx_i (.bipush 120) 2 120, kx_i (.bipush 10) 2 10, kx_1 (.iload_n 2) 1 2, kx_0 (.imul) 1, kx_0 (.iadd) 1, kx_3 (.invokevirtual 331) 3 149 2 6]),
  (70, [true], [kx_i (.bipush 59) 2 59, kx_1 (.if_icmp .eq 5) 3 77]),
  (75, [], [kx_i (.iconst 0) 1 0, kx_0 (.ireturn) 1]),
  (77, [true], [kx_0 (.aload_n 0) 1, kx_3 (.getfield 63) 3 6 29 2, kx_3 (.invokestatic 100) 3 60 1 0]),
  (84, [], [kx_i (.iconst 1) 1 1, kx_0 (.ireturn) 1])])
/-- PalletNetsModel.readsLine()Z -/
def kp_151 : km_P := (6, true, [(0, [true], [kx_0 (.aload_n 0) 1, kx_3 (.getfield 319) 3 6 28 0, kx_1 (.istore_n 1) 1 1, kx_0 (.aload_n 0) 1, kx_3 (.invokevirtual 325) 3 146 1 6]),
  (9, [true, true], [kx_1 (.istore_n 2) 1 2, kx_1 (.iload_n 2) 1 2, kx_i (.bipush 49) 2 49, kx_i (.bipush 57) 2 57, kx_3 (.invokestatic 76) 3 52 3 0]),
  (18, [true, true, true], [kx_1 (.ifCond .ne 5) 3 23]),
  (21, [], [kx_i (.iconst 0) 1 0, kx_0 (.ireturn) 1]),
  (23, [true, true, true], [kx_i (.iconst 0) 1 0, kx_1 (.istore_n 3) 1 3, kx_i (.iconst 0) 1 0, kx_1 (.istore 4) 2 4, kx_0 (.aload_n 0) 1, kx_3 (.invokevirtual 325) 3 146 1 6]),
  (32, [true, true, true, true, true], [kx_1 (.istore 5) 2 5]),
  (34, [true, true, true, true, true, true], [kx_1 (.iload_n 3) 1 3, kx_i (.iconst 4) 1 4, kx_1 (.if_icmp .ge 37) 3 73]),
  (39, [true, true, true, true, true, true], [kx_0 (.aload_n 0) 1, kx_1 (.iload 5) 2 5, kx_3 (.invokevirtual 328) 3 147 2 6]),
  (45, [true, true, true, true, true, true], [kx_1 (.ifCond .eq 28) 3 73]),
  (48, [true, true, true, true, true, true], [kx_i (.bipush 10) 2 10, kx_1 (.iload 4) 2 4, kx_0 (.imul) 1, kx_1 (.iload 5) 2 5, kx_0 (.iadd) 1, kx_i (.bipush 48) 2 48, kx_0 (.isub) 1, kx_1 (.istore 4) 2 4, kx_n (.iinc 3 1) 3 3 1, kx_0 (.aload_n 0) 1, kx_3 (.invokevirtual 325) 3 146 1 6]),
  (68, [true, true, true, true, true], [kx_1 (.istore 5) 2 5, kx_1 (.goto (-36)) 3 34]),
  (73, [true, true, true, true, true, true], [kx_1 (.iload_n 3) 1 3, kx_1 (.ifCond .eq 10) 3 84]),
  (77, [true, true, true, true, true, true], [kx_1 (.iload 5) 2 5, kx_i (.bipush 59) 2 59, kx_1 (.if_icmp .eq 5) 3 86]),
  (84, [], [kx_i (.iconst 0) 1 0, kx_0 (.ireturn) 1]),
  (86, [true, true, true, true, true], [kx_0 (.aload_n 0) 1, kx_3 (.getfield 63) 3 6 29 2, kx_i (.iconst 0) 1 0, kx_0 (.iaload) 1, kx_1 (.iload_n 3) 1 3, kx_0 (.iadd) 1, kx_i (.iconst 1) 1 1, kx_0 (.iadd) 1, kx_i (.bipush 10) 2 10, kx_1 (.if_icmp .gt 18) 3 116]),
  (101, [true, true, true, true, true], [kx_0 (.aload_n 0) 1, kx_3 (.getfield 63) 3 6 29 2, kx_i (.iconst 1) 1 1, kx_0 (.iaload) 1, kx_1 (.iload_n 3) 1 3, kx_0 (.iadd) 1, kx_i (.iconst 1) 1 1, kx_0 (.iadd) 1, kx_i (.bipush 8) 2 8, kx_1 (.if_icmp .le 10) 3 123]),
  (116, [true, true], [kx_0 (.aload_n 0) 1, kx_1 (.iload_n 1) 1 1, kx_3 (.putfield 319) 3 6 28 0, kx_i (.iconst 0) 1 0, kx_0 (.ireturn) 1]),
  (123, [true, false, true, true, true], [kx_0 (.aload_n 0) 1, kx_3 (.getfield 63) 3 6 29 2, kx_1 (.iload_n 2) 1 2, kx_i (.bipush 48) 2 48, kx_0 (.isub) 1, kx_1 (.iload_n 3) 1 3, kx_1 (.iload 4) 2 4, kx_3 (.invokestatic 114) 3 68 4 0]),
  (137, [true], [kx_0 (.aload_n 0) 1, kx_3 (.getfield 63) 3 6 29 2, kx_3 (.invokestatic 100) 3 60 1 0]),
  (144, [], [kx_i (.iconst 1) 1 1, kx_0 (.ireturn) 1])])
/-- PalletNetsModel.readsGuard()Z -/
def kp_152 : km_P := (7, true, [(0, [true], [kx_0 (.aload_n 0) 1, kx_3 (.getfield 319) 3 6 28 0, kx_1 (.istore_n 1) 1 1, kx_0 (.aload_n 0) 1, kx_3 (.getfield 63) 3 6 29 2, kx_i (.sipush 200) 3 200, kx_0 (.iaload) 1, kx_i (.iconst 5) 1 5, kx_1 (.if_icmp .ne 5) 3 19]),
  (17, [], [kx_i (.iconst 0) 1 0, kx_0 (.ireturn) 1]),
  (19, [true, true], [kx_i (.iconst 0) 1 0, kx_1 (.istore_n 2) 1 2, kx_0 (.aload_n 0) 1, kx_3 (.invokevirtual 325) 3 146 1 6]),
  (25, [true, true, true], [kx_1 (.istore_n 3) 1 3]),
  (26, [true, true, true, true], [kx_0 (.aload_n 0) 1, kx_1 (.iload_n 3) 1 3, kx_3 (.invokevirtual 328) 3 147 2 6]),
  (31, [true, true, true, true], [kx_1 (.ifCond .eq 20) 3 51]),
  (34, [true, true, true, true], [kx_1 (.iload_n 2) 1 2, kx_i (.iconst 1) 1 1, kx_1 (.iload_n 3) 1 3, kx_i (.bipush 48) 2 48, kx_0 (.isub) 1, kx_0 (.ishl) 1, kx_0 (.ior) 1, kx_1 (.istore_n 2) 1 2, kx_0 (.aload_n 0) 1, kx_3 (.invokevirtual 325) 3 146 1 6]),
  (47, [true, true, true], [kx_1 (.istore_n 3) 1 3, kx_1 (.goto (-22)) 3 26]),
  (51, [true, true, true, true], [kx_1 (.iload_n 2) 1 2, kx_1 (.ifCond .eq 9) 3 61]),
  (55, [true, true, true, true], [kx_1 (.iload_n 3) 1 3, kx_i (.bipush 47) 2 47, kx_1 (.if_icmp .eq 5) 3 63]),
  (61, [], [kx_i (.iconst 0) 1 0, kx_0 (.ireturn) 1]),
  (63, [true, true, true], [kx_0 (.aload_n 0) 1, kx_3 (.invokevirtual 325) 3 146 1 6]),
  (67, [true, true, true], [kx_1 (.istore 4) 2 4, kx_1 (.iload 4) 2 4, kx_i (.bipush 49) 2 49, kx_i (.bipush 57) 2 57, kx_3 (.invokestatic 76) 3 52 3 0]),
  (78, [true, true, true, false, true], [kx_1 (.ifCond .eq 12) 3 90]),
  (81, [true, true, true, false, true], [kx_0 (.aload_n 0) 1, kx_3 (.invokevirtual 325) 3 146 1 6]),
  (85, [true, true, true, false, true], [kx_i (.bipush 59) 2 59, kx_1 (.if_icmp .eq 5) 3 92]),
  (90, [], [kx_i (.iconst 0) 1 0, kx_0 (.ireturn) 1]),
  (92, [true, true, true, false, true], [kx_i (.iconst 0) 1 0, kx_1 (.istore 5) 2 5, kx_i (.iconst 0) 1 0, kx_1 (.istore 6) 2 6]),
  (98, [true, true, true, false, true, true, true], [kx_1 (.iload 6) 2 6, kx_0 (.aload_n 0) 1, kx_3 (.getfield 63) 3 6 29 2, kx_i (.iconst 0) 1 0, kx_0 (.iaload) 1, kx_1 (.if_icmp .ge 47) 3 153]),
  (109, [true, true, true, false, true, true, true], [kx_1 (.iload 5) 2 5, kx_1 (.iload_n 2) 1 2, kx_1 (.iload 6) 2 6, kx_3 (.invokestatic 152) 3 53 2 0]),
  (117, [true, true, true, false, true, false, true], [kx_1 (.ifCond .eq 26) 3 143]),
  (120, [true, true, true, false, true, false, true], [kx_0 (.aload_n 0) 1, kx_3 (.getfield 63) 3 6 29 2, kx_i (.iconst 2) 1 2, kx_1 (.iload 6) 2 6, kx_0 (.iadd) 1, kx_0 (.iaload) 1, kx_0 (.aload_n 0) 1, kx_3 (.getfield 63) 3 6 29 2, kx_i (.bipush 12) 2 12, kx_1 (.iload 6) 2 6, kx_0 (.iadd) 1, kx_0 (.iaload) 1, kx_0 (.isub) 1, kx_1 (.goto 4) 3 144]),
  (143, [true, true, true, false, true, false, true], [kx_i (.iconst 0) 1 0]),
  (144, [true, true, true, false, true, false, true], [kx_0 (.iadd) 1, kx_1 (.istore 5) 2 5, kx_n (.iinc 6 1) 3 6 1, kx_1 (.goto (-52)) 3 98]),
  (153, [true, true, true, false, true, true], [kx_1 (.iload 5) 2 5, kx_1 (.iload 4) 2 4, kx_i (.bipush 48) 2 48, kx_0 (.isub) 1, kx_1 (.if_icmp .ge 10) 3 170]),
  (163, [true, true], [kx_0 (.aload_n 0) 1, kx_1 (.iload_n 1) 1 1, kx_3 (.putfield 319) 3 6 28 0, kx_i (.iconst 0) 1 0, kx_0 (.ireturn) 1]),
  (170, [true, false, true, false, true], [kx_0 (.aload_n 0) 1, kx_3 (.getfield 63) 3 6 29 2, kx_1 (.iload_n 2) 1 2, kx_1 (.iload 4) 2 4, kx_i (.bipush 48) 2 48, kx_0 (.isub) 1, kx_3 (.invokestatic 282) 3 128 3 0]),
  (183, [], [kx_i (.iconst 1) 1 1, kx_0 (.ireturn) 1])])
/-- PalletNetsModel.readsOrder()Z -/
def kp_153 : km_P := (1, true, [(0, [true], [kx_0 (.aload_n 0) 1, kx_3 (.invokevirtual 325) 3 146 1 6]),
  (4, [true], [kx_s (.lookupswitch 64 #[(103, 59), (108, 54), (112, 44), (116, 49)]) 44 68 [(103, 63), (108, 58), (112, 48), (116, 53)]]),
  (48, [true], [kx_0 (.aload_n 0) 1, kx_3 (.invokevirtual 334) 3 148 1 6]),
  (52, [], [kx_0 (.ireturn) 1]),
  (53, [true], [kx_0 (.aload_n 0) 1, kx_3 (.invokevirtual 337) 3 150 1 6]),
  (57, [], [kx_0 (.ireturn) 1]),
  (58, [true], [kx_0 (.aload_n 0) 1, kx_3 (.invokevirtual 340) 3 151 1 6]),
  (62, [], [kx_0 (.ireturn) 1]),
  (63, [true], [kx_0 (.aload_n 0) 1, kx_3 (.invokevirtual 343) 3 152 1 6]),
  (67, [], [kx_0 (.ireturn) 1]),
  (68, [], [kx_i (.iconst 0) 1 0, kx_0 (.ireturn) 1])])
/-- PalletNetsModel.reads()I -/
def kp_154 : km_P := (3, false, [(0, [true], [kx_i (.iconst 0) 1 0, kx_1 (.istore_n 1) 1 1]),
  (2, [true, true], [kx_1 (.iload_n 1) 1 1, kx_i (.sipush 212) 3 212, kx_1 (.if_icmp .ge 21) 3 27]),
  (9, [true, true], [kx_0 (.aload_n 0) 1, kx_3 (.getfield 63) 3 6 29 2, kx_1 (.iload_n 1) 1 1, kx_0 (.aload_n 0) 1, kx_3 (.getfield 7) 3 6 0 2, kx_1 (.iload_n 1) 1 1, kx_0 (.iaload) 1, kx_0 (.iastore) 1, kx_n (.iinc 1 1) 3 1 1, kx_1 (.goto (-22)) 3 2]),
  (27, [true], [kx_0 (.aload_n 0) 1, kx_i (.iconst 0) 1 0, kx_3 (.putfield 316) 3 6 27 0, kx_i (.iconst 0) 1 0, kx_1 (.istore_n 1) 1 1]),
  (34, [true, true], [kx_1 (.iload_n 1) 1 1, kx_1 (.ifCond .eq 10) 3 45]),
  (38, [true, true], [kx_0 (.aload_n 0) 1, kx_3 (.invokevirtual 322) 3 145 1 6]),
  (42, [true, true], [kx_1 (.ifCond .lt 24) 3 66]),
  (45, [true, true], [kx_0 (.aload_n 0) 1, kx_3 (.invokevirtual 346) 3 153 1 6]),
  (49, [true, true], [kx_1 (.ifCond .ne 11) 3 60]),
  (52, [true], [kx_i (.bipush (-10)) 2 (-10), kx_0 (.aload_n 0) 1, kx_3 (.getfield 319) 3 6 28 0, kx_0 (.isub) 1, kx_0 (.ireturn) 1]),
  (60, [true, true], [kx_n (.iinc 1 1) 3 1 1, kx_1 (.goto (-29)) 3 34]),
  (66, [true, true], [kx_0 (.aload_n 0) 1, kx_3 (.invokevirtual 93) 3 59 1 6]),
  (70, [true, true], [kx_i (.iconst 0) 1 0, kx_1 (.istore_n 2) 1 2]),
  (72, [true, true, true], [kx_1 (.iload_n 2) 1 2, kx_i (.sipush 212) 3 212, kx_1 (.if_icmp .ge 21) 3 97]),
  (79, [true, true, true], [kx_0 (.aload_n 0) 1, kx_3 (.getfield 7) 3 6 0 2, kx_1 (.iload_n 2) 1 2, kx_0 (.aload_n 0) 1, kx_3 (.getfield 63) 3 6 29 2, kx_1 (.iload_n 2) 1 2, kx_0 (.iaload) 1, kx_0 (.iastore) 1, kx_n (.iinc 2 1) 3 2 1, kx_1 (.goto (-22)) 3 72]),
  (97, [false, true], [kx_1 (.iload_n 1) 1 1, kx_0 (.ireturn) 1])])
/-- PalletNetsModel.back()I -/
def kp_155 : km_P := (2, false, [(0, [true], [kx_0 (.aload_n 0) 1, kx_3 (.getfield 83) 3 6 2 0, kx_1 (.ifCond .ne 8) 3 12]),
  (7, [true], [kx_0 (.aload_n 0) 1, kx_3 (.invokevirtual 195) 3 55 1 6]),
  (11, [], [kx_0 (.ireturn) 1]),
  (12, [true], [kx_0 (.aload_n 0) 1, kx_0 (.aload_n 0) 1, kx_3 (.getfield 80) 3 6 3 0, kx_i (.iconst 5) 1 5, kx_0 (.iadd) 1, kx_i (.iconst 1) 1 1, kx_0 (.isub) 1, kx_i (.iconst 5) 1 5, kx_0 (.irem) 1, kx_3 (.putfield 80) 3 6 3 0, kx_0 (.aload_n 0) 1, kx_0 (.dup) 1, kx_3 (.getfield 83) 3 6 2 0, kx_i (.iconst 1) 1 1, kx_0 (.isub) 1, kx_3 (.putfield 83) 3 6 2 0, kx_i (.iconst 0) 1 0, kx_1 (.istore_n 1) 1 1]),
  (38, [true, true], [kx_1 (.iload_n 1) 1 1, kx_i (.sipush 212) 3 212, kx_1 (.if_icmp .ge 30) 3 72]),
  (45, [true, true], [kx_0 (.aload_n 0) 1, kx_3 (.getfield 7) 3 6 0 2, kx_1 (.iload_n 1) 1 1, kx_0 (.aload_n 0) 1, kx_3 (.getfield 13) 3 6 1 2, kx_i (.sipush 212) 3 212, kx_0 (.aload_n 0) 1, kx_3 (.getfield 80) 3 6 3 0, kx_0 (.imul) 1, kx_1 (.iload_n 1) 1 1, kx_0 (.iadd) 1, kx_0 (.iaload) 1, kx_0 (.iastore) 1, kx_n (.iinc 1 1) 3 1 1, kx_1 (.goto (-31)) 3 38]),
  (72, [true], [kx_0 (.aload_n 0) 1, kx_3 (.getfield 83) 3 6 2 0, kx_0 (.ireturn) 1])])
/-- PalletNetsModel.toldOf(I)I -/
def kp_156 : km_P := (2, false, [(0, [true, true], [kx_1 (.iload_n 1) 1 1, kx_s (.tableswitch 99 0 7 #[47, 52, 57, 62, 67, 74, 81, 90]) 47 100 [(0, 48), (1, 53), (2, 58), (3, 63), (4, 68), (5, 75), (6, 82), (7, 91)]]),
  (48, [true], [kx_0 (.aload_n 0) 1, kx_3 (.getfield 66) 3 6 4 0, kx_0 (.ireturn) 1]),
  (53, [true], [kx_0 (.aload_n 0) 1, kx_3 (.getfield 70) 3 6 5 0, kx_0 (.ireturn) 1]),
  (58, [true], [kx_0 (.aload_n 0) 1, kx_3 (.getfield 73) 3 6 6 0, kx_0 (.ireturn) 1]),
  (63, [true], [kx_0 (.aload_n 0) 1, kx_3 (.getfield 313) 3 6 25 0, kx_0 (.ireturn) 1]),
  (68, [true], [kx_0 (.aload_n 0) 1, kx_3 (.getfield 7) 3 6 0 2, kx_i (.iconst 0) 1 0, kx_0 (.iaload) 1, kx_0 (.ireturn) 1]),
  (75, [true], [kx_0 (.aload_n 0) 1, kx_3 (.getfield 7) 3 6 0 2, kx_i (.iconst 1) 1 1, kx_0 (.iaload) 1, kx_0 (.ireturn) 1]),
  (82, [true], [kx_0 (.aload_n 0) 1, kx_3 (.getfield 7) 3 6 0 2, kx_i (.sipush 200) 3 200, kx_0 (.iaload) 1, kx_0 (.ireturn) 1]),
  (91, [true], [kx_0 (.aload_n 0) 1, kx_3 (.getfield 7) 3 6 0 2, kx_i (.sipush 211) 3 211, kx_0 (.iaload) 1, kx_0 (.ireturn) 1]),
  (100, [true], [kx_0 (.aload_n 0) 1, kx_3 (.getfield 83) 3 6 2 0, kx_0 (.ireturn) 1])])
/-- PalletNetsModel.told(I)I -/
def kp_157 : km_P := (2, false, [(0, [true, true], [kx_1 (.iload_n 1) 1 1, kx_i (.iconst 0) 1 0, kx_i (.bipush 8) 2 8, kx_3 (.invokestatic 76) 3 52 3 0]),
  (7, [true, true], [kx_1 (.ifCond .eq 11) 3 18]),
  (10, [true, true], [kx_0 (.aload_n 0) 1, kx_1 (.iload_n 1) 1 1, kx_3 (.invokevirtual 349) 3 156 2 6]),
  (15, [], [kx_1 (.goto 7) 3 22]),
  (18, [true], [kx_0 (.aload_n 0) 1, kx_3 (.invokevirtual 86) 3 54 1 6]),
  (22, [], [kx_0 (.ireturn) 1])])
/-- PalletNetsModel.digest()J -/
def kp_158 : km_P := (4, false, [(0, [true], [kx_l (.ldc2_w 352) 3 2221, kx_1 (.lstore_n 1) 1 1, kx_i (.iconst 0) 1 0, kx_1 (.istore_n 3) 1 3]),
  (6, [true, true, false, true], [kx_1 (.iload_n 3) 1 3, kx_i (.bipush 8) 2 8, kx_1 (.if_icmp .gt 22) 3 31]),
  (12, [true, true, false, true], [kx_l (.ldc2_w 354) 3 31, kx_1 (.lload_n 1) 1 1, kx_0 (.lmul) 1, kx_0 (.aload_n 0) 1, kx_1 (.iload_n 3) 1 3, kx_3 (.invokevirtual 349) 3 156 2 6]),
  (22, [true, false, false, true], [kx_0 (.i2l) 1, kx_0 (.ladd) 1, kx_1 (.lstore_n 1) 1 1, kx_n (.iinc 3 1) 3 3 1, kx_1 (.goto (-22)) 3 6]),
  (31, [true, true], [kx_i (.iconst 0) 1 0, kx_1 (.istore_n 3) 1 3]),
  (33, [true, true, false, true], [kx_1 (.iload_n 3) 1 3, kx_0 (.aload_n 0) 1, kx_3 (.getfield 7) 3 6 0 2, kx_i (.iconst 0) 1 0, kx_0 (.iaload) 1, kx_1 (.if_icmp .ge 55) 3 95]),
  (43, [true, true, false, true], [kx_l (.ldc2_w 354) 3 31, kx_l (.ldc2_w 354) 3 31, kx_l (.ldc2_w 354) 3 31, kx_1 (.lload_n 1) 1 1, kx_0 (.lmul) 1, kx_0 (.aload_n 0) 1, kx_3 (.getfield 7) 3 6 0 2, kx_i (.iconst 2) 1 2, kx_1 (.iload_n 3) 1 3, kx_0 (.iadd) 1, kx_0 (.iaload) 1, kx_0 (.i2l) 1, kx_0 (.ladd) 1, kx_0 (.lmul) 1, kx_0 (.aload_n 0) 1, kx_3 (.getfield 7) 3 6 0 2, kx_i (.bipush 22) 2 22, kx_1 (.iload_n 3) 1 3, kx_0 (.iadd) 1, kx_0 (.iaload) 1, kx_0 (.i2l) 1, kx_0 (.ladd) 1, kx_0 (.lmul) 1, kx_0 (.aload_n 0) 1, kx_3 (.getfield 7) 3 6 0 2, kx_i (.bipush 12) 2 12, kx_1 (.iload_n 3) 1 3, kx_0 (.iadd) 1, kx_0 (.iaload) 1, kx_0 (.i2l) 1, kx_0 (.ladd) 1, kx_1 (.lstore_n 1) 1 1, kx_n (.iinc 3 1) 3 3 1, kx_1 (.goto (-59)) 3 33]),
  (95, [true, true], [kx_i (.iconst 0) 1 0, kx_1 (.istore_n 3) 1 3]),
  (97, [true, true, false, true], [kx_1 (.iload_n 3) 1 3, kx_0 (.aload_n 0) 1, kx_3 (.getfield 7) 3 6 0 2, kx_i (.iconst 1) 1 1, kx_0 (.iaload) 1, kx_1 (.if_icmp .ge 47) 3 151]),
  (107, [true, true, false, true], [kx_l (.ldc2_w 354) 3 31, kx_l (.ldc2_w 354) 3 31, kx_l (.ldc2_w 354) 3 31, kx_1 (.lload_n 1) 1 1, kx_0 (.lmul) 1, kx_0 (.aload_n 0) 1, kx_1 (.iload_n 3) 1 3, kx_i (.iconst 0) 1 0, kx_3 (.invokevirtual 146) 3 74 3 6]),
  (124, [true, false, false, true], [kx_0 (.i2l) 1, kx_0 (.ladd) 1, kx_0 (.lmul) 1, kx_0 (.aload_n 0) 1, kx_1 (.iload_n 3) 1 3, kx_i (.iconst 1) 1 1, kx_3 (.invokevirtual 146) 3 74 3 6]),
  (133, [true, false, false, true], [kx_0 (.i2l) 1, kx_0 (.ladd) 1, kx_0 (.lmul) 1, kx_0 (.aload_n 0) 1, kx_1 (.iload_n 3) 1 3, kx_i (.iconst 2) 1 2, kx_3 (.invokevirtual 146) 3 74 3 6]),
  (142, [true, false, false, true], [kx_0 (.i2l) 1, kx_0 (.ladd) 1, kx_1 (.lstore_n 1) 1 1, kx_n (.iinc 3 1) 3 3 1, kx_1 (.goto (-51)) 3 97]),
  (151, [true, true], [kx_i (.iconst 0) 1 0, kx_1 (.istore_n 3) 1 3]),
  (153, [true, true, false, true], [kx_1 (.iload_n 3) 1 3, kx_0 (.aload_n 0) 1, kx_3 (.getfield 7) 3 6 0 2, kx_i (.sipush 200) 3 200, kx_0 (.iaload) 1, kx_1 (.if_icmp .ge 43) 3 205]),
  (165, [true, true, false, true], [kx_l (.ldc2_w 354) 3 31, kx_l (.ldc2_w 354) 3 31, kx_1 (.lload_n 1) 1 1, kx_0 (.lmul) 1, kx_0 (.aload_n 0) 1, kx_3 (.getfield 7) 3 6 0 2, kx_i (.sipush 201) 3 201, kx_1 (.iload_n 3) 1 3, kx_0 (.iadd) 1, kx_0 (.iaload) 1, kx_0 (.i2l) 1, kx_0 (.ladd) 1, kx_0 (.lmul) 1, kx_0 (.aload_n 0) 1, kx_3 (.getfield 7) 3 6 0 2, kx_i (.sipush 206) 3 206, kx_1 (.iload_n 3) 1 3, kx_0 (.iadd) 1, kx_0 (.iaload) 1, kx_0 (.i2l) 1, kx_0 (.ladd) 1, kx_1 (.lstore_n 1) 1 1, kx_n (.iinc 3 1) 3 3 1, kx_1 (.goto (-49)) 3 153]),
  (205, [true, true], [kx_i (.iconst 0) 1 0, kx_1 (.istore_n 3) 1 3]),
  (207, [true, true, false, true], [kx_1 (.iload_n 3) 1 3, kx_i (.iconst 3) 1 3, kx_1 (.if_icmp .gt 22) 3 231]),
  (212, [true, true, false, true], [kx_l (.ldc2_w 354) 3 31, kx_1 (.lload_n 1) 1 1, kx_0 (.lmul) 1, kx_0 (.aload_n 0) 1, kx_1 (.iload_n 3) 1 3, kx_3 (.invokevirtual 305) 3 138 2 6]),
  (222, [true, false, false, true], [kx_0 (.i2l) 1, kx_0 (.ladd) 1, kx_1 (.lstore_n 1) 1 1, kx_n (.iinc 3 1) 3 3 1, kx_1 (.goto (-21)) 3 207]),
  (231, [true, true], [kx_0 (.aload_n 0) 1, kx_3 (.invokevirtual 238) 3 109 1 6]),
  (235, [true, true], [kx_0 (.aload_n 0) 1, kx_3 (.invokevirtual 270) 3 122 1 6]),
  (239, [true, true], [kx_l (.ldc2_w 354) 3 31, kx_l (.ldc2_w 354) 3 31, kx_1 (.lload_n 1) 1 1, kx_0 (.lmul) 1, kx_0 (.aload_n 0) 1, kx_3 (.getfield 232) 3 6 16 0, kx_0 (.i2l) 1, kx_0 (.ladd) 1, kx_0 (.lmul) 1, kx_0 (.aload_n 0) 1, kx_3 (.getfield 264) 3 6 22 0, kx_0 (.i2l) 1, kx_0 (.ladd) 1, kx_0 (.lreturn) 1])])
/-- PalletNets$Invariants.weight(II)I -/
def kp_159 : km_P := (3, false, [(0, [true, true, true], [kx_0 (.aload_n 0) 1, kx_3 (.getfield 21) 3 0 2 2, kx_1 (.iload_n 1) 1 1, kx_1 (.aaload) 1 14, kx_1 (.iload_n 2) 1 2, kx_0 (.laload) 1, kx_0 (.l2i) 1, kx_0 (.ireturn) 1])])
/-- PalletNets$Invariants.weighted(IJ)I -/
def kp_160 : km_P := (7, false, [(0, [true, true, true], [kx_l (.lconst 0) 1 0, kx_1 (.lstore 4) 2 4, kx_i (.iconst 0) 1 0, kx_1 (.istore 6) 2 6]),
  (6, [true, true, true, false, true, false, true], [kx_1 (.iload 6) 2 6, kx_i (.bipush 10) 2 10, kx_1 (.if_icmp .ge 31) 3 41]),
  (13, [true, true, true, false, true, false, true], [kx_1 (.lload 4) 2 4, kx_0 (.aload_n 0) 1, kx_3 (.getfield 21) 3 0 2 2, kx_1 (.iload_n 1) 1 1, kx_1 (.aaload) 1 14, kx_1 (.iload 6) 2 6, kx_0 (.laload) 1, kx_1 (.lload_n 2) 1 2, kx_1 (.iload 6) 2 6, kx_3 (.invokestatic 37) 3 170 2 0]),
  (30, [true, true, true, false, false, false, true], [kx_0 (.i2l) 1, kx_0 (.lmul) 1, kx_0 (.ladd) 1, kx_1 (.lstore 4) 2 4, kx_n (.iinc 6 1) 3 6 1, kx_1 (.goto (-32)) 3 6]),
  (41, [false, false, false, false, true], [kx_1 (.lload 4) 2 4, kx_0 (.l2i) 1, kx_0 (.ireturn) 1])])
/-- PalletNets$Invariants.bound(IJ)I -/
def kp_161 : km_P := (8, false, [(0, [true, true, true], [kx_i (.iconst (-1)) 1 (-1), kx_1 (.istore 4) 2 4, kx_i (.iconst 0) 1 0, kx_1 (.istore 5) 2 5]),
  (6, [true, true, true, false, true, true], [kx_1 (.iload 5) 2 5, kx_0 (.aload_n 0) 1, kx_1 (.getfield 9) 3 0, kx_1 (.if_icmp .ge 55) 3 67]),
  (15, [true, true, true, false, true, true], [kx_0 (.aload_n 0) 1, kx_1 (.iload 5) 2 5, kx_1 (.iload_n 1) 1 1, kx_3 (.invokevirtual 43) 3 159 3 0]),
  (22, [true, true, true, false, true, true], [kx_1 (.istore 6) 2 6, kx_1 (.iload 6) 2 6, kx_1 (.ifCond .le 35) 3 61]),
  (29, [true, true, true, false, true, true, true], [kx_0 (.aload_n 0) 1, kx_1 (.iload 5) 2 5, kx_1 (.lload_n 2) 1 2, kx_3 (.invokevirtual 47) 3 160 3 0]),
  (36, [true, true, true, false, true, true, true], [kx_1 (.iload 6) 2 6, kx_0 (.idiv) 1, kx_1 (.istore 7) 2 7, kx_1 (.iload 4) 2 4, kx_i (.iconst (-1)) 1 (-1), kx_1 (.if_icmp .ne 8) 3 52]),
  (47, [true, true, true, false, false, true, false, true], [kx_1 (.iload 7) 2 7, kx_1 (.goto 10) 3 59]),
  (52, [true, true, true, false, true, true, false, true], [kx_1 (.iload 4) 2 4, kx_1 (.iload 7) 2 7, kx_3 (.invokestatic 51) 3 0 0 21]),
  (59, [true, true, true, false, false, true], [kx_1 (.istore 4) 2 4]),
  (61, [true, true, true, false, true, true], [kx_n (.iinc 5 1) 3 5 1, kx_1 (.goto (-58)) 3 6]),
  (67, [false, false, false, false, true], [kx_1 (.iload 4) 2 4, kx_0 (.ireturn) 1])])
/-- PalletNets$Invariants.findAll(LPalletNets$State;)V -/
def kp_162 : km_P := (3, false, [(0, [true, true], [kx_0 (.aload_n 0) 1, kx_1 (.aload_n 1) 1 1, kx_1 (.getfield 56) 3 4, kx_1 (.putfield 9) 3 0, kx_i (.iconst 0) 1 0, kx_1 (.istore_n 2) 1 2]),
  (10, [true, true, true], [kx_1 (.iload_n 2) 1 2, kx_0 (.aload_n 0) 1, kx_1 (.getfield 9) 3 0, kx_1 (.if_icmp .ge 37) 3 52]),
  (18, [true, true, true], [kx_0 (.aload_n 0) 1, kx_3 (.getfield 21) 3 0 2 2, kx_1 (.iload_n 2) 1 2, kx_1 (.aaload) 1 14, kx_l (.lconst 0) 1 0, kx_3 (.invokestatic 61) 3 234 2 0]),
  (28, [true, true, true], [kx_0 (.aload_n 0) 1, kx_3 (.getfield 21) 3 0 2 2, kx_1 (.iload_n 2) 1 2, kx_1 (.aaload) 1 14, kx_1 (.iload_n 2) 1 2, kx_l (.lconst 1) 1 1, kx_0 (.lastore) 1, kx_0 (.aload_n 0) 1, kx_3 (.getfield 15) 3 0 1 2, kx_1 (.iload_n 2) 1 2, kx_i (.iconst 1) 1 1, kx_1 (.iload_n 2) 1 2, kx_0 (.ishl) 1, kx_0 (.iastore) 1, kx_n (.iinc 2 1) 3 2 1, kx_1 (.goto (-39)) 3 10]),
  (52, [true, true], [kx_i (.iconst 0) 1 0, kx_1 (.istore_n 2) 1 2]),
  (54, [true, true, true], [kx_1 (.iload_n 2) 1 2, kx_1 (.aload_n 1) 1 1, kx_3 (.getfield 67) 3 4 1 0, kx_1 (.if_icmp .ge 25) 3 84]),
  (62, [true, true, true], [kx_0 (.aload_n 0) 1, kx_1 (.aload_n 1) 1 1, kx_3 (.getfield 70) 3 4 7 2, kx_1 (.iload_n 2) 1 2, kx_0 (.laload) 1, kx_1 (.aload_n 1) 1 1, kx_3 (.getfield 73) 3 4 8 2, kx_1 (.iload_n 2) 1 2, kx_0 (.laload) 1, kx_3 (.invokevirtual 76) 3 163 3 0]),
  (78, [true, true, true], [kx_n (.iinc 2 1) 3 2 1, kx_1 (.goto (-27)) 3 54]),
  (84, [true], [kx_0 (.aload_n 0) 1, kx_3 (.invokevirtual 80) 3 168 1 0]),
  (88, [], [kx_0 (.return_) 1])])
/-- PalletNets$Invariants.balance(JJ)V -/
def kp_163 : km_P := (7, false, [(0, [true, true, false, true], [kx_0 (.aload_n 0) 1, kx_i (.iconst 0) 1 0, kx_3 (.putfield 24) 3 0 3 0, kx_i (.iconst 0) 1 0, kx_1 (.istore 5) 2 5]),
  (8, [true, true, false, true, false, true], [kx_1 (.iload 5) 2 5, kx_0 (.aload_n 0) 1, kx_1 (.getfield 9) 3 0, kx_1 (.if_icmp .ge 55) 3 69]),
  (17, [true, true, false, true, false, true], [kx_0 (.aload_n 0) 1, kx_3 (.getfield 33) 3 0 6 2, kx_1 (.iload 5) 2 5, kx_0 (.aload_n 0) 1, kx_1 (.iload 5) 2 5, kx_1 (.lload_n 3) 1 3, kx_3 (.invokevirtual 47) 3 160 3 0]),
  (30, [true, true, false, true, false, true], [kx_0 (.i2l) 1, kx_0 (.aload_n 0) 1, kx_1 (.iload 5) 2 5, kx_1 (.lload_n 1) 1 1, kx_3 (.invokevirtual 47) 3 160 3 0]),
  (38, [true, true, false, true, false, true], [kx_0 (.i2l) 1, kx_0 (.lsub) 1, kx_0 (.lastore) 1, kx_0 (.aload_n 0) 1, kx_3 (.getfield 33) 3 0 6 2, kx_1 (.iload 5) 2 5, kx_0 (.laload) 1, kx_l (.lconst 0) 1 0, kx_0 (.lcmp) 1, kx_1 (.ifCond .ne 13) 3 63]),
  (53, [true, true, false, true, false, true], [kx_0 (.aload_n 0) 1, kx_1 (.iload 5) 2 5, kx_l (.lconst 1) 1 1, kx_1 (.iload 5) 2 5, kx_l (.lconst 0) 1 0, kx_3 (.invokevirtual 83) 3 165 5 0]),
  (63, [true, true, false, true, false, true], [kx_n (.iinc 5 1) 3 5 1, kx_1 (.goto (-58)) 3 8]),
  (69, [true], [kx_i (.iconst 0) 1 0, kx_1 (.istore 5) 2 5]),
  (72, [true, false, false, false, false, true], [kx_1 (.iload 5) 2 5, kx_0 (.aload_n 0) 1, kx_1 (.getfield 9) 3 0, kx_1 (.if_icmp .ge 85) 3 163]),
  (81, [true, false, false, false, false, true], [kx_i (.iconst 0) 1 0, kx_1 (.istore 6) 2 6]),
  (84, [true, false, false, false, false, true, true], [kx_1 (.iload 6) 2 6, kx_0 (.aload_n 0) 1, kx_1 (.getfield 9) 3 0, kx_1 (.if_icmp .ge 67) 3 157]),
  (93, [true, false, false, false, false, true, true], [kx_0 (.aload_n 0) 1, kx_3 (.getfield 33) 3 0 6 2, kx_1 (.iload 5) 2 5, kx_0 (.laload) 1, kx_l (.lconst 0) 1 0, kx_0 (.lcmp) 1, kx_1 (.ifCond .le 49) 3 151]),
  (105, [true, false, false, false, false, true, true], [kx_0 (.aload_n 0) 1, kx_3 (.getfield 33) 3 0 6 2, kx_1 (.iload 6) 2 6, kx_0 (.laload) 1, kx_l (.lconst 0) 1 0, kx_0 (.lcmp) 1, kx_1 (.ifCond .ge 37) 3 151]),
  (117, [true, false, false, false, false, true, true], [kx_0 (.aload_n 0) 1, kx_1 (.iload 5) 2 5, kx_1 (.iload 6) 2 6, kx_3 (.invokevirtual 87) 3 164 3 0]),
  (125, [true, false, false, false, false, true, true], [kx_1 (.ifCond .eq 26) 3 151]),
  (128, [true, false, false, false, false, true, true], [kx_0 (.aload_n 0) 1, kx_1 (.iload 5) 2 5, kx_0 (.aload_n 0) 1, kx_3 (.getfield 33) 3 0 6 2, kx_1 (.iload 6) 2 6, kx_0 (.laload) 1, kx_0 (.lneg) 1, kx_1 (.iload 6) 2 6, kx_0 (.aload_n 0) 1, kx_3 (.getfield 33) 3 0 6 2, kx_1 (.iload 5) 2 5, kx_0 (.laload) 1, kx_3 (.invokevirtual 83) 3 165 5 0]),
  (151, [true, false, false, false, false, true, true], [kx_n (.iinc 6 1) 3 6 1, kx_1 (.goto (-70)) 3 84]),
  (157, [true, false, false, false, false, true], [kx_n (.iinc 5 1) 3 5 1, kx_1 (.goto (-88)) 3 72]),
  (163, [true], [kx_0 (.aload_n 0) 1, kx_3 (.invokevirtual 91) 3 167 1 0]),
  (167, [], [kx_0 (.return_) 1])])
/-- PalletNets$Invariants.areAdjacent(II)Z -/
def kp_164 : km_P := (5, true, [(0, [true, true, true], [kx_0 (.aload_n 0) 1, kx_3 (.getfield 15) 3 0 1 2, kx_1 (.iload_n 1) 1 1, kx_0 (.iaload) 1, kx_0 (.aload_n 0) 1, kx_3 (.getfield 15) 3 0 1 2, kx_1 (.iload_n 2) 1 2, kx_0 (.iaload) 1, kx_0 (.ior) 1, kx_1 (.istore_n 3) 1 3, kx_i (.iconst 0) 1 0, kx_1 (.istore 4) 2 4]),
  (17, [true, true, true, true, true], [kx_1 (.iload 4) 2 4, kx_0 (.aload_n 0) 1, kx_1 (.getfield 9) 3 0, kx_1 (.if_icmp .ge 37) 3 60]),
  (26, [true, true, true, true, true], [kx_1 (.iload 4) 2 4, kx_1 (.iload_n 1) 1 1, kx_1 (.if_icmp .eq 25) 3 54]),
  (32, [true, true, true, true, true], [kx_1 (.iload 4) 2 4, kx_1 (.iload_n 2) 1 2, kx_1 (.if_icmp .eq 19) 3 54]),
  (38, [true, true, true, true, true], [kx_0 (.aload_n 0) 1, kx_3 (.getfield 15) 3 0 1 2, kx_1 (.iload 4) 2 4, kx_0 (.iaload) 1, kx_1 (.iload_n 3) 1 3, kx_i (.iconst (-1)) 1 (-1), kx_0 (.ixor) 1, kx_0 (.iand) 1, kx_1 (.ifCond .ne 5) 3 54]),
  (52, [], [kx_i (.iconst 0) 1 0, kx_0 (.ireturn) 1]),
  (54, [true, true, true, true, true], [kx_n (.iinc 4 1) 3 4 1, kx_1 (.goto (-40)) 3 17]),
  (60, [], [kx_i (.iconst 1) 1 1, kx_0 (.ireturn) 1])])
/-- PalletNets$Invariants.addCombined(IJIJ)V -/
def kp_165 : km_P := (11, false, [(0, [true, true, true, false, true, true], [kx_0 (.aload_n 0) 1, kx_3 (.getfield 24) 3 0 3 0, kx_i (.bipush 64) 2 64, kx_1 (.if_icmp .lt 4) 3 10]),
  (9, [], [kx_0 (.return_) 1]),
  (10, [true, true, true, false, true, true], [kx_0 (.aload_n 0) 1, kx_3 (.getfield 30) 3 0 5 2, kx_0 (.aload_n 0) 1, kx_3 (.getfield 24) 3 0 3 0, kx_1 (.aaload) 1 14, kx_1 (.astore 7) 2 7, kx_l (.lconst 0) 1 0, kx_1 (.lstore 8) 2 8, kx_i (.iconst 0) 1 0, kx_1 (.istore 10) 2 10]),
  (27, [true, true, true, false, true, true, false, true, true, false, true], [kx_1 (.iload 10) 2 10, kx_i (.bipush 10) 2 10, kx_1 (.if_icmp .ge 51) 3 82]),
  (34, [true, true, true, false, true, true, false, true, true, false, true], [kx_1 (.aload 7) 2 7, kx_1 (.iload 10) 2 10, kx_1 (.lload_n 2) 1 2, kx_0 (.aload_n 0) 1, kx_3 (.getfield 21) 3 0 2 2, kx_1 (.iload_n 1) 1 1, kx_1 (.aaload) 1 14, kx_1 (.iload 10) 2 10, kx_0 (.laload) 1, kx_0 (.lmul) 1, kx_1 (.lload 5) 2 5, kx_0 (.aload_n 0) 1, kx_3 (.getfield 21) 3 0 2 2, kx_1 (.iload 4) 2 4, kx_1 (.aaload) 1 14, kx_1 (.iload 10) 2 10, kx_0 (.laload) 1, kx_0 (.lmul) 1, kx_0 (.ladd) 1, kx_0 (.lastore) 1, kx_1 (.lload 8) 2 8, kx_1 (.aload 7) 2 7, kx_1 (.iload 10) 2 10, kx_0 (.laload) 1, kx_3 (.invokestatic 94) 3 166 2 0]),
  (74, [true, true, true, false, true, true, false, true, false, false, true], [kx_1 (.lstore 8) 2 8, kx_n (.iinc 10 1) 3 10 1, kx_1 (.goto (-52)) 3 27]),
  (82, [true, true, false, false, true, false, false, true, true], [kx_i (.iconst 0) 1 0, kx_1 (.istore 10) 2 10]),
  (85, [true, true, false, false, true, false, false, true, true, false, true], [kx_1 (.iload 10) 2 10, kx_i (.bipush 10) 2 10, kx_1 (.if_icmp .ge 26) 3 115]),
  (92, [true, true, false, false, true, false, false, true, true, false, true], [kx_1 (.lload 8) 2 8, kx_l (.lconst 1) 1 1, kx_0 (.lcmp) 1, kx_1 (.ifCond .le 19) 3 115]),
  (99, [true, true, false, false, true, false, false, true, true, false, true], [kx_1 (.aload 7) 2 7, kx_1 (.iload 10) 2 10, kx_0 (.dup2) 1, kx_0 (.laload) 1, kx_1 (.lload 8) 2 8, kx_0 (.ldiv) 1, kx_0 (.lastore) 1, kx_n (.iinc 10 1) 3 10 1, kx_1 (.goto (-27)) 3 85]),
  (115, [true, true, false, false, true], [kx_0 (.aload_n 0) 1, kx_3 (.getfield 27) 3 0 4 2, kx_0 (.aload_n 0) 1, kx_3 (.getfield 24) 3 0 3 0, kx_0 (.aload_n 0) 1, kx_3 (.getfield 15) 3 0 1 2, kx_1 (.iload_n 1) 1 1, kx_0 (.iaload) 1, kx_0 (.aload_n 0) 1, kx_3 (.getfield 15) 3 0 1 2, kx_1 (.iload 4) 2 4, kx_0 (.iaload) 1, kx_0 (.ior) 1, kx_0 (.iastore) 1, kx_0 (.aload_n 0) 1, kx_0 (.dup) 1, kx_3 (.getfield 24) 3 0 3 0, kx_i (.iconst 1) 1 1, kx_0 (.iadd) 1, kx_3 (.putfield 24) 3 0 3 0, kx_0 (.return_) 1])])
/-- PalletNets$Invariants.commonDivisor(JJ)J -/
def kp_166 : km_P := (11, false, [(0, [true, false, true], [kx_0 (.lload_n 0) 1, kx_1 (.lstore 4) 2 4, kx_1 (.lload_n 2) 1 2, kx_1 (.lstore 6) 2 6, kx_i (.iconst 0) 1 0, kx_1 (.istore 8) 2 8]),
  (9, [false, false, false, false, true, false, true, false, true], [kx_1 (.iload 8) 2 8, kx_i (.bipush 100) 2 100, kx_1 (.if_icmp .ge 31) 3 44]),
  (16, [false, false, false, false, true, false, true, false, true], [kx_1 (.lload 6) 2 6, kx_l (.lconst 0) 1 0, kx_0 (.lcmp) 1, kx_1 (.ifCond .eq 24) 3 44]),
  (23, [false, false, false, false, true, false, true, false, true], [kx_1 (.lload 4) 2 4, kx_1 (.lload 6) 2 6, kx_0 (.lrem) 1, kx_1 (.lstore 9) 2 9, kx_1 (.lload 6) 2 6, kx_1 (.lstore 4) 2 4, kx_1 (.lload 9) 2 9, kx_1 (.lstore 6) 2 6, kx_n (.iinc 8 1) 3 8 1, kx_1 (.goto (-32)) 3 9]),
  (44, [false, false, false, false, true], [kx_1 (.lload 4) 2 4, kx_0 (.lreturn) 1])])
/-- PalletNets$Invariants.exchange()V -/
def kp_167 : km_P := (3, false, [(0, [true], [kx_0 (.aload_n 0) 1, kx_3 (.getfield 15) 3 0 1 2, kx_1 (.astore_n 1) 1 1, kx_0 (.aload_n 0) 1, kx_3 (.getfield 21) 3 0 2 2, kx_1 (.astore_n 2) 1 2, kx_0 (.aload_n 0) 1, kx_0 (.aload_n 0) 1, kx_3 (.getfield 27) 3 0 4 2, kx_3 (.putfield 15) 3 0 1 2, kx_0 (.aload_n 0) 1, kx_0 (.aload_n 0) 1, kx_3 (.getfield 30) 3 0 5 2, kx_3 (.putfield 21) 3 0 2 2, kx_0 (.aload_n 0) 1, kx_0 (.aload_n 0) 1, kx_3 (.getfield 24) 3 0 3 0, kx_1 (.putfield 9) 3 0, kx_0 (.aload_n 0) 1, kx_1 (.aload_n 1) 1 1, kx_3 (.putfield 27) 3 0 4 2, kx_0 (.aload_n 0) 1, kx_1 (.aload_n 2) 1 2, kx_3 (.putfield 30) 3 0 5 2, kx_0 (.return_) 1])])
/-- PalletNets$Invariants.orderBySupport()V -/
def kp_168 : km_P := (5, false, [(0, [true], [kx_i (.iconst 1) 1 1, kx_1 (.istore_n 1) 1 1]),
  (2, [true, true], [kx_1 (.iload_n 1) 1 1, kx_0 (.aload_n 0) 1, kx_1 (.getfield 9) 3 0, kx_1 (.if_icmp .ge 100) 3 107]),
  (10, [true, true], [kx_1 (.iload_n 1) 1 1, kx_1 (.istore_n 2) 1 2]),
  (12, [true, true, true], [kx_1 (.iload_n 2) 1 2, kx_1 (.ifCond .le 88) 3 101]),
  (16, [true, true, true], [kx_0 (.aload_n 0) 1, kx_3 (.getfield 15) 3 0 1 2, kx_1 (.iload_n 2) 1 2, kx_i (.iconst 1) 1 1, kx_0 (.isub) 1, kx_0 (.iaload) 1, kx_0 (.aload_n 0) 1, kx_3 (.getfield 15) 3 0 1 2, kx_1 (.iload_n 2) 1 2, kx_0 (.iaload) 1, kx_1 (.if_icmp .le 71) 3 101]),
  (33, [true, true, true], [kx_0 (.aload_n 0) 1, kx_3 (.getfield 15) 3 0 1 2, kx_1 (.iload_n 2) 1 2, kx_0 (.iaload) 1, kx_1 (.istore_n 3) 1 3, kx_0 (.aload_n 0) 1, kx_3 (.getfield 15) 3 0 1 2, kx_1 (.iload_n 2) 1 2, kx_0 (.aload_n 0) 1, kx_3 (.getfield 15) 3 0 1 2, kx_1 (.iload_n 2) 1 2, kx_i (.iconst 1) 1 1, kx_0 (.isub) 1, kx_0 (.iaload) 1, kx_0 (.iastore) 1, kx_0 (.aload_n 0) 1, kx_3 (.getfield 15) 3 0 1 2, kx_1 (.iload_n 2) 1 2, kx_i (.iconst 1) 1 1, kx_0 (.isub) 1, kx_1 (.iload_n 3) 1 3, kx_0 (.iastore) 1, kx_0 (.aload_n 0) 1, kx_3 (.getfield 21) 3 0 2 2, kx_1 (.iload_n 2) 1 2, kx_1 (.aaload) 1 14, kx_1 (.astore 4) 2 4, kx_0 (.aload_n 0) 1, kx_3 (.getfield 21) 3 0 2 2, kx_1 (.iload_n 2) 1 2, kx_0 (.aload_n 0) 1, kx_3 (.getfield 21) 3 0 2 2, kx_1 (.iload_n 2) 1 2, kx_i (.iconst 1) 1 1, kx_0 (.isub) 1, kx_1 (.aaload) 1 14, kx_1 (.aastore) 1 14, kx_0 (.aload_n 0) 1, kx_3 (.getfield 21) 3 0 2 2, kx_1 (.iload_n 2) 1 2, kx_i (.iconst 1) 1 1, kx_0 (.isub) 1, kx_1 (.aload 4) 2 4, kx_1 (.aastore) 1 14, kx_n (.iinc 2 (-1)) 3 2 (-1), kx_1 (.goto (-86)) 3 12]),
  (101, [true, true], [kx_n (.iinc 1 1) 3 1 1, kx_1 (.goto (-102)) 3 2]),
  (107, [], [kx_0 (.return_) 1])])
/-- PalletNets$Marks.one(I)J -/
def kp_169 : km_P := (1, false, [(0, [true], [kx_l (.lconst 1) 1 1, kx_i (.iconst 5) 1 5, kx_0 (.iload_n 0) 1, kx_0 (.imul) 1, kx_0 (.lshl) 1, kx_0 (.lreturn) 1])])
/-- PalletNets$Marks.tokens(JI)I -/
def kp_170 : km_P := (3, false, [(0, [true, false, true], [kx_0 (.lload_n 0) 1, kx_i (.iconst 5) 1 5, kx_1 (.iload_n 2) 1 2, kx_0 (.imul) 1, kx_0 (.lshr) 1, kx_l (.ldc2_w 11) 3 31, kx_0 (.land) 1, kx_0 (.l2i) 1, kx_0 (.ireturn) 1])])
/-- PalletNets$Marks.with(JII)J -/
def kp_171 : km_P := (4, false, [(0, [true, false, true, true], [kx_0 (.lload_n 0) 1, kx_l (.ldc2_w 11) 3 31, kx_i (.iconst 5) 1 5, kx_1 (.iload_n 2) 1 2, kx_0 (.imul) 1, kx_0 (.lshl) 1, kx_l (.ldc2_w 13) 3 (-1), kx_0 (.lxor) 1, kx_0 (.land) 1, kx_1 (.iload_n 3) 1 3, kx_0 (.i2l) 1, kx_i (.iconst 5) 1 5, kx_1 (.iload_n 2) 1 2, kx_0 (.imul) 1, kx_0 (.lshl) 1, kx_0 (.lor) 1, kx_0 (.lreturn) 1])])
/-- PalletNets$Marks.sumIn(JI)I -/
def kp_172 : km_P := (7, false, [(0, [true, false, true], [kx_i (.iconst 0) 1 0, kx_1 (.istore_n 3) 1 3, kx_0 (.lload_n 0) 1, kx_1 (.lstore 4) 2 4, kx_i (.iconst 0) 1 0, kx_1 (.istore 6) 2 6]),
  (8, [false, false, true, true, true, false, true], [kx_1 (.iload 6) 2 6, kx_i (.bipush 10) 2 10, kx_1 (.if_icmp .ge 34) 3 46]),
  (15, [false, false, true, true, true, false, true], [kx_1 (.iload_n 2) 1 2, kx_i (.iconst 1) 1 1, kx_1 (.iload 6) 2 6, kx_0 (.ishl) 1, kx_0 (.iand) 1, kx_1 (.ifCond .eq 13) 3 34]),
  (24, [false, false, true, true, true, false, true], [kx_1 (.iload_n 3) 1 3, kx_1 (.lload 4) 2 4, kx_l (.ldc2_w 11) 3 31, kx_0 (.land) 1, kx_0 (.l2i) 1, kx_0 (.iadd) 1, kx_1 (.istore_n 3) 1 3]),
  (34, [false, false, true, true, true, false, true], [kx_1 (.lload 4) 2 4, kx_i (.iconst 5) 1 5, kx_0 (.lshr) 1, kx_1 (.lstore 4) 2 4, kx_n (.iinc 6 1) 3 6 1, kx_1 (.goto (-35)) 3 8]),
  (46, [false, false, false, true], [kx_1 (.iload_n 3) 1 3, kx_0 (.ireturn) 1])])
/-- PalletNets$Marks.covers(JJ)Z -/
def kp_173 : km_P := (4, true, [(0, [true, false, true], [kx_0 (.lload_n 0) 1, kx_l (.ldc2_w 15) 3 581109629338128, kx_0 (.lor) 1, kx_1 (.lload_n 2) 1 2, kx_0 (.lsub) 1, kx_l (.ldc2_w 15) 3 581109629338128, kx_0 (.land) 1, kx_l (.ldc2_w 15) 3 581109629338128, kx_0 (.lcmp) 1, kx_1 (.ifCond .ne 7) 3 22]),
  (18, [], [kx_i (.iconst 1) 1 1, kx_1 (.goto 4) 3 23]),
  (22, [], [kx_i (.iconst 0) 1 0]),
  (23, [], [kx_0 (.ireturn) 1])])
/-- PalletNets$Marks.overflows(J)Z -/
def kp_174 : km_P := (2, true, [(0, [true], [kx_0 (.lload_n 0) 1, kx_l (.ldc2_w 15) 3 581109629338128, kx_0 (.land) 1, kx_l (.lconst 0) 1 0, kx_0 (.lcmp) 1, kx_1 (.ifCond .eq 7) 3 14]),
  (10, [], [kx_i (.iconst 1) 1 1, kx_1 (.goto 4) 3 15]),
  (14, [], [kx_i (.iconst 0) 1 0]),
  (15, [], [kx_0 (.ireturn) 1])])
/-- PalletNets$Marks.placesOf(J)I -/
def kp_175 : km_P := (4, false, [(0, [true], [kx_i (.iconst 0) 1 0, kx_1 (.istore_n 2) 1 2, kx_i (.iconst 0) 1 0, kx_1 (.istore_n 3) 1 3]),
  (4, [true, false, true, true], [kx_1 (.iload_n 3) 1 3, kx_i (.bipush 10) 2 10, kx_1 (.if_icmp .ge 23) 3 30]),
  (10, [true, false, true, true], [kx_0 (.lload_n 0) 1, kx_1 (.iload_n 3) 1 3, kx_3 (.invokestatic 17) 3 170 2 0]),
  (15, [true, false, true, true], [kx_1 (.ifCond .eq 9) 3 24]),
  (18, [true, false, true, true], [kx_1 (.iload_n 2) 1 2, kx_i (.iconst 1) 1 1, kx_1 (.iload_n 3) 1 3, kx_0 (.ishl) 1, kx_0 (.ior) 1, kx_1 (.istore_n 2) 1 2]),
  (24, [true, false, true, true], [kx_n (.iinc 3 1) 3 3 1, kx_1 (.goto (-23)) 3 4]),
  (30, [false, false, true], [kx_1 (.iload_n 2) 1 2, kx_0 (.ireturn) 1])])
/-- PalletNets$Marks.hexadecimal(J)J -/
def kp_176 : km_P := (5, false, [(0, [true], [kx_l (.lconst 0) 1 0, kx_1 (.lstore_n 2) 1 2, kx_i (.bipush 9) 2 9, kx_1 (.istore 4) 2 4]),
  (6, [true, false, true, false, true], [kx_1 (.iload 4) 2 4, kx_1 (.ifCond .lt 23) 3 31]),
  (11, [true, false, true, false, true], [kx_l (.ldc2_w 21) 3 16, kx_1 (.lload_n 2) 1 2, kx_0 (.lmul) 1, kx_0 (.lload_n 0) 1, kx_1 (.iload 4) 2 4, kx_3 (.invokestatic 17) 3 170 2 0]),
  (22, [true, false, false, false, true], [kx_0 (.i2l) 1, kx_0 (.ladd) 1, kx_1 (.lstore_n 2) 1 2, kx_n (.iinc 4 (-1)) 3 4 (-1), kx_1 (.goto (-22)) 3 6]),
  (31, [false, false, true], [kx_1 (.lload_n 2) 1 2, kx_0 (.lreturn) 1])])
/-- PalletNets$Reader.carryOut(LPalletNets$State;)I -/
def kp_177 : km_P := (3, false, [(0, [true, true], [kx_0 (.aload_n 0) 1, kx_i (.iconst 0) 1 0, kx_3 (.putfield 22) 3 1 3 0, kx_0 (.aload_n 0) 1, kx_i (.iconst (-1)) 1 (-1), kx_3 (.putfield 19) 3 1 2 0, kx_i (.iconst 0) 1 0, kx_1 (.istore_n 2) 1 2, kx_0 (.aload_n 0) 1, kx_3 (.invokevirtual 28) 3 186 1 1]),
  (16, [true, true, true], [kx_1 (.iload_n 2) 1 2, kx_i (.bipush 120) 2 120, kx_1 (.if_icmp .ge 41) 3 60]),
  (22, [true, true, true], [kx_0 (.aload_n 0) 1, kx_3 (.getfield 19) 3 1 2 0, kx_i (.iconst (-1)) 1 (-1), kx_1 (.if_icmp .ne 33) 3 60]),
  (30, [true, true, true], [kx_1 (.iload_n 2) 1 2, kx_1 (.ifCond .eq 14) 3 45]),
  (34, [true, true, true], [kx_0 (.aload_n 0) 1, kx_3 (.getfield 22) 3 1 3 0, kx_0 (.aload_n 0) 1, kx_3 (.getfield 15) 3 1 1 0, kx_1 (.if_icmp .ge 18) 3 60]),
  (45, [true, true, true], [kx_0 (.aload_n 0) 1, kx_1 (.aload_n 1) 1 1, kx_3 (.invokevirtual 31) 3 178 2 1]),
  (50, [true, true, true], [kx_0 (.aload_n 0) 1, kx_3 (.invokevirtual 28) 3 186 1 1]),
  (54, [true, true, true], [kx_n (.iinc 2 1) 3 2 1, kx_1 (.goto (-41)) 3 16]),
  (60, [false, false, true], [kx_1 (.iload_n 2) 1 2, kx_0 (.ireturn) 1])])
/-- PalletNets$Reader.readOrder(LPalletNets$State;)V -/
def kp_178 : km_P := (3, false, [(0, [true, true], [kx_0 (.aload_n 0) 1, kx_3 (.invokevirtual 35) 3 187 1 1]),
  (4, [true, true], [kx_1 (.istore_n 2) 1 2, kx_1 (.iload_n 2) 1 2, kx_i (.bipush 112) 2 112, kx_1 (.if_icmp .ne 20) 3 28]),
  (11, [true, true, true], [kx_1 (.aload_n 1) 1 1, kx_1 (.getfield 39) 3 4, kx_i (.bipush 10) 2 10, kx_1 (.if_icmp .ge 11) 3 28]),
  (20, [true, true], [kx_0 (.aload_n 0) 1, kx_1 (.aload_n 1) 1 1, kx_3 (.invokevirtual 44) 3 179 2 1]),
  (25, [], [kx_1 (.goto 70) 3 95]),
  (28, [true, true, true], [kx_1 (.iload_n 2) 1 2, kx_i (.bipush 116) 2 116, kx_1 (.if_icmp .ne 20) 3 51]),
  (34, [true, true, true], [kx_1 (.aload_n 1) 1 1, kx_3 (.getfield 47) 3 4 1 0, kx_i (.bipush 8) 2 8, kx_1 (.if_icmp .ge 11) 3 51]),
  (43, [true, true], [kx_0 (.aload_n 0) 1, kx_1 (.aload_n 1) 1 1, kx_3 (.invokevirtual 50) 3 180 2 1]),
  (48, [], [kx_1 (.goto 47) 3 95]),
  (51, [true, true, true], [kx_1 (.iload_n 2) 1 2, kx_i (.bipush 108) 2 108, kx_1 (.if_icmp .ne 11) 3 65]),
  (57, [true, true], [kx_0 (.aload_n 0) 1, kx_1 (.aload_n 1) 1 1, kx_3 (.invokevirtual 53) 3 181 2 1]),
  (62, [], [kx_1 (.goto 33) 3 95]),
  (65, [true, true, true], [kx_1 (.iload_n 2) 1 2, kx_i (.bipush 103) 2 103, kx_1 (.if_icmp .ne 19) 3 87]),
  (71, [true, true], [kx_1 (.aload_n 1) 1 1, kx_3 (.getfield 56) 3 4 2 0, kx_i (.iconst 5) 1 5, kx_1 (.if_icmp .ge 11) 3 87]),
  (79, [true, true], [kx_0 (.aload_n 0) 1, kx_1 (.aload_n 1) 1 1, kx_3 (.invokevirtual 59) 3 182 2 1]),
  (84, [], [kx_1 (.goto 11) 3 95]),
  (87, [true], [kx_0 (.aload_n 0) 1, kx_0 (.aload_n 0) 1, kx_3 (.getfield 22) 3 1 3 0, kx_3 (.invokevirtual 62) 3 189 2 1]),
  (95, [], [kx_0 (.return_) 1])])
/-- PalletNets$Reader.readPlace(LPalletNets$State;)V -/
def kp_179 : km_P := (4, false, [(0, [true, true], [kx_0 (.aload_n 0) 1, kx_0 (.dup) 1, kx_3 (.getfield 22) 3 1 3 0, kx_i (.iconst 1) 1 1, kx_0 (.iadd) 1, kx_3 (.putfield 22) 3 1 3 0, kx_0 (.aload_n 0) 1, kx_3 (.invokevirtual 28) 3 186 1 1]),
  (14, [true, true], [kx_0 (.aload_n 0) 1, kx_3 (.getfield 22) 3 1 3 0, kx_1 (.istore_n 2) 1 2, kx_0 (.aload_n 0) 1, kx_i (.iconst 0) 1 0, kx_i (.bipush 9) 2 9, kx_3 (.invokevirtual 66) 3 184 3 1]),
  (26, [true, true, true], [kx_1 (.istore_n 3) 1 3, kx_0 (.aload_n 0) 1, kx_3 (.invokevirtual 35) 3 187 1 1]),
  (31, [true, true, true, true], [kx_3 (.invokestatic 70) 3 188 1 0]),
  (34, [true, true, true, true], [kx_1 (.ifCond .eq 16) 3 50]),
  (37, [true, true, true, true], [kx_i (.bipush 10) 2 10, kx_1 (.iload_n 3) 1 3, kx_0 (.imul) 1, kx_0 (.aload_n 0) 1, kx_i (.iconst 0) 1 0, kx_i (.bipush 9) 2 9, kx_3 (.invokevirtual 66) 3 184 3 1]),
  (48, [true, true, true], [kx_0 (.iadd) 1, kx_1 (.istore_n 3) 1 3]),
  (50, [true, true, true, true], [kx_1 (.iload_n 3) 1 3, kx_i (.bipush 15) 2 15, kx_1 (.if_icmp .gt 13) 3 66]),
  (56, [true, true, true, true], [kx_0 (.aload_n 0) 1, kx_3 (.invokevirtual 35) 3 187 1 1]),
  (60, [true, true, true, true], [kx_3 (.invokestatic 70) 3 188 1 0]),
  (63, [true, true, true, true], [kx_1 (.ifCond .eq 8) 3 71]),
  (66, [true, true, true, true], [kx_0 (.aload_n 0) 1, kx_1 (.iload_n 2) 1 2, kx_3 (.invokevirtual 62) 3 189 2 1]),
  (71, [true, true, false, true], [kx_0 (.aload_n 0) 1, kx_i (.bipush 59) 2 59, kx_3 (.invokevirtual 74) 3 185 2 1]),
  (77, [true, true, false, true], [kx_0 (.aload_n 0) 1, kx_3 (.getfield 19) 3 1 2 0, kx_i (.iconst (-1)) 1 (-1), kx_1 (.if_icmp .ne 12) 3 94]),
  (85, [false, true, false, true], [kx_1 (.aload_n 1) 1 1, kx_1 (.iload_n 3) 1 3, kx_3 (.invokevirtual 77) 3 216 2 4]),
  (90, [false, true], [kx_1 (.aload_n 1) 1 1, kx_3 (.invokevirtual 80) 3 214 1 4]),
  (94, [], [kx_0 (.return_) 1])])
/-- PalletNets$Reader.readStep(LPalletNets$State;)V -/
def kp_180 : km_P := (7, false, [(0, [true, true], [kx_0 (.aload_n 0) 1, kx_0 (.dup) 1, kx_3 (.getfield 22) 3 1 3 0, kx_i (.iconst 1) 1 1, kx_0 (.iadd) 1, kx_3 (.putfield 22) 3 1 3 0, kx_0 (.aload_n 0) 1, kx_3 (.invokevirtual 28) 3 186 1 1]),
  (14, [true, true], [kx_0 (.aload_n 0) 1, kx_i (.iconst 0) 1 0, kx_i (.bipush 9) 2 9, kx_3 (.invokevirtual 66) 3 184 3 1]),
  (21, [true, true], [kx_1 (.istore_n 2) 1 2, kx_0 (.aload_n 0) 1, kx_1 (.aload_n 1) 1 1, kx_1 (.getfield 39) 3 4, kx_3 (.invokevirtual 83) 3 183 2 1]),
  (30, [true, true, true], [kx_1 (.lstore_n 3) 1 3, kx_0 (.aload_n 0) 1, kx_i (.bipush 62) 2 62, kx_3 (.invokevirtual 74) 3 185 2 1]),
  (37, [true, true, true, true], [kx_0 (.aload_n 0) 1, kx_1 (.aload_n 1) 1 1, kx_1 (.getfield 39) 3 4, kx_3 (.invokevirtual 83) 3 183 2 1]),
  (45, [true, true, true, true], [kx_1 (.lstore 5) 2 5, kx_0 (.aload_n 0) 1, kx_i (.bipush 59) 2 59, kx_3 (.invokevirtual 74) 3 185 2 1]),
  (53, [true, true, true, true, false, true], [kx_0 (.aload_n 0) 1, kx_3 (.getfield 19) 3 1 2 0, kx_i (.iconst (-1)) 1 (-1), kx_1 (.if_icmp .ne 15) 3 73]),
  (61, [false, true, true, true, false, true], [kx_1 (.aload_n 1) 1 1, kx_1 (.iload_n 2) 1 2, kx_1 (.lload_n 3) 1 3, kx_1 (.lload 5) 2 5, kx_3 (.invokevirtual 87) 3 217 4 4]),
  (69, [false, true], [kx_1 (.aload_n 1) 1 1, kx_3 (.invokevirtual 80) 3 214 1 4]),
  (73, [], [kx_0 (.return_) 1])])
/-- PalletNets$Reader.readLine(LPalletNets$State;)V -/
def kp_181 : km_P := (5, false, [(0, [true, true], [kx_0 (.aload_n 0) 1, kx_3 (.getfield 22) 3 1 3 0, kx_1 (.istore_n 2) 1 2, kx_0 (.aload_n 0) 1, kx_0 (.dup) 1, kx_3 (.getfield 22) 3 1 3 0, kx_i (.iconst 1) 1 1, kx_0 (.iadd) 1, kx_3 (.putfield 22) 3 1 3 0, kx_0 (.aload_n 0) 1, kx_3 (.invokevirtual 28) 3 186 1 1]),
  (19, [true, true, true], [kx_0 (.aload_n 0) 1, kx_i (.iconst 1) 1 1, kx_i (.bipush 9) 2 9, kx_3 (.invokevirtual 66) 3 184 3 1]),
  (26, [true, true, true], [kx_1 (.istore_n 3) 1 3, kx_i (.iconst 0) 1 0, kx_1 (.istore 4) 2 4, kx_0 (.aload_n 0) 1, kx_3 (.invokevirtual 28) 3 186 1 1]),
  (34, [true, true, true, true, true], [kx_1 (.iload 4) 2 4, kx_i (.iconst 4) 1 4, kx_1 (.if_icmp .ge 54) 3 91]),
  (40, [true, true, true, true, true], [kx_0 (.aload_n 0) 1, kx_3 (.getfield 19) 3 1 2 0, kx_i (.iconst (-1)) 1 (-1), kx_1 (.if_icmp .ne 46) 3 91]),
  (48, [true, true, true, true, true], [kx_1 (.iload 4) 2 4, kx_1 (.ifCond .eq 13) 3 63]),
  (53, [true, true, true, true, true], [kx_0 (.aload_n 0) 1, kx_3 (.invokevirtual 35) 3 187 1 1]),
  (57, [true, true, true, true, true], [kx_3 (.invokestatic 70) 3 188 1 0]),
  (60, [true, true, true, true, true], [kx_1 (.ifCond .eq 31) 3 91]),
  (63, [true, true, true, true, true], [kx_0 (.aload_n 0) 1, kx_3 (.getfield 25) 3 1 4 2, kx_1 (.iload 4) 2 4, kx_0 (.aload_n 0) 1, kx_i (.iconst 0) 1 0, kx_1 (.aload_n 1) 1 1, kx_1 (.getfield 39) 3 4, kx_i (.iconst 1) 1 1, kx_0 (.isub) 1, kx_3 (.invokevirtual 66) 3 184 3 1]),
  (80, [true, true, true, true, true], [kx_0 (.iastore) 1, kx_n (.iinc 4 1) 3 4 1, kx_0 (.aload_n 0) 1, kx_3 (.invokevirtual 28) 3 186 1 1]),
  (88, [true, true, true, true, true], [kx_1 (.goto (-54)) 3 34]),
  (91, [true, true, true, true, true], [kx_0 (.aload_n 0) 1, kx_i (.bipush 59) 2 59, kx_3 (.invokevirtual 74) 3 185 2 1]),
  (97, [true, true, true, true, true], [kx_1 (.aload_n 1) 1 1, kx_1 (.iload 4) 2 4, kx_3 (.invokevirtual 91) 3 218 2 4]),
  (103, [true, true, true, true, true], [kx_1 (.ifCond .ne 8) 3 111]),
  (106, [true, true, true, true, true], [kx_0 (.aload_n 0) 1, kx_1 (.iload_n 2) 1 2, kx_3 (.invokevirtual 62) 3 189 2 1]),
  (111, [true, true, false, true, true], [kx_0 (.aload_n 0) 1, kx_3 (.getfield 19) 3 1 2 0, kx_i (.iconst (-1)) 1 (-1), kx_1 (.if_icmp .ne 18) 3 134]),
  (119, [true, true, false, true, true], [kx_1 (.aload_n 1) 1 1, kx_1 (.iload_n 3) 1 3, kx_0 (.aload_n 0) 1, kx_3 (.getfield 25) 3 1 4 2, kx_1 (.iload 4) 2 4, kx_3 (.invokevirtual 94) 3 219 4 4]),
  (130, [false, true], [kx_1 (.aload_n 1) 1 1, kx_3 (.invokevirtual 80) 3 214 1 4]),
  (134, [], [kx_0 (.return_) 1])])
/-- PalletNets$Reader.readGuard(LPalletNets$State;)V -/
def kp_182 : km_P := (5, false, [(0, [true, true], [kx_0 (.aload_n 0) 1, kx_3 (.getfield 22) 3 1 3 0, kx_1 (.istore_n 2) 1 2, kx_0 (.aload_n 0) 1, kx_0 (.dup) 1, kx_3 (.getfield 22) 3 1 3 0, kx_i (.iconst 1) 1 1, kx_0 (.iadd) 1, kx_3 (.putfield 22) 3 1 3 0, kx_0 (.aload_n 0) 1, kx_3 (.invokevirtual 28) 3 186 1 1]),
  (19, [true, true, true], [kx_i (.iconst 1) 1 1, kx_0 (.aload_n 0) 1, kx_i (.iconst 0) 1 0, kx_1 (.aload_n 1) 1 1, kx_1 (.getfield 39) 3 4, kx_i (.iconst 1) 1 1, kx_0 (.isub) 1, kx_3 (.invokevirtual 66) 3 184 3 1]),
  (31, [true, true, true], [kx_0 (.ishl) 1, kx_1 (.istore_n 3) 1 3, kx_0 (.aload_n 0) 1, kx_3 (.invokevirtual 28) 3 186 1 1]),
  (37, [true, true, true, true], [kx_i (.iconst 0) 1 0, kx_1 (.istore 4) 2 4]),
  (40, [true, true, true, true, true], [kx_1 (.iload 4) 2 4, kx_i (.bipush 120) 2 120, kx_1 (.if_icmp .ge 47) 3 91]),
  (47, [true, true, true, true, true], [kx_0 (.aload_n 0) 1, kx_3 (.getfield 19) 3 1 2 0, kx_i (.iconst (-1)) 1 (-1), kx_1 (.if_icmp .ne 39) 3 91]),
  (55, [true, true, true, true, true], [kx_0 (.aload_n 0) 1, kx_3 (.invokevirtual 35) 3 187 1 1]),
  (59, [true, true, true, true, true], [kx_3 (.invokestatic 70) 3 188 1 0]),
  (62, [true, true, true, true, true], [kx_1 (.ifCond .eq 29) 3 91]),
  (65, [true, true, true, true, true], [kx_1 (.iload_n 3) 1 3, kx_i (.iconst 1) 1 1, kx_0 (.aload_n 0) 1, kx_i (.iconst 0) 1 0, kx_1 (.aload_n 1) 1 1, kx_1 (.getfield 39) 3 4, kx_i (.iconst 1) 1 1, kx_0 (.isub) 1, kx_3 (.invokevirtual 66) 3 184 3 1]),
  (78, [true, true, true, false, true], [kx_0 (.ishl) 1, kx_0 (.ior) 1, kx_1 (.istore_n 3) 1 3, kx_0 (.aload_n 0) 1, kx_3 (.invokevirtual 28) 3 186 1 1]),
  (85, [true, true, true, true, true], [kx_n (.iinc 4 1) 3 4 1, kx_1 (.goto (-48)) 3 40]),
  (91, [true, true, true, true], [kx_0 (.aload_n 0) 1, kx_i (.bipush 47) 2 47, kx_3 (.invokevirtual 74) 3 185 2 1]),
  (97, [true, true, true, true], [kx_0 (.aload_n 0) 1, kx_3 (.invokevirtual 28) 3 186 1 1]),
  (101, [true, true, true, true], [kx_0 (.aload_n 0) 1, kx_i (.iconst 1) 1 1, kx_i (.bipush 9) 2 9, kx_3 (.invokevirtual 66) 3 184 3 1]),
  (108, [true, true, true, true], [kx_1 (.istore 4) 2 4, kx_0 (.aload_n 0) 1, kx_i (.bipush 59) 2 59, kx_3 (.invokevirtual 74) 3 185 2 1]),
  (116, [true, true, true, true, true], [kx_1 (.aload_n 1) 1 1, kx_3 (.invokevirtual 98) 3 213 1 4]),
  (120, [true, true, true, true, true], [kx_1 (.iload_n 3) 1 3, kx_3 (.invokestatic 102) 3 172 2 0]),
  (124, [true, true, true, true, true], [kx_1 (.iload 4) 2 4, kx_1 (.if_icmp .ge 8) 3 134]),
  (129, [true, true, true, true, true], [kx_0 (.aload_n 0) 1, kx_1 (.iload_n 2) 1 2, kx_3 (.invokevirtual 62) 3 189 2 1]),
  (134, [true, true, false, true, true], [kx_0 (.aload_n 0) 1, kx_3 (.getfield 19) 3 1 2 0, kx_i (.iconst (-1)) 1 (-1), kx_1 (.if_icmp .ne 10) 3 149]),
  (142, [false, true, false, true, true], [kx_1 (.aload_n 1) 1 1, kx_1 (.iload_n 3) 1 3, kx_1 (.iload 4) 2 4, kx_3 (.invokevirtual 108) 3 225 3 4]),
  (149, [], [kx_0 (.return_) 1])])
/-- PalletNets$Reader.readArcs(I)J -/
def kp_183 : km_P := (7, false, [(0, [true, true], [kx_l (.lconst 0) 1 0, kx_1 (.lstore_n 2) 1 2, kx_0 (.aload_n 0) 1, kx_3 (.invokevirtual 28) 3 186 1 1]),
  (6, [true, true, true], [kx_i (.iconst 0) 1 0, kx_1 (.istore 4) 2 4]),
  (9, [true, true, true, false, true], [kx_1 (.iload 4) 2 4, kx_i (.bipush 120) 2 120, kx_1 (.if_icmp .ge 71) 3 84]),
  (16, [true, true, true, false, true], [kx_0 (.aload_n 0) 1, kx_3 (.getfield 19) 3 1 2 0, kx_i (.iconst (-1)) 1 (-1), kx_1 (.if_icmp .ne 63) 3 84]),
  (24, [true, true, true, false, true], [kx_0 (.aload_n 0) 1, kx_3 (.invokevirtual 35) 3 187 1 1]),
  (28, [true, true, true, false, true], [kx_3 (.invokestatic 70) 3 188 1 0]),
  (31, [true, true, true, false, true], [kx_1 (.ifCond .eq 53) 3 84]),
  (34, [true, true, true, false, true], [kx_0 (.aload_n 0) 1, kx_3 (.getfield 22) 3 1 3 0, kx_1 (.istore 5) 2 5, kx_0 (.aload_n 0) 1, kx_i (.iconst 0) 1 0, kx_1 (.iload_n 1) 1 1, kx_i (.iconst 1) 1 1, kx_0 (.isub) 1, kx_3 (.invokevirtual 66) 3 184 3 1]),
  (48, [true, true, true, false, true, true], [kx_1 (.istore 6) 2 6, kx_1 (.lload_n 2) 1 2, kx_1 (.iload 6) 2 6, kx_3 (.invokestatic 112) 3 170 2 0]),
  (56, [true, true, true, false, true, true, true], [kx_i (.iconst 2) 1 2, kx_1 (.if_icmp .lt 9) 3 66]),
  (60, [true, true, true, false, true, true, true], [kx_0 (.aload_n 0) 1, kx_1 (.iload 5) 2 5, kx_3 (.invokevirtual 62) 3 189 2 1]),
  (66, [true, true, true, false, true, false, true], [kx_1 (.lload_n 2) 1 2, kx_1 (.iload 6) 2 6, kx_3 (.invokestatic 115) 3 169 1 0]),
  (72, [true, true, false, false, true], [kx_0 (.ladd) 1, kx_1 (.lstore_n 2) 1 2, kx_0 (.aload_n 0) 1, kx_3 (.invokevirtual 28) 3 186 1 1]),
  (78, [true, true, true, false, true], [kx_n (.iinc 4 1) 3 4 1, kx_1 (.goto (-72)) 3 9]),
  (84, [false, false, true], [kx_1 (.lload_n 2) 1 2, kx_0 (.lreturn) 1])])
/-- PalletNets$Reader.readDigit(II)I -/
def kp_184 : km_P := (4, false, [(0, [true, true, true], [kx_0 (.aload_n 0) 1, kx_3 (.invokevirtual 35) 3 187 1 1]),
  (4, [true, true, true], [kx_i (.bipush 48) 2 48, kx_0 (.isub) 1, kx_1 (.istore_n 3) 1 3, kx_1 (.iload_n 3) 1 3, kx_1 (.iload_n 1) 1 1, kx_1 (.iload_n 2) 1 2, kx_3 (.invokestatic 118) 3 37 3 0]),
  (14, [true, false, false, true], [kx_1 (.ifCond .ne 13) 3 27]),
  (17, [true], [kx_0 (.aload_n 0) 1, kx_0 (.aload_n 0) 1, kx_3 (.getfield 22) 3 1 3 0, kx_3 (.invokevirtual 62) 3 189 2 1]),
  (25, [], [kx_i (.iconst 0) 1 0, kx_0 (.ireturn) 1]),
  (27, [true, false, false, true], [kx_0 (.aload_n 0) 1, kx_0 (.dup) 1, kx_3 (.getfield 22) 3 1 3 0, kx_i (.iconst 1) 1 1, kx_0 (.iadd) 1, kx_3 (.putfield 22) 3 1 3 0, kx_1 (.iload_n 3) 1 3, kx_0 (.ireturn) 1])])
/-- PalletNets$Reader.expect(I)V -/
def kp_185 : km_P := (2, false, [(0, [true, true], [kx_0 (.aload_n 0) 1, kx_3 (.invokevirtual 28) 3 186 1 1]),
  (4, [true, true], [kx_0 (.aload_n 0) 1, kx_3 (.invokevirtual 35) 3 187 1 1]),
  (8, [true, true], [kx_1 (.iload_n 1) 1 1, kx_1 (.if_icmp .ne 16) 3 25]),
  (12, [true], [kx_0 (.aload_n 0) 1, kx_0 (.dup) 1, kx_3 (.getfield 22) 3 1 3 0, kx_i (.iconst 1) 1 1, kx_0 (.iadd) 1, kx_3 (.putfield 22) 3 1 3 0, kx_1 (.goto 11) 3 33]),
  (25, [true], [kx_0 (.aload_n 0) 1, kx_0 (.aload_n 0) 1, kx_3 (.getfield 22) 3 1 3 0, kx_3 (.invokevirtual 62) 3 189 2 1]),
  (33, [], [kx_0 (.return_) 1])])
/-- PalletNets$Reader.skipSpaces()V -/
def kp_186 : km_P := (1, false, [(0, [true], [kx_0 (.aload_n 0) 1, kx_3 (.getfield 22) 3 1 3 0, kx_0 (.aload_n 0) 1, kx_3 (.getfield 15) 3 1 1 0, kx_1 (.if_icmp .ge 30) 3 38]),
  (11, [true], [kx_0 (.aload_n 0) 1, kx_3 (.getfield 9) 3 1 0 2, kx_0 (.aload_n 0) 1, kx_3 (.getfield 22) 3 1 3 0, kx_0 (.iaload) 1, kx_i (.bipush 32) 2 32, kx_1 (.if_icmp .ne 16) 3 38]),
  (25, [true], [kx_0 (.aload_n 0) 1, kx_0 (.dup) 1, kx_3 (.getfield 22) 3 1 3 0, kx_i (.iconst 1) 1 1, kx_0 (.iadd) 1, kx_3 (.putfield 22) 3 1 3 0, kx_1 (.goto (-35)) 3 0]),
  (38, [], [kx_0 (.return_) 1])])
/-- PalletNets$Reader.next()I -/
def kp_187 : km_P := (1, false, [(0, [true], [kx_0 (.aload_n 0) 1, kx_3 (.getfield 22) 3 1 3 0, kx_0 (.aload_n 0) 1, kx_3 (.getfield 15) 3 1 1 0, kx_1 (.if_icmp .ge 15) 3 23]),
  (11, [true], [kx_0 (.aload_n 0) 1, kx_3 (.getfield 9) 3 1 0 2, kx_0 (.aload_n 0) 1, kx_3 (.getfield 22) 3 1 3 0, kx_0 (.iaload) 1, kx_1 (.goto 4) 3 24]),
  (23, [], [kx_i (.iconst (-1)) 1 (-1)]),
  (24, [], [kx_0 (.ireturn) 1])])
/-- PalletNets$Reader.isDigit(I)Z -/
def kp_188 : km_P := (1, true, [(0, [true], [kx_0 (.iload_n 0) 1, kx_i (.bipush 48) 2 48, kx_i (.bipush 57) 2 57, kx_3 (.invokestatic 118) 3 37 3 0]),
  (8, [], [kx_0 (.ireturn) 1])])
/-- PalletNets$Reader.fail(I)V -/
def kp_189 : km_P := (2, false, [(0, [true, true], [kx_0 (.aload_n 0) 1, kx_3 (.getfield 19) 3 1 2 0, kx_i (.iconst (-1)) 1 (-1), kx_1 (.if_icmp .ne 8) 3 13]),
  (8, [true, true], [kx_0 (.aload_n 0) 1, kx_1 (.iload_n 1) 1 1, kx_3 (.putfield 19) 3 1 2 0]),
  (13, [], [kx_0 (.return_) 1])])
/-- PalletNets$Search.spread(LPalletNets$State;JIJ)V -/
def kp_190 : km_P := (11, false, [(0, [true, true, true, false, true, true], [kx_0 (.aload_n 0) 1, kx_3 (.getfield 29) 3 2 5 2, kx_i (.iconst (-1)) 1 (-1), kx_3 (.invokestatic 36) 3 233 2 0]),
  (8, [true, true, true, false, true, true], [kx_0 (.aload_n 0) 1, kx_i (.iconst 0) 1 0, kx_3 (.putfield 22) 3 2 3 0, kx_0 (.aload_n 0) 1, kx_i (.iconst 0) 1 0, kx_3 (.putfield 32) 3 2 6 3, kx_0 (.aload_n 0) 1, kx_1 (.lload_n 2) 1 2, kx_i (.iconst 0) 1 0, kx_3 (.invokevirtual 42) 3 191 3 2]),
  (24, [true, true, true, false, true, true], [kx_0 (.pop) 1, kx_1 (.lload_n 2) 1 2, kx_1 (.lload 5) 2 5, kx_0 (.lcmp) 1, kx_1 (.ifCond .ne 7) 3 36]),
  (32, [true, true, false, false, true, true], [kx_i (.iconst 1) 1 1, kx_1 (.goto 4) 3 37]),
  (36, [true, true, false, false, true, true], [kx_i (.iconst 0) 1 0]),
  (37, [true, true, false, false, true, true], [kx_1 (.istore 7) 2 7, kx_i (.iconst 0) 1 0, kx_1 (.istore 8) 2 8]),
  (42, [true, true, false, false, true, true, false, true, true], [kx_1 (.iload 8) 2 8, kx_i (.sipush 200) 3 200, kx_1 (.if_icmp .ge 140) 3 187]),
  (50, [true, true, false, false, true, true, false, true, true], [kx_1 (.iload 8) 2 8, kx_0 (.aload_n 0) 1, kx_3 (.getfield 22) 3 2 3 0, kx_1 (.if_icmp .ge 131) 3 187]),
  (59, [true, true, false, false, true, true, false, true, true], [kx_1 (.iload 7) 2 7, kx_1 (.ifCond .ne 126) 3 187]),
  (64, [true, true, false, false, true, true, false, false, true], [kx_i (.iconst 0) 1 0, kx_1 (.istore 9) 2 9]),
  (67, [true, true, false, false, true, true, false, false, true, true], [kx_1 (.iload 9) 2 9, kx_1 (.aload_n 1) 1 1, kx_3 (.getfield 46) 3 4 1 0, kx_1 (.if_icmp .ge 82) 3 155]),
  (76, [true, true, false, false, true, true, false, false, true, true], [kx_1 (.aload_n 1) 1 1, kx_0 (.aload_n 0) 1, kx_3 (.getfield 9) 3 2 0 2, kx_1 (.iload 8) 2 8, kx_0 (.laload) 1, kx_1 (.iload 9) 2 9, kx_1 (.iload 4) 2 4, kx_3 (.invokevirtual 51) 3 229 4 4]),
  (91, [true, true, false, false, true, true, false, false, true, true], [kx_1 (.ifCond .ne 7) 3 98]),
  (94, [true, true, false, false, true, true, false, false, true, true], [kx_i (.iconst 1) 1 1, kx_1 (.goto 4) 3 99]),
  (98, [true, true, false, false, true, true, false, false, true, true], [kx_i (.iconst 0) 1 0]),
  (99, [true, true, false, false, true, true, false, false, true, true], [kx_1 (.istore 10) 2 10, kx_0 (.aload_n 0) 1, kx_3 (.getfield 26) 3 2 4 2, kx_1 (.iload 8) 2 8, kx_i (.bipush 8) 2 8, kx_0 (.imul) 1, kx_1 (.iload 9) 2 9, kx_0 (.iadd) 1, kx_1 (.iload 10) 2 10, kx_1 (.ifCond .eq 32) 3 147]),
  (118, [true, true, false, false, true, true, false, false, true, true], [kx_0 (.aload_n 0) 1, kx_1 (.aload_n 1) 1 1, kx_0 (.aload_n 0) 1, kx_3 (.getfield 9) 3 2 0 2, kx_1 (.iload 8) 2 8, kx_0 (.laload) 1, kx_1 (.iload 9) 2 9, kx_3 (.invokevirtual 55) 3 228 3 4]),
  (132, [true, true, false, false, true, true, false, false, true, true], [kx_0 (.aload_n 0) 1, kx_3 (.getfield 15) 3 2 1 2, kx_1 (.iload 8) 2 8, kx_0 (.iaload) 1, kx_i (.iconst 1) 1 1, kx_0 (.iadd) 1, kx_3 (.invokevirtual 42) 3 191 3 2]),
  (144, [true, true, false, false, true, true, false, false, true, true], [kx_1 (.goto 4) 3 148]),
  (147, [true, true, false, false, true, true, false, false, true, true], [kx_i (.iconst (-1)) 1 (-1)]),
  (148, [true, true, false, false, true, true, false, false, true, true], [kx_0 (.iastore) 1, kx_n (.iinc 9 1) 3 9 1, kx_1 (.goto (-85)) 3 67]),
  (155, [true, true, false, false, true, true, false, false, true], [kx_1 (.lload 5) 2 5, kx_l (.ldc2_w 59) 3 (-1), kx_0 (.lcmp) 1, kx_1 (.ifCond .eq 17) 3 178]),
  (164, [true, true, false, false, true, true, false, false, true], [kx_0 (.aload_n 0) 1, kx_1 (.lload 5) 2 5, kx_3 (.invokevirtual 61) 3 193 2 2]),
  (170, [true, true, false, false, true, true, false, false, true], [kx_i (.iconst (-1)) 1 (-1), kx_1 (.if_icmp .eq 7) 3 178]),
  (174, [true, true, false, false, true, true, false, false, true], [kx_i (.iconst 1) 1 1, kx_1 (.goto 4) 3 179]),
  (178, [true, true, false, false, true, true, false, false, true], [kx_i (.iconst 0) 1 0]),
  (179, [true, true, false, false, true, true, false, false, true], [kx_1 (.istore 7) 2 7, kx_n (.iinc 8 1) 3 8 1, kx_1 (.goto (-142)) 3 42]),
  (187, [], [kx_0 (.return_) 1])])
/-- PalletNets$Search.enter(JI)I -/
def kp_191 : km_P := (5, false, [(0, [true, true, false, true], [kx_0 (.aload_n 0) 1, kx_1 (.lload_n 1) 1 1, kx_3 (.invokevirtual 65) 3 192 2 2]),
  (5, [true, true, false, true], [kx_1 (.istore 4) 2 4, kx_0 (.aload_n 0) 1, kx_3 (.getfield 29) 3 2 5 2, kx_1 (.iload 4) 2 4, kx_0 (.iaload) 1, kx_i (.iconst (-1)) 1 (-1), kx_1 (.if_icmp .eq 11) 3 26]),
  (18, [true, false, false, false, true], [kx_0 (.aload_n 0) 1, kx_3 (.getfield 29) 3 2 5 2, kx_1 (.iload 4) 2 4, kx_0 (.iaload) 1, kx_0 (.ireturn) 1]),
  (26, [true, true, false, true, true], [kx_0 (.aload_n 0) 1, kx_3 (.getfield 22) 3 2 3 0, kx_i (.sipush 200) 3 200, kx_1 (.if_icmp .lt 6) 3 39]),
  (36, [], [kx_i (.bipush (-2)) 2 (-2), kx_0 (.ireturn) 1]),
  (39, [true, true, false, true, true], [kx_0 (.aload_n 0) 1, kx_3 (.getfield 9) 3 2 0 2, kx_0 (.aload_n 0) 1, kx_3 (.getfield 22) 3 2 3 0, kx_1 (.lload_n 1) 1 1, kx_0 (.lastore) 1, kx_0 (.aload_n 0) 1, kx_3 (.getfield 15) 3 2 1 2, kx_0 (.aload_n 0) 1, kx_3 (.getfield 22) 3 2 3 0, kx_1 (.iload_n 3) 1 3, kx_0 (.iastore) 1, kx_0 (.aload_n 0) 1, kx_3 (.getfield 29) 3 2 5 2, kx_1 (.iload 4) 2 4, kx_0 (.aload_n 0) 1, kx_3 (.getfield 22) 3 2 3 0, kx_0 (.iastore) 1, kx_0 (.aload_n 0) 1, kx_0 (.dup) 1, kx_3 (.getfield 22) 3 2 3 0, kx_i (.iconst 1) 1 1, kx_0 (.iadd) 1, kx_3 (.putfield 22) 3 2 3 0, kx_0 (.aload_n 0) 1, kx_3 (.getfield 22) 3 2 3 0, kx_i (.iconst 1) 1 1, kx_0 (.isub) 1, kx_0 (.ireturn) 1])])
/-- PalletNets$Search.slotOf(J)I -/
def kp_192 : km_P := (5, false, [(0, [true, true], [kx_1 (.lload_n 1) 1 1, kx_l (.ldc2_w 68) 3 (-7046029254386353131), kx_0 (.lmul) 1, kx_i (.bipush 55) 2 55, kx_0 (.lushr) 1, kx_0 (.l2i) 1, kx_1 (.istore_n 3) 1 3, kx_i (.iconst 0) 1 0, kx_1 (.istore 4) 2 4]),
  (13, [true, true, false, true, true], [kx_1 (.iload 4) 2 4, kx_i (.sipush 512) 3 512, kx_1 (.if_icmp .ge 43) 3 61]),
  (21, [true, true, false, true, true], [kx_0 (.aload_n 0) 1, kx_3 (.getfield 29) 3 2 5 2, kx_1 (.iload_n 3) 1 3, kx_0 (.iaload) 1, kx_i (.iconst (-1)) 1 (-1), kx_1 (.if_icmp .eq 33) 3 61]),
  (31, [true, true, false, true, true], [kx_0 (.aload_n 0) 1, kx_3 (.getfield 9) 3 2 0 2, kx_0 (.aload_n 0) 1, kx_3 (.getfield 29) 3 2 5 2, kx_1 (.iload_n 3) 1 3, kx_0 (.iaload) 1, kx_0 (.laload) 1, kx_1 (.lload_n 1) 1 1, kx_0 (.lcmp) 1, kx_1 (.ifCond .eq 17) 3 61]),
  (47, [true, true, false, true, true], [kx_1 (.iload_n 3) 1 3, kx_i (.iconst 1) 1 1, kx_0 (.iadd) 1, kx_i (.sipush 512) 3 512, kx_0 (.irem) 1, kx_1 (.istore_n 3) 1 3, kx_n (.iinc 4 1) 3 4 1, kx_1 (.goto (-45)) 3 13]),
  (61, [false, false, false, true], [kx_1 (.iload_n 3) 1 3, kx_0 (.ireturn) 1])])
/-- PalletNets$Search.indexOf(J)I -/
def kp_193 : km_P := (3, false, [(0, [true, true], [kx_0 (.aload_n 0) 1, kx_3 (.getfield 29) 3 2 5 2, kx_0 (.aload_n 0) 1, kx_1 (.lload_n 1) 1 1, kx_3 (.invokevirtual 65) 3 192 2 2]),
  (9, [], [kx_0 (.iaload) 1, kx_0 (.ireturn) 1])])
/-- PalletNets$Search.mostIn(I)I -/
def kp_194 : km_P := (4, false, [(0, [true, true], [kx_i (.iconst 0) 1 0, kx_1 (.istore_n 2) 1 2, kx_i (.iconst 0) 1 0, kx_1 (.istore_n 3) 1 3]),
  (4, [true, true, true, true], [kx_1 (.iload_n 3) 1 3, kx_0 (.aload_n 0) 1, kx_3 (.getfield 22) 3 2 3 0, kx_1 (.if_icmp .ge 24) 3 33]),
  (12, [true, true, true, true], [kx_1 (.iload_n 2) 1 2, kx_0 (.aload_n 0) 1, kx_3 (.getfield 9) 3 2 0 2, kx_1 (.iload_n 3) 1 3, kx_0 (.laload) 1, kx_1 (.iload_n 1) 1 1, kx_3 (.invokestatic 70) 3 172 2 0]),
  (23, [true, true, false, true], [kx_3 (.invokestatic 75) 3 0 0 20, kx_1 (.istore_n 2) 1 2, kx_n (.iinc 3 1) 3 3 1, kx_1 (.goto (-26)) 3 4]),
  (33, [false, false, true], [kx_1 (.iload_n 2) 1 2, kx_0 (.ireturn) 1])])
/-- PalletNets$Search.leastIn(I)I -/
def kp_195 : km_P := (4, false, [(0, [true, true], [kx_0 (.aload_n 0) 1, kx_3 (.getfield 9) 3 2 0 2, kx_i (.iconst 0) 1 0, kx_0 (.laload) 1, kx_1 (.iload_n 1) 1 1, kx_3 (.invokestatic 70) 3 172 2 0]),
  (10, [true, true], [kx_1 (.istore_n 2) 1 2, kx_i (.iconst 1) 1 1, kx_1 (.istore_n 3) 1 3]),
  (13, [true, true, true, true], [kx_1 (.iload_n 3) 1 3, kx_0 (.aload_n 0) 1, kx_3 (.getfield 22) 3 2 3 0, kx_1 (.if_icmp .ge 24) 3 42]),
  (21, [true, true, true, true], [kx_1 (.iload_n 2) 1 2, kx_0 (.aload_n 0) 1, kx_3 (.getfield 9) 3 2 0 2, kx_1 (.iload_n 3) 1 3, kx_0 (.laload) 1, kx_1 (.iload_n 1) 1 1, kx_3 (.invokestatic 70) 3 172 2 0]),
  (32, [true, true, false, true], [kx_3 (.invokestatic 81) 3 0 0 21, kx_1 (.istore_n 2) 1 2, kx_n (.iinc 3 1) 3 3 1, kx_1 (.goto (-26)) 3 13]),
  (42, [false, false, true], [kx_1 (.iload_n 2) 1 2, kx_0 (.ireturn) 1])])
/-- PalletNets$Search.ableSteps(II)I -/
def kp_196 : km_P := (5, false, [(0, [true, true, true], [kx_i (.iconst 0) 1 0, kx_1 (.istore_n 3) 1 3, kx_i (.iconst 0) 1 0, kx_1 (.istore 4) 2 4]),
  (5, [true, true, true, true, true], [kx_1 (.iload 4) 2 4, kx_1 (.iload_n 2) 1 2, kx_1 (.if_icmp .ge 32) 3 40]),
  (11, [true, true, true, true, true], [kx_0 (.aload_n 0) 1, kx_3 (.getfield 26) 3 2 4 2, kx_1 (.iload_n 1) 1 1, kx_i (.bipush 8) 2 8, kx_0 (.imul) 1, kx_1 (.iload 4) 2 4, kx_0 (.iadd) 1, kx_0 (.iaload) 1, kx_i (.iconst (-1)) 1 (-1), kx_1 (.if_icmp .eq 10) 3 34]),
  (27, [true, true, true, true, true], [kx_1 (.iload_n 3) 1 3, kx_i (.iconst 1) 1 1, kx_1 (.iload 4) 2 4, kx_0 (.ishl) 1, kx_0 (.ior) 1, kx_1 (.istore_n 3) 1 3]),
  (34, [true, true, true, true, true], [kx_n (.iinc 4 1) 3 4 1, kx_1 (.goto (-32)) 3 5]),
  (40, [false, false, false, true], [kx_1 (.iload_n 3) 1 3, kx_0 (.ireturn) 1])])
/-- PalletNets$Search.liveSteps(I)I -/
def kp_197 : km_P := (4, false, [(0, [true, true], [kx_i (.iconst 0) 1 0, kx_1 (.istore_n 2) 1 2, kx_i (.iconst 0) 1 0, kx_1 (.istore_n 3) 1 3]),
  (4, [true, true, true, true], [kx_1 (.iload_n 3) 1 3, kx_0 (.aload_n 0) 1, kx_3 (.getfield 22) 3 2 3 0, kx_1 (.if_icmp .ge 18) 3 27]),
  (12, [true, true, true, true], [kx_1 (.iload_n 2) 1 2, kx_0 (.aload_n 0) 1, kx_1 (.iload_n 3) 1 3, kx_1 (.iload_n 1) 1 1, kx_3 (.invokevirtual 84) 3 196 3 2]),
  (19, [true, true, false, true], [kx_0 (.ior) 1, kx_1 (.istore_n 2) 1 2, kx_n (.iinc 3 1) 3 3 1, kx_1 (.goto (-20)) 3 4]),
  (27, [false, false, true], [kx_1 (.iload_n 2) 1 2, kx_0 (.ireturn) 1])])
/-- PalletNets$Search.deadlocks(I)I -/
def kp_198 : km_P := (4, false, [(0, [true, true], [kx_i (.iconst 0) 1 0, kx_1 (.istore_n 2) 1 2, kx_i (.iconst 0) 1 0, kx_1 (.istore_n 3) 1 3]),
  (4, [true, true, true, true], [kx_1 (.iload_n 3) 1 3, kx_0 (.aload_n 0) 1, kx_3 (.getfield 22) 3 2 3 0, kx_1 (.if_icmp .ge 21) 3 30]),
  (12, [true, true, true, true], [kx_0 (.aload_n 0) 1, kx_1 (.iload_n 3) 1 3, kx_1 (.iload_n 1) 1 1, kx_3 (.invokevirtual 84) 3 196 3 2]),
  (18, [true, true, true, true], [kx_1 (.ifCond .ne 6) 3 24]),
  (21, [true, true, true, true], [kx_n (.iinc 2 1) 3 2 1]),
  (24, [true, true, true, true], [kx_n (.iinc 3 1) 3 3 1, kx_1 (.goto (-23)) 3 4]),
  (30, [false, false, true], [kx_1 (.iload_n 2) 1 2, kx_0 (.ireturn) 1])])
/-- PalletNets$Search.isComplete(I)Z -/
def kp_199 : km_P := (4, true, [(0, [true, true], [kx_i (.iconst 0) 1 0, kx_1 (.istore_n 2) 1 2]),
  (2, [true, true, true], [kx_1 (.iload_n 2) 1 2, kx_0 (.aload_n 0) 1, kx_3 (.getfield 22) 3 2 3 0, kx_1 (.if_icmp .ge 40) 3 47]),
  (10, [true, true, true], [kx_i (.iconst 0) 1 0, kx_1 (.istore_n 3) 1 3]),
  (12, [true, true, true, true], [kx_1 (.iload_n 3) 1 3, kx_1 (.iload_n 1) 1 1, kx_1 (.if_icmp .ge 27) 3 41]),
  (17, [true, true, true, true], [kx_0 (.aload_n 0) 1, kx_3 (.getfield 26) 3 2 4 2, kx_1 (.iload_n 2) 1 2, kx_i (.bipush 8) 2 8, kx_0 (.imul) 1, kx_1 (.iload_n 3) 1 3, kx_0 (.iadd) 1, kx_0 (.iaload) 1, kx_i (.bipush (-2)) 2 (-2), kx_1 (.if_icmp .ne 5) 3 35]),
  (33, [], [kx_i (.iconst 0) 1 0, kx_0 (.ireturn) 1]),
  (35, [true, true, true, true], [kx_n (.iinc 3 1) 3 3 1, kx_1 (.goto (-26)) 3 12]),
  (41, [true, true, true], [kx_n (.iinc 2 1) 3 2 1, kx_1 (.goto (-42)) 3 2]),
  (47, [], [kx_i (.iconst 1) 1 1, kx_0 (.ireturn) 1])])
/-- PalletNets$Search.measure(LPalletNets$State;I)V -/
def kp_200 : km_P := (6, false, [(0, [true, true, true], [kx_0 (.aload_n 0) 1, kx_3 (.getfield 32) 3 2 6 3, kx_1 (.ifCond .eq 4) 3 8]),
  (7, [], [kx_0 (.return_) 1]),
  (8, [true, true, true], [kx_0 (.aload_n 0) 1, kx_i (.iconst 1) 1 1, kx_3 (.putfield 32) 3 2 6 3, kx_0 (.aload_n 0) 1, kx_3 (.getfield 19) 3 2 2 2, kx_i (.iconst (-1)) 1 (-1), kx_3 (.invokestatic 36) 3 233 2 0]),
  (21, [true, true, true], [kx_1 (.iload_n 2) 1 2, kx_i (.iconst (-1)) 1 (-1), kx_1 (.if_icmp .ne 4) 3 27]),
  (26, [], [kx_0 (.return_) 1]),
  (27, [true, true, true], [kx_0 (.aload_n 0) 1, kx_3 (.getfield 19) 3 2 2 2, kx_1 (.iload_n 2) 1 2, kx_i (.iconst 0) 1 0, kx_0 (.iastore) 1, kx_i (.iconst 1) 1 1, kx_1 (.istore_n 3) 1 3, kx_i (.iconst 0) 1 0, kx_1 (.istore 4) 2 4]),
  (39, [true, true, false, true, true], [kx_1 (.iload 4) 2 4, kx_i (.sipush 200) 3 200, kx_1 (.if_icmp .ge 44) 3 88]),
  (47, [true, true, false, true, true], [kx_1 (.iload_n 3) 1 3, kx_1 (.ifCond .eq 40) 3 88]),
  (51, [true, true, false, false, true], [kx_i (.iconst 0) 1 0, kx_1 (.istore_n 3) 1 3, kx_0 (.aload_n 0) 1, kx_3 (.getfield 22) 3 2 3 0, kx_i (.iconst 1) 1 1, kx_0 (.isub) 1, kx_1 (.istore 5) 2 5]),
  (61, [true, true, false, true, true, true], [kx_1 (.iload 5) 2 5, kx_1 (.ifCond .lt 19) 3 82]),
  (66, [true, true, false, true, true, true], [kx_1 (.iload_n 3) 1 3, kx_0 (.aload_n 0) 1, kx_1 (.aload_n 1) 1 1, kx_1 (.iload 5) 2 5, kx_3 (.invokevirtual 87) 3 201 3 2]),
  (74, [true, true, false, false, true, true], [kx_0 (.ior) 1, kx_1 (.istore_n 3) 1 3, kx_n (.iinc 5 (-1)) 3 5 (-1), kx_1 (.goto (-18)) 3 61]),
  (82, [true, true, false, true, true], [kx_n (.iinc 4 1) 3 4 1, kx_1 (.goto (-46)) 3 39]),
  (88, [], [kx_0 (.return_) 1])])
/-- PalletNets$Search.shorten(LPalletNets$State;I)Z -/
def kp_201 : km_P := (6, true, [(0, [true, true, true], [kx_i (.iconst 0) 1 0, kx_1 (.istore_n 3) 1 3, kx_i (.iconst 0) 1 0, kx_1 (.istore 4) 2 4]),
  (5, [true, true, true, true, true], [kx_1 (.iload 4) 2 4, kx_1 (.aload_n 1) 1 1, kx_3 (.getfield 46) 3 4 1 0, kx_1 (.if_icmp .ge 56) 3 67]),
  (14, [true, true, true, true, true], [kx_0 (.aload_n 0) 1, kx_1 (.aload_n 1) 1 1, kx_1 (.iload_n 2) 1 2, kx_1 (.iload 4) 2 4, kx_3 (.invokevirtual 91) 3 202 4 2]),
  (22, [true, true, true, true, true], [kx_1 (.istore 5) 2 5, kx_1 (.iload 5) 2 5, kx_i (.iconst (-1)) 1 (-1), kx_1 (.if_icmp .eq 34) 3 61]),
  (30, [true, true, true, true, true, true], [kx_0 (.aload_n 0) 1, kx_3 (.getfield 19) 3 2 2 2, kx_1 (.iload_n 2) 1 2, kx_0 (.iaload) 1, kx_i (.iconst (-1)) 1 (-1), kx_1 (.if_icmp .eq 14) 3 51]),
  (40, [true, true, true, true, true, true], [kx_1 (.iload 5) 2 5, kx_0 (.aload_n 0) 1, kx_3 (.getfield 19) 3 2 2 2, kx_1 (.iload_n 2) 1 2, kx_0 (.iaload) 1, kx_1 (.if_icmp .ge 13) 3 61]),
  (51, [true, true, true, false, true, true], [kx_0 (.aload_n 0) 1, kx_3 (.getfield 19) 3 2 2 2, kx_1 (.iload_n 2) 1 2, kx_1 (.iload 5) 2 5, kx_0 (.iastore) 1, kx_i (.iconst 1) 1 1, kx_1 (.istore_n 3) 1 3]),
  (61, [true, true, true, true, true], [kx_n (.iinc 4 1) 3 4 1, kx_1 (.goto (-59)) 3 5]),
  (67, [false, false, false, true], [kx_1 (.iload_n 3) 1 3, kx_0 (.ireturn) 1])])
/-- PalletNets$Search.wayOver(LPalletNets$State;II)I -/
def kp_202 : km_P := (5, false, [(0, [true, true, true, true], [kx_0 (.aload_n 0) 1, kx_3 (.getfield 26) 3 2 4 2, kx_1 (.iload_n 2) 1 2, kx_i (.bipush 8) 2 8, kx_0 (.imul) 1, kx_1 (.iload_n 3) 1 3, kx_0 (.iadd) 1, kx_0 (.iaload) 1, kx_1 (.istore 4) 2 4, kx_1 (.iload 4) 2 4, kx_1 (.ifCond .lt 14) 3 29]),
  (18, [true, true, false, true, true], [kx_0 (.aload_n 0) 1, kx_3 (.getfield 19) 3 2 2 2, kx_1 (.iload 4) 2 4, kx_0 (.iaload) 1, kx_i (.iconst (-1)) 1 (-1), kx_1 (.if_icmp .ne 5) 3 31]),
  (29, [], [kx_i (.iconst (-1)) 1 (-1), kx_0 (.ireturn) 1]),
  (31, [true, true, false, true, true], [kx_0 (.aload_n 0) 1, kx_3 (.getfield 19) 3 2 2 2, kx_1 (.iload 4) 2 4, kx_0 (.iaload) 1, kx_1 (.aload_n 1) 1 1, kx_3 (.getfield 95) 3 4 9 2, kx_1 (.iload_n 3) 1 3, kx_0 (.iaload) 1, kx_i (.sipush 1000) 3 1000, kx_0 (.imul) 1, kx_0 (.iadd) 1, kx_i (.iconst 1) 1 1, kx_0 (.iadd) 1, kx_0 (.ireturn) 1])])
/-- PalletNets$Search.wayless()I -/
def kp_203 : km_P := (3, false, [(0, [true], [kx_i (.iconst 0) 1 0, kx_1 (.istore_n 1) 1 1, kx_i (.iconst 0) 1 0, kx_1 (.istore_n 2) 1 2]),
  (4, [true, true, true], [kx_1 (.iload_n 2) 1 2, kx_0 (.aload_n 0) 1, kx_3 (.getfield 22) 3 2 3 0, kx_1 (.if_icmp .ge 22) 3 31]),
  (12, [true, true, true], [kx_0 (.aload_n 0) 1, kx_3 (.getfield 19) 3 2 2 2, kx_1 (.iload_n 2) 1 2, kx_0 (.iaload) 1, kx_i (.iconst (-1)) 1 (-1), kx_1 (.if_icmp .ne 6) 3 25]),
  (22, [true, true, true], [kx_n (.iinc 1 1) 3 1 1]),
  (25, [true, true, true], [kx_n (.iinc 2 1) 3 2 1, kx_1 (.goto (-24)) 3 4]),
  (31, [false, true], [kx_1 (.iload_n 1) 1 1, kx_0 (.ireturn) 1])])
/-- PalletNets$Search.firstStep(LPalletNets$State;)I -/
def kp_204 : km_P := (3, false, [(0, [true, true], [kx_0 (.aload_n 0) 1, kx_3 (.getfield 19) 3 2 2 2, kx_i (.iconst 0) 1 0, kx_0 (.iaload) 1, kx_1 (.ifCond .ne 5) 3 11]),
  (9, [], [kx_i (.iconst (-1)) 1 (-1), kx_0 (.ireturn) 1]),
  (11, [true, true], [kx_i (.iconst 0) 1 0, kx_1 (.istore_n 2) 1 2]),
  (13, [true, true, true], [kx_1 (.iload_n 2) 1 2, kx_1 (.aload_n 1) 1 1, kx_3 (.getfield 46) 3 4 1 0, kx_1 (.if_icmp .ge 27) 3 45]),
  (21, [true, true, true], [kx_0 (.aload_n 0) 1, kx_1 (.aload_n 1) 1 1, kx_i (.iconst 0) 1 0, kx_1 (.iload_n 2) 1 2, kx_3 (.invokevirtual 91) 3 202 4 2]),
  (28, [true, true, true], [kx_0 (.aload_n 0) 1, kx_3 (.getfield 19) 3 2 2 2, kx_i (.iconst 0) 1 0, kx_0 (.iaload) 1, kx_1 (.if_icmp .ne 5) 3 39]),
  (37, [false, false, true], [kx_1 (.iload_n 2) 1 2, kx_0 (.ireturn) 1]),
  (39, [true, true, true], [kx_n (.iinc 2 1) 3 2 1, kx_1 (.goto (-29)) 3 13]),
  (45, [], [kx_i (.iconst (-1)) 1 (-1), kx_0 (.ireturn) 1])])
/-- PalletNets$Siphons.findAll(LPalletNets$State;)V -/
def kp_205 : km_P := (4, false, [(0, [true, true], [kx_0 (.aload_n 0) 1, kx_1 (.aload_n 1) 1 1, kx_3 (.getfield 31) 3 4 1 0, kx_3 (.putfield 22) 3 3 3 0, kx_i (.iconst 0) 1 0, kx_1 (.istore_n 2) 1 2]),
  (10, [true, true, true], [kx_1 (.iload_n 2) 1 2, kx_0 (.aload_n 0) 1, kx_3 (.getfield 22) 3 3 3 0, kx_1 (.if_icmp .ge 39) 3 54]),
  (18, [true, true, true], [kx_0 (.aload_n 0) 1, kx_3 (.getfield 25) 3 3 4 2, kx_1 (.iload_n 2) 1 2, kx_1 (.aload_n 1) 1 1, kx_3 (.getfield 34) 3 4 7 2, kx_1 (.iload_n 2) 1 2, kx_0 (.laload) 1, kx_3 (.invokestatic 38) 3 175 1 0]),
  (32, [true, true, true], [kx_0 (.iastore) 1, kx_0 (.aload_n 0) 1, kx_3 (.getfield 28) 3 3 5 2, kx_1 (.iload_n 2) 1 2, kx_1 (.aload_n 1) 1 1, kx_3 (.getfield 44) 3 4 8 2, kx_1 (.iload_n 2) 1 2, kx_0 (.laload) 1, kx_3 (.invokestatic 38) 3 175 1 0]),
  (47, [true, true, true], [kx_0 (.iastore) 1, kx_n (.iinc 2 1) 3 2 1, kx_1 (.goto (-41)) 3 10]),
  (54, [true, true], [kx_1 (.aload_n 1) 1 1, kx_3 (.invokevirtual 47) 3 212 1 4]),
  (58, [true], [kx_1 (.istore_n 2) 1 2, kx_0 (.aload_n 0) 1, kx_i (.iconst 0) 1 0, kx_1 (.putfield 9) 3 3, kx_i (.iconst 1) 1 1, kx_1 (.istore_n 3) 1 3]),
  (66, [true, false, true, true], [kx_1 (.iload_n 3) 1 3, kx_1 (.iload_n 2) 1 2, kx_1 (.if_icmp .gt 55) 3 123]),
  (71, [true, false, true, true], [kx_0 (.aload_n 0) 1, kx_1 (.iload_n 3) 1 3, kx_3 (.invokevirtual 51) 3 208 2 3]),
  (76, [true, false, true, true], [kx_1 (.ifCond .eq 41) 3 117]),
  (79, [true, false, true, true], [kx_0 (.aload_n 0) 1, kx_1 (.iload_n 3) 1 3, kx_3 (.invokevirtual 55) 3 206 2 3]),
  (84, [true, false, true, true], [kx_1 (.ifCond .ne 33) 3 117]),
  (87, [true, false, true, true], [kx_0 (.aload_n 0) 1, kx_1 (.getfield 9) 3 3, kx_i (.sipush 252) 3 252, kx_1 (.if_icmp .ge 23) 3 117]),
  (97, [true, false, true, true], [kx_0 (.aload_n 0) 1, kx_3 (.getfield 19) 3 3 2 2, kx_0 (.aload_n 0) 1, kx_1 (.getfield 9) 3 3, kx_1 (.iload_n 3) 1 3, kx_0 (.iastore) 1, kx_0 (.aload_n 0) 1, kx_0 (.dup) 1, kx_1 (.getfield 9) 3 3, kx_i (.iconst 1) 1 1, kx_0 (.iadd) 1, kx_1 (.putfield 9) 3 3]),
  (117, [true, false, true, true], [kx_n (.iinc 3 1) 3 3 1, kx_1 (.goto (-54)) 3 66]),
  (123, [true], [kx_0 (.aload_n 0) 1, kx_3 (.invokevirtual 58) 3 207 1 3]),
  (127, [], [kx_0 (.return_) 1])])
/-- PalletNets$Siphons.holdsFormer(I)Z -/
def kp_206 : km_P := (3, true, [(0, [true, true], [kx_i (.iconst 0) 1 0, kx_1 (.istore_n 2) 1 2]),
  (2, [true, true, true], [kx_1 (.iload_n 2) 1 2, kx_0 (.aload_n 0) 1, kx_1 (.getfield 9) 3 3, kx_1 (.if_icmp .ge 24) 3 31]),
  (10, [true, true, true], [kx_0 (.aload_n 0) 1, kx_3 (.getfield 19) 3 3 2 2, kx_1 (.iload_n 2) 1 2, kx_0 (.iaload) 1, kx_1 (.iload_n 1) 1 1, kx_i (.iconst (-1)) 1 (-1), kx_0 (.ixor) 1, kx_0 (.iand) 1, kx_1 (.ifCond .ne 5) 3 25]),
  (23, [], [kx_i (.iconst 1) 1 1, kx_0 (.ireturn) 1]),
  (25, [true, true, true], [kx_n (.iinc 2 1) 3 2 1, kx_1 (.goto (-26)) 3 2]),
  (31, [], [kx_i (.iconst 0) 1 0, kx_0 (.ireturn) 1])])
/-- PalletNets$Siphons.orderBySize()V -/
def kp_207 : km_P := (4, false, [(0, [true], [kx_i (.iconst 0) 1 0, kx_1 (.istore_n 1) 1 1, kx_i (.iconst 1) 1 1, kx_1 (.istore_n 2) 1 2]),
  (4, [true, true, true], [kx_1 (.iload_n 2) 1 2, kx_i (.bipush 10) 2 10, kx_1 (.if_icmp .gt 53) 3 60]),
  (10, [true, true, true], [kx_i (.iconst 0) 1 0, kx_1 (.istore_n 3) 1 3]),
  (12, [true, true, true, true], [kx_1 (.iload_n 3) 1 3, kx_0 (.aload_n 0) 1, kx_1 (.getfield 9) 3 3, kx_1 (.if_icmp .ge 37) 3 54]),
  (20, [true, true, true, true], [kx_0 (.aload_n 0) 1, kx_3 (.getfield 19) 3 3 2 2, kx_1 (.iload_n 3) 1 3, kx_0 (.iaload) 1, kx_3 (.invokestatic 61) 3 232 1 0]),
  (29, [true, true, true, true], [kx_1 (.iload_n 2) 1 2, kx_1 (.if_icmp .ne 18) 3 48]),
  (33, [true, true, true, true], [kx_0 (.aload_n 0) 1, kx_3 (.getfield 15) 3 3 1 2, kx_1 (.iload_n 1) 1 1, kx_0 (.aload_n 0) 1, kx_3 (.getfield 19) 3 3 2 2, kx_1 (.iload_n 3) 1 3, kx_0 (.iaload) 1, kx_0 (.iastore) 1, kx_n (.iinc 1 1) 3 1 1]),
  (48, [true, true, true, true], [kx_n (.iinc 3 1) 3 3 1, kx_1 (.goto (-39)) 3 12]),
  (54, [true, true, true], [kx_n (.iinc 2 1) 3 2 1, kx_1 (.goto (-53)) 3 4]),
  (60, [], [kx_0 (.return_) 1])])
/-- PalletNets$Siphons.isSiphon(I)Z -/
def kp_208 : km_P := (3, true, [(0, [true, true], [kx_i (.iconst 0) 1 0, kx_1 (.istore_n 2) 1 2]),
  (2, [true, true, true], [kx_1 (.iload_n 2) 1 2, kx_0 (.aload_n 0) 1, kx_3 (.getfield 22) 3 3 3 0, kx_1 (.if_icmp .ge 33) 3 40]),
  (10, [true, true, true], [kx_0 (.aload_n 0) 1, kx_3 (.getfield 28) 3 3 5 2, kx_1 (.iload_n 2) 1 2, kx_0 (.iaload) 1, kx_1 (.iload_n 1) 1 1, kx_0 (.iand) 1, kx_1 (.ifCond .eq 16) 3 34]),
  (21, [true, true, true], [kx_0 (.aload_n 0) 1, kx_3 (.getfield 25) 3 3 4 2, kx_1 (.iload_n 2) 1 2, kx_0 (.iaload) 1, kx_1 (.iload_n 1) 1 1, kx_0 (.iand) 1, kx_1 (.ifCond .ne 5) 3 34]),
  (32, [], [kx_i (.iconst 0) 1 0, kx_0 (.ireturn) 1]),
  (34, [true, true, true], [kx_n (.iinc 2 1) 3 2 1, kx_1 (.goto (-35)) 3 2]),
  (40, [], [kx_i (.iconst 1) 1 1, kx_0 (.ireturn) 1])])
/-- PalletNets$Siphons.isTrap(I)Z -/
def kp_209 : km_P := (2, true, [(0, [true, true], [kx_0 (.aload_n 0) 1, kx_1 (.iload_n 1) 1 1, kx_3 (.invokevirtual 67) 3 210 2 3]),
  (5, [false, true], [kx_1 (.iload_n 1) 1 1, kx_1 (.if_icmp .ne 7) 3 13]),
  (9, [], [kx_i (.iconst 1) 1 1, kx_1 (.goto 4) 3 14]),
  (13, [], [kx_i (.iconst 0) 1 0]),
  (14, [], [kx_0 (.ireturn) 1])])
/-- PalletNets$Siphons.heldPart(I)I -/
def kp_210 : km_P := (5, false, [(0, [true, true], [kx_1 (.iload_n 1) 1 1, kx_1 (.istore_n 2) 1 2, kx_i (.iconst 0) 1 0, kx_1 (.istore_n 3) 1 3]),
  (4, [true, false, true, true], [kx_1 (.iload_n 3) 1 3, kx_i (.bipush 10) 2 10, kx_1 (.if_icmp .ge 63) 3 70]),
  (10, [true, false, true, true], [kx_i (.iconst 0) 1 0, kx_1 (.istore 4) 2 4]),
  (13, [true, false, true, true, true], [kx_1 (.iload 4) 2 4, kx_0 (.aload_n 0) 1, kx_3 (.getfield 22) 3 3 3 0, kx_1 (.if_icmp .ge 45) 3 64]),
  (22, [true, false, true, true, true], [kx_0 (.aload_n 0) 1, kx_3 (.getfield 25) 3 3 4 2, kx_1 (.iload 4) 2 4, kx_0 (.iaload) 1, kx_1 (.iload_n 2) 1 2, kx_0 (.iand) 1, kx_1 (.ifCond .eq 27) 3 58]),
  (34, [true, false, true, true, true], [kx_0 (.aload_n 0) 1, kx_3 (.getfield 28) 3 3 5 2, kx_1 (.iload 4) 2 4, kx_0 (.iaload) 1, kx_1 (.iload_n 2) 1 2, kx_0 (.iand) 1, kx_1 (.ifCond .ne 15) 3 58]),
  (46, [true, false, true, true, true], [kx_1 (.iload_n 2) 1 2, kx_0 (.aload_n 0) 1, kx_3 (.getfield 25) 3 3 4 2, kx_1 (.iload 4) 2 4, kx_0 (.iaload) 1, kx_i (.iconst (-1)) 1 (-1), kx_0 (.ixor) 1, kx_0 (.iand) 1, kx_1 (.istore_n 2) 1 2]),
  (58, [true, false, true, true, true], [kx_n (.iinc 4 1) 3 4 1, kx_1 (.goto (-48)) 3 13]),
  (64, [true, false, true, true], [kx_n (.iinc 3 1) 3 3 1, kx_1 (.goto (-63)) 3 4]),
  (70, [false, false, true], [kx_1 (.iload_n 2) 1 2, kx_0 (.ireturn) 1])])
/-- PalletNets$State.copyFrom(LPalletNets$State;)V -/
def kp_211 : km_P := (2, false, [(0, [true, true], [kx_0 (.aload_n 0) 1, kx_1 (.aload_n 1) 1 1, kx_1 (.getfield 9) 3 4, kx_1 (.putfield 9) 3 4, kx_0 (.aload_n 0) 1, kx_1 (.aload_n 1) 1 1, kx_3 (.getfield 15) 3 4 1 0, kx_3 (.putfield 15) 3 4 1 0, kx_0 (.aload_n 0) 1, kx_1 (.aload_n 1) 1 1, kx_3 (.getfield 18) 3 4 2 0, kx_3 (.putfield 18) 3 4 2 0, kx_0 (.aload_n 0) 1, kx_1 (.aload_n 1) 1 1, kx_3 (.getfield 21) 3 4 3 3, kx_3 (.putfield 21) 3 4 3 3, kx_0 (.aload_n 0) 1, kx_1 (.aload_n 1) 1 1, kx_3 (.getfield 25) 3 4 4 1, kx_3 (.putfield 25) 3 4 4 1, kx_0 (.aload_n 0) 1, kx_1 (.aload_n 1) 1 1, kx_3 (.getfield 29) 3 4 5 1, kx_3 (.putfield 29) 3 4 5 1, kx_0 (.aload_n 0) 1, kx_1 (.aload_n 1) 1 1, kx_3 (.getfield 32) 3 4 6 1, kx_3 (.putfield 32) 3 4 6 1, kx_1 (.aload_n 1) 1 1, kx_3 (.getfield 35) 3 4 7 2, kx_i (.iconst 0) 1 0, kx_0 (.aload_n 0) 1, kx_3 (.getfield 35) 3 4 7 2, kx_i (.iconst 0) 1 0, kx_i (.bipush 8) 2 8, kx_3 (.invokestatic 52) 3 0 0 11, kx_1 (.aload_n 1) 1 1, kx_3 (.getfield 39) 3 4 8 2, kx_i (.iconst 0) 1 0, kx_0 (.aload_n 0) 1, kx_3 (.getfield 39) 3 4 8 2, kx_i (.iconst 0) 1 0, kx_i (.bipush 8) 2 8, kx_3 (.invokestatic 52) 3 0 0 11, kx_1 (.aload_n 1) 1 1, kx_3 (.getfield 42) 3 4 9 2, kx_i (.iconst 0) 1 0, kx_0 (.aload_n 0) 1, kx_3 (.getfield 42) 3 4 9 2, kx_i (.iconst 0) 1 0, kx_i (.bipush 8) 2 8, kx_3 (.invokestatic 52) 3 0 0 10, kx_1 (.aload_n 1) 1 1, kx_3 (.getfield 46) 3 4 10 2, kx_i (.iconst 0) 1 0, kx_0 (.aload_n 0) 1, kx_3 (.getfield 46) 3 4 10 2, kx_i (.iconst 0) 1 0, kx_i (.iconst 5) 1 5, kx_3 (.invokestatic 52) 3 0 0 10, kx_1 (.aload_n 1) 1 1, kx_3 (.getfield 49) 3 4 11 2, kx_i (.iconst 0) 1 0, kx_0 (.aload_n 0) 1, kx_3 (.getfield 49) 3 4 11 2, kx_i (.iconst 0) 1 0, kx_i (.iconst 5) 1 5, kx_3 (.invokestatic 52) 3 0 0 10, kx_0 (.return_) 1])])
/-- PalletNets$State.allPlaces()I -/
def kp_212 : km_P := (1, false, [(0, [true], [kx_i (.iconst 1) 1 1, kx_0 (.aload_n 0) 1, kx_1 (.getfield 9) 3 4, kx_0 (.ishl) 1, kx_i (.iconst 1) 1 1, kx_0 (.isub) 1, kx_0 (.ireturn) 1])])
/-- PalletNets$State.homeMarking()J -/
def kp_213 : km_P := (1, false, [(0, [true], [kx_0 (.aload_n 0) 1, kx_3 (.getfield 25) 3 4 4 1, kx_0 (.aload_n 0) 1, kx_3 (.getfield 29) 3 4 5 1, kx_0 (.lsub) 1, kx_0 (.lreturn) 1])])
/-- PalletNets$State.renewRun()V -/
def kp_214 : km_P := (1, false, [(0, [true], [kx_0 (.aload_n 0) 1, kx_i (.iconst 0) 1 0, kx_3 (.putfield 18) 3 4 2 0, kx_0 (.aload_n 0) 1, kx_l (.lconst 0) 1 0, kx_3 (.putfield 29) 3 4 5 1, kx_0 (.aload_n 0) 1, kx_0 (.aload_n 0) 1, kx_3 (.getfield 25) 3 4 4 1, kx_3 (.putfield 32) 3 4 6 1, kx_0 (.return_) 1])])
/-- PalletNets$State.removeNet()V -/
def kp_215 : km_P := (1, false, [(0, [true], [kx_0 (.aload_n 0) 1, kx_i (.iconst 0) 1 0, kx_1 (.putfield 9) 3 4, kx_0 (.aload_n 0) 1, kx_i (.iconst 0) 1 0, kx_3 (.putfield 15) 3 4 1 0, kx_0 (.aload_n 0) 1, kx_l (.lconst 0) 1 0, kx_3 (.putfield 25) 3 4 4 1, kx_0 (.return_) 1])])
/-- PalletNets$State.addPlace(I)V -/
def kp_216 : km_P := (2, false, [(0, [true, true], [kx_0 (.aload_n 0) 1, kx_1 (.getfield 9) 3 4, kx_i (.bipush 10) 2 10, kx_1 (.if_icmp .ge 29) 3 35]),
  (9, [true, true], [kx_0 (.aload_n 0) 1, kx_0 (.aload_n 0) 1, kx_3 (.getfield 25) 3 4 4 1, kx_0 (.aload_n 0) 1, kx_1 (.getfield 9) 3 4, kx_1 (.iload_n 1) 1 1, kx_3 (.invokestatic 58) 3 171 3 0]),
  (22, [true], [kx_3 (.putfield 25) 3 4 4 1, kx_0 (.aload_n 0) 1, kx_0 (.dup) 1, kx_1 (.getfield 9) 3 4, kx_i (.iconst 1) 1 1, kx_0 (.iadd) 1, kx_1 (.putfield 9) 3 4]),
  (35, [], [kx_0 (.return_) 1])])
/-- PalletNets$State.addStep(IJJ)V -/
def kp_217 : km_P := (6, false, [(0, [true, true, true, false, true], [kx_0 (.aload_n 0) 1, kx_3 (.getfield 15) 3 4 1 0, kx_i (.bipush 8) 2 8, kx_1 (.if_icmp .ge 44) 3 50]),
  (9, [true, true, true, false, true], [kx_0 (.aload_n 0) 1, kx_3 (.getfield 42) 3 4 9 2, kx_0 (.aload_n 0) 1, kx_3 (.getfield 15) 3 4 1 0, kx_1 (.iload_n 1) 1 1, kx_0 (.iastore) 1, kx_0 (.aload_n 0) 1, kx_3 (.getfield 35) 3 4 7 2, kx_0 (.aload_n 0) 1, kx_3 (.getfield 15) 3 4 1 0, kx_1 (.lload_n 2) 1 2, kx_0 (.lastore) 1, kx_0 (.aload_n 0) 1, kx_3 (.getfield 39) 3 4 8 2, kx_0 (.aload_n 0) 1, kx_3 (.getfield 15) 3 4 1 0, kx_1 (.lload 4) 2 4, kx_0 (.lastore) 1, kx_0 (.aload_n 0) 1, kx_0 (.dup) 1, kx_3 (.getfield 15) 3 4 1 0, kx_i (.iconst 1) 1 1, kx_0 (.iadd) 1, kx_3 (.putfield 15) 3 4 1 0]),
  (50, [], [kx_0 (.return_) 1])])
/-- PalletNets$State.hasRoomForLine(I)Z -/
def kp_218 : km_P := (2, true, [(0, [true, true], [kx_0 (.aload_n 0) 1, kx_1 (.getfield 9) 3 4, kx_1 (.iload_n 1) 1 1, kx_0 (.iadd) 1, kx_i (.iconst 1) 1 1, kx_0 (.iadd) 1, kx_i (.bipush 10) 2 10, kx_1 (.if_icmp .gt 20) 3 30]),
  (13, [true, true], [kx_0 (.aload_n 0) 1, kx_3 (.getfield 15) 3 4 1 0, kx_1 (.iload_n 1) 1 1, kx_0 (.iadd) 1, kx_i (.iconst 1) 1 1, kx_0 (.iadd) 1, kx_i (.bipush 8) 2 8, kx_1 (.if_icmp .gt 7) 3 30]),
  (26, [], [kx_i (.iconst 1) 1 1, kx_1 (.goto 4) 3 31]),
  (30, [], [kx_i (.iconst 0) 1 0]),
  (31, [], [kx_0 (.ireturn) 1])])
/-- PalletNets$State.addLine(I[II)V -/
def kp_219 : km_P := (10, false, [(0, [true, true, true, true], [kx_0 (.aload_n 0) 1, kx_1 (.getfield 9) 3 4, kx_1 (.istore 4) 2 4, kx_0 (.aload_n 0) 1, kx_1 (.iload_n 1) 1 1, kx_3 (.invokevirtual 64) 3 216 2 4]),
  (11, [true, false, true, true, true], [kx_i (.iconst 0) 1 0, kx_1 (.istore 5) 2 5]),
  (14, [true, false, true, true, true, true], [kx_1 (.iload 5) 2 5, kx_1 (.iload_n 3) 1 3, kx_1 (.if_icmp .ge 14) 3 31]),
  (20, [true, false, true, true, true, true], [kx_0 (.aload_n 0) 1, kx_i (.iconst 0) 1 0, kx_3 (.invokevirtual 64) 3 216 2 4]),
  (25, [true, false, true, true, true, true], [kx_n (.iinc 5 1) 3 5 1, kx_1 (.goto (-14)) 3 14]),
  (31, [true, false, true, true, true], [kx_i (.iconst 0) 1 0, kx_1 (.istore 5) 2 5]),
  (34, [true, false, true, true, true, true], [kx_1 (.iload 5) 2 5, kx_1 (.iload_n 3) 1 3, kx_1 (.if_icmp .gt 88) 3 125]),
  (40, [true, false, true, true, true, true], [kx_1 (.iload 4) 2 4, kx_1 (.iload 5) 2 5, kx_0 (.iadd) 1, kx_3 (.invokestatic 68) 3 169 1 0]),
  (48, [true, false, true, true, true, true], [kx_1 (.lstore 6) 2 6, kx_1 (.iload 5) 2 5, kx_1 (.iload_n 3) 1 3, kx_1 (.if_icmp .ge 13) 3 66]),
  (56, [true, false, true, true, true, true, true], [kx_1 (.iload 4) 2 4, kx_1 (.iload 5) 2 5, kx_0 (.iadd) 1, kx_i (.iconst 1) 1 1, kx_0 (.iadd) 1, kx_1 (.goto 5) 3 68]),
  (66, [true, false, true, true, true, true, true], [kx_1 (.iload 4) 2 4]),
  (68, [true, false, true, true, true, true, true], [kx_3 (.invokestatic 68) 3 169 1 0]),
  (71, [true, false, true, true, true, true, true], [kx_1 (.lstore 8) 2 8, kx_1 (.iload 5) 2 5, kx_1 (.iload_n 3) 1 3, kx_1 (.if_icmp .ge 15) 3 91]),
  (79, [true, false, true, true, true, true, true, false, true], [kx_1 (.lload 6) 2 6, kx_1 (.aload_n 2) 1 2, kx_1 (.iload 5) 2 5, kx_0 (.iaload) 1, kx_3 (.invokestatic 68) 3 169 1 0]),
  (88, [true, false, true, true, true, true, false, false, true], [kx_0 (.ladd) 1, kx_1 (.lstore 6) 2 6]),
  (91, [true, false, true, true, true, true, true, false, true], [kx_1 (.iload 5) 2 5, kx_1 (.ifCond .le 17) 3 110]),
  (96, [true, false, true, true, true, true, true, false, true], [kx_1 (.lload 8) 2 8, kx_1 (.aload_n 2) 1 2, kx_1 (.iload 5) 2 5, kx_i (.iconst 1) 1 1, kx_0 (.isub) 1, kx_0 (.iaload) 1, kx_3 (.invokestatic 68) 3 169 1 0]),
  (107, [true, false, true, true, true, true, true], [kx_0 (.ladd) 1, kx_1 (.lstore 8) 2 8]),
  (110, [true, false, true, true, true, true, true, false, true], [kx_0 (.aload_n 0) 1, kx_i (.iconst 1) 1 1, kx_1 (.lload 6) 2 6, kx_1 (.lload 8) 2 8, kx_3 (.invokevirtual 72) 3 217 4 4]),
  (119, [true, false, true, true, true, true], [kx_n (.iinc 5 1) 3 5 1, kx_1 (.goto (-88)) 3 34]),
  (125, [], [kx_0 (.return_) 1])])
/-- PalletNets$State.drawNet(III)V -/
def kp_220 : km_P := (14, false, [(0, [true, true, true, true], [kx_0 (.aload_n 0) 1, kx_3 (.invokevirtual 76) 3 215 1 4]),
  (4, [true, true, true, true], [kx_1 (.iload_n 1) 1 1, kx_0 (.i2l) 1, kx_1 (.lstore 4) 2 4, kx_i (.iconst 0) 1 0, kx_1 (.istore 6) 2 6]),
  (11, [true, false, true, true, true, false, true], [kx_1 (.iload 6) 2 6, kx_1 (.iload_n 2) 1 2, kx_1 (.if_icmp .ge 26) 3 40]),
  (17, [true, false, true, true, true, false, true], [kx_1 (.lload 4) 2 4, kx_3 (.invokestatic 79) 3 221 1 0]),
  (22, [true, false, true, true, false, false, true], [kx_1 (.lstore 4) 2 4, kx_0 (.aload_n 0) 1, kx_1 (.lload 4) 2 4, kx_i (.iconst 3) 1 3, kx_3 (.invokestatic 83) 3 222 2 0]),
  (31, [true, false, true, true, true, false, true], [kx_3 (.invokevirtual 64) 3 216 2 4]),
  (34, [true, false, true, true, true, false, true], [kx_n (.iinc 6 1) 3 6 1, kx_1 (.goto (-26)) 3 11]),
  (40, [true, false, true, true, true], [kx_i (.iconst 0) 1 0, kx_1 (.istore 6) 2 6]),
  (43, [true, false, true, true, true, false, true], [kx_1 (.iload 6) 2 6, kx_1 (.iload_n 3) 1 3, kx_1 (.if_icmp .ge 106) 3 152]),
  (49, [true, false, true, true, true, false, true], [kx_1 (.lload 4) 2 4, kx_3 (.invokestatic 79) 3 221 1 0]),
  (54, [true, false, true, true, false, false, true], [kx_1 (.lstore 4) 2 4, kx_1 (.lload 4) 2 4, kx_i (.bipush 10) 2 10, kx_3 (.invokestatic 83) 3 222 2 0]),
  (63, [true, false, true, true, true, false, true], [kx_1 (.istore 7) 2 7, kx_l (.lconst 0) 1 0, kx_1 (.lstore 8) 2 8, kx_l (.lconst 0) 1 0, kx_1 (.lstore 10) 2 10, kx_i (.iconst 0) 1 0, kx_1 (.istore 12) 2 12]),
  (74, [true, false, true, true, true, false, true, true, true, false, true, false, true], [kx_1 (.iload 12) 2 12, kx_1 (.iload_n 2) 1 2, kx_1 (.if_icmp .ge 59) 3 136]),
  (80, [true, false, true, true, true, false, true, true, true, false, true, false, true], [kx_1 (.lload 4) 2 4, kx_3 (.invokestatic 79) 3 221 1 0]),
  (85, [true, false, true, true, false, false, true, true, true, false, true, false, true], [kx_1 (.lstore 4) 2 4, kx_1 (.lload 4) 2 4, kx_i (.bipush 9) 2 9, kx_3 (.invokestatic 83) 3 222 2 0]),
  (94, [true, false, true, true, true, false, true, true, true, false, true, false, true], [kx_1 (.istore 13) 2 13, kx_1 (.lload 8) 2 8, kx_1 (.iload 12) 2 12, kx_3 (.invokestatic 68) 3 169 1 0]),
  (103, [true, false, true, true, true, false, true, true, false, false, true, false, true, true], [kx_1 (.iload 13) 2 13, kx_3 (.invokestatic 87) 3 223 1 0]),
  (108, [true, false, true, true, true, false, true, true, false, false, true, false, true, true], [kx_0 (.i2l) 1, kx_0 (.lmul) 1, kx_0 (.ladd) 1, kx_1 (.lstore 8) 2 8, kx_1 (.lload 10) 2 10, kx_1 (.iload 12) 2 12, kx_3 (.invokestatic 68) 3 169 1 0]),
  (120, [true, false, true, true, true, false, true, true, true, false, false, false, true, true], [kx_1 (.iload 13) 2 13, kx_3 (.invokestatic 91) 3 224 1 0]),
  (125, [true, false, true, true, true, false, true, true, true, false, false, false, true], [kx_0 (.i2l) 1, kx_0 (.lmul) 1, kx_0 (.ladd) 1, kx_1 (.lstore 10) 2 10, kx_n (.iinc 12 1) 3 12 1, kx_1 (.goto (-59)) 3 74]),
  (136, [true, false, true, true, true, false, true, true, true, false, true], [kx_0 (.aload_n 0) 1, kx_1 (.iload 7) 2 7, kx_1 (.lload 8) 2 8, kx_1 (.lload 10) 2 10, kx_3 (.invokevirtual 72) 3 217 4 4]),
  (146, [true, false, true, true, true, false, true], [kx_n (.iinc 6 1) 3 6 1, kx_1 (.goto (-106)) 3 43]),
  (152, [], [kx_0 (.return_) 1])])
/-- PalletNets$State.follower(J)J -/
def kp_221 : km_P := (2, false, [(0, [true], [kx_l (.ldc2_w 94) 3 1103515245, kx_0 (.lload_n 0) 1, kx_0 (.lmul) 1, kx_l (.ldc2_w 96) 3 12345, kx_0 (.ladd) 1, kx_l (.ldc2_w 98) 3 2147483648, kx_0 (.lrem) 1, kx_0 (.lreturn) 1])])
/-- PalletNets$State.drawn(JI)I -/
def kp_222 : km_P := (3, false, [(0, [true, false, true], [kx_0 (.lload_n 0) 1, kx_l (.ldc2_w 100) 3 65536, kx_0 (.ldiv) 1, kx_1 (.iload_n 2) 1 2, kx_0 (.i2l) 1, kx_0 (.lrem) 1, kx_0 (.l2i) 1, kx_0 (.ireturn) 1])])
/-- PalletNets$State.drawnTakes(I)I -/
def kp_223 : km_P := (1, false, [(0, [true], [kx_0 (.iload_n 0) 1, kx_s (.tableswitch 41 0 4 #[35, 37, 41, 41, 39]) 35 42 [(0, 36), (1, 38), (2, 42), (3, 42), (4, 40)]]),
  (36, [], [kx_i (.iconst 1) 1 1, kx_0 (.ireturn) 1]),
  (38, [], [kx_i (.iconst 2) 1 2, kx_0 (.ireturn) 1]),
  (40, [], [kx_i (.iconst 1) 1 1, kx_0 (.ireturn) 1]),
  (42, [], [kx_i (.iconst 0) 1 0, kx_0 (.ireturn) 1])])
/-- PalletNets$State.drawnGives(I)I -/
def kp_224 : km_P := (1, false, [(0, [true], [kx_0 (.iload_n 0) 1, kx_s (.tableswitch 33 2 4 #[27, 29, 31]) 27 34 [(2, 28), (3, 30), (4, 32)]]),
  (28, [], [kx_i (.iconst 1) 1 1, kx_0 (.ireturn) 1]),
  (30, [], [kx_i (.iconst 2) 1 2, kx_0 (.ireturn) 1]),
  (32, [], [kx_i (.iconst 1) 1 1, kx_0 (.ireturn) 1]),
  (34, [], [kx_i (.iconst 0) 1 0, kx_0 (.ireturn) 1])])
/-- PalletNets$State.addGuard(II)V -/
def kp_225 : km_P := (3, false, [(0, [true, true, true], [kx_0 (.aload_n 0) 1, kx_3 (.getfield 18) 3 4 2 0, kx_i (.iconst 5) 1 5, kx_1 (.if_icmp .ge 33) 3 38]),
  (8, [true, true, true], [kx_0 (.aload_n 0) 1, kx_3 (.getfield 46) 3 4 10 2, kx_0 (.aload_n 0) 1, kx_3 (.getfield 18) 3 4 2 0, kx_1 (.iload_n 1) 1 1, kx_0 (.iastore) 1, kx_0 (.aload_n 0) 1, kx_3 (.getfield 49) 3 4 11 2, kx_0 (.aload_n 0) 1, kx_3 (.getfield 18) 3 4 2 0, kx_1 (.iload_n 2) 1 2, kx_0 (.iastore) 1, kx_0 (.aload_n 0) 1, kx_0 (.dup) 1, kx_3 (.getfield 18) 3 4 2 0, kx_i (.iconst 1) 1 1, kx_0 (.iadd) 1, kx_3 (.putfield 18) 3 4 2 0]),
  (38, [], [kx_0 (.return_) 1])])
/-- PalletNets$State.removeGuard(I)V -/
def kp_226 : km_P := (3, false, [(0, [true, true], [kx_1 (.iload_n 1) 1 1, kx_i (.iconst 1) 1 1, kx_0 (.iadd) 1, kx_1 (.istore_n 2) 1 2]),
  (4, [true, false, true], [kx_1 (.iload_n 2) 1 2, kx_0 (.aload_n 0) 1, kx_3 (.getfield 18) 3 4 2 0, kx_1 (.if_icmp .ge 37) 3 46]),
  (12, [true, false, true], [kx_0 (.aload_n 0) 1, kx_3 (.getfield 46) 3 4 10 2, kx_1 (.iload_n 2) 1 2, kx_i (.iconst 1) 1 1, kx_0 (.isub) 1, kx_0 (.aload_n 0) 1, kx_3 (.getfield 46) 3 4 10 2, kx_1 (.iload_n 2) 1 2, kx_0 (.iaload) 1, kx_0 (.iastore) 1, kx_0 (.aload_n 0) 1, kx_3 (.getfield 49) 3 4 11 2, kx_1 (.iload_n 2) 1 2, kx_i (.iconst 1) 1 1, kx_0 (.isub) 1, kx_0 (.aload_n 0) 1, kx_3 (.getfield 49) 3 4 11 2, kx_1 (.iload_n 2) 1 2, kx_0 (.iaload) 1, kx_0 (.iastore) 1, kx_n (.iinc 2 1) 3 2 1, kx_1 (.goto (-39)) 3 4]),
  (46, [true], [kx_0 (.aload_n 0) 1, kx_0 (.dup) 1, kx_3 (.getfield 18) 3 4 2 0, kx_i (.iconst 1) 1 1, kx_0 (.isub) 1, kx_3 (.putfield 18) 3 4 2 0, kx_0 (.return_) 1])])
/-- PalletNets$State.isGuarded(I)Z -/
def kp_227 : km_P := (3, true, [(0, [true, true], [kx_i (.iconst 0) 1 0, kx_1 (.istore_n 2) 1 2]),
  (2, [true, true, true], [kx_1 (.iload_n 2) 1 2, kx_0 (.aload_n 0) 1, kx_3 (.getfield 18) 3 4 2 0, kx_1 (.if_icmp .ge 21) 3 28]),
  (10, [true, true, true], [kx_0 (.aload_n 0) 1, kx_3 (.getfield 46) 3 4 10 2, kx_1 (.iload_n 2) 1 2, kx_0 (.iaload) 1, kx_1 (.iload_n 1) 1 1, kx_1 (.if_icmp .ne 5) 3 22]),
  (20, [], [kx_i (.iconst 1) 1 1, kx_0 (.ireturn) 1]),
  (22, [true, true, true], [kx_n (.iinc 2 1) 3 2 1, kx_1 (.goto (-23)) 3 2]),
  (28, [], [kx_i (.iconst 0) 1 0, kx_0 (.ireturn) 1])])
/-- PalletNets$State.after(JI)J -/
def kp_228 : km_P := (4, false, [(0, [true, true, false, true], [kx_1 (.lload_n 1) 1 1, kx_0 (.aload_n 0) 1, kx_3 (.getfield 35) 3 4 7 2, kx_1 (.iload_n 3) 1 3, kx_0 (.laload) 1, kx_0 (.lsub) 1, kx_0 (.aload_n 0) 1, kx_3 (.getfield 39) 3 4 8 2, kx_1 (.iload_n 3) 1 3, kx_0 (.laload) 1, kx_0 (.ladd) 1, kx_0 (.lreturn) 1])])
/-- PalletNets$State.hindrance(JII)I -/
def kp_229 : km_P := (8, false, [(0, [true, true, false, true, true], [kx_1 (.lload_n 1) 1 1, kx_0 (.aload_n 0) 1, kx_3 (.getfield 35) 3 4 7 2, kx_1 (.iload_n 3) 1 3, kx_0 (.laload) 1, kx_3 (.invokestatic 102) 3 173 2 0]),
  (10, [true, true, false, true, true], [kx_1 (.ifCond .ne 5) 3 15]),
  (13, [], [kx_i (.iconst 1) 1 1, kx_0 (.ireturn) 1]),
  (15, [true, true, false, true, true], [kx_0 (.aload_n 0) 1, kx_1 (.lload_n 1) 1 1, kx_1 (.iload_n 3) 1 3, kx_3 (.invokevirtual 106) 3 228 3 4]),
  (21, [true, true, false, false, true], [kx_1 (.lstore 5) 2 5, kx_1 (.lload 5) 2 5, kx_3 (.invokestatic 110) 3 174 1 0]),
  (28, [true, true, false, false, true, true], [kx_1 (.ifCond .eq 5) 3 33]),
  (31, [], [kx_i (.iconst 2) 1 2, kx_0 (.ireturn) 1]),
  (33, [true, true, false, false, true, true], [kx_i (.iconst 0) 1 0, kx_1 (.istore 7) 2 7]),
  (36, [true, true, false, false, true, true, false, true], [kx_1 (.iload 7) 2 7, kx_0 (.aload_n 0) 1, kx_3 (.getfield 18) 3 4 2 0, kx_1 (.if_icmp .ge 30) 3 72]),
  (45, [true, true, false, false, true, true, false, true], [kx_1 (.iload 7) 2 7, kx_1 (.iload 4) 2 4, kx_1 (.if_icmp .eq 17) 3 66]),
  (52, [true, true, false, false, true, true, false, true], [kx_0 (.aload_n 0) 1, kx_1 (.iload 7) 2 7, kx_1 (.lload_n 1) 1 1, kx_1 (.lload 5) 2 5, kx_3 (.invokevirtual 114) 3 230 4 4]),
  (61, [true, true, false, false, true, true, false, true], [kx_1 (.ifCond .eq 5) 3 66]),
  (64, [], [kx_i (.iconst 3) 1 3, kx_0 (.ireturn) 1]),
  (66, [true, true, false, false, true, true, false, true], [kx_n (.iinc 7 1) 3 7 1, kx_1 (.goto (-33)) 3 36]),
  (72, [], [kx_i (.iconst 0) 1 0, kx_0 (.ireturn) 1])])
/-- PalletNets$State.bars(IJJ)Z -/
def kp_230 : km_P := (7, true, [(0, [true, true, true, false, true], [kx_1 (.lload 4) 2 4, kx_0 (.aload_n 0) 1, kx_3 (.getfield 46) 3 4 10 2, kx_1 (.iload_n 1) 1 1, kx_0 (.iaload) 1, kx_3 (.invokestatic 118) 3 172 2 0]),
  (11, [true, true, true], [kx_1 (.istore 6) 2 6, kx_1 (.iload 6) 2 6, kx_0 (.aload_n 0) 1, kx_3 (.getfield 49) 3 4 11 2, kx_1 (.iload_n 1) 1 1, kx_0 (.iaload) 1, kx_1 (.if_icmp .ge 22) 3 43]),
  (24, [true, true, true, false, false, false, true], [kx_1 (.iload 6) 2 6, kx_1 (.lload_n 2) 1 2, kx_0 (.aload_n 0) 1, kx_3 (.getfield 46) 3 4 10 2, kx_1 (.iload_n 1) 1 1, kx_0 (.iaload) 1, kx_3 (.invokestatic 118) 3 172 2 0]),
  (36, [], [kx_1 (.if_icmp .ge 7) 3 43]),
  (39, [], [kx_i (.iconst 1) 1 1, kx_1 (.goto 4) 3 44]),
  (43, [], [kx_i (.iconst 0) 1 0]),
  (44, [], [kx_0 (.ireturn) 1])])
/-- PalletNets$State.barredBy(I)I -/
def kp_231 : km_P := (6, false, [(0, [true, true], [kx_i (.iconst 0) 1 0, kx_1 (.istore_n 2) 1 2, kx_i (.iconst 0) 1 0, kx_1 (.istore_n 3) 1 3]),
  (4, [true, true, true, true], [kx_1 (.iload_n 3) 1 3, kx_0 (.aload_n 0) 1, kx_3 (.getfield 15) 3 4 1 0, kx_1 (.if_icmp .ge 71) 3 80]),
  (12, [true, true, true, true], [kx_0 (.aload_n 0) 1, kx_0 (.aload_n 0) 1, kx_3 (.getfield 32) 3 4 6 1, kx_1 (.iload_n 3) 1 3, kx_i (.iconst (-1)) 1 (-1), kx_3 (.invokevirtual 121) 3 229 4 4]),
  (22, [true, true, true, true], [kx_1 (.istore 4) 2 4, kx_1 (.iload 4) 2 4, kx_1 (.ifCond .eq 9) 3 35]),
  (29, [true, true, true, true, true], [kx_1 (.iload 4) 2 4, kx_i (.iconst 3) 1 3, kx_1 (.if_icmp .ne 7) 3 39]),
  (35, [true, true, true, true], [kx_i (.iconst 1) 1 1, kx_1 (.goto 4) 3 40]),
  (39, [true, true, true, true], [kx_i (.iconst 0) 1 0]),
  (40, [true, true, true, true], [kx_1 (.istore 5) 2 5, kx_1 (.iload 5) 2 5, kx_1 (.ifCond .eq 30) 3 74]),
  (47, [true, true, true, true], [kx_0 (.aload_n 0) 1, kx_1 (.iload_n 1) 1 1, kx_0 (.aload_n 0) 1, kx_3 (.getfield 32) 3 4 6 1, kx_0 (.aload_n 0) 1, kx_0 (.aload_n 0) 1, kx_3 (.getfield 32) 3 4 6 1, kx_1 (.iload_n 3) 1 3, kx_3 (.invokevirtual 106) 3 228 3 4]),
  (62, [true, true, true, true], [kx_3 (.invokevirtual 114) 3 230 4 4]),
  (65, [true, true, true, true], [kx_1 (.ifCond .eq 9) 3 74]),
  (68, [true, true, true, true], [kx_1 (.iload_n 2) 1 2, kx_i (.iconst 1) 1 1, kx_1 (.iload_n 3) 1 3, kx_0 (.ishl) 1, kx_0 (.ior) 1, kx_1 (.istore_n 2) 1 2]),
  (74, [true, true, true, true], [kx_n (.iinc 3 1) 3 3 1, kx_1 (.goto (-73)) 3 4]),
  (80, [false, false, true], [kx_1 (.iload_n 2) 1 2, kx_0 (.ireturn) 1])])
/-- java/lang/Integer.bitCount(I)I -/
def kp_232 : km_P := (1, false, [(0, [true], [kx_0 (.iload_n 0) 1, kx_0 (.iload_n 0) 1, kx_i (.iconst 1) 1 1, kx_0 (.iushr) 1, kx_i (.ldc_w 265) 3 1431655765, kx_0 (.iand) 1, kx_0 (.isub) 1, kx_0 (.istore_n 0) 1, kx_0 (.iload_n 0) 1, kx_i (.ldc_w 266) 3 858993459, kx_0 (.iand) 1, kx_0 (.iload_n 0) 1, kx_i (.iconst 2) 1 2, kx_0 (.iushr) 1, kx_i (.ldc_w 266) 3 858993459, kx_0 (.iand) 1, kx_0 (.iadd) 1, kx_0 (.istore_n 0) 1, kx_0 (.iload_n 0) 1, kx_0 (.iload_n 0) 1, kx_i (.iconst 4) 1 4, kx_0 (.iushr) 1, kx_0 (.iadd) 1, kx_i (.ldc_w 267) 3 252645135, kx_0 (.iand) 1, kx_0 (.istore_n 0) 1, kx_0 (.iload_n 0) 1, kx_0 (.iload_n 0) 1, kx_i (.bipush 8) 2 8, kx_0 (.iushr) 1, kx_0 (.iadd) 1, kx_0 (.istore_n 0) 1, kx_0 (.iload_n 0) 1, kx_0 (.iload_n 0) 1, kx_i (.bipush 16) 2 16, kx_0 (.iushr) 1, kx_0 (.iadd) 1, kx_0 (.istore_n 0) 1, kx_0 (.iload_n 0) 1, kx_i (.bipush 63) 2 63, kx_0 (.iand) 1, kx_0 (.ireturn) 1])])
/-- java/util/Arrays.fill([II)V -/
def kp_233 : km_P := (4, false, [(0, [true, true], [kx_i (.iconst 0) 1 0, kx_1 (.istore_n 2) 1 2, kx_0 (.aload_n 0) 1, kx_1 (.arraylength) 1 10, kx_1 (.istore_n 3) 1 3]),
  (5, [true, true, true, true], [kx_1 (.iload_n 2) 1 2, kx_1 (.iload_n 3) 1 3, kx_1 (.if_icmp .ge 13) 3 20]),
  (10, [true, true, true, true], [kx_0 (.aload_n 0) 1, kx_1 (.iload_n 2) 1 2, kx_1 (.iload_n 1) 1 1, kx_0 (.iastore) 1, kx_n (.iinc 2 1) 3 2 1, kx_1 (.goto (-12)) 3 5]),
  (20, [], [kx_0 (.return_) 1])])
/-- java/util/Arrays.fill([JJ)V -/
def kp_234 : km_P := (5, false, [(0, [true, true], [kx_i (.iconst 0) 1 0, kx_1 (.istore_n 3) 1 3, kx_0 (.aload_n 0) 1, kx_1 (.arraylength) 1 11, kx_1 (.istore 4) 2 4]),
  (6, [true, true, false, true, true], [kx_1 (.iload_n 3) 1 3, kx_1 (.iload 4) 2 4, kx_1 (.if_icmp .ge 13) 3 22]),
  (12, [true, true, false, true, true], [kx_0 (.aload_n 0) 1, kx_1 (.iload_n 3) 1 3, kx_1 (.lload_n 1) 1 1, kx_0 (.lastore) 1, kx_n (.iinc 3 1) 3 3 1, kx_1 (.goto (-13)) 3 6]),
  (22, [], [kx_0 (.return_) 1])])
def kp (mid : Nat) : km_P := (cond (Nat.blt mid 117) (cond (Nat.blt mid 58) (cond (Nat.blt mid 29) (cond (Nat.blt mid 14) (cond (Nat.blt mid 7) (cond (Nat.blt mid 3) (cond (Nat.blt mid 1) kp_0 (cond (Nat.blt mid 2) kp_1 kp_2)) (cond (Nat.blt mid 5) (cond (Nat.blt mid 4) kp_3 kp_4) (cond (Nat.blt mid 6) kp_5 kp_6))) (cond (Nat.blt mid 10) (cond (Nat.blt mid 8) kp_7 (cond (Nat.blt mid 9) kp_8 kp_9)) (cond (Nat.blt mid 12) (cond (Nat.blt mid 11) kp_10 kp_11) (cond (Nat.blt mid 13) kp_12 kp_13)))) (cond (Nat.blt mid 21) (cond (Nat.blt mid 17) (cond (Nat.blt mid 15) kp_14 (cond (Nat.blt mid 16) kp_15 kp_16)) (cond (Nat.blt mid 19) (cond (Nat.blt mid 18) kp_17 kp_18) (cond (Nat.blt mid 20) kp_19 kp_20))) (cond (Nat.blt mid 25) (cond (Nat.blt mid 23) (cond (Nat.blt mid 22) kp_21 kp_22) (cond (Nat.blt mid 24) kp_23 kp_24)) (cond (Nat.blt mid 27) (cond (Nat.blt mid 26) kp_25 kp_26) (cond (Nat.blt mid 28) kp_27 kp_28))))) (cond (Nat.blt mid 43) (cond (Nat.blt mid 36) (cond (Nat.blt mid 32) (cond (Nat.blt mid 30) kp_29 (cond (Nat.blt mid 31) kp_30 kp_31)) (cond (Nat.blt mid 34) (cond (Nat.blt mid 33) kp_32 kp_33) (cond (Nat.blt mid 35) kp_34 kp_35))) (cond (Nat.blt mid 39) (cond (Nat.blt mid 37) kp_36 (cond (Nat.blt mid 38) kp_37 kp_38)) (cond (Nat.blt mid 41) (cond (Nat.blt mid 40) kp_39 kp_40) (cond (Nat.blt mid 42) kp_41 kp_42)))) (cond (Nat.blt mid 50) (cond (Nat.blt mid 46) (cond (Nat.blt mid 44) kp_43 (cond (Nat.blt mid 45) kp_44 kp_45)) (cond (Nat.blt mid 48) (cond (Nat.blt mid 47) kp_46 kp_47) (cond (Nat.blt mid 49) kp_48 kp_49))) (cond (Nat.blt mid 54) (cond (Nat.blt mid 52) (cond (Nat.blt mid 51) kp_50 kp_51) (cond (Nat.blt mid 53) kp_52 kp_53)) (cond (Nat.blt mid 56) (cond (Nat.blt mid 55) kp_54 kp_55) (cond (Nat.blt mid 57) kp_56 kp_57)))))) (cond (Nat.blt mid 87) (cond (Nat.blt mid 72) (cond (Nat.blt mid 65) (cond (Nat.blt mid 61) (cond (Nat.blt mid 59) kp_58 (cond (Nat.blt mid 60) kp_59 kp_60)) (cond (Nat.blt mid 63) (cond (Nat.blt mid 62) kp_61 kp_62) (cond (Nat.blt mid 64) kp_63 kp_64))) (cond (Nat.blt mid 68) (cond (Nat.blt mid 66) kp_65 (cond (Nat.blt mid 67) kp_66 kp_67)) (cond (Nat.blt mid 70) (cond (Nat.blt mid 69) kp_68 kp_69) (cond (Nat.blt mid 71) kp_70 kp_71)))) (cond (Nat.blt mid 79) (cond (Nat.blt mid 75) (cond (Nat.blt mid 73) kp_72 (cond (Nat.blt mid 74) kp_73 kp_74)) (cond (Nat.blt mid 77) (cond (Nat.blt mid 76) kp_75 kp_76) (cond (Nat.blt mid 78) kp_77 kp_78))) (cond (Nat.blt mid 83) (cond (Nat.blt mid 81) (cond (Nat.blt mid 80) kp_79 kp_80) (cond (Nat.blt mid 82) kp_81 kp_82)) (cond (Nat.blt mid 85) (cond (Nat.blt mid 84) kp_83 kp_84) (cond (Nat.blt mid 86) kp_85 kp_86))))) (cond (Nat.blt mid 102) (cond (Nat.blt mid 94) (cond (Nat.blt mid 90) (cond (Nat.blt mid 88) kp_87 (cond (Nat.blt mid 89) kp_88 kp_89)) (cond (Nat.blt mid 92) (cond (Nat.blt mid 91) kp_90 kp_91) (cond (Nat.blt mid 93) kp_92 kp_93))) (cond (Nat.blt mid 98) (cond (Nat.blt mid 96) (cond (Nat.blt mid 95) kp_94 kp_95) (cond (Nat.blt mid 97) kp_96 kp_97)) (cond (Nat.blt mid 100) (cond (Nat.blt mid 99) kp_98 kp_99) (cond (Nat.blt mid 101) kp_100 kp_101)))) (cond (Nat.blt mid 109) (cond (Nat.blt mid 105) (cond (Nat.blt mid 103) kp_102 (cond (Nat.blt mid 104) kp_103 kp_104)) (cond (Nat.blt mid 107) (cond (Nat.blt mid 106) kp_105 kp_106) (cond (Nat.blt mid 108) kp_107 kp_108))) (cond (Nat.blt mid 113) (cond (Nat.blt mid 111) (cond (Nat.blt mid 110) kp_109 kp_110) (cond (Nat.blt mid 112) kp_111 kp_112)) (cond (Nat.blt mid 115) (cond (Nat.blt mid 114) kp_113 kp_114) (cond (Nat.blt mid 116) kp_115 kp_116))))))) (cond (Nat.blt mid 176) (cond (Nat.blt mid 146) (cond (Nat.blt mid 131) (cond (Nat.blt mid 124) (cond (Nat.blt mid 120) (cond (Nat.blt mid 118) kp_117 (cond (Nat.blt mid 119) kp_118 kp_119)) (cond (Nat.blt mid 122) (cond (Nat.blt mid 121) kp_120 kp_121) (cond (Nat.blt mid 123) kp_122 kp_123))) (cond (Nat.blt mid 127) (cond (Nat.blt mid 125) kp_124 (cond (Nat.blt mid 126) kp_125 kp_126)) (cond (Nat.blt mid 129) (cond (Nat.blt mid 128) kp_127 kp_128) (cond (Nat.blt mid 130) kp_129 kp_130)))) (cond (Nat.blt mid 138) (cond (Nat.blt mid 134) (cond (Nat.blt mid 132) kp_131 (cond (Nat.blt mid 133) kp_132 kp_133)) (cond (Nat.blt mid 136) (cond (Nat.blt mid 135) kp_134 kp_135) (cond (Nat.blt mid 137) kp_136 kp_137))) (cond (Nat.blt mid 142) (cond (Nat.blt mid 140) (cond (Nat.blt mid 139) kp_138 kp_139) (cond (Nat.blt mid 141) kp_140 kp_141)) (cond (Nat.blt mid 144) (cond (Nat.blt mid 143) kp_142 kp_143) (cond (Nat.blt mid 145) kp_144 kp_145))))) (cond (Nat.blt mid 161) (cond (Nat.blt mid 153) (cond (Nat.blt mid 149) (cond (Nat.blt mid 147) kp_146 (cond (Nat.blt mid 148) kp_147 kp_148)) (cond (Nat.blt mid 151) (cond (Nat.blt mid 150) kp_149 kp_150) (cond (Nat.blt mid 152) kp_151 kp_152))) (cond (Nat.blt mid 157) (cond (Nat.blt mid 155) (cond (Nat.blt mid 154) kp_153 kp_154) (cond (Nat.blt mid 156) kp_155 kp_156)) (cond (Nat.blt mid 159) (cond (Nat.blt mid 158) kp_157 kp_158) (cond (Nat.blt mid 160) kp_159 kp_160)))) (cond (Nat.blt mid 168) (cond (Nat.blt mid 164) (cond (Nat.blt mid 162) kp_161 (cond (Nat.blt mid 163) kp_162 kp_163)) (cond (Nat.blt mid 166) (cond (Nat.blt mid 165) kp_164 kp_165) (cond (Nat.blt mid 167) kp_166 kp_167))) (cond (Nat.blt mid 172) (cond (Nat.blt mid 170) (cond (Nat.blt mid 169) kp_168 kp_169) (cond (Nat.blt mid 171) kp_170 kp_171)) (cond (Nat.blt mid 174) (cond (Nat.blt mid 173) kp_172 kp_173) (cond (Nat.blt mid 175) kp_174 kp_175)))))) (cond (Nat.blt mid 205) (cond (Nat.blt mid 190) (cond (Nat.blt mid 183) (cond (Nat.blt mid 179) (cond (Nat.blt mid 177) kp_176 (cond (Nat.blt mid 178) kp_177 kp_178)) (cond (Nat.blt mid 181) (cond (Nat.blt mid 180) kp_179 kp_180) (cond (Nat.blt mid 182) kp_181 kp_182))) (cond (Nat.blt mid 186) (cond (Nat.blt mid 184) kp_183 (cond (Nat.blt mid 185) kp_184 kp_185)) (cond (Nat.blt mid 188) (cond (Nat.blt mid 187) kp_186 kp_187) (cond (Nat.blt mid 189) kp_188 kp_189)))) (cond (Nat.blt mid 197) (cond (Nat.blt mid 193) (cond (Nat.blt mid 191) kp_190 (cond (Nat.blt mid 192) kp_191 kp_192)) (cond (Nat.blt mid 195) (cond (Nat.blt mid 194) kp_193 kp_194) (cond (Nat.blt mid 196) kp_195 kp_196))) (cond (Nat.blt mid 201) (cond (Nat.blt mid 199) (cond (Nat.blt mid 198) kp_197 kp_198) (cond (Nat.blt mid 200) kp_199 kp_200)) (cond (Nat.blt mid 203) (cond (Nat.blt mid 202) kp_201 kp_202) (cond (Nat.blt mid 204) kp_203 kp_204))))) (cond (Nat.blt mid 220) (cond (Nat.blt mid 212) (cond (Nat.blt mid 208) (cond (Nat.blt mid 206) kp_205 (cond (Nat.blt mid 207) kp_206 kp_207)) (cond (Nat.blt mid 210) (cond (Nat.blt mid 209) kp_208 kp_209) (cond (Nat.blt mid 211) kp_210 kp_211))) (cond (Nat.blt mid 216) (cond (Nat.blt mid 214) (cond (Nat.blt mid 213) kp_212 kp_213) (cond (Nat.blt mid 215) kp_214 kp_215)) (cond (Nat.blt mid 218) (cond (Nat.blt mid 217) kp_216 kp_217) (cond (Nat.blt mid 219) kp_218 kp_219)))) (cond (Nat.blt mid 227) (cond (Nat.blt mid 223) (cond (Nat.blt mid 221) kp_220 (cond (Nat.blt mid 222) kp_221 kp_222)) (cond (Nat.blt mid 225) (cond (Nat.blt mid 224) kp_223 kp_224) (cond (Nat.blt mid 226) kp_225 kp_226))) (cond (Nat.blt mid 231) (cond (Nat.blt mid 229) (cond (Nat.blt mid 228) kp_227 kp_228) (cond (Nat.blt mid 230) kp_229 kp_230)) (cond (Nat.blt mid 233) (cond (Nat.blt mid 232) kp_231 kp_232) (cond (Nat.blt mid 234) kp_233 kp_234))))))))
def kB_b (cc : ByteArray) (oc h : Nat) (rt : Option FieldType) : Nat → List km_I → Bool
  | _, [] => true
  | pc, it :: r => decide (decode cc pc = .ok (it.1, it.2.1)) && kI_c oc h pc it && kR_c rt it.1 && kB_b cc oc h rt (pc + it.2.1) r
theorem kB_b_ok {cc : ByteArray} {oc h : Nat} {rt : Option FieldType} : ∀ (cs : List km_I) (pc : Nat), kB_b cc oc h rt pc cs = true → kB_ok cc oc h rt pc cs
  | [], _, _ => trivial
  | it :: r, pc, h9 => by
    simp only [kB_b, Bool.and_eq_true, decide_eq_true_eq] at h9
    exact ⟨h9.1.1.1, h9.1.1.2, h9.1.2, kB_b_ok r _ h9.2⟩
def kP_b (P : km_P) (q : km_N) : Bool := Nat.beq P.1 q.2.2.1 && decide (P.2.1 = decide (q.2.2.2.1 = some .boolean)) && P.2.2.all (fun b => kB_b q.2.1 q.2.2.2.2.1 q.2.2.2.2.2.2.2 q.2.2.2.1 b.1 b.2.2)
theorem kP_b_ok {P : km_P} {q : km_N} (h : kP_b P q = true) : kP_ok P q := by
  simp only [kP_b, Bool.and_eq_true, decide_eq_true_eq, List.all_eq_true] at h
  exact ⟨Nat.eq_of_beq_eq_true h.1.1, h.1.2, fun b hb => kB_b_ok _ _ (h.2 b hb)⟩
def kp_c (mid : Nat) : Bool := match kn_m[mid]? with
  | some q => kP_b (kp mid) q
  | none => true
end
section
/-! THE PROGRAM IS THE CODE: decided by the kernel, method by method -/
theorem kp_c0 : ∀ i, i < 12 → kp_c (0 + i) = true := by decide +kernel
theorem kp_c1 : ∀ i, i < 12 → kp_c (12 + i) = true := by decide +kernel
theorem kp_c2 : ∀ i, i < 12 → kp_c (24 + i) = true := by decide +kernel
theorem kp_c3 : ∀ i, i < 12 → kp_c (36 + i) = true := by decide +kernel
theorem kp_c4 : ∀ i, i < 12 → kp_c (48 + i) = true := by decide +kernel
theorem kp_c5 : ∀ i, i < 12 → kp_c (60 + i) = true := by decide +kernel
theorem kp_c6 : ∀ i, i < 12 → kp_c (72 + i) = true := by decide +kernel
theorem kp_c7 : ∀ i, i < 12 → kp_c (84 + i) = true := by decide +kernel
theorem kp_c8 : ∀ i, i < 12 → kp_c (96 + i) = true := by decide +kernel
theorem kp_c9 : ∀ i, i < 12 → kp_c (108 + i) = true := by decide +kernel
theorem kp_c10 : ∀ i, i < 12 → kp_c (120 + i) = true := by decide +kernel
theorem kp_c11 : ∀ i, i < 12 → kp_c (132 + i) = true := by decide +kernel
theorem kp_c12 : ∀ i, i < 12 → kp_c (144 + i) = true := by decide +kernel
theorem kp_c13 : ∀ i, i < 12 → kp_c (156 + i) = true := by decide +kernel
theorem kp_c14 : ∀ i, i < 12 → kp_c (168 + i) = true := by decide +kernel
theorem kp_c15 : ∀ i, i < 12 → kp_c (180 + i) = true := by decide +kernel
theorem kp_c16 : ∀ i, i < 12 → kp_c (192 + i) = true := by decide +kernel
theorem kp_c17 : ∀ i, i < 12 → kp_c (204 + i) = true := by decide +kernel
theorem kp_c18 : ∀ i, i < 12 → kp_c (216 + i) = true := by decide +kernel
theorem kp_c19 : ∀ i, i < 7 → kp_c (228 + i) = true := by decide +kernel
theorem kn_len : kn_m.length = 235 := by decide +kernel
theorem kp_all (mid : Nat) (h : mid < 235) : kp_c mid = true := by
  by_cases h0 : mid < 12
  · have q := kp_c0 (mid - 0) (by omega)
    rw [show 0 + (mid - 0) = mid by omega] at q
    exact q
  by_cases h1 : mid < 24
  · have q := kp_c1 (mid - 12) (by omega)
    rw [show 12 + (mid - 12) = mid by omega] at q
    exact q
  by_cases h2 : mid < 36
  · have q := kp_c2 (mid - 24) (by omega)
    rw [show 24 + (mid - 24) = mid by omega] at q
    exact q
  by_cases h3 : mid < 48
  · have q := kp_c3 (mid - 36) (by omega)
    rw [show 36 + (mid - 36) = mid by omega] at q
    exact q
  by_cases h4 : mid < 60
  · have q := kp_c4 (mid - 48) (by omega)
    rw [show 48 + (mid - 48) = mid by omega] at q
    exact q
  by_cases h5 : mid < 72
  · have q := kp_c5 (mid - 60) (by omega)
    rw [show 60 + (mid - 60) = mid by omega] at q
    exact q
  by_cases h6 : mid < 84
  · have q := kp_c6 (mid - 72) (by omega)
    rw [show 72 + (mid - 72) = mid by omega] at q
    exact q
  by_cases h7 : mid < 96
  · have q := kp_c7 (mid - 84) (by omega)
    rw [show 84 + (mid - 84) = mid by omega] at q
    exact q
  by_cases h8 : mid < 108
  · have q := kp_c8 (mid - 96) (by omega)
    rw [show 96 + (mid - 96) = mid by omega] at q
    exact q
  by_cases h9 : mid < 120
  · have q := kp_c9 (mid - 108) (by omega)
    rw [show 108 + (mid - 108) = mid by omega] at q
    exact q
  by_cases h10 : mid < 132
  · have q := kp_c10 (mid - 120) (by omega)
    rw [show 120 + (mid - 120) = mid by omega] at q
    exact q
  by_cases h11 : mid < 144
  · have q := kp_c11 (mid - 132) (by omega)
    rw [show 132 + (mid - 132) = mid by omega] at q
    exact q
  by_cases h12 : mid < 156
  · have q := kp_c12 (mid - 144) (by omega)
    rw [show 144 + (mid - 144) = mid by omega] at q
    exact q
  by_cases h13 : mid < 168
  · have q := kp_c13 (mid - 156) (by omega)
    rw [show 156 + (mid - 156) = mid by omega] at q
    exact q
  by_cases h14 : mid < 180
  · have q := kp_c14 (mid - 168) (by omega)
    rw [show 168 + (mid - 168) = mid by omega] at q
    exact q
  by_cases h15 : mid < 192
  · have q := kp_c15 (mid - 180) (by omega)
    rw [show 180 + (mid - 180) = mid by omega] at q
    exact q
  by_cases h16 : mid < 204
  · have q := kp_c16 (mid - 192) (by omega)
    rw [show 192 + (mid - 192) = mid by omega] at q
    exact q
  by_cases h17 : mid < 216
  · have q := kp_c17 (mid - 204) (by omega)
    rw [show 204 + (mid - 204) = mid by omega] at q
    exact q
  by_cases h18 : mid < 228
  · have q := kp_c18 (mid - 216) (by omega)
    rw [show 216 + (mid - 216) = mid by omega] at q
    exact q
  have q := kp_c19 (mid - 228) (by omega)
  rw [show 228 + (mid - 228) = mid by omega] at q
  exact q
theorem kp_ok : ∀ mid qc, kn_m[mid]? = some qc → kP_ok (kp mid) qc := by
  intro mid qc h
  have hl : mid < kn_m.length := (List.getElem?_eq_some_iff.mp h).1
  rw [kn_len] at hl
  have q := kp_all mid hl
  unfold kp_c at q
  rw [h] at q
  exact kP_b_ok q
end
