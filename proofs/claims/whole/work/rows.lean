section
-- ===== PART A: goes FIRST, ahead of the names: the tables' words, and 'selects' of the private methods out of them =====
/-- a private method of a class that the tables say can be made, by its rows of tables_1 -/
def lw_okq (q : MethodName × Nat) : Prop := (q.1.cls ≠ "java/lang/invoke/MethodHandle" ∧ q.1.cls ≠ "java/lang/invoke/VarHandle") ∧ Cond.instantiable q.1.cls q.2 ∈ tables_1 ∧ Cond.privateMethod q.1 ∈ tables_1 ∧ Cond.instanceMethod q.1 ∈ tables_1
theorem lw_p0 : lw_okq (⟨"DeltaCycles$Reader", "skipBlanks", "()V"⟩, 6) := ⟨⟨by decide +kernel, by decide +kernel⟩, List.mem_of_getElem? (i := 22) (by decide +kernel), List.mem_of_getElem? (i := 302) (by decide +kernel), List.mem_of_getElem? (i := 303) (by decide +kernel)⟩
theorem lw_p1 : lw_okq (⟨"DeltaCycles$Reader", "letterHere", "()I"⟩, 6) := ⟨⟨by decide +kernel, by decide +kernel⟩, List.mem_of_getElem? (i := 22) (by decide +kernel), List.mem_of_getElem? (i := 306) (by decide +kernel), List.mem_of_getElem? (i := 307) (by decide +kernel)⟩
theorem lw_p2 : lw_okq (⟨"DeltaCycles$Reader", "readClause", "(LDeltaCycles$Plan;)V"⟩, 6) := ⟨⟨by decide +kernel, by decide +kernel⟩, List.mem_of_getElem? (i := 22) (by decide +kernel), List.mem_of_getElem? (i := 310) (by decide +kernel), List.mem_of_getElem? (i := 311) (by decide +kernel)⟩
theorem lw_p3 : lw_okq (⟨"DeltaCycles$Reader", "readWire", "(LDeltaCycles$Plan;)V"⟩, 6) := ⟨⟨by decide +kernel, by decide +kernel⟩, List.mem_of_getElem? (i := 22) (by decide +kernel), List.mem_of_getElem? (i := 314) (by decide +kernel), List.mem_of_getElem? (i := 315) (by decide +kernel)⟩
theorem lw_p4 : lw_okq (⟨"DeltaCycles$Reader", "findFault", "(II)V"⟩, 6) := ⟨⟨by decide +kernel, by decide +kernel⟩, List.mem_of_getElem? (i := 22) (by decide +kernel), List.mem_of_getElem? (i := 318) (by decide +kernel), List.mem_of_getElem? (i := 319) (by decide +kernel)⟩
theorem lw_p5 : lw_okq (⟨"DeltaCycles$Reader", "readNumber", "(I)I"⟩, 6) := ⟨⟨by decide +kernel, by decide +kernel⟩, List.mem_of_getElem? (i := 22) (by decide +kernel), List.mem_of_getElem? (i := 322) (by decide +kernel), List.mem_of_getElem? (i := 323) (by decide +kernel)⟩
theorem lw_p6 : lw_okq (⟨"DeltaCycles$Reader", "readEnd", "()V"⟩, 6) := ⟨⟨by decide +kernel, by decide +kernel⟩, List.mem_of_getElem? (i := 22) (by decide +kernel), List.mem_of_getElem? (i := 329) (by decide +kernel), List.mem_of_getElem? (i := 330) (by decide +kernel)⟩
theorem lw_p7 : lw_okq (⟨"DeltaCycles$Reader", "readGate", "(LDeltaCycles$Plan;)V"⟩, 6) := ⟨⟨by decide +kernel, by decide +kernel⟩, List.mem_of_getElem? (i := 22) (by decide +kernel), List.mem_of_getElem? (i := 337) (by decide +kernel), List.mem_of_getElem? (i := 338) (by decide +kernel)⟩
theorem lw_p8 : lw_okq (⟨"DeltaCycles$Moment", "emptyQueues", "()V"⟩, 18) := ⟨⟨by decide +kernel, by decide +kernel⟩, List.mem_of_getElem? (i := 109) (by decide +kernel), List.mem_of_getElem? (i := 353) (by decide +kernel), List.mem_of_getElem? (i := 354) (by decide +kernel)⟩
theorem lw_p9 : lw_okq (⟨"DeltaCycles$Moment", "tellGate", "(LDeltaCycles$Plan;II)V"⟩, 18) := ⟨⟨by decide +kernel, by decide +kernel⟩, List.mem_of_getElem? (i := 109) (by decide +kernel), List.mem_of_getElem? (i := 368) (by decide +kernel), List.mem_of_getElem? (i := 369) (by decide +kernel)⟩
theorem lw_p10 : lw_okq (⟨"DeltaCycles$Moment", "alikeAtEnd", "(II)I"⟩, 18) := ⟨⟨by decide +kernel, by decide +kernel⟩, List.mem_of_getElem? (i := 109) (by decide +kernel), List.mem_of_getElem? (i := 372) (by decide +kernel), List.mem_of_getElem? (i := 373) (by decide +kernel)⟩
theorem lw_p11 : lw_okq (⟨"DeltaCycles$Moment", "dropFirst", "(II)V"⟩, 18) := ⟨⟨by decide +kernel, by decide +kernel⟩, List.mem_of_getElem? (i := 109) (by decide +kernel), List.mem_of_getElem? (i := 376) (by decide +kernel), List.mem_of_getElem? (i := 377) (by decide +kernel)⟩
theorem lw_p12 : lw_okq (⟨"DeltaCycles$Moment", "earliest", "()I"⟩, 18) := ⟨⟨by decide +kernel, by decide +kernel⟩, List.mem_of_getElem? (i := 109) (by decide +kernel), List.mem_of_getElem? (i := 404) (by decide +kernel), List.mem_of_getElem? (i := 405) (by decide +kernel)⟩
theorem lw_p13 : lw_okq (⟨"DeltaCycles", "stepsTillStill", "()I"⟩, 10) := ⟨⟨by decide +kernel, by decide +kernel⟩, List.mem_of_getElem? (i := 14) (by decide +kernel), List.mem_of_getElem? (i := 416) (by decide +kernel), List.mem_of_getElem? (i := 417) (by decide +kernel)⟩
theorem lw_p14 : lw_okq (⟨"DeltaCycles$Moment", "makeCycle", "(LDeltaCycles$Plan;)Z"⟩, 18) := ⟨⟨by decide +kernel, by decide +kernel⟩, List.mem_of_getElem? (i := 109) (by decide +kernel), List.mem_of_getElem? (i := 437) (by decide +kernel), List.mem_of_getElem? (i := 438) (by decide +kernel)⟩
theorem lw_p15 : lw_okq (⟨"DeltaCycles$Moment", "takeFromQueues", "(LDeltaCycles$Plan;)I"⟩, 18) := ⟨⟨by decide +kernel, by decide +kernel⟩, List.mem_of_getElem? (i := 109) (by decide +kernel), List.mem_of_getElem? (i := 441) (by decide +kernel), List.mem_of_getElem? (i := 442) (by decide +kernel)⟩
def lw_privs_1 : List (MethodName × Nat) := [(⟨"DeltaCycles$Reader", "skipBlanks", "()V"⟩, 6), (⟨"DeltaCycles$Reader", "letterHere", "()I"⟩, 6), (⟨"DeltaCycles$Reader", "readClause", "(LDeltaCycles$Plan;)V"⟩, 6), (⟨"DeltaCycles$Reader", "readWire", "(LDeltaCycles$Plan;)V"⟩, 6), (⟨"DeltaCycles$Reader", "findFault", "(II)V"⟩, 6), (⟨"DeltaCycles$Reader", "readNumber", "(I)I"⟩, 6), (⟨"DeltaCycles$Reader", "readEnd", "()V"⟩, 6), (⟨"DeltaCycles$Reader", "readGate", "(LDeltaCycles$Plan;)V"⟩, 6), (⟨"DeltaCycles$Moment", "emptyQueues", "()V"⟩, 18), (⟨"DeltaCycles$Moment", "tellGate", "(LDeltaCycles$Plan;II)V"⟩, 18), (⟨"DeltaCycles$Moment", "alikeAtEnd", "(II)I"⟩, 18), (⟨"DeltaCycles$Moment", "dropFirst", "(II)V"⟩, 18), (⟨"DeltaCycles$Moment", "earliest", "()I"⟩, 18), (⟨"DeltaCycles", "stepsTillStill", "()I"⟩, 10), (⟨"DeltaCycles$Moment", "makeCycle", "(LDeltaCycles$Plan;)Z"⟩, 18), (⟨"DeltaCycles$Moment", "takeFromQueues", "(LDeltaCycles$Plan;)I"⟩, 18)]
theorem lw_r1 : ∀ q ∈ lw_privs_1, lw_okq q := List.forall_mem_cons.mpr ⟨lw_p0, List.forall_mem_cons.mpr ⟨lw_p1, List.forall_mem_cons.mpr ⟨lw_p2, List.forall_mem_cons.mpr ⟨lw_p3, List.forall_mem_cons.mpr ⟨lw_p4, List.forall_mem_cons.mpr ⟨lw_p5, List.forall_mem_cons.mpr ⟨lw_p6, List.forall_mem_cons.mpr ⟨lw_p7, List.forall_mem_cons.mpr ⟨lw_p8, List.forall_mem_cons.mpr ⟨lw_p9, List.forall_mem_cons.mpr ⟨lw_p10, List.forall_mem_cons.mpr ⟨lw_p11, List.forall_mem_cons.mpr ⟨lw_p12, List.forall_mem_cons.mpr ⟨lw_p13, List.forall_mem_cons.mpr ⟨lw_p14, List.forall_mem_cons.mpr ⟨lw_p15, fun _ h => absurd h List.not_mem_nil⟩⟩⟩⟩⟩⟩⟩⟩⟩⟩⟩⟩⟩⟩⟩⟩
theorem lw_p16 : lw_okq (⟨"DeltaCycles$Moment", "takeByHand", "()I"⟩, 18) := ⟨⟨by decide +kernel, by decide +kernel⟩, List.mem_of_getElem? (i := 109) (by decide +kernel), List.mem_of_getElem? (i := 445) (by decide +kernel), List.mem_of_getElem? (i := 446) (by decide +kernel)⟩
theorem lw_p17 : lw_okq (⟨"DeltaCycles$Moment", "changeWire", "(II)I"⟩, 18) := ⟨⟨by decide +kernel, by decide +kernel⟩, List.mem_of_getElem? (i := 109) (by decide +kernel), List.mem_of_getElem? (i := 449) (by decide +kernel), List.mem_of_getElem? (i := 450) (by decide +kernel)⟩
theorem lw_p18 : lw_okq (⟨"DeltaCycles$Moment", "tellLookers", "(LDeltaCycles$Plan;I)V"⟩, 18) := ⟨⟨by decide +kernel, by decide +kernel⟩, List.mem_of_getElem? (i := 109) (by decide +kernel), List.mem_of_getElem? (i := 461) (by decide +kernel), List.mem_of_getElem? (i := 462) (by decide +kernel)⟩
theorem lw_p19 : lw_okq (⟨"DeltaCycles$Moment", "hasChange", "(II)Z"⟩, 18) := ⟨⟨by decide +kernel, by decide +kernel⟩, List.mem_of_getElem? (i := 109) (by decide +kernel), List.mem_of_getElem? (i := 497) (by decide +kernel), List.mem_of_getElem? (i := 498) (by decide +kernel)⟩
theorem lw_p20 : lw_okq (⟨"DeltaCycles$Moment", "wavePlace", "(II)I"⟩, 18) := ⟨⟨by decide +kernel, by decide +kernel⟩, List.mem_of_getElem? (i := 109) (by decide +kernel), List.mem_of_getElem? (i := 501) (by decide +kernel), List.mem_of_getElem? (i := 502) (by decide +kernel)⟩
theorem lw_p21 : lw_okq (⟨"DeltaCycles$Moment", "hasWaiting", "(II)Z"⟩, 18) := ⟨⟨by decide +kernel, by decide +kernel⟩, List.mem_of_getElem? (i := 109) (by decide +kernel), List.mem_of_getElem? (i := 530) (by decide +kernel), List.mem_of_getElem? (i := 531) (by decide +kernel)⟩
theorem lw_p22 : lw_okq (⟨"DeltaCycles", "maySetByHand", "(I)Z"⟩, 10) := ⟨⟨by decide +kernel, by decide +kernel⟩, List.mem_of_getElem? (i := 14) (by decide +kernel), List.mem_of_getElem? (i := 575) (by decide +kernel), List.mem_of_getElem? (i := 576) (by decide +kernel)⟩
theorem lw_p23 : lw_okq (⟨"DeltaCycles", "driftOnce", "()V"⟩, 10) := ⟨⟨by decide +kernel, by decide +kernel⟩, List.mem_of_getElem? (i := 14) (by decide +kernel), List.mem_of_getElem? (i := 598) (by decide +kernel), List.mem_of_getElem? (i := 599) (by decide +kernel)⟩
theorem lw_p24 : lw_okq (⟨"DeltaCycles", "imageOf", "(I)LDeltaCycles$Image;"⟩, 10) := ⟨⟨by decide +kernel, by decide +kernel⟩, List.mem_of_getElem? (i := 14) (by decide +kernel), List.mem_of_getElem? (i := 640) (by decide +kernel), List.mem_of_getElem? (i := 641) (by decide +kernel)⟩
theorem lw_p25 : lw_okq (⟨"DeltaCyclesModel", "here", "()I"⟩, 22) := ⟨⟨by decide +kernel, by decide +kernel⟩, List.mem_of_getElem? (i := 657) (by decide +kernel), List.mem_of_getElem? (i := 743) (by decide +kernel), List.mem_of_getElem? (i := 744) (by decide +kernel)⟩
theorem lw_p26 : lw_okq (⟨"DeltaCyclesModel", "readClause", "()V"⟩, 22) := ⟨⟨by decide +kernel, by decide +kernel⟩, List.mem_of_getElem? (i := 657) (by decide +kernel), List.mem_of_getElem? (i := 747) (by decide +kernel), List.mem_of_getElem? (i := 748) (by decide +kernel)⟩
theorem lw_p27 : lw_okq (⟨"DeltaCyclesModel", "readWire", "(I)V"⟩, 22) := ⟨⟨by decide +kernel, by decide +kernel⟩, List.mem_of_getElem? (i := 657) (by decide +kernel), List.mem_of_getElem? (i := 751) (by decide +kernel), List.mem_of_getElem? (i := 752) (by decide +kernel)⟩
theorem lw_p28 : lw_okq (⟨"DeltaCyclesModel", "fail", "(II)V"⟩, 22) := ⟨⟨by decide +kernel, by decide +kernel⟩, List.mem_of_getElem? (i := 657) (by decide +kernel), List.mem_of_getElem? (i := 755) (by decide +kernel), List.mem_of_getElem? (i := 756) (by decide +kernel)⟩
theorem lw_p29 : lw_okq (⟨"DeltaCyclesModel", "number", "(II)I"⟩, 22) := ⟨⟨by decide +kernel, by decide +kernel⟩, List.mem_of_getElem? (i := 657) (by decide +kernel), List.mem_of_getElem? (i := 759) (by decide +kernel), List.mem_of_getElem? (i := 760) (by decide +kernel)⟩
theorem lw_p30 : lw_okq (⟨"DeltaCyclesModel", "readGate", "(I)V"⟩, 22) := ⟨⟨by decide +kernel, by decide +kernel⟩, List.mem_of_getElem? (i := 657) (by decide +kernel), List.mem_of_getElem? (i := 763) (by decide +kernel), List.mem_of_getElem? (i := 764) (by decide +kernel)⟩
theorem lw_p31 : lw_okq (⟨"DeltaCyclesModel", "begin", "()V"⟩, 22) := ⟨⟨by decide +kernel, by decide +kernel⟩, List.mem_of_getElem? (i := 657) (by decide +kernel), List.mem_of_getElem? (i := 767) (by decide +kernel), List.mem_of_getElem? (i := 768) (by decide +kernel)⟩
def lw_privs_2 : List (MethodName × Nat) := [(⟨"DeltaCycles$Moment", "takeByHand", "()I"⟩, 18), (⟨"DeltaCycles$Moment", "changeWire", "(II)I"⟩, 18), (⟨"DeltaCycles$Moment", "tellLookers", "(LDeltaCycles$Plan;I)V"⟩, 18), (⟨"DeltaCycles$Moment", "hasChange", "(II)Z"⟩, 18), (⟨"DeltaCycles$Moment", "wavePlace", "(II)I"⟩, 18), (⟨"DeltaCycles$Moment", "hasWaiting", "(II)Z"⟩, 18), (⟨"DeltaCycles", "maySetByHand", "(I)Z"⟩, 10), (⟨"DeltaCycles", "driftOnce", "()V"⟩, 10), (⟨"DeltaCycles", "imageOf", "(I)LDeltaCycles$Image;"⟩, 10), (⟨"DeltaCyclesModel", "here", "()I"⟩, 22), (⟨"DeltaCyclesModel", "readClause", "()V"⟩, 22), (⟨"DeltaCyclesModel", "readWire", "(I)V"⟩, 22), (⟨"DeltaCyclesModel", "fail", "(II)V"⟩, 22), (⟨"DeltaCyclesModel", "number", "(II)I"⟩, 22), (⟨"DeltaCyclesModel", "readGate", "(I)V"⟩, 22), (⟨"DeltaCyclesModel", "begin", "()V"⟩, 22)]
theorem lw_r2 : ∀ q ∈ lw_privs_2, lw_okq q := List.forall_mem_cons.mpr ⟨lw_p16, List.forall_mem_cons.mpr ⟨lw_p17, List.forall_mem_cons.mpr ⟨lw_p18, List.forall_mem_cons.mpr ⟨lw_p19, List.forall_mem_cons.mpr ⟨lw_p20, List.forall_mem_cons.mpr ⟨lw_p21, List.forall_mem_cons.mpr ⟨lw_p22, List.forall_mem_cons.mpr ⟨lw_p23, List.forall_mem_cons.mpr ⟨lw_p24, List.forall_mem_cons.mpr ⟨lw_p25, List.forall_mem_cons.mpr ⟨lw_p26, List.forall_mem_cons.mpr ⟨lw_p27, List.forall_mem_cons.mpr ⟨lw_p28, List.forall_mem_cons.mpr ⟨lw_p29, List.forall_mem_cons.mpr ⟨lw_p30, List.forall_mem_cons.mpr ⟨lw_p31, fun _ h => absurd h List.not_mem_nil⟩⟩⟩⟩⟩⟩⟩⟩⟩⟩⟩⟩⟩⟩⟩⟩
theorem lw_p32 : lw_okq (⟨"DeltaCyclesModel", "of", "(II)I"⟩, 22) := ⟨⟨by decide +kernel, by decide +kernel⟩, List.mem_of_getElem? (i := 657) (by decide +kernel), List.mem_of_getElem? (i := 771) (by decide +kernel), List.mem_of_getElem? (i := 772) (by decide +kernel)⟩
theorem lw_p33 : lw_okq (⟨"DeltaCyclesModel", "tellAll", "(I)V"⟩, 22) := ⟨⟨by decide +kernel, by decide +kernel⟩, List.mem_of_getElem? (i := 657) (by decide +kernel), List.mem_of_getElem? (i := 775) (by decide +kernel), List.mem_of_getElem? (i := 776) (by decide +kernel)⟩
theorem lw_p34 : lw_okq (⟨"DeltaCyclesModel", "tell", "(II)V"⟩, 22) := ⟨⟨by decide +kernel, by decide +kernel⟩, List.mem_of_getElem? (i := 657) (by decide +kernel), List.mem_of_getElem? (i := 779) (by decide +kernel), List.mem_of_getElem? (i := 780) (by decide +kernel)⟩
theorem lw_p35 : lw_okq (⟨"DeltaCyclesModel", "comesOf", "(II)I"⟩, 22) := ⟨⟨by decide +kernel, by decide +kernel⟩, List.mem_of_getElem? (i := 657) (by decide +kernel), List.mem_of_getElem? (i := 783) (by decide +kernel), List.mem_of_getElem? (i := 784) (by decide +kernel)⟩
theorem lw_p36 : lw_okq (⟨"DeltaCyclesModel", "dropFirst", "(III)V"⟩, 22) := ⟨⟨by decide +kernel, by decide +kernel⟩, List.mem_of_getElem? (i := 657) (by decide +kernel), List.mem_of_getElem? (i := 793) (by decide +kernel), List.mem_of_getElem? (i := 794) (by decide +kernel)⟩
theorem lw_p37 : lw_okq (⟨"DeltaCyclesModel", "isStill", "(I)Z"⟩, 22) := ⟨⟨by decide +kernel, by decide +kernel⟩, List.mem_of_getElem? (i := 657) (by decide +kernel), List.mem_of_getElem? (i := 805) (by decide +kernel), List.mem_of_getElem? (i := 806) (by decide +kernel)⟩
theorem lw_p38 : lw_okq (⟨"DeltaCyclesModel", "waits", "(I)I"⟩, 22) := ⟨⟨by decide +kernel, by decide +kernel⟩, List.mem_of_getElem? (i := 657) (by decide +kernel), List.mem_of_getElem? (i := 809) (by decide +kernel), List.mem_of_getElem? (i := 810) (by decide +kernel)⟩
theorem lw_p39 : lw_okq (⟨"DeltaCyclesModel", "holds", "()I"⟩, 22) := ⟨⟨by decide +kernel, by decide +kernel⟩, List.mem_of_getElem? (i := 657) (by decide +kernel), List.mem_of_getElem? (i := 813) (by decide +kernel), List.mem_of_getElem? (i := 814) (by decide +kernel)⟩
theorem lw_p40 : lw_okq (⟨"DeltaCyclesModel", "flickers", "()I"⟩, 22) := ⟨⟨by decide +kernel, by decide +kernel⟩, List.mem_of_getElem? (i := 657) (by decide +kernel), List.mem_of_getElem? (i := 817) (by decide +kernel), List.mem_of_getElem? (i := 818) (by decide +kernel)⟩
theorem lw_p41 : lw_okq (⟨"DeltaCyclesModel", "settles", "()I"⟩, 22) := ⟨⟨by decide +kernel, by decide +kernel⟩, List.mem_of_getElem? (i := 657) (by decide +kernel), List.mem_of_getElem? (i := 821) (by decide +kernel), List.mem_of_getElem? (i := 822) (by decide +kernel)⟩
theorem lw_p42 : lw_okq (⟨"DeltaCyclesModel", "copyRow", "(II)V"⟩, 22) := ⟨⟨by decide +kernel, by decide +kernel⟩, List.mem_of_getElem? (i := 657) (by decide +kernel), List.mem_of_getElem? (i := 825) (by decide +kernel), List.mem_of_getElem? (i := 826) (by decide +kernel)⟩
theorem lw_p43 : lw_okq (⟨"DeltaCyclesModel", "stepIn", "(I)V"⟩, 22) := ⟨⟨by decide +kernel, by decide +kernel⟩, List.mem_of_getElem? (i := 657) (by decide +kernel), List.mem_of_getElem? (i := 829) (by decide +kernel), List.mem_of_getElem? (i := 830) (by decide +kernel)⟩
theorem lw_p44 : lw_okq (⟨"DeltaCyclesModel", "cycle", "(I)I"⟩, 22) := ⟨⟨by decide +kernel, by decide +kernel⟩, List.mem_of_getElem? (i := 657) (by decide +kernel), List.mem_of_getElem? (i := 833) (by decide +kernel), List.mem_of_getElem? (i := 834) (by decide +kernel)⟩
theorem lw_p45 : lw_okq (⟨"DeltaCyclesModel", "dropHand", "(I)V"⟩, 22) := ⟨⟨by decide +kernel, by decide +kernel⟩, List.mem_of_getElem? (i := 657) (by decide +kernel), List.mem_of_getElem? (i := 837) (by decide +kernel), List.mem_of_getElem? (i := 838) (by decide +kernel)⟩
theorem lw_p46 : lw_okq (⟨"DeltaCyclesModel", "driversOf", "(I)I"⟩, 22) := ⟨⟨by decide +kernel, by decide +kernel⟩, List.mem_of_getElem? (i := 657) (by decide +kernel), List.mem_of_getElem? (i := 845) (by decide +kernel), List.mem_of_getElem? (i := 846) (by decide +kernel)⟩
theorem lw_p47 : lw_okq (⟨"DeltaCyclesModel", "drivenTo", "(III)I"⟩, 22) := ⟨⟨by decide +kernel, by decide +kernel⟩, List.mem_of_getElem? (i := 657) (by decide +kernel), List.mem_of_getElem? (i := 849) (by decide +kernel), List.mem_of_getElem? (i := 850) (by decide +kernel)⟩
def lw_privs_3 : List (MethodName × Nat) := [(⟨"DeltaCyclesModel", "of", "(II)I"⟩, 22), (⟨"DeltaCyclesModel", "tellAll", "(I)V"⟩, 22), (⟨"DeltaCyclesModel", "tell", "(II)V"⟩, 22), (⟨"DeltaCyclesModel", "comesOf", "(II)I"⟩, 22), (⟨"DeltaCyclesModel", "dropFirst", "(III)V"⟩, 22), (⟨"DeltaCyclesModel", "isStill", "(I)Z"⟩, 22), (⟨"DeltaCyclesModel", "waits", "(I)I"⟩, 22), (⟨"DeltaCyclesModel", "holds", "()I"⟩, 22), (⟨"DeltaCyclesModel", "flickers", "()I"⟩, 22), (⟨"DeltaCyclesModel", "settles", "()I"⟩, 22), (⟨"DeltaCyclesModel", "copyRow", "(II)V"⟩, 22), (⟨"DeltaCyclesModel", "stepIn", "(I)V"⟩, 22), (⟨"DeltaCyclesModel", "cycle", "(I)I"⟩, 22), (⟨"DeltaCyclesModel", "dropHand", "(I)V"⟩, 22), (⟨"DeltaCyclesModel", "driversOf", "(I)I"⟩, 22), (⟨"DeltaCyclesModel", "drivenTo", "(III)I"⟩, 22)]
theorem lw_r3 : ∀ q ∈ lw_privs_3, lw_okq q := List.forall_mem_cons.mpr ⟨lw_p32, List.forall_mem_cons.mpr ⟨lw_p33, List.forall_mem_cons.mpr ⟨lw_p34, List.forall_mem_cons.mpr ⟨lw_p35, List.forall_mem_cons.mpr ⟨lw_p36, List.forall_mem_cons.mpr ⟨lw_p37, List.forall_mem_cons.mpr ⟨lw_p38, List.forall_mem_cons.mpr ⟨lw_p39, List.forall_mem_cons.mpr ⟨lw_p40, List.forall_mem_cons.mpr ⟨lw_p41, List.forall_mem_cons.mpr ⟨lw_p42, List.forall_mem_cons.mpr ⟨lw_p43, List.forall_mem_cons.mpr ⟨lw_p44, List.forall_mem_cons.mpr ⟨lw_p45, List.forall_mem_cons.mpr ⟨lw_p46, List.forall_mem_cons.mpr ⟨lw_p47, fun _ h => absurd h List.not_mem_nil⟩⟩⟩⟩⟩⟩⟩⟩⟩⟩⟩⟩⟩⟩⟩⟩
theorem lw_p48 : lw_okq (⟨"DeltaCyclesModel", "change", "(III)V"⟩, 22) := ⟨⟨by decide +kernel, by decide +kernel⟩, List.mem_of_getElem? (i := 657) (by decide +kernel), List.mem_of_getElem? (i := 856) (by decide +kernel), List.mem_of_getElem? (i := 857) (by decide +kernel)⟩
theorem lw_p49 : lw_okq (⟨"DeltaCyclesModel", "looksAt", "(II)Z"⟩, 22) := ⟨⟨by decide +kernel, by decide +kernel⟩, List.mem_of_getElem? (i := 657) (by decide +kernel), List.mem_of_getElem? (i := 860) (by decide +kernel), List.mem_of_getElem? (i := 861) (by decide +kernel)⟩
theorem lw_p50 : lw_okq (⟨"DeltaCyclesModel", "wrongEntry", "()I"⟩, 22) := ⟨⟨by decide +kernel, by decide +kernel⟩, List.mem_of_getElem? (i := 657) (by decide +kernel), List.mem_of_getElem? (i := 864) (by decide +kernel), List.mem_of_getElem? (i := 865) (by decide +kernel)⟩
theorem lw_p51 : lw_okq (⟨"DeltaCyclesModel", "isWire", "(I)Z"⟩, 22) := ⟨⟨by decide +kernel, by decide +kernel⟩, List.mem_of_getElem? (i := 657) (by decide +kernel), List.mem_of_getElem? (i := 868) (by decide +kernel), List.mem_of_getElem? (i := 869) (by decide +kernel)⟩
theorem lw_p52 : lw_okq (⟨"DeltaCyclesModel", "lookersAt", "(I)I"⟩, 22) := ⟨⟨by decide +kernel, by decide +kernel⟩, List.mem_of_getElem? (i := 657) (by decide +kernel), List.mem_of_getElem? (i := 877) (by decide +kernel), List.mem_of_getElem? (i := 878) (by decide +kernel)⟩
theorem lw_p53 : lw_okq (⟨"DeltaCyclesModel", "isGate", "(I)Z"⟩, 22) := ⟨⟨by decide +kernel, by decide +kernel⟩, List.mem_of_getElem? (i := 657) (by decide +kernel), List.mem_of_getElem? (i := 889) (by decide +kernel), List.mem_of_getElem? (i := 890) (by decide +kernel)⟩
theorem lw_p54 : lw_okq (⟨"DeltaCyclesModel", "remember", "()V"⟩, 22) := ⟨⟨by decide +kernel, by decide +kernel⟩, List.mem_of_getElem? (i := 657) (by decide +kernel), List.mem_of_getElem? (i := 913) (by decide +kernel), List.mem_of_getElem? (i := 914) (by decide +kernel)⟩
theorem lw_p55 : lw_okq (⟨"DeltaCyclesModel", "mayBeSet", "(I)I"⟩, 22) := ⟨⟨by decide +kernel, by decide +kernel⟩, List.mem_of_getElem? (i := 657) (by decide +kernel), List.mem_of_getElem? (i := 925) (by decide +kernel), List.mem_of_getElem? (i := 926) (by decide +kernel)⟩
theorem lw_p56 : lw_okq (⟨"DeltaCyclesModel", "layHand", "(III)V"⟩, 22) := ⟨⟨by decide +kernel, by decide +kernel⟩, List.mem_of_getElem? (i := 657) (by decide +kernel), List.mem_of_getElem? (i := 929) (by decide +kernel), List.mem_of_getElem? (i := 930) (by decide +kernel)⟩
theorem lw_p57 : lw_okq (⟨"DeltaCyclesModel", "time", "()V"⟩, 22) := ⟨⟨by decide +kernel, by decide +kernel⟩, List.mem_of_getElem? (i := 657) (by decide +kernel), List.mem_of_getElem? (i := 941) (by decide +kernel), List.mem_of_getElem? (i := 942) (by decide +kernel)⟩
theorem lw_p58 : lw_okq (⟨"DeltaCyclesModel", "draw", "(I)I"⟩, 22) := ⟨⟨by decide +kernel, by decide +kernel⟩, List.mem_of_getElem? (i := 657) (by decide +kernel), List.mem_of_getElem? (i := 945) (by decide +kernel), List.mem_of_getElem? (i := 946) (by decide +kernel)⟩
def lw_privs_4 : List (MethodName × Nat) := [(⟨"DeltaCyclesModel", "change", "(III)V"⟩, 22), (⟨"DeltaCyclesModel", "looksAt", "(II)Z"⟩, 22), (⟨"DeltaCyclesModel", "wrongEntry", "()I"⟩, 22), (⟨"DeltaCyclesModel", "isWire", "(I)Z"⟩, 22), (⟨"DeltaCyclesModel", "lookersAt", "(I)I"⟩, 22), (⟨"DeltaCyclesModel", "isGate", "(I)Z"⟩, 22), (⟨"DeltaCyclesModel", "remember", "()V"⟩, 22), (⟨"DeltaCyclesModel", "mayBeSet", "(I)I"⟩, 22), (⟨"DeltaCyclesModel", "layHand", "(III)V"⟩, 22), (⟨"DeltaCyclesModel", "time", "()V"⟩, 22), (⟨"DeltaCyclesModel", "draw", "(I)I"⟩, 22)]
theorem lw_r4 : ∀ q ∈ lw_privs_4, lw_okq q := List.forall_mem_cons.mpr ⟨lw_p48, List.forall_mem_cons.mpr ⟨lw_p49, List.forall_mem_cons.mpr ⟨lw_p50, List.forall_mem_cons.mpr ⟨lw_p51, List.forall_mem_cons.mpr ⟨lw_p52, List.forall_mem_cons.mpr ⟨lw_p53, List.forall_mem_cons.mpr ⟨lw_p54, List.forall_mem_cons.mpr ⟨lw_p55, List.forall_mem_cons.mpr ⟨lw_p56, List.forall_mem_cons.mpr ⟨lw_p57, List.forall_mem_cons.mpr ⟨lw_p58, fun _ h => absurd h List.not_mem_nil⟩⟩⟩⟩⟩⟩⟩⟩⟩⟩⟩
def lw_privs : List (MethodName × Nat) := lw_privs_1 ++ (lw_privs_2 ++ (lw_privs_3 ++ (lw_privs_4)))
def lw_tbl : List Cond := k2_sels lw_privs ++ tables_1
theorem lw_privs_ok : ∀ q ∈ lw_privs, lw_okq q := by
  show ∀ q ∈ lw_privs_1 ++ (lw_privs_2 ++ (lw_privs_3 ++ (lw_privs_4))), lw_okq q
  exact List.forall_mem_append.mpr ⟨lw_r1, List.forall_mem_append.mpr ⟨lw_r2, List.forall_mem_append.mpr ⟨lw_r3, lw_r4⟩⟩⟩
end
section
/-! ===== BEGIN words of one list among another's, by their places ===== -/
theorem goodIn_r {big : List Cond} (ws : List Cond) (ps : List Nat) (hp : ws = ps.filterMap (fun i => big[i]?)) (h : ws.all goodWord = true) : GoodIn big ws := by
  intro w hw
  have h1 := List.all_eq_true.mp h w hw
  rw [hp] at hw
  obtain ⟨i, -, hi⟩ := List.mem_filterMap.mp hw
  have hm : w ∈ big := by first | exact List.mem_of_getElem? hi | exact List.getElem?_mem hi
  exact ⟨hm, good_of_word h1⟩
theorem goodIn_app {big a b : List Cond} (ha : GoodIn big a) (hb : GoodIn big b) : GoodIn big (a ++ b) := fun w h => (List.mem_append.mp h).elim (ha w) (hb w)
theorem goodIn_ca {big a b : List Cond} {c : Cond} (ha : GoodIn big (c :: a)) (hb : GoodIn big b) : GoodIn big (c :: (a ++ b)) := fun w h => (List.mem_cons.mp h).elim (fun e => ha w (List.mem_cons.mpr (Or.inl e))) (fun h => (List.mem_append.mp h).elim (fun h => ha w (List.mem_cons.mpr (Or.inr h))) (hb w))
theorem goodIn_sub {big ws : List Cond} (hm : ∀ w ∈ ws, w ∈ big) (h : ws.all goodWord = true) : GoodIn big ws := fun w hw => ⟨hm w hw, good_of_word (List.all_eq_true.mp h w hw)⟩
/-! ===== END ===== -/

/-! ===== BEGIN printed: names, fields, word lists, decode rows ===== -/
def RX0 : String := "DeltaCycles$Book"
def TX0 : u_T := fun k => match k with
  | 0 => ("DeltaCycles$Book", "entryWire", "[I", true)
  | 1 => ("DeltaCycles$Book", "entryLevel", "[I", true)
  | _ => ("DeltaCycles$Book", "count", "I", false)
def tyX0 : Nat → FieldType := fun k => match k with
  | 0 => .array .int
  | 1 => .array .int
  | _ => .int
abbrev wsX00 : List Cond := u_ws RX0 TX0 3
theorem nmX0 : ∀ a, a < 3 → ∀ b, b < 3 → a ≠ b → (TX0 a).2.1 ≠ (TX0 b).2.1 := by decide +kernel
theorem tyX0_ok : ∀ k, k < 3 → parseFieldDescriptor (TX0 k).2.2.1 = some (tyX0 k) := by decide +kernel
abbrev cX0_init : ByteArray := prog_2_method_1_code
def yX0_init : MethodName := ⟨RX0, "<init>", "()V"⟩
abbrev cX0_empty : ByteArray := prog_2_method_2_code
def yX0_empty : MethodName := ⟨RX0, "empty", "()V"⟩
abbrev cX0_addEntry : ByteArray := prog_2_method_3_code
def yX0_addEntry : MethodName := ⟨RX0, "addEntry", "(II)I"⟩
abbrev cX0_firstWrong : ByteArray := prog_2_method_4_code
def yX0_firstWrong : MethodName := ⟨RX0, "firstWrong", "(LDeltaCycles$Plan;LDeltaCycles$Moment;)I"⟩
def RX1 : String := "DeltaCycles$Draws"
def TX1 : u_T := fun k => match k with
  | _ => ("DeltaCycles$Draws", "state", "I", false)
def tyX1 : Nat → FieldType := fun k => match k with
  | _ => .int
abbrev wsX10 : List Cond := u_ws RX1 TX1 1
theorem nmX1 : ∀ a, a < 1 → ∀ b, b < 1 → a ≠ b → (TX1 a).2.1 ≠ (TX1 b).2.1 := by decide +kernel
theorem tyX1_ok : ∀ k, k < 1 → parseFieldDescriptor (TX1 k).2.2.1 = some (tyX1 k) := by decide +kernel
abbrev cX1_init : ByteArray := prog_3_method_1_code
def yX1_init : MethodName := ⟨RX1, "<init>", "()V"⟩
abbrev cX1_draw : ByteArray := prog_3_method_2_code
def yX1_draw : MethodName := ⟨RX1, "draw", "(I)I"⟩
def RX2 : String := "DeltaCycles$Image"
def TX2 : u_T := fun k => match k with
  | 0 => ("DeltaCycles$Image", "moment", "LDeltaCycles$Moment;", true)
  | 1 => ("DeltaCycles$Image", "drawState", "I", false)
  | _ => ("DeltaCycles$Image", "isKept", "Z", false)
def tyX2 : Nat → FieldType := fun k => match k with
  | 0 => .object "DeltaCycles$Moment"
  | 1 => .int
  | _ => .boolean
abbrev wsX20 : List Cond := u_ws RX2 TX2 3
theorem nmX2 : ∀ a, a < 3 → ∀ b, b < 3 → a ≠ b → (TX2 a).2.1 ≠ (TX2 b).2.1 := by decide +kernel
theorem tyX2_ok : ∀ k, k < 3 → parseFieldDescriptor (TX2 k).2.2.1 = some (tyX2 k) := by decide +kernel
abbrev cX2_init : ByteArray := prog_4_method_1_code
def yX2_init : MethodName := ⟨RX2, "<init>", "()V"⟩
abbrev cX2_forget : ByteArray := prog_4_method_2_code
def yX2_forget : MethodName := ⟨RX2, "forget", "()V"⟩
abbrev cX2_take : ByteArray := prog_4_method_3_code
def yX2_take : MethodName := ⟨RX2, "take", "(LDeltaCycles$Moment;LDeltaCycles$Draws;)V"⟩
abbrev cX2_give : ByteArray := prog_4_method_4_code
def yX2_give : MethodName := ⟨RX2, "give", "(LDeltaCycles$Moment;LDeltaCycles$Draws;)V"⟩
def RX3 : String := "DeltaCycles$Levels"
def TX3 : u_T := fun k => match k with
  | _ => ("", "", "", false)
def tyX3 : Nat → FieldType := fun k => match k with
  | _ => .int
abbrev wsX30 : List Cond := u_ws RX3 TX3 0
theorem nmX3 : ∀ a, a < 0 → ∀ b, b < 0 → a ≠ b → (TX3 a).2.1 ≠ (TX3 b).2.1 := by decide +kernel
theorem tyX3_ok : ∀ k, k < 0 → parseFieldDescriptor (TX3 k).2.2.1 = some (tyX3 k) := by decide +kernel
abbrev cX3_isLevel : ByteArray := prog_5_method_2_code
def yX3_isLevel : MethodName := ⟨RX3, "isLevel", "(I)Z"⟩
abbrev cX3_join : ByteArray := prog_5_method_3_code
def yX3_join : MethodName := ⟨RX3, "join", "(II)I"⟩
abbrev cX3_outcome : ByteArray := prog_5_method_4_code
def yX3_outcome : MethodName := ⟨RX3, "outcome", "(IIII)I"⟩
def RX4 : String := "DeltaCycles$Moment"
def TX4 : u_T := fun k => match k with
  | 0 => ("DeltaCycles$Moment", "time", "I", false)
  | 1 => ("DeltaCycles$Moment", "cycles", "I", false)
  | 2 => ("DeltaCycles$Moment", "endless", "Z", false)
  | 3 => ("DeltaCycles$Moment", "flickering", "I", false)
  | 4 => ("DeltaCycles$Moment", "level", "[I", true)
  | 5 => ("DeltaCycles$Moment", "changes", "[I", true)
  | 6 => ("DeltaCycles$Moment", "lastChange", "[I", true)
  | 7 => ("DeltaCycles$Moment", "waveEnd", "[I", true)
  | 8 => ("DeltaCycles$Moment", "waveTime", "[I", true)
  | 9 => ("DeltaCycles$Moment", "waveLevel", "[I", true)
  | 10 => ("DeltaCycles$Moment", "drive", "[I", true)
  | 11 => ("DeltaCycles$Moment", "waiting", "[I", true)
  | 12 => ("DeltaCycles$Moment", "dueTime", "[I", true)
  | 13 => ("DeltaCycles$Moment", "dueLevel", "[I", true)
  | 14 => ("DeltaCycles$Moment", "handCount", "I", false)
  | 15 => ("DeltaCycles$Moment", "handTime", "[I", true)
  | 16 => ("DeltaCycles$Moment", "handWire", "[I", true)
  | _ => ("DeltaCycles$Moment", "handLevel", "[I", true)
def tyX4 : Nat → FieldType := fun k => match k with
  | 0 => .int
  | 1 => .int
  | 2 => .boolean
  | 3 => .int
  | 4 => .array .int
  | 5 => .array .int
  | 6 => .array .int
  | 7 => .array .int
  | 8 => .array .int
  | 9 => .array .int
  | 10 => .array .int
  | 11 => .array .int
  | 12 => .array .int
  | 13 => .array .int
  | 14 => .int
  | 15 => .array .int
  | 16 => .array .int
  | _ => .array .int
abbrev wsX40 : List Cond := u_ws RX4 TX4 18
theorem nmX4 : ∀ a, a < 18 → ∀ b, b < 18 → a ≠ b → (TX4 a).2.1 ≠ (TX4 b).2.1 := by decide +kernel
theorem tyX4_ok : ∀ k, k < 18 → parseFieldDescriptor (TX4 k).2.2.1 = some (tyX4 k) := by decide +kernel
abbrev cX4_init : ByteArray := prog_6_method_1_code
def yX4_init : MethodName := ⟨RX4, "<init>", "()V"⟩
abbrev cX4_copyFrom : ByteArray := prog_6_method_2_code
def yX4_copyFrom : MethodName := ⟨RX4, "copyFrom", "(LDeltaCycles$Moment;)V"⟩
abbrev cX4_copyRow : ByteArray := prog_6_method_3_code
def yX4_copyRow : MethodName := ⟨RX4, "copyRow", "([I[I)V"⟩
abbrev cX4_begin : ByteArray := prog_6_method_4_code
def yX4_begin : MethodName := ⟨RX4, "begin", "(LDeltaCycles$Plan;)V"⟩
abbrev cX4_isStill : ByteArray := prog_6_method_5_code
def yX4_isStill : MethodName := ⟨RX4, "isStill", "()Z"⟩
abbrev cX4_earliest : ByteArray := prog_6_method_6_code
def yX4_earliest : MethodName := ⟨RX4, "earliest", "()I"⟩
abbrev cX4_outcomeOf : ByteArray := prog_6_method_7_code
def yX4_outcomeOf : MethodName := ⟨RX4, "outcomeOf", "(LDeltaCycles$Plan;I)I"⟩
abbrev cX4_drivenLevel : ByteArray := prog_6_method_8_code
def yX4_drivenLevel : MethodName := ⟨RX4, "drivenLevel", "(LDeltaCycles$Plan;II)I"⟩
abbrev cX4_holdingGates : ByteArray := prog_6_method_9_code
def yX4_holdingGates : MethodName := ⟨RX4, "holdingGates", "(LDeltaCycles$Plan;)I"⟩
abbrev cX4_changeTime : ByteArray := prog_6_method_10_code
def yX4_changeTime : MethodName := ⟨RX4, "changeTime", "(II)I"⟩
abbrev cX4_changeLevel : ByteArray := prog_6_method_11_code
def yX4_changeLevel : MethodName := ⟨RX4, "changeLevel", "(II)I"⟩
abbrev cX4_hasChange : ByteArray := prog_6_method_12_code
def yX4_hasChange : MethodName := ⟨RX4, "hasChange", "(II)Z"⟩
abbrev cX4_wavePlace : ByteArray := prog_6_method_13_code
def yX4_wavePlace : MethodName := ⟨RX4, "wavePlace", "(II)I"⟩
abbrev cX4_waitingTime : ByteArray := prog_6_method_14_code
def yX4_waitingTime : MethodName := ⟨RX4, "waitingTime", "(II)I"⟩
abbrev cX4_waitingLevel : ByteArray := prog_6_method_15_code
def yX4_waitingLevel : MethodName := ⟨RX4, "waitingLevel", "(II)I"⟩
abbrev cX4_hasWaiting : ByteArray := prog_6_method_16_code
def yX4_hasWaiting : MethodName := ⟨RX4, "hasWaiting", "(II)Z"⟩
abbrev cX4_handIsFull : ByteArray := prog_6_method_17_code
def yX4_handIsFull : MethodName := ⟨RX4, "handIsFull", "()Z"⟩
abbrev cX4_addByHand : ByteArray := prog_6_method_18_code
def yX4_addByHand : MethodName := ⟨RX4, "addByHand", "(III)V"⟩
abbrev cX4_tellAll : ByteArray := prog_6_method_19_code
def yX4_tellAll : MethodName := ⟨RX4, "tellAll", "(LDeltaCycles$Plan;)V"⟩
abbrev cX4_tellLookers : ByteArray := prog_6_method_20_code
def yX4_tellLookers : MethodName := ⟨RX4, "tellLookers", "(LDeltaCycles$Plan;I)V"⟩
abbrev cX4_tellGate : ByteArray := prog_6_method_21_code
def yX4_tellGate : MethodName := ⟨RX4, "tellGate", "(LDeltaCycles$Plan;II)V"⟩
abbrev cX4_alikeAtEnd : ByteArray := prog_6_method_22_code
def yX4_alikeAtEnd : MethodName := ⟨RX4, "alikeAtEnd", "(II)I"⟩
abbrev cX4_dropFirst : ByteArray := prog_6_method_23_code
def yX4_dropFirst : MethodName := ⟨RX4, "dropFirst", "(II)V"⟩
abbrev cX4_emptyQueues : ByteArray := prog_6_method_24_code
def yX4_emptyQueues : MethodName := ⟨RX4, "emptyQueues", "()V"⟩
abbrev cX4_advanceTo : ByteArray := prog_6_method_25_code
def yX4_advanceTo : MethodName := ⟨RX4, "advanceTo", "(LDeltaCycles$Plan;I)I"⟩
abbrev cX4_advance : ByteArray := prog_6_method_26_code
def yX4_advance : MethodName := ⟨RX4, "advance", "(LDeltaCycles$Plan;)V"⟩
abbrev cX4_makeCycle : ByteArray := prog_6_method_27_code
def yX4_makeCycle : MethodName := ⟨RX4, "makeCycle", "(LDeltaCycles$Plan;)Z"⟩
abbrev cX4_takeFromQueues : ByteArray := prog_6_method_28_code
def yX4_takeFromQueues : MethodName := ⟨RX4, "takeFromQueues", "(LDeltaCycles$Plan;)I"⟩
abbrev cX4_takeByHand : ByteArray := prog_6_method_29_code
def yX4_takeByHand : MethodName := ⟨RX4, "takeByHand", "()I"⟩
abbrev cX4_changeWire : ByteArray := prog_6_method_30_code
def yX4_changeWire : MethodName := ⟨RX4, "changeWire", "(II)I"⟩
def RX5 : String := "DeltaCycles$Past"
def TX5 : u_T := fun k => match k with
  | 0 => ("DeltaCycles$Past", "row", "[LDeltaCycles$Moment;", true)
  | 1 => ("DeltaCycles$Past", "end", "I", false)
  | _ => ("DeltaCycles$Past", "count", "I", false)
def tyX5 : Nat → FieldType := fun k => match k with
  | 0 => .array (.object "DeltaCycles$Moment")
  | 1 => .int
  | _ => .int
abbrev wsX50 : List Cond := u_ws RX5 TX5 3
theorem nmX5 : ∀ a, a < 3 → ∀ b, b < 3 → a ≠ b → (TX5 a).2.1 ≠ (TX5 b).2.1 := by decide +kernel
theorem tyX5_ok : ∀ k, k < 3 → parseFieldDescriptor (TX5 k).2.2.1 = some (tyX5 k) := by decide +kernel
abbrev cX5_init : ByteArray := prog_7_method_1_code
def yX5_init : MethodName := ⟨RX5, "<init>", "()V"⟩
abbrev cX5_forget : ByteArray := prog_7_method_2_code
def yX5_forget : MethodName := ⟨RX5, "forget", "()V"⟩
abbrev cX5_remember : ByteArray := prog_7_method_3_code
def yX5_remember : MethodName := ⟨RX5, "remember", "(LDeltaCycles$Moment;)V"⟩
abbrev cX5_bringBack : ByteArray := prog_7_method_4_code
def yX5_bringBack : MethodName := ⟨RX5, "bringBack", "(ILDeltaCycles$Moment;)V"⟩
def RX6 : String := "DeltaCycles$Plan"
def TX6 : u_T := fun k => match k with
  | 0 => ("DeltaCycles$Plan", "wireCount", "I", false)
  | 1 => ("DeltaCycles$Plan", "gateCount", "I", false)
  | 2 => ("DeltaCycles$Plan", "firstLevel", "[I", true)
  | 3 => ("DeltaCycles$Plan", "kind", "[I", true)
  | 4 => ("DeltaCycles$Plan", "first", "[I", true)
  | 5 => ("DeltaCycles$Plan", "second", "[I", true)
  | 6 => ("DeltaCycles$Plan", "target", "[I", true)
  | 7 => ("DeltaCycles$Plan", "delay", "[I", true)
  | _ => ("DeltaCycles$Plan", "mode", "[I", true)
def tyX6 : Nat → FieldType := fun k => match k with
  | 0 => .int
  | 1 => .int
  | 2 => .array .int
  | 3 => .array .int
  | 4 => .array .int
  | 5 => .array .int
  | 6 => .array .int
  | 7 => .array .int
  | _ => .array .int
abbrev wsX60 : List Cond := u_ws RX6 TX6 9
theorem nmX6 : ∀ a, a < 9 → ∀ b, b < 9 → a ≠ b → (TX6 a).2.1 ≠ (TX6 b).2.1 := by decide +kernel
theorem tyX6_ok : ∀ k, k < 9 → parseFieldDescriptor (TX6 k).2.2.1 = some (tyX6 k) := by decide +kernel
abbrev cX6_init : ByteArray := prog_8_method_1_code
def yX6_init : MethodName := ⟨RX6, "<init>", "()V"⟩
abbrev cX6_empty : ByteArray := prog_8_method_2_code
def yX6_empty : MethodName := ⟨RX6, "empty", "()V"⟩
abbrev cX6_hasWire : ByteArray := prog_8_method_3_code
def yX6_hasWire : MethodName := ⟨RX6, "hasWire", "(I)Z"⟩
abbrev cX6_hasGate : ByteArray := prog_8_method_4_code
def yX6_hasGate : MethodName := ⟨RX6, "hasGate", "(I)Z"⟩
abbrev cX6_addWire : ByteArray := prog_8_method_5_code
def yX6_addWire : MethodName := ⟨RX6, "addWire", "(I)V"⟩
abbrev cX6_looks : ByteArray := prog_8_method_6_code
def yX6_looks : MethodName := ⟨RX6, "looks", "(I)I"⟩
abbrev cX6_driversOf : ByteArray := prog_8_method_7_code
def yX6_driversOf : MethodName := ⟨RX6, "driversOf", "(I)I"⟩
abbrev cX6_lookersAt : ByteArray := prog_8_method_8_code
def yX6_lookersAt : MethodName := ⟨RX6, "lookersAt", "(I)I"⟩
def RX7 : String := "DeltaCycles$Reader"
def TX7 : u_T := fun k => match k with
  | 0 => ("DeltaCycles$Reader", "text", "[I", true)
  | 1 => ("DeltaCycles$Reader", "length", "I", false)
  | 2 => ("DeltaCycles$Reader", "faultPlace", "I", false)
  | 3 => ("DeltaCycles$Reader", "faultNumber", "I", false)
  | 4 => ("DeltaCycles$Reader", "place", "I", false)
  | _ => ("DeltaCycles$Reader", "numberPlace", "I", false)
def tyX7 : Nat → FieldType := fun k => match k with
  | 0 => .array .int
  | 1 => .int
  | 2 => .int
  | 3 => .int
  | 4 => .int
  | _ => .int
abbrev wsX70 : List Cond := u_ws RX7 TX7 6
theorem nmX7 : ∀ a, a < 6 → ∀ b, b < 6 → a ≠ b → (TX7 a).2.1 ≠ (TX7 b).2.1 := by decide +kernel
theorem tyX7_ok : ∀ k, k < 6 → parseFieldDescriptor (TX7 k).2.2.1 = some (tyX7 k) := by decide +kernel
abbrev cX7_init : ByteArray := prog_9_method_1_code
def yX7_init : MethodName := ⟨RX7, "<init>", "()V"⟩
abbrev cX7_addLetter : ByteArray := prog_9_method_2_code
def yX7_addLetter : MethodName := ⟨RX7, "addLetter", "(I)I"⟩
abbrev cX7_dropText : ByteArray := prog_9_method_3_code
def yX7_dropText : MethodName := ⟨RX7, "dropText", "()V"⟩
abbrev cX7_readInto : ByteArray := prog_9_method_4_code
def yX7_readInto : MethodName := ⟨RX7, "readInto", "(LDeltaCycles$Plan;)I"⟩
abbrev cX7_readClause : ByteArray := prog_9_method_5_code
def yX7_readClause : MethodName := ⟨RX7, "readClause", "(LDeltaCycles$Plan;)V"⟩
abbrev cX7_readWire : ByteArray := prog_9_method_6_code
def yX7_readWire : MethodName := ⟨RX7, "readWire", "(LDeltaCycles$Plan;)V"⟩
abbrev cX7_readGate : ByteArray := prog_9_method_7_code
def yX7_readGate : MethodName := ⟨RX7, "readGate", "(LDeltaCycles$Plan;)V"⟩
abbrev cX7_readNumber : ByteArray := prog_9_method_8_code
def yX7_readNumber : MethodName := ⟨RX7, "readNumber", "(I)I"⟩
abbrev cX7_readEnd : ByteArray := prog_9_method_9_code
def yX7_readEnd : MethodName := ⟨RX7, "readEnd", "()V"⟩
abbrev cX7_skipBlanks : ByteArray := prog_9_method_10_code
def yX7_skipBlanks : MethodName := ⟨RX7, "skipBlanks", "()V"⟩
abbrev cX7_letterHere : ByteArray := prog_9_method_11_code
def yX7_letterHere : MethodName := ⟨RX7, "letterHere", "()I"⟩
abbrev cX7_isFigure : ByteArray := prog_9_method_12_code
def yX7_isFigure : MethodName := ⟨RX7, "isFigure", "(I)Z"⟩
abbrev cX7_findFault : ByteArray := prog_9_method_13_code
def yX7_findFault : MethodName := ⟨RX7, "findFault", "(II)V"⟩
def RX8 : String := "DeltaCycles"
def TX8 : u_T := fun k => match k with
  | 0 => ("DeltaCycles", "reader", "LDeltaCycles$Reader;", true)
  | 1 => ("DeltaCycles", "plan", "LDeltaCycles$Plan;", false)
  | 2 => ("DeltaCycles", "sparePlan", "LDeltaCycles$Plan;", false)
  | 3 => ("DeltaCycles", "now", "LDeltaCycles$Moment;", true)
  | 4 => ("DeltaCycles", "trial", "LDeltaCycles$Moment;", true)
  | 5 => ("DeltaCycles", "past", "LDeltaCycles$Past;", true)
  | 6 => ("DeltaCycles", "firstImage", "LDeltaCycles$Image;", true)
  | 7 => ("DeltaCycles", "secondImage", "LDeltaCycles$Image;", true)
  | 8 => ("DeltaCycles", "book", "LDeltaCycles$Book;", true)
  | _ => ("DeltaCycles", "draws", "LDeltaCycles$Draws;", true)
def tyX8 : Nat → FieldType := fun k => match k with
  | 0 => .object "DeltaCycles$Reader"
  | 1 => .object "DeltaCycles$Plan"
  | 2 => .object "DeltaCycles$Plan"
  | 3 => .object "DeltaCycles$Moment"
  | 4 => .object "DeltaCycles$Moment"
  | 5 => .object "DeltaCycles$Past"
  | 6 => .object "DeltaCycles$Image"
  | 7 => .object "DeltaCycles$Image"
  | 8 => .object "DeltaCycles$Book"
  | _ => .object "DeltaCycles$Draws"
abbrev wsX80 : List Cond := u_ws RX8 TX8 10
theorem nmX8 : ∀ a, a < 10 → ∀ b, b < 10 → a ≠ b → (TX8 a).2.1 ≠ (TX8 b).2.1 := by decide +kernel
theorem tyX8_ok : ∀ k, k < 10 → parseFieldDescriptor (TX8 k).2.2.1 = some (tyX8 k) := by decide +kernel
abbrev cX8_init : ByteArray := prog_1_method_1_code
def yX8_init : MethodName := ⟨RX8, "<init>", "()V"⟩
abbrev cX8_feed : ByteArray := prog_1_method_2_code
def yX8_feed : MethodName := ⟨RX8, "feed", "(I)I"⟩
abbrev cX8_wires : ByteArray := prog_1_method_3_code
def yX8_wires : MethodName := ⟨RX8, "wires", "()I"⟩
abbrev cX8_fault : ByteArray := prog_1_method_4_code
def yX8_fault : MethodName := ⟨RX8, "fault", "()I"⟩
abbrev cX8_told : ByteArray := prog_1_method_5_code
def yX8_told : MethodName := ⟨RX8, "told", "(I)I"⟩
abbrev cX8_wire : ByteArray := prog_1_method_6_code
def yX8_wire : MethodName := ⟨RX8, "wire", "(II)I"⟩
abbrev cX8_wave : ByteArray := prog_1_method_7_code
def yX8_wave : MethodName := ⟨RX8, "wave", "(III)I"⟩
abbrev cX8_gate : ByteArray := prog_1_method_8_code
def yX8_gate : MethodName := ⟨RX8, "gate", "(II)I"⟩
abbrev cX8_queue : ByteArray := prog_1_method_9_code
def yX8_queue : MethodName := ⟨RX8, "queue", "(III)I"⟩
abbrev cX8_resolved : ByteArray := prog_1_method_10_code
def yX8_resolved : MethodName := ⟨RX8, "resolved", "(II)I"⟩
abbrev cX8_comes : ByteArray := prog_1_method_11_code
def yX8_comes : MethodName := ⟨RX8, "comes", "(III)I"⟩
abbrev cX8_step : ByteArray := prog_1_method_12_code
def yX8_step : MethodName := ⟨RX8, "step", "()I"⟩
abbrev cX8_run : ByteArray := prog_1_method_13_code
def yX8_run : MethodName := ⟨RX8, "run", "(I)I"⟩
abbrev cX8_set : ByteArray := prog_1_method_14_code
def yX8_set : MethodName := ⟨RX8, "set", "(III)I"⟩
abbrev cX8_calm : ByteArray := prog_1_method_15_code
def yX8_calm : MethodName := ⟨RX8, "calm", "()I"⟩
abbrev cX8_drift : ByteArray := prog_1_method_16_code
def yX8_drift : MethodName := ⟨RX8, "drift", "(I)I"⟩
abbrev cX8_undo : ByteArray := prog_1_method_17_code
def yX8_undo : MethodName := ⟨RX8, "undo", "(I)I"⟩
abbrev cX8_write : ByteArray := prog_1_method_18_code
def yX8_write : MethodName := ⟨RX8, "write", "(II)I"⟩
abbrev cX8_tear : ByteArray := prog_1_method_19_code
def yX8_tear : MethodName := ⟨RX8, "tear", "()I"⟩
abbrev cX8_seed : ByteArray := prog_1_method_20_code
def yX8_seed : MethodName := ⟨RX8, "seed", "(I)I"⟩
abbrev cX8_keep : ByteArray := prog_1_method_21_code
def yX8_keep : MethodName := ⟨RX8, "keep", "(I)I"⟩
abbrev cX8_goBack : ByteArray := prog_1_method_22_code
def yX8_goBack : MethodName := ⟨RX8, "goBack", "(I)I"⟩
abbrev cX8_imageOf : ByteArray := prog_1_method_23_code
def yX8_imageOf : MethodName := ⟨RX8, "imageOf", "(I)LDeltaCycles$Image;"⟩
abbrev cX8_maySetByHand : ByteArray := prog_1_method_24_code
def yX8_maySetByHand : MethodName := ⟨RX8, "maySetByHand", "(I)Z"⟩
abbrev cX8_driftOnce : ByteArray := prog_1_method_25_code
def yX8_driftOnce : MethodName := ⟨RX8, "driftOnce", "()V"⟩
abbrev cX8_stepsTillStill : ByteArray := prog_1_method_26_code
def yX8_stepsTillStill : MethodName := ⟨RX8, "stepsTillStill", "()I"⟩
def RX9 : String := "DeltaCyclesModel"
def TX9 : u_T := fun k => match k with
  | 0 => ("DeltaCyclesModel", "w", "[I", true)
  | 1 => ("DeltaCyclesModel", "wires", "I", false)
  | 2 => ("DeltaCyclesModel", "gates", "I", false)
  | 3 => ("DeltaCyclesModel", "gate", "[I", true)
  | 4 => ("DeltaCyclesModel", "known", "I", false)
  | 5 => ("DeltaCyclesModel", "kept", "I", false)
  | 6 => ("DeltaCyclesModel", "seed", "I", false)
  | 7 => ("DeltaCyclesModel", "keptSeed", "[I", true)
  | 8 => ("DeltaCyclesModel", "bookWire", "[I", true)
  | 9 => ("DeltaCyclesModel", "bookLevel", "[I", true)
  | 10 => ("DeltaCyclesModel", "booked", "I", false)
  | 11 => ("DeltaCyclesModel", "text", "[I", true)
  | 12 => ("DeltaCyclesModel", "size", "I", false)
  | 13 => ("DeltaCyclesModel", "fault", "I", false)
  | 14 => ("DeltaCyclesModel", "at", "I", false)
  | 15 => ("DeltaCyclesModel", "wrong", "I", false)
  | 16 => ("DeltaCyclesModel", "place", "I", false)
  | 17 => ("DeltaCyclesModel", "from", "I", false)
  | 18 => ("DeltaCyclesModel", "newWires", "I", false)
  | 19 => ("DeltaCyclesModel", "newGates", "I", false)
  | 20 => ("DeltaCyclesModel", "newLevel", "[I", true)
  | _ => ("DeltaCyclesModel", "newGate", "[I", true)
def tyX9 : Nat → FieldType := fun k => match k with
  | 0 => .array .int
  | 1 => .int
  | 2 => .int
  | 3 => .array .int
  | 4 => .int
  | 5 => .int
  | 6 => .int
  | 7 => .array .int
  | 8 => .array .int
  | 9 => .array .int
  | 10 => .int
  | 11 => .array .int
  | 12 => .int
  | 13 => .int
  | 14 => .int
  | 15 => .int
  | 16 => .int
  | 17 => .int
  | 18 => .int
  | 19 => .int
  | 20 => .array .int
  | _ => .array .int
abbrev wsX90 : List Cond := u_ws RX9 TX9 22
theorem nmX9 : ∀ a, a < 22 → ∀ b, b < 22 → a ≠ b → (TX9 a).2.1 ≠ (TX9 b).2.1 := by decide +kernel
theorem tyX9_ok : ∀ k, k < 22 → parseFieldDescriptor (TX9 k).2.2.1 = some (tyX9 k) := by decide +kernel
abbrev cX9_init : ByteArray := prog_11_method_1_code
def yX9_init : MethodName := ⟨RX9, "<init>", "()V"⟩
abbrev cX9_in : ByteArray := prog_11_method_2_code
def yX9_in : MethodName := ⟨RX9, "in", "(III)Z"⟩
abbrev cX9_least : ByteArray := prog_11_method_3_code
def yX9_least : MethodName := ⟨RX9, "least", "(II)I"⟩
abbrev cX9_copyRow : ByteArray := prog_11_method_4_code
def yX9_copyRow : MethodName := ⟨RX9, "copyRow", "(II)V"⟩
abbrev cX9_isWire : ByteArray := prog_11_method_5_code
def yX9_isWire : MethodName := ⟨RX9, "isWire", "(I)Z"⟩
abbrev cX9_isGate : ByteArray := prog_11_method_6_code
def yX9_isGate : MethodName := ⟨RX9, "isGate", "(I)Z"⟩
abbrev cX9_isLevel : ByteArray := prog_11_method_7_code
def yX9_isLevel : MethodName := ⟨RX9, "isLevel", "(I)Z"⟩
abbrev cX9_of : ByteArray := prog_11_method_8_code
def yX9_of : MethodName := ⟨RX9, "of", "(II)I"⟩
abbrev cX9_firm : ByteArray := prog_11_method_9_code
def yX9_firm : MethodName := ⟨RX9, "firm", "(I)I"⟩
abbrev cX9_together : ByteArray := prog_11_method_10_code
def yX9_together : MethodName := ⟨RX9, "together", "(II)I"⟩
abbrev cX9_made : ByteArray := prog_11_method_11_code
def yX9_made : MethodName := ⟨RX9, "made", "(III)I"⟩
abbrev cX9_comesOf : ByteArray := prog_11_method_12_code
def yX9_comesOf : MethodName := ⟨RX9, "comesOf", "(II)I"⟩
abbrev cX9_looksAt : ByteArray := prog_11_method_13_code
def yX9_looksAt : MethodName := ⟨RX9, "looksAt", "(II)Z"⟩
abbrev cX9_driversOf : ByteArray := prog_11_method_14_code
def yX9_driversOf : MethodName := ⟨RX9, "driversOf", "(I)I"⟩
abbrev cX9_drivenTo : ByteArray := prog_11_method_15_code
def yX9_drivenTo : MethodName := ⟨RX9, "drivenTo", "(III)I"⟩
abbrev cX9_dropFirst : ByteArray := prog_11_method_16_code
def yX9_dropFirst : MethodName := ⟨RX9, "dropFirst", "(III)V"⟩
abbrev cX9_tell : ByteArray := prog_11_method_17_code
def yX9_tell : MethodName := ⟨RX9, "tell", "(II)V"⟩
abbrev cX9_tellAll : ByteArray := prog_11_method_18_code
def yX9_tellAll : MethodName := ⟨RX9, "tellAll", "(I)V"⟩
abbrev cX9_dropHand : ByteArray := prog_11_method_19_code
def yX9_dropHand : MethodName := ⟨RX9, "dropHand", "(I)V"⟩
abbrev cX9_waits : ByteArray := prog_11_method_20_code
def yX9_waits : MethodName := ⟨RX9, "waits", "(I)I"⟩
abbrev cX9_change : ByteArray := prog_11_method_21_code
def yX9_change : MethodName := ⟨RX9, "change", "(III)V"⟩
abbrev cX9_cycle : ByteArray := prog_11_method_22_code
def yX9_cycle : MethodName := ⟨RX9, "cycle", "(I)I"⟩
abbrev cX9_stepIn : ByteArray := prog_11_method_23_code
def yX9_stepIn : MethodName := ⟨RX9, "stepIn", "(I)V"⟩
abbrev cX9_feed : ByteArray := prog_11_method_24_code
def yX9_feed : MethodName := ⟨RX9, "feed", "(I)I"⟩
abbrev cX9_fail : ByteArray := prog_11_method_25_code
def yX9_fail : MethodName := ⟨RX9, "fail", "(II)V"⟩
abbrev cX9_here : ByteArray := prog_11_method_26_code
def yX9_here : MethodName := ⟨RX9, "here", "()I"⟩
abbrev cX9_number : ByteArray := prog_11_method_27_code
def yX9_number : MethodName := ⟨RX9, "number", "(II)I"⟩
abbrev cX9_readWire : ByteArray := prog_11_method_28_code
def yX9_readWire : MethodName := ⟨RX9, "readWire", "(I)V"⟩
abbrev cX9_readGate : ByteArray := prog_11_method_29_code
def yX9_readGate : MethodName := ⟨RX9, "readGate", "(I)V"⟩
abbrev cX9_readClause : ByteArray := prog_11_method_30_code
def yX9_readClause : MethodName := ⟨RX9, "readClause", "()V"⟩
abbrev cX9_begin : ByteArray := prog_11_method_31_code
def yX9_begin : MethodName := ⟨RX9, "begin", "()V"⟩
abbrev cX9_wires : ByteArray := prog_11_method_32_code
def yX9_wires : MethodName := ⟨RX9, "wires", "()I"⟩
abbrev cX9_fault : ByteArray := prog_11_method_33_code
def yX9_fault : MethodName := ⟨RX9, "fault", "()I"⟩
abbrev cX9_isStill : ByteArray := prog_11_method_34_code
def yX9_isStill : MethodName := ⟨RX9, "isStill", "(I)Z"⟩
abbrev cX9_holds : ByteArray := prog_11_method_35_code
def yX9_holds : MethodName := ⟨RX9, "holds", "()I"⟩
abbrev cX9_flickers : ByteArray := prog_11_method_36_code
def yX9_flickers : MethodName := ⟨RX9, "flickers", "()I"⟩
abbrev cX9_settles : ByteArray := prog_11_method_37_code
def yX9_settles : MethodName := ⟨RX9, "settles", "()I"⟩
abbrev cX9_wrongEntry : ByteArray := prog_11_method_38_code
def yX9_wrongEntry : MethodName := ⟨RX9, "wrongEntry", "()I"⟩
abbrev cX9_told : ByteArray := prog_11_method_39_code
def yX9_told : MethodName := ⟨RX9, "told", "(I)I"⟩
abbrev cX9_lookersAt : ByteArray := prog_11_method_40_code
def yX9_lookersAt : MethodName := ⟨RX9, "lookersAt", "(I)I"⟩
abbrev cX9_wire : ByteArray := prog_11_method_41_code
def yX9_wire : MethodName := ⟨RX9, "wire", "(II)I"⟩
abbrev cX9_wave : ByteArray := prog_11_method_42_code
def yX9_wave : MethodName := ⟨RX9, "wave", "(III)I"⟩
abbrev cX9_gate : ByteArray := prog_11_method_43_code
def yX9_gate : MethodName := ⟨RX9, "gate", "(II)I"⟩
abbrev cX9_queue : ByteArray := prog_11_method_44_code
def yX9_queue : MethodName := ⟨RX9, "queue", "(III)I"⟩
abbrev cX9_resolved : ByteArray := prog_11_method_45_code
def yX9_resolved : MethodName := ⟨RX9, "resolved", "(II)I"⟩
abbrev cX9_comes : ByteArray := prog_11_method_46_code
def yX9_comes : MethodName := ⟨RX9, "comes", "(III)I"⟩
abbrev cX9_remember : ByteArray := prog_11_method_47_code
def yX9_remember : MethodName := ⟨RX9, "remember", "()V"⟩
abbrev cX9_step : ByteArray := prog_11_method_48_code
def yX9_step : MethodName := ⟨RX9, "step", "()I"⟩
abbrev cX9_run : ByteArray := prog_11_method_49_code
def yX9_run : MethodName := ⟨RX9, "run", "(I)I"⟩
abbrev cX9_mayBeSet : ByteArray := prog_11_method_50_code
def yX9_mayBeSet : MethodName := ⟨RX9, "mayBeSet", "(I)I"⟩
abbrev cX9_layHand : ByteArray := prog_11_method_51_code
def yX9_layHand : MethodName := ⟨RX9, "layHand", "(III)V"⟩
abbrev cX9_set : ByteArray := prog_11_method_52_code
def yX9_set : MethodName := ⟨RX9, "set", "(III)I"⟩
abbrev cX9_calm : ByteArray := prog_11_method_53_code
def yX9_calm : MethodName := ⟨RX9, "calm", "()I"⟩
abbrev cX9_draw : ByteArray := prog_11_method_54_code
def yX9_draw : MethodName := ⟨RX9, "draw", "(I)I"⟩
abbrev cX9_time : ByteArray := prog_11_method_55_code
def yX9_time : MethodName := ⟨RX9, "time", "()V"⟩
abbrev cX9_drift : ByteArray := prog_11_method_56_code
def yX9_drift : MethodName := ⟨RX9, "drift", "(I)I"⟩
abbrev cX9_undo : ByteArray := prog_11_method_57_code
def yX9_undo : MethodName := ⟨RX9, "undo", "(I)I"⟩
abbrev cX9_write : ByteArray := prog_11_method_58_code
def yX9_write : MethodName := ⟨RX9, "write", "(II)I"⟩
abbrev cX9_tear : ByteArray := prog_11_method_59_code
def yX9_tear : MethodName := ⟨RX9, "tear", "()I"⟩
abbrev cX9_seed : ByteArray := prog_11_method_60_code
def yX9_seed : MethodName := ⟨RX9, "seed", "(I)I"⟩
abbrev cX9_keep : ByteArray := prog_11_method_61_code
def yX9_keep : MethodName := ⟨RX9, "keep", "(I)I"⟩
abbrev cX9_goBack : ByteArray := prog_11_method_62_code
def yX9_goBack : MethodName := ⟨RX9, "goBack", "(I)I"⟩
def RJ9 : String := "java/lang/Math"
def TJ9 : u_T := fun k => match k with
  | _ => ("", "", "", false)
def tyJ9 : Nat → FieldType := fun k => match k with
  | _ => .int
abbrev wsJ90 : List Cond := u_ws RJ9 TJ9 0
theorem nmJ9 : ∀ a, a < 0 → ∀ b, b < 0 → a ≠ b → (TJ9 a).2.1 ≠ (TJ9 b).2.1 := by decide +kernel
theorem tyJ9_ok : ∀ k, k < 0 → parseFieldDescriptor (TJ9 k).2.2.1 = some (tyJ9 k) := by decide +kernel
abbrev cJ9_floorMod_7cf53 : ByteArray := prog_12_method_50_code
def yJ9_floorMod_7cf53 : MethodName := ⟨RJ9, "floorMod", "(II)I"⟩
abbrev cJ9_max_7cf53 : ByteArray := prog_12_method_65_code
def yJ9_max_7cf53 : MethodName := ⟨RJ9, "max", "(II)I"⟩
abbrev cJ9_min_7cf53 : ByteArray := prog_12_method_69_code
def yJ9_min_7cf53 : MethodName := ⟨RJ9, "min", "(II)I"⟩
def RJ10 : String := "java/lang/System"
def TJ10 : u_T := fun k => match k with
  | _ => ("", "", "", false)
def tyJ10 : Nat → FieldType := fun k => match k with
  | _ => .int
abbrev wsJ100 : List Cond := u_ws RJ10 TJ10 0
theorem nmJ10 : ∀ a, a < 0 → ∀ b, b < 0 → a ≠ b → (TJ10 a).2.1 ≠ (TJ10 b).2.1 := by decide +kernel
theorem tyJ10_ok : ∀ k, k < 0 → parseFieldDescriptor (TJ10 k).2.2.1 = some (tyJ10 k) := by decide +kernel
def RL : String := "DeltaCyclesLaw"
abbrev cL_law : ByteArray := code
def yL_law : MethodName := ⟨RL, "law", "([I)Z"⟩
abbrev vwCl : List vw_C := [(RX0, TX0, 3), (RX1, TX1, 1), (RX2, TX2, 3), (RX4, TX4, 18), (RX5, TX5, 3), (RX6, TX6, 9), (RX7, TX7, 6), (RX8, TX8, 10), (RX9, TX9, 22)]
end
section
theorem dX0_init_0 : decode cX0_init 0 = .ok (.aload_n 0, 1) := by decide +kernel
theorem dX0_init_1 : decode cX0_init 1 = .ok (.invokespecial 3, 3) := by decide +kernel
theorem dX0_init_4 : decode cX0_init 4 = .ok (.aload_n 0, 1) := by decide +kernel
theorem dX0_init_5 : decode cX0_init 5 = .ok (.bipush 20, 2) := by decide +kernel
theorem dX0_init_7 : decode cX0_init 7 = .ok (.newarray .int, 2) := by decide +kernel
theorem dX0_init_9 : decode cX0_init 9 = .ok (.putfield 11, 3) := by decide +kernel
theorem dX0_init_12 : decode cX0_init 12 = .ok (.aload_n 0, 1) := by decide +kernel
theorem dX0_init_13 : decode cX0_init 13 = .ok (.bipush 20, 2) := by decide +kernel
theorem dX0_init_15 : decode cX0_init 15 = .ok (.newarray .int, 2) := by decide +kernel
theorem dX0_init_17 : decode cX0_init 17 = .ok (.putfield 15, 3) := by decide +kernel
theorem dX0_init_20 : decode cX0_init 20 = .ok (.return_, 1) := by decide +kernel
theorem dX0_empty_0 : decode cX0_empty 0 = .ok (.aload_n 0, 1) := by decide +kernel
theorem dX0_empty_1 : decode cX0_empty 1 = .ok (.iconst 0, 1) := by decide +kernel
theorem dX0_empty_2 : decode cX0_empty 2 = .ok (.putfield 18, 3) := by decide +kernel
theorem dX0_empty_5 : decode cX0_empty 5 = .ok (.return_, 1) := by decide +kernel
theorem dX0_addEntry_0 : decode cX0_addEntry 0 = .ok (.aload_n 0, 1) := by decide +kernel
theorem dX0_addEntry_1 : decode cX0_addEntry 1 = .ok (.getfield 18, 3) := by decide +kernel
theorem dX0_addEntry_4 : decode cX0_addEntry 4 = .ok (.bipush 20, 2) := by decide +kernel
theorem dX0_addEntry_6 : decode cX0_addEntry 6 = .ok (.if_icmp .lt 6, 3) := by decide +kernel
theorem dX0_addEntry_9 : decode cX0_addEntry 9 = .ok (.ldc 22, 2) := by decide +kernel
theorem dX0_addEntry_11 : decode cX0_addEntry 11 = .ok (.ireturn, 1) := by decide +kernel
theorem dX0_addEntry_12 : decode cX0_addEntry 12 = .ok (.aload_n 0, 1) := by decide +kernel
theorem dX0_addEntry_13 : decode cX0_addEntry 13 = .ok (.getfield 11, 3) := by decide +kernel
theorem dX0_addEntry_16 : decode cX0_addEntry 16 = .ok (.aload_n 0, 1) := by decide +kernel
theorem dX0_addEntry_17 : decode cX0_addEntry 17 = .ok (.getfield 18, 3) := by decide +kernel
theorem dX0_addEntry_20 : decode cX0_addEntry 20 = .ok (.iload_n 1, 1) := by decide +kernel
theorem dX0_addEntry_21 : decode cX0_addEntry 21 = .ok (.iastore, 1) := by decide +kernel
theorem dX0_addEntry_22 : decode cX0_addEntry 22 = .ok (.aload_n 0, 1) := by decide +kernel
theorem dX0_addEntry_23 : decode cX0_addEntry 23 = .ok (.getfield 15, 3) := by decide +kernel
theorem dX0_addEntry_26 : decode cX0_addEntry 26 = .ok (.aload_n 0, 1) := by decide +kernel
theorem dX0_addEntry_27 : decode cX0_addEntry 27 = .ok (.getfield 18, 3) := by decide +kernel
theorem dX0_addEntry_30 : decode cX0_addEntry 30 = .ok (.iload_n 2, 1) := by decide +kernel
theorem dX0_addEntry_31 : decode cX0_addEntry 31 = .ok (.iastore, 1) := by decide +kernel
theorem dX0_addEntry_32 : decode cX0_addEntry 32 = .ok (.aload_n 0, 1) := by decide +kernel
theorem dX0_addEntry_33 : decode cX0_addEntry 33 = .ok (.dup, 1) := by decide +kernel
theorem dX0_addEntry_34 : decode cX0_addEntry 34 = .ok (.getfield 18, 3) := by decide +kernel
theorem dX0_addEntry_37 : decode cX0_addEntry 37 = .ok (.iconst 1, 1) := by decide +kernel
theorem dX0_addEntry_38 : decode cX0_addEntry 38 = .ok (.iadd, 1) := by decide +kernel
theorem dX0_addEntry_39 : decode cX0_addEntry 39 = .ok (.putfield 18, 3) := by decide +kernel
theorem dX0_addEntry_42 : decode cX0_addEntry 42 = .ok (.aload_n 0, 1) := by decide +kernel
theorem dX0_addEntry_43 : decode cX0_addEntry 43 = .ok (.getfield 18, 3) := by decide +kernel
theorem dX0_addEntry_46 : decode cX0_addEntry 46 = .ok (.ireturn, 1) := by decide +kernel
theorem dX0_firstWrong_0 : decode cX0_firstWrong 0 = .ok (.iconst 0, 1) := by decide +kernel
theorem dX0_firstWrong_1 : decode cX0_firstWrong 1 = .ok (.istore_n 3, 1) := by decide +kernel
theorem dX0_firstWrong_2 : decode cX0_firstWrong 2 = .ok (.iload_n 3, 1) := by decide +kernel
theorem dX0_firstWrong_3 : decode cX0_firstWrong 3 = .ok (.aload_n 0, 1) := by decide +kernel
theorem dX0_firstWrong_4 : decode cX0_firstWrong 4 = .ok (.getfield 18, 3) := by decide +kernel
theorem dX0_firstWrong_7 : decode cX0_firstWrong 7 = .ok (.if_icmp .ge 44, 3) := by decide +kernel
theorem dX0_firstWrong_10 : decode cX0_firstWrong 10 = .ok (.aload_n 0, 1) := by decide +kernel
theorem dX0_firstWrong_11 : decode cX0_firstWrong 11 = .ok (.getfield 11, 3) := by decide +kernel
theorem dX0_firstWrong_14 : decode cX0_firstWrong 14 = .ok (.iload_n 3, 1) := by decide +kernel
theorem dX0_firstWrong_15 : decode cX0_firstWrong 15 = .ok (.iaload, 1) := by decide +kernel
theorem dX0_firstWrong_16 : decode cX0_firstWrong 16 = .ok (.istore 4, 2) := by decide +kernel
theorem dX0_firstWrong_18 : decode cX0_firstWrong 18 = .ok (.aload_n 1, 1) := by decide +kernel
theorem dX0_firstWrong_19 : decode cX0_firstWrong 19 = .ok (.iload 4, 2) := by decide +kernel
theorem dX0_firstWrong_21 : decode cX0_firstWrong 21 = .ok (.invokevirtual 23, 3) := by decide +kernel
theorem dX0_firstWrong_24 : decode cX0_firstWrong 24 = .ok (.ifCond .eq 19, 3) := by decide +kernel
theorem dX0_firstWrong_27 : decode cX0_firstWrong 27 = .ok (.aload_n 2, 1) := by decide +kernel
theorem dX0_firstWrong_28 : decode cX0_firstWrong 28 = .ok (.getfield 29, 3) := by decide +kernel
theorem dX0_firstWrong_31 : decode cX0_firstWrong 31 = .ok (.iload 4, 2) := by decide +kernel
theorem dX0_firstWrong_33 : decode cX0_firstWrong 33 = .ok (.iaload, 1) := by decide +kernel
theorem dX0_firstWrong_34 : decode cX0_firstWrong 34 = .ok (.aload_n 0, 1) := by decide +kernel
theorem dX0_firstWrong_35 : decode cX0_firstWrong 35 = .ok (.getfield 15, 3) := by decide +kernel
theorem dX0_firstWrong_38 : decode cX0_firstWrong 38 = .ok (.iload_n 3, 1) := by decide +kernel
theorem dX0_firstWrong_39 : decode cX0_firstWrong 39 = .ok (.iaload, 1) := by decide +kernel
theorem dX0_firstWrong_40 : decode cX0_firstWrong 40 = .ok (.if_icmp .eq 5, 3) := by decide +kernel
theorem dX0_firstWrong_43 : decode cX0_firstWrong 43 = .ok (.iload_n 3, 1) := by decide +kernel
theorem dX0_firstWrong_44 : decode cX0_firstWrong 44 = .ok (.ireturn, 1) := by decide +kernel
theorem dX0_firstWrong_45 : decode cX0_firstWrong 45 = .ok (.iinc 3 1, 3) := by decide +kernel
theorem dX0_firstWrong_48 : decode cX0_firstWrong 48 = .ok (.goto (-46), 3) := by decide +kernel
theorem dX0_firstWrong_51 : decode cX0_firstWrong 51 = .ok (.iconst (-1), 1) := by decide +kernel
theorem dX0_firstWrong_52 : decode cX0_firstWrong 52 = .ok (.ireturn, 1) := by decide +kernel
theorem dX1_init_0 : decode cX1_init 0 = .ok (.aload_n 0, 1) := by decide +kernel
theorem dX1_init_1 : decode cX1_init 1 = .ok (.invokespecial 1, 3) := by decide +kernel
theorem dX1_init_4 : decode cX1_init 4 = .ok (.return_, 1) := by decide +kernel
theorem dX1_draw_0 : decode cX1_draw 0 = .ok (.aload_n 0, 1) := by decide +kernel
theorem dX1_draw_1 : decode cX1_draw 1 = .ok (.aload_n 0, 1) := by decide +kernel
theorem dX1_draw_2 : decode cX1_draw 2 = .ok (.getfield 7, 3) := by decide +kernel
theorem dX1_draw_5 : decode cX1_draw 5 = .ok (.i2l, 1) := by decide +kernel
theorem dX1_draw_6 : decode cX1_draw 6 = .ok (.ldc2_w 13, 3) := by decide +kernel
theorem dX1_draw_9 : decode cX1_draw 9 = .ok (.lmul, 1) := by decide +kernel
theorem dX1_draw_10 : decode cX1_draw 10 = .ok (.ldc2_w 15, 3) := by decide +kernel
theorem dX1_draw_13 : decode cX1_draw 13 = .ok (.ladd, 1) := by decide +kernel
theorem dX1_draw_14 : decode cX1_draw 14 = .ok (.ldc2_w 17, 3) := by decide +kernel
theorem dX1_draw_17 : decode cX1_draw 17 = .ok (.land, 1) := by decide +kernel
theorem dX1_draw_18 : decode cX1_draw 18 = .ok (.l2i, 1) := by decide +kernel
theorem dX1_draw_19 : decode cX1_draw 19 = .ok (.putfield 7, 3) := by decide +kernel
theorem dX1_draw_22 : decode cX1_draw 22 = .ok (.iload_n 1, 1) := by decide +kernel
theorem dX1_draw_23 : decode cX1_draw 23 = .ok (.ifCond .le 15, 3) := by decide +kernel
theorem dX1_draw_26 : decode cX1_draw 26 = .ok (.aload_n 0, 1) := by decide +kernel
theorem dX1_draw_27 : decode cX1_draw 27 = .ok (.getfield 7, 3) := by decide +kernel
theorem dX1_draw_30 : decode cX1_draw 30 = .ok (.ldc 19, 2) := by decide +kernel
theorem dX1_draw_32 : decode cX1_draw 32 = .ok (.idiv, 1) := by decide +kernel
theorem dX1_draw_33 : decode cX1_draw 33 = .ok (.iload_n 1, 1) := by decide +kernel
theorem dX1_draw_34 : decode cX1_draw 34 = .ok (.irem, 1) := by decide +kernel
theorem dX1_draw_35 : decode cX1_draw 35 = .ok (.goto 4, 3) := by decide +kernel
theorem dX1_draw_38 : decode cX1_draw 38 = .ok (.iconst 0, 1) := by decide +kernel
theorem dX1_draw_39 : decode cX1_draw 39 = .ok (.ireturn, 1) := by decide +kernel
theorem dX2_init_0 : decode cX2_init 0 = .ok (.aload_n 0, 1) := by decide +kernel
theorem dX2_init_1 : decode cX2_init 1 = .ok (.invokespecial 1, 3) := by decide +kernel
theorem dX2_init_4 : decode cX2_init 4 = .ok (.aload_n 0, 1) := by decide +kernel
theorem dX2_init_5 : decode cX2_init 5 = .ok (.new 7, 3) := by decide +kernel
theorem dX2_init_8 : decode cX2_init 8 = .ok (.dup, 1) := by decide +kernel
theorem dX2_init_9 : decode cX2_init 9 = .ok (.invokespecial 9, 3) := by decide +kernel
theorem dX2_init_12 : decode cX2_init 12 = .ok (.putfield 10, 3) := by decide +kernel
theorem dX2_init_15 : decode cX2_init 15 = .ok (.return_, 1) := by decide +kernel
theorem dX2_forget_0 : decode cX2_forget 0 = .ok (.aload_n 0, 1) := by decide +kernel
theorem dX2_forget_1 : decode cX2_forget 1 = .ok (.iconst 0, 1) := by decide +kernel
theorem dX2_forget_2 : decode cX2_forget 2 = .ok (.putfield 16, 3) := by decide +kernel
theorem dX2_forget_5 : decode cX2_forget 5 = .ok (.return_, 1) := by decide +kernel
theorem dX2_take_0 : decode cX2_take 0 = .ok (.aload_n 0, 1) := by decide +kernel
theorem dX2_take_1 : decode cX2_take 1 = .ok (.getfield 10, 3) := by decide +kernel
theorem dX2_take_4 : decode cX2_take 4 = .ok (.aload_n 1, 1) := by decide +kernel
theorem dX2_take_5 : decode cX2_take 5 = .ok (.invokevirtual 20, 3) := by decide +kernel
theorem dX2_take_8 : decode cX2_take 8 = .ok (.aload_n 0, 1) := by decide +kernel
theorem dX2_take_9 : decode cX2_take 9 = .ok (.aload_n 2, 1) := by decide +kernel
theorem dX2_take_10 : decode cX2_take 10 = .ok (.getfield 24, 3) := by decide +kernel
theorem dX2_take_13 : decode cX2_take 13 = .ok (.putfield 30, 3) := by decide +kernel
theorem dX2_take_16 : decode cX2_take 16 = .ok (.aload_n 0, 1) := by decide +kernel
theorem dX2_take_17 : decode cX2_take 17 = .ok (.iconst 1, 1) := by decide +kernel
theorem dX2_take_18 : decode cX2_take 18 = .ok (.putfield 16, 3) := by decide +kernel
theorem dX2_take_21 : decode cX2_take 21 = .ok (.return_, 1) := by decide +kernel
theorem dX2_give_0 : decode cX2_give 0 = .ok (.aload_n 1, 1) := by decide +kernel
theorem dX2_give_1 : decode cX2_give 1 = .ok (.aload_n 0, 1) := by decide +kernel
theorem dX2_give_2 : decode cX2_give 2 = .ok (.getfield 10, 3) := by decide +kernel
theorem dX2_give_5 : decode cX2_give 5 = .ok (.invokevirtual 20, 3) := by decide +kernel
theorem dX2_give_8 : decode cX2_give 8 = .ok (.aload_n 2, 1) := by decide +kernel
theorem dX2_give_9 : decode cX2_give 9 = .ok (.aload_n 0, 1) := by decide +kernel
theorem dX2_give_10 : decode cX2_give 10 = .ok (.getfield 30, 3) := by decide +kernel
theorem dX2_give_13 : decode cX2_give 13 = .ok (.putfield 24, 3) := by decide +kernel
theorem dX2_give_16 : decode cX2_give 16 = .ok (.return_, 1) := by decide +kernel
theorem dX3_isLevel_0 : decode cX3_isLevel 0 = .ok (.iload_n 0, 1) := by decide +kernel
theorem dX3_isLevel_1 : decode cX3_isLevel 1 = .ok (.ifCond .lt 12, 3) := by decide +kernel
theorem dX3_isLevel_4 : decode cX3_isLevel 4 = .ok (.iload_n 0, 1) := by decide +kernel
theorem dX3_isLevel_5 : decode cX3_isLevel 5 = .ok (.iconst 3, 1) := by decide +kernel
theorem dX3_isLevel_6 : decode cX3_isLevel 6 = .ok (.if_icmp .gt 7, 3) := by decide +kernel
theorem dX3_isLevel_9 : decode cX3_isLevel 9 = .ok (.iconst 1, 1) := by decide +kernel
theorem dX3_isLevel_10 : decode cX3_isLevel 10 = .ok (.goto 4, 3) := by decide +kernel
theorem dX3_isLevel_13 : decode cX3_isLevel 13 = .ok (.iconst 0, 1) := by decide +kernel
theorem dX3_isLevel_14 : decode cX3_isLevel 14 = .ok (.ireturn, 1) := by decide +kernel
theorem dX3_join_0 : decode cX3_join 0 = .ok (.iload_n 0, 1) := by decide +kernel
theorem dX3_join_1 : decode cX3_join 1 = .ok (.iconst 2, 1) := by decide +kernel
theorem dX3_join_2 : decode cX3_join 2 = .ok (.if_icmp .eq 8, 3) := by decide +kernel
theorem dX3_join_5 : decode cX3_join 5 = .ok (.iload_n 0, 1) := by decide +kernel
theorem dX3_join_6 : decode cX3_join 6 = .ok (.iload_n 1, 1) := by decide +kernel
theorem dX3_join_7 : decode cX3_join 7 = .ok (.if_icmp .ne 5, 3) := by decide +kernel
theorem dX3_join_10 : decode cX3_join 10 = .ok (.iload_n 1, 1) := by decide +kernel
theorem dX3_join_11 : decode cX3_join 11 = .ok (.ireturn, 1) := by decide +kernel
theorem dX3_join_12 : decode cX3_join 12 = .ok (.iload_n 1, 1) := by decide +kernel
theorem dX3_join_13 : decode cX3_join 13 = .ok (.iconst 2, 1) := by decide +kernel
theorem dX3_join_14 : decode cX3_join 14 = .ok (.if_icmp .ne 7, 3) := by decide +kernel
theorem dX3_join_17 : decode cX3_join 17 = .ok (.iload_n 0, 1) := by decide +kernel
theorem dX3_join_18 : decode cX3_join 18 = .ok (.goto 4, 3) := by decide +kernel
theorem dX3_join_21 : decode cX3_join 21 = .ok (.iconst 3, 1) := by decide +kernel
theorem dX3_join_22 : decode cX3_join 22 = .ok (.ireturn, 1) := by decide +kernel
theorem dX3_outcome_0 : decode cX3_outcome 0 = .ok (.iload_n 1, 1) := by decide +kernel
theorem dX3_outcome_1 : decode cX3_outcome 1 = .ok (.iconst 2, 1) := by decide +kernel
theorem dX3_outcome_2 : decode cX3_outcome 2 = .ok (.if_icmp .ne 7, 3) := by decide +kernel
theorem dX3_outcome_5 : decode cX3_outcome 5 = .ok (.iconst 3, 1) := by decide +kernel
theorem dX3_outcome_6 : decode cX3_outcome 6 = .ok (.goto 4, 3) := by decide +kernel
theorem dX3_outcome_9 : decode cX3_outcome 9 = .ok (.iload_n 1, 1) := by decide +kernel
theorem dX3_outcome_10 : decode cX3_outcome 10 = .ok (.istore 4, 2) := by decide +kernel
theorem dX3_outcome_12 : decode cX3_outcome 12 = .ok (.iload_n 2, 1) := by decide +kernel
theorem dX3_outcome_13 : decode cX3_outcome 13 = .ok (.iconst 2, 1) := by decide +kernel
theorem dX3_outcome_14 : decode cX3_outcome 14 = .ok (.if_icmp .ne 7, 3) := by decide +kernel
theorem dX3_outcome_17 : decode cX3_outcome 17 = .ok (.iconst 3, 1) := by decide +kernel
theorem dX3_outcome_18 : decode cX3_outcome 18 = .ok (.goto 4, 3) := by decide +kernel
theorem dX3_outcome_21 : decode cX3_outcome 21 = .ok (.iload_n 2, 1) := by decide +kernel
theorem dX3_outcome_22 : decode cX3_outcome 22 = .ok (.istore 5, 2) := by decide +kernel
theorem dX3_outcome_24 : decode cX3_outcome 24 = .ok (.iload 4, 2) := by decide +kernel
theorem dX3_outcome_26 : decode cX3_outcome 26 = .ok (.iconst 3, 1) := by decide +kernel
theorem dX3_outcome_27 : decode cX3_outcome 27 = .ok (.if_icmp .eq 9, 3) := by decide +kernel
theorem dX3_outcome_30 : decode cX3_outcome 30 = .ok (.iload 5, 2) := by decide +kernel
theorem dX3_outcome_32 : decode cX3_outcome 32 = .ok (.iconst 3, 1) := by decide +kernel
theorem dX3_outcome_33 : decode cX3_outcome 33 = .ok (.if_icmp .ne 7, 3) := by decide +kernel
theorem dX3_outcome_36 : decode cX3_outcome 36 = .ok (.iconst 1, 1) := by decide +kernel
theorem dX3_outcome_37 : decode cX3_outcome 37 = .ok (.goto 4, 3) := by decide +kernel
theorem dX3_outcome_40 : decode cX3_outcome 40 = .ok (.iconst 0, 1) := by decide +kernel
theorem dX3_outcome_41 : decode cX3_outcome 41 = .ok (.istore 6, 2) := by decide +kernel
theorem dX3_outcome_43 : decode cX3_outcome 43 = .ok (.iload_n 0, 1) := by decide +kernel
theorem dX3_outcome_44 : decode cX3_outcome 44 = .ok (.tableswitch 140 0 4 #[36, 51, 76, 103, 118], 36) := by decide +kernel
theorem dX3_outcome_80 : decode cX3_outcome 80 = .ok (.iload 4, 2) := by decide +kernel
theorem dX3_outcome_82 : decode cX3_outcome 82 = .ok (.iconst 3, 1) := by decide +kernel
theorem dX3_outcome_83 : decode cX3_outcome 83 = .ok (.if_icmp .ne 7, 3) := by decide +kernel
theorem dX3_outcome_86 : decode cX3_outcome 86 = .ok (.iconst 3, 1) := by decide +kernel
theorem dX3_outcome_87 : decode cX3_outcome 87 = .ok (.goto 7, 3) := by decide +kernel
theorem dX3_outcome_90 : decode cX3_outcome 90 = .ok (.iconst 1, 1) := by decide +kernel
theorem dX3_outcome_91 : decode cX3_outcome 91 = .ok (.iload 4, 2) := by decide +kernel
theorem dX3_outcome_93 : decode cX3_outcome 93 = .ok (.isub, 1) := by decide +kernel
theorem dX3_outcome_94 : decode cX3_outcome 94 = .ok (.ireturn, 1) := by decide +kernel
theorem dX3_outcome_95 : decode cX3_outcome 95 = .ok (.iload 4, 2) := by decide +kernel
theorem dX3_outcome_97 : decode cX3_outcome 97 = .ok (.ifCond .eq 8, 3) := by decide +kernel
theorem dX3_outcome_100 : decode cX3_outcome 100 = .ok (.iload 5, 2) := by decide +kernel
theorem dX3_outcome_102 : decode cX3_outcome 102 = .ok (.ifCond .ne 7, 3) := by decide +kernel
theorem dX3_outcome_105 : decode cX3_outcome 105 = .ok (.iconst 0, 1) := by decide +kernel
theorem dX3_outcome_106 : decode cX3_outcome 106 = .ok (.goto 13, 3) := by decide +kernel
theorem dX3_outcome_109 : decode cX3_outcome 109 = .ok (.iload 6, 2) := by decide +kernel
theorem dX3_outcome_111 : decode cX3_outcome 111 = .ok (.ifCond .eq 7, 3) := by decide +kernel
theorem dX3_outcome_114 : decode cX3_outcome 114 = .ok (.iconst 3, 1) := by decide +kernel
theorem dX3_outcome_115 : decode cX3_outcome 115 = .ok (.goto 4, 3) := by decide +kernel
theorem dX3_outcome_118 : decode cX3_outcome 118 = .ok (.iconst 1, 1) := by decide +kernel
theorem dX3_outcome_119 : decode cX3_outcome 119 = .ok (.ireturn, 1) := by decide +kernel
theorem dX3_outcome_120 : decode cX3_outcome 120 = .ok (.iload 4, 2) := by decide +kernel
theorem dX3_outcome_122 : decode cX3_outcome 122 = .ok (.iconst 1, 1) := by decide +kernel
theorem dX3_outcome_123 : decode cX3_outcome 123 = .ok (.if_icmp .eq 9, 3) := by decide +kernel
theorem dX3_outcome_126 : decode cX3_outcome 126 = .ok (.iload 5, 2) := by decide +kernel
theorem dX3_outcome_128 : decode cX3_outcome 128 = .ok (.iconst 1, 1) := by decide +kernel
theorem dX3_outcome_129 : decode cX3_outcome 129 = .ok (.if_icmp .ne 7, 3) := by decide +kernel
theorem dX3_outcome_132 : decode cX3_outcome 132 = .ok (.iconst 1, 1) := by decide +kernel
theorem dX3_outcome_133 : decode cX3_outcome 133 = .ok (.goto 13, 3) := by decide +kernel
theorem dX3_outcome_136 : decode cX3_outcome 136 = .ok (.iload 6, 2) := by decide +kernel
theorem dX3_outcome_138 : decode cX3_outcome 138 = .ok (.ifCond .eq 7, 3) := by decide +kernel
theorem dX3_outcome_141 : decode cX3_outcome 141 = .ok (.iconst 3, 1) := by decide +kernel
theorem dX3_outcome_142 : decode cX3_outcome 142 = .ok (.goto 4, 3) := by decide +kernel
theorem dX3_outcome_145 : decode cX3_outcome 145 = .ok (.iconst 0, 1) := by decide +kernel
theorem dX3_outcome_146 : decode cX3_outcome 146 = .ok (.ireturn, 1) := by decide +kernel
theorem dX3_outcome_147 : decode cX3_outcome 147 = .ok (.iload 6, 2) := by decide +kernel
theorem dX3_outcome_149 : decode cX3_outcome 149 = .ok (.ifCond .eq 7, 3) := by decide +kernel
theorem dX3_outcome_152 : decode cX3_outcome 152 = .ok (.iconst 3, 1) := by decide +kernel
theorem dX3_outcome_153 : decode cX3_outcome 153 = .ok (.goto 8, 3) := by decide +kernel
theorem dX3_outcome_156 : decode cX3_outcome 156 = .ok (.iload 4, 2) := by decide +kernel
theorem dX3_outcome_158 : decode cX3_outcome 158 = .ok (.iload 5, 2) := by decide +kernel
theorem dX3_outcome_160 : decode cX3_outcome 160 = .ok (.ixor, 1) := by decide +kernel
theorem dX3_outcome_161 : decode cX3_outcome 161 = .ok (.ireturn, 1) := by decide +kernel
theorem dX3_outcome_162 : decode cX3_outcome 162 = .ok (.iload 5, 2) := by decide +kernel
theorem dX3_outcome_164 : decode cX3_outcome 164 = .ok (.ifCond .ne 7, 3) := by decide +kernel
theorem dX3_outcome_167 : decode cX3_outcome 167 = .ok (.iconst 2, 1) := by decide +kernel
theorem dX3_outcome_168 : decode cX3_outcome 168 = .ok (.goto 15, 3) := by decide +kernel
theorem dX3_outcome_171 : decode cX3_outcome 171 = .ok (.iload 5, 2) := by decide +kernel
theorem dX3_outcome_173 : decode cX3_outcome 173 = .ok (.iconst 1, 1) := by decide +kernel
theorem dX3_outcome_174 : decode cX3_outcome 174 = .ok (.if_icmp .ne 8, 3) := by decide +kernel
theorem dX3_outcome_177 : decode cX3_outcome 177 = .ok (.iload 4, 2) := by decide +kernel
theorem dX3_outcome_179 : decode cX3_outcome 179 = .ok (.goto 4, 3) := by decide +kernel
theorem dX3_outcome_182 : decode cX3_outcome 182 = .ok (.iconst 3, 1) := by decide +kernel
theorem dX3_outcome_183 : decode cX3_outcome 183 = .ok (.ireturn, 1) := by decide +kernel
theorem dX3_outcome_184 : decode cX3_outcome 184 = .ok (.iload 5, 2) := by decide +kernel
theorem dX3_outcome_186 : decode cX3_outcome 186 = .ok (.iconst 1, 1) := by decide +kernel
theorem dX3_outcome_187 : decode cX3_outcome 187 = .ok (.if_icmp .ne 8, 3) := by decide +kernel
theorem dX3_outcome_190 : decode cX3_outcome 190 = .ok (.iload 4, 2) := by decide +kernel
theorem dX3_outcome_192 : decode cX3_outcome 192 = .ok (.goto 4, 3) := by decide +kernel
theorem dX3_outcome_195 : decode cX3_outcome 195 = .ok (.iload_n 3, 1) := by decide +kernel
theorem dX3_outcome_196 : decode cX3_outcome 196 = .ok (.ireturn, 1) := by decide +kernel
theorem dX4_init_0 : decode cX4_init 0 = .ok (.aload_n 0, 1) := by decide +kernel
theorem dX4_init_1 : decode cX4_init 1 = .ok (.invokespecial 3, 3) := by decide +kernel
theorem dX4_init_4 : decode cX4_init 4 = .ok (.aload_n 0, 1) := by decide +kernel
theorem dX4_init_5 : decode cX4_init 5 = .ok (.bipush 8, 2) := by decide +kernel
theorem dX4_init_7 : decode cX4_init 7 = .ok (.newarray .int, 2) := by decide +kernel
theorem dX4_init_9 : decode cX4_init 9 = .ok (.putfield 9, 3) := by decide +kernel
theorem dX4_init_12 : decode cX4_init 12 = .ok (.aload_n 0, 1) := by decide +kernel
theorem dX4_init_13 : decode cX4_init 13 = .ok (.bipush 8, 2) := by decide +kernel
theorem dX4_init_15 : decode cX4_init 15 = .ok (.newarray .int, 2) := by decide +kernel
theorem dX4_init_17 : decode cX4_init 17 = .ok (.putfield 15, 3) := by decide +kernel
theorem dX4_init_20 : decode cX4_init 20 = .ok (.aload_n 0, 1) := by decide +kernel
theorem dX4_init_21 : decode cX4_init 21 = .ok (.bipush 8, 2) := by decide +kernel
theorem dX4_init_23 : decode cX4_init 23 = .ok (.newarray .int, 2) := by decide +kernel
theorem dX4_init_25 : decode cX4_init 25 = .ok (.putfield 18, 3) := by decide +kernel
theorem dX4_init_28 : decode cX4_init 28 = .ok (.aload_n 0, 1) := by decide +kernel
theorem dX4_init_29 : decode cX4_init 29 = .ok (.bipush 8, 2) := by decide +kernel
theorem dX4_init_31 : decode cX4_init 31 = .ok (.newarray .int, 2) := by decide +kernel
theorem dX4_init_33 : decode cX4_init 33 = .ok (.putfield 21, 3) := by decide +kernel
theorem dX4_init_36 : decode cX4_init 36 = .ok (.aload_n 0, 1) := by decide +kernel
theorem dX4_init_37 : decode cX4_init 37 = .ok (.bipush 64, 2) := by decide +kernel
theorem dX4_init_39 : decode cX4_init 39 = .ok (.newarray .int, 2) := by decide +kernel
theorem dX4_init_41 : decode cX4_init 41 = .ok (.putfield 24, 3) := by decide +kernel
theorem dX4_init_44 : decode cX4_init 44 = .ok (.aload_n 0, 1) := by decide +kernel
theorem dX4_init_45 : decode cX4_init 45 = .ok (.bipush 64, 2) := by decide +kernel
theorem dX4_init_47 : decode cX4_init 47 = .ok (.newarray .int, 2) := by decide +kernel
theorem dX4_init_49 : decode cX4_init 49 = .ok (.putfield 27, 3) := by decide +kernel
theorem dX4_init_52 : decode cX4_init 52 = .ok (.aload_n 0, 1) := by decide +kernel
theorem dX4_init_53 : decode cX4_init 53 = .ok (.bipush 8, 2) := by decide +kernel
theorem dX4_init_55 : decode cX4_init 55 = .ok (.newarray .int, 2) := by decide +kernel
theorem dX4_init_57 : decode cX4_init 57 = .ok (.putfield 30, 3) := by decide +kernel
theorem dX4_init_60 : decode cX4_init 60 = .ok (.aload_n 0, 1) := by decide +kernel
theorem dX4_init_61 : decode cX4_init 61 = .ok (.bipush 8, 2) := by decide +kernel
theorem dX4_init_63 : decode cX4_init 63 = .ok (.newarray .int, 2) := by decide +kernel
theorem dX4_init_65 : decode cX4_init 65 = .ok (.putfield 33, 3) := by decide +kernel
theorem dX4_init_68 : decode cX4_init 68 = .ok (.aload_n 0, 1) := by decide +kernel
theorem dX4_init_69 : decode cX4_init 69 = .ok (.bipush 64, 2) := by decide +kernel
theorem dX4_init_71 : decode cX4_init 71 = .ok (.newarray .int, 2) := by decide +kernel
theorem dX4_init_73 : decode cX4_init 73 = .ok (.putfield 36, 3) := by decide +kernel
theorem dX4_init_76 : decode cX4_init 76 = .ok (.aload_n 0, 1) := by decide +kernel
theorem dX4_init_77 : decode cX4_init 77 = .ok (.bipush 64, 2) := by decide +kernel
theorem dX4_init_79 : decode cX4_init 79 = .ok (.newarray .int, 2) := by decide +kernel
theorem dX4_init_81 : decode cX4_init 81 = .ok (.putfield 39, 3) := by decide +kernel
theorem dX4_init_84 : decode cX4_init 84 = .ok (.aload_n 0, 1) := by decide +kernel
theorem dX4_init_85 : decode cX4_init 85 = .ok (.bipush 8, 2) := by decide +kernel
theorem dX4_init_87 : decode cX4_init 87 = .ok (.newarray .int, 2) := by decide +kernel
theorem dX4_init_89 : decode cX4_init 89 = .ok (.putfield 42, 3) := by decide +kernel
theorem dX4_init_92 : decode cX4_init 92 = .ok (.aload_n 0, 1) := by decide +kernel
theorem dX4_init_93 : decode cX4_init 93 = .ok (.bipush 8, 2) := by decide +kernel
theorem dX4_init_95 : decode cX4_init 95 = .ok (.newarray .int, 2) := by decide +kernel
theorem dX4_init_97 : decode cX4_init 97 = .ok (.putfield 45, 3) := by decide +kernel
theorem dX4_init_100 : decode cX4_init 100 = .ok (.aload_n 0, 1) := by decide +kernel
theorem dX4_init_101 : decode cX4_init 101 = .ok (.bipush 8, 2) := by decide +kernel
theorem dX4_init_103 : decode cX4_init 103 = .ok (.newarray .int, 2) := by decide +kernel
theorem dX4_init_105 : decode cX4_init 105 = .ok (.putfield 48, 3) := by decide +kernel
theorem dX4_init_108 : decode cX4_init 108 = .ok (.return_, 1) := by decide +kernel
theorem dX4_copyFrom_0 : decode cX4_copyFrom 0 = .ok (.aload_n 0, 1) := by decide +kernel
theorem dX4_copyFrom_1 : decode cX4_copyFrom 1 = .ok (.aload_n 1, 1) := by decide +kernel
theorem dX4_copyFrom_2 : decode cX4_copyFrom 2 = .ok (.getfield 51, 3) := by decide +kernel
theorem dX4_copyFrom_5 : decode cX4_copyFrom 5 = .ok (.putfield 51, 3) := by decide +kernel
theorem dX4_copyFrom_8 : decode cX4_copyFrom 8 = .ok (.aload_n 0, 1) := by decide +kernel
theorem dX4_copyFrom_9 : decode cX4_copyFrom 9 = .ok (.aload_n 1, 1) := by decide +kernel
theorem dX4_copyFrom_10 : decode cX4_copyFrom 10 = .ok (.getfield 55, 3) := by decide +kernel
theorem dX4_copyFrom_13 : decode cX4_copyFrom 13 = .ok (.putfield 55, 3) := by decide +kernel
theorem dX4_copyFrom_16 : decode cX4_copyFrom 16 = .ok (.aload_n 0, 1) := by decide +kernel
theorem dX4_copyFrom_17 : decode cX4_copyFrom 17 = .ok (.aload_n 1, 1) := by decide +kernel
theorem dX4_copyFrom_18 : decode cX4_copyFrom 18 = .ok (.getfield 58, 3) := by decide +kernel
theorem dX4_copyFrom_21 : decode cX4_copyFrom 21 = .ok (.putfield 58, 3) := by decide +kernel
theorem dX4_copyFrom_24 : decode cX4_copyFrom 24 = .ok (.aload_n 0, 1) := by decide +kernel
theorem dX4_copyFrom_25 : decode cX4_copyFrom 25 = .ok (.aload_n 1, 1) := by decide +kernel
theorem dX4_copyFrom_26 : decode cX4_copyFrom 26 = .ok (.getfield 62, 3) := by decide +kernel
theorem dX4_copyFrom_29 : decode cX4_copyFrom 29 = .ok (.putfield 62, 3) := by decide +kernel
theorem dX4_copyFrom_32 : decode cX4_copyFrom 32 = .ok (.aload_n 0, 1) := by decide +kernel
theorem dX4_copyFrom_33 : decode cX4_copyFrom 33 = .ok (.aload_n 1, 1) := by decide +kernel
theorem dX4_copyFrom_34 : decode cX4_copyFrom 34 = .ok (.getfield 65, 3) := by decide +kernel
theorem dX4_copyFrom_37 : decode cX4_copyFrom 37 = .ok (.putfield 65, 3) := by decide +kernel
theorem dX4_copyFrom_40 : decode cX4_copyFrom 40 = .ok (.aload_n 1, 1) := by decide +kernel
theorem dX4_copyFrom_41 : decode cX4_copyFrom 41 = .ok (.getfield 9, 3) := by decide +kernel
theorem dX4_copyFrom_44 : decode cX4_copyFrom 44 = .ok (.aload_n 0, 1) := by decide +kernel
theorem dX4_copyFrom_45 : decode cX4_copyFrom 45 = .ok (.getfield 9, 3) := by decide +kernel
theorem dX4_copyFrom_48 : decode cX4_copyFrom 48 = .ok (.invokestatic 68, 3) := by decide +kernel
theorem dX4_copyFrom_51 : decode cX4_copyFrom 51 = .ok (.aload_n 1, 1) := by decide +kernel
theorem dX4_copyFrom_52 : decode cX4_copyFrom 52 = .ok (.getfield 15, 3) := by decide +kernel
theorem dX4_copyFrom_55 : decode cX4_copyFrom 55 = .ok (.aload_n 0, 1) := by decide +kernel
theorem dX4_copyFrom_56 : decode cX4_copyFrom 56 = .ok (.getfield 15, 3) := by decide +kernel
theorem dX4_copyFrom_59 : decode cX4_copyFrom 59 = .ok (.invokestatic 68, 3) := by decide +kernel
theorem dX4_copyFrom_62 : decode cX4_copyFrom 62 = .ok (.aload_n 1, 1) := by decide +kernel
theorem dX4_copyFrom_63 : decode cX4_copyFrom 63 = .ok (.getfield 18, 3) := by decide +kernel
theorem dX4_copyFrom_66 : decode cX4_copyFrom 66 = .ok (.aload_n 0, 1) := by decide +kernel
theorem dX4_copyFrom_67 : decode cX4_copyFrom 67 = .ok (.getfield 18, 3) := by decide +kernel
theorem dX4_copyFrom_70 : decode cX4_copyFrom 70 = .ok (.invokestatic 68, 3) := by decide +kernel
theorem dX4_copyFrom_73 : decode cX4_copyFrom 73 = .ok (.aload_n 1, 1) := by decide +kernel
theorem dX4_copyFrom_74 : decode cX4_copyFrom 74 = .ok (.getfield 21, 3) := by decide +kernel
theorem dX4_copyFrom_77 : decode cX4_copyFrom 77 = .ok (.aload_n 0, 1) := by decide +kernel
theorem dX4_copyFrom_78 : decode cX4_copyFrom 78 = .ok (.getfield 21, 3) := by decide +kernel
theorem dX4_copyFrom_81 : decode cX4_copyFrom 81 = .ok (.invokestatic 68, 3) := by decide +kernel
theorem dX4_copyFrom_84 : decode cX4_copyFrom 84 = .ok (.aload_n 1, 1) := by decide +kernel
theorem dX4_copyFrom_85 : decode cX4_copyFrom 85 = .ok (.getfield 24, 3) := by decide +kernel
theorem dX4_copyFrom_88 : decode cX4_copyFrom 88 = .ok (.aload_n 0, 1) := by decide +kernel
theorem dX4_copyFrom_89 : decode cX4_copyFrom 89 = .ok (.getfield 24, 3) := by decide +kernel
theorem dX4_copyFrom_92 : decode cX4_copyFrom 92 = .ok (.invokestatic 68, 3) := by decide +kernel
theorem dX4_copyFrom_95 : decode cX4_copyFrom 95 = .ok (.aload_n 1, 1) := by decide +kernel
theorem dX4_copyFrom_96 : decode cX4_copyFrom 96 = .ok (.getfield 27, 3) := by decide +kernel
theorem dX4_copyFrom_99 : decode cX4_copyFrom 99 = .ok (.aload_n 0, 1) := by decide +kernel
theorem dX4_copyFrom_100 : decode cX4_copyFrom 100 = .ok (.getfield 27, 3) := by decide +kernel
theorem dX4_copyFrom_103 : decode cX4_copyFrom 103 = .ok (.invokestatic 68, 3) := by decide +kernel
theorem dX4_copyFrom_106 : decode cX4_copyFrom 106 = .ok (.aload_n 1, 1) := by decide +kernel
theorem dX4_copyFrom_107 : decode cX4_copyFrom 107 = .ok (.getfield 30, 3) := by decide +kernel
theorem dX4_copyFrom_110 : decode cX4_copyFrom 110 = .ok (.aload_n 0, 1) := by decide +kernel
theorem dX4_copyFrom_111 : decode cX4_copyFrom 111 = .ok (.getfield 30, 3) := by decide +kernel
theorem dX4_copyFrom_114 : decode cX4_copyFrom 114 = .ok (.invokestatic 68, 3) := by decide +kernel
theorem dX4_copyFrom_117 : decode cX4_copyFrom 117 = .ok (.aload_n 1, 1) := by decide +kernel
theorem dX4_copyFrom_118 : decode cX4_copyFrom 118 = .ok (.getfield 33, 3) := by decide +kernel
theorem dX4_copyFrom_121 : decode cX4_copyFrom 121 = .ok (.aload_n 0, 1) := by decide +kernel
theorem dX4_copyFrom_122 : decode cX4_copyFrom 122 = .ok (.getfield 33, 3) := by decide +kernel
theorem dX4_copyFrom_125 : decode cX4_copyFrom 125 = .ok (.invokestatic 68, 3) := by decide +kernel
theorem dX4_copyFrom_128 : decode cX4_copyFrom 128 = .ok (.aload_n 1, 1) := by decide +kernel
theorem dX4_copyFrom_129 : decode cX4_copyFrom 129 = .ok (.getfield 36, 3) := by decide +kernel
theorem dX4_copyFrom_132 : decode cX4_copyFrom 132 = .ok (.aload_n 0, 1) := by decide +kernel
theorem dX4_copyFrom_133 : decode cX4_copyFrom 133 = .ok (.getfield 36, 3) := by decide +kernel
theorem dX4_copyFrom_136 : decode cX4_copyFrom 136 = .ok (.invokestatic 68, 3) := by decide +kernel
theorem dX4_copyFrom_139 : decode cX4_copyFrom 139 = .ok (.aload_n 1, 1) := by decide +kernel
theorem dX4_copyFrom_140 : decode cX4_copyFrom 140 = .ok (.getfield 39, 3) := by decide +kernel
theorem dX4_copyFrom_143 : decode cX4_copyFrom 143 = .ok (.aload_n 0, 1) := by decide +kernel
theorem dX4_copyFrom_144 : decode cX4_copyFrom 144 = .ok (.getfield 39, 3) := by decide +kernel
theorem dX4_copyFrom_147 : decode cX4_copyFrom 147 = .ok (.invokestatic 68, 3) := by decide +kernel
theorem dX4_copyFrom_150 : decode cX4_copyFrom 150 = .ok (.aload_n 1, 1) := by decide +kernel
theorem dX4_copyFrom_151 : decode cX4_copyFrom 151 = .ok (.getfield 42, 3) := by decide +kernel
theorem dX4_copyFrom_154 : decode cX4_copyFrom 154 = .ok (.aload_n 0, 1) := by decide +kernel
theorem dX4_copyFrom_155 : decode cX4_copyFrom 155 = .ok (.getfield 42, 3) := by decide +kernel
theorem dX4_copyFrom_158 : decode cX4_copyFrom 158 = .ok (.invokestatic 68, 3) := by decide +kernel
theorem dX4_copyFrom_161 : decode cX4_copyFrom 161 = .ok (.aload_n 1, 1) := by decide +kernel
theorem dX4_copyFrom_162 : decode cX4_copyFrom 162 = .ok (.getfield 45, 3) := by decide +kernel
theorem dX4_copyFrom_165 : decode cX4_copyFrom 165 = .ok (.aload_n 0, 1) := by decide +kernel
theorem dX4_copyFrom_166 : decode cX4_copyFrom 166 = .ok (.getfield 45, 3) := by decide +kernel
theorem dX4_copyFrom_169 : decode cX4_copyFrom 169 = .ok (.invokestatic 68, 3) := by decide +kernel
theorem dX4_copyFrom_172 : decode cX4_copyFrom 172 = .ok (.aload_n 1, 1) := by decide +kernel
theorem dX4_copyFrom_173 : decode cX4_copyFrom 173 = .ok (.getfield 48, 3) := by decide +kernel
theorem dX4_copyFrom_176 : decode cX4_copyFrom 176 = .ok (.aload_n 0, 1) := by decide +kernel
theorem dX4_copyFrom_177 : decode cX4_copyFrom 177 = .ok (.getfield 48, 3) := by decide +kernel
theorem dX4_copyFrom_180 : decode cX4_copyFrom 180 = .ok (.invokestatic 68, 3) := by decide +kernel
theorem dX4_copyFrom_183 : decode cX4_copyFrom 183 = .ok (.return_, 1) := by decide +kernel
theorem dX4_copyRow_0 : decode cX4_copyRow 0 = .ok (.aload_n 0, 1) := by decide +kernel
theorem dX4_copyRow_1 : decode cX4_copyRow 1 = .ok (.iconst 0, 1) := by decide +kernel
theorem dX4_copyRow_2 : decode cX4_copyRow 2 = .ok (.aload_n 1, 1) := by decide +kernel
theorem dX4_copyRow_3 : decode cX4_copyRow 3 = .ok (.iconst 0, 1) := by decide +kernel
theorem dX4_copyRow_4 : decode cX4_copyRow 4 = .ok (.aload_n 0, 1) := by decide +kernel
theorem dX4_copyRow_5 : decode cX4_copyRow 5 = .ok (.arraylength, 1) := by decide +kernel
theorem dX4_copyRow_6 : decode cX4_copyRow 6 = .ok (.aload_n 1, 1) := by decide +kernel
theorem dX4_copyRow_7 : decode cX4_copyRow 7 = .ok (.arraylength, 1) := by decide +kernel
theorem dX4_copyRow_8 : decode cX4_copyRow 8 = .ok (.invokestatic 72, 3) := by decide +kernel
theorem dX4_copyRow_11 : decode cX4_copyRow 11 = .ok (.invokestatic 78, 3) := by decide +kernel
theorem dX4_copyRow_14 : decode cX4_copyRow 14 = .ok (.return_, 1) := by decide +kernel
theorem dX4_begin_0 : decode cX4_begin 0 = .ok (.aload_n 0, 1) := by decide +kernel
theorem dX4_begin_1 : decode cX4_begin 1 = .ok (.iconst 0, 1) := by decide +kernel
theorem dX4_begin_2 : decode cX4_begin 2 = .ok (.putfield 51, 3) := by decide +kernel
theorem dX4_begin_5 : decode cX4_begin 5 = .ok (.aload_n 0, 1) := by decide +kernel
theorem dX4_begin_6 : decode cX4_begin 6 = .ok (.iconst 0, 1) := by decide +kernel
theorem dX4_begin_7 : decode cX4_begin 7 = .ok (.putfield 55, 3) := by decide +kernel
theorem dX4_begin_10 : decode cX4_begin 10 = .ok (.aload_n 0, 1) := by decide +kernel
theorem dX4_begin_11 : decode cX4_begin 11 = .ok (.iconst 0, 1) := by decide +kernel
theorem dX4_begin_12 : decode cX4_begin 12 = .ok (.putfield 58, 3) := by decide +kernel
theorem dX4_begin_15 : decode cX4_begin 15 = .ok (.aload_n 0, 1) := by decide +kernel
theorem dX4_begin_16 : decode cX4_begin 16 = .ok (.iconst 0, 1) := by decide +kernel
theorem dX4_begin_17 : decode cX4_begin 17 = .ok (.putfield 62, 3) := by decide +kernel
theorem dX4_begin_20 : decode cX4_begin 20 = .ok (.aload_n 0, 1) := by decide +kernel
theorem dX4_begin_21 : decode cX4_begin 21 = .ok (.invokevirtual 84, 3) := by decide +kernel
theorem dX4_begin_24 : decode cX4_begin 24 = .ok (.iconst 0, 1) := by decide +kernel
theorem dX4_begin_25 : decode cX4_begin 25 = .ok (.istore_n 2, 1) := by decide +kernel
theorem dX4_begin_26 : decode cX4_begin 26 = .ok (.iload_n 2, 1) := by decide +kernel
theorem dX4_begin_27 : decode cX4_begin 27 = .ok (.bipush 8, 2) := by decide +kernel
theorem dX4_begin_29 : decode cX4_begin 29 = .ok (.if_icmp .ge 42, 3) := by decide +kernel
theorem dX4_begin_32 : decode cX4_begin 32 = .ok (.aload_n 0, 1) := by decide +kernel
theorem dX4_begin_33 : decode cX4_begin 33 = .ok (.getfield 9, 3) := by decide +kernel
theorem dX4_begin_36 : decode cX4_begin 36 = .ok (.iload_n 2, 1) := by decide +kernel
theorem dX4_begin_37 : decode cX4_begin 37 = .ok (.aload_n 1, 1) := by decide +kernel
theorem dX4_begin_38 : decode cX4_begin 38 = .ok (.getfield 87, 3) := by decide +kernel
theorem dX4_begin_41 : decode cX4_begin 41 = .ok (.iload_n 2, 1) := by decide +kernel
theorem dX4_begin_42 : decode cX4_begin 42 = .ok (.iaload, 1) := by decide +kernel
theorem dX4_begin_43 : decode cX4_begin 43 = .ok (.iastore, 1) := by decide +kernel
theorem dX4_begin_44 : decode cX4_begin 44 = .ok (.aload_n 0, 1) := by decide +kernel
theorem dX4_begin_45 : decode cX4_begin 45 = .ok (.getfield 15, 3) := by decide +kernel
theorem dX4_begin_48 : decode cX4_begin 48 = .ok (.iload_n 2, 1) := by decide +kernel
theorem dX4_begin_49 : decode cX4_begin 49 = .ok (.iconst 0, 1) := by decide +kernel
theorem dX4_begin_50 : decode cX4_begin 50 = .ok (.iastore, 1) := by decide +kernel
theorem dX4_begin_51 : decode cX4_begin 51 = .ok (.aload_n 0, 1) := by decide +kernel
theorem dX4_begin_52 : decode cX4_begin 52 = .ok (.getfield 18, 3) := by decide +kernel
theorem dX4_begin_55 : decode cX4_begin 55 = .ok (.iload_n 2, 1) := by decide +kernel
theorem dX4_begin_56 : decode cX4_begin 56 = .ok (.iconst (-1), 1) := by decide +kernel
theorem dX4_begin_57 : decode cX4_begin 57 = .ok (.iastore, 1) := by decide +kernel
theorem dX4_begin_58 : decode cX4_begin 58 = .ok (.aload_n 0, 1) := by decide +kernel
theorem dX4_begin_59 : decode cX4_begin 59 = .ok (.getfield 21, 3) := by decide +kernel
theorem dX4_begin_62 : decode cX4_begin 62 = .ok (.iload_n 2, 1) := by decide +kernel
theorem dX4_begin_63 : decode cX4_begin 63 = .ok (.iconst 0, 1) := by decide +kernel
theorem dX4_begin_64 : decode cX4_begin 64 = .ok (.iastore, 1) := by decide +kernel
theorem dX4_begin_65 : decode cX4_begin 65 = .ok (.iinc 2 1, 3) := by decide +kernel
theorem dX4_begin_68 : decode cX4_begin 68 = .ok (.goto (-42), 3) := by decide +kernel
theorem dX4_begin_71 : decode cX4_begin 71 = .ok (.iconst 0, 1) := by decide +kernel
theorem dX4_begin_72 : decode cX4_begin 72 = .ok (.istore_n 2, 1) := by decide +kernel
theorem dX4_begin_73 : decode cX4_begin 73 = .ok (.iload_n 2, 1) := by decide +kernel
theorem dX4_begin_74 : decode cX4_begin 74 = .ok (.aload_n 1, 1) := by decide +kernel
theorem dX4_begin_75 : decode cX4_begin 75 = .ok (.getfield 92, 3) := by decide +kernel
theorem dX4_begin_78 : decode cX4_begin 78 = .ok (.if_icmp .ge 26, 3) := by decide +kernel
theorem dX4_begin_81 : decode cX4_begin 81 = .ok (.aload_n 0, 1) := by decide +kernel
theorem dX4_begin_82 : decode cX4_begin 82 = .ok (.getfield 30, 3) := by decide +kernel
theorem dX4_begin_85 : decode cX4_begin 85 = .ok (.iload_n 2, 1) := by decide +kernel
theorem dX4_begin_86 : decode cX4_begin 86 = .ok (.aload_n 1, 1) := by decide +kernel
theorem dX4_begin_87 : decode cX4_begin 87 = .ok (.getfield 87, 3) := by decide +kernel
theorem dX4_begin_90 : decode cX4_begin 90 = .ok (.aload_n 1, 1) := by decide +kernel
theorem dX4_begin_91 : decode cX4_begin 91 = .ok (.getfield 95, 3) := by decide +kernel
theorem dX4_begin_94 : decode cX4_begin 94 = .ok (.iload_n 2, 1) := by decide +kernel
theorem dX4_begin_95 : decode cX4_begin 95 = .ok (.iaload, 1) := by decide +kernel
theorem dX4_begin_96 : decode cX4_begin 96 = .ok (.iaload, 1) := by decide +kernel
theorem dX4_begin_97 : decode cX4_begin 97 = .ok (.iastore, 1) := by decide +kernel
theorem dX4_begin_98 : decode cX4_begin 98 = .ok (.iinc 2 1, 3) := by decide +kernel
theorem dX4_begin_101 : decode cX4_begin 101 = .ok (.goto (-28), 3) := by decide +kernel
theorem dX4_begin_104 : decode cX4_begin 104 = .ok (.aload_n 0, 1) := by decide +kernel
theorem dX4_begin_105 : decode cX4_begin 105 = .ok (.aload_n 1, 1) := by decide +kernel
theorem dX4_begin_106 : decode cX4_begin 106 = .ok (.invokevirtual 98, 3) := by decide +kernel
theorem dX4_begin_109 : decode cX4_begin 109 = .ok (.return_, 1) := by decide +kernel
theorem dX4_isStill_0 : decode cX4_isStill 0 = .ok (.aload_n 0, 1) := by decide +kernel
theorem dX4_isStill_1 : decode cX4_isStill 1 = .ok (.invokevirtual 102, 3) := by decide +kernel
theorem dX4_isStill_4 : decode cX4_isStill 4 = .ok (.ldc 106, 2) := by decide +kernel
theorem dX4_isStill_6 : decode cX4_isStill 6 = .ok (.if_icmp .ne 7, 3) := by decide +kernel
theorem dX4_isStill_9 : decode cX4_isStill 9 = .ok (.iconst 1, 1) := by decide +kernel
theorem dX4_isStill_10 : decode cX4_isStill 10 = .ok (.goto 4, 3) := by decide +kernel
theorem dX4_isStill_13 : decode cX4_isStill 13 = .ok (.iconst 0, 1) := by decide +kernel
theorem dX4_isStill_14 : decode cX4_isStill 14 = .ok (.ireturn, 1) := by decide +kernel
theorem dX4_earliest_0 : decode cX4_earliest 0 = .ok (.aload_n 0, 1) := by decide +kernel
theorem dX4_earliest_1 : decode cX4_earliest 1 = .ok (.getfield 65, 3) := by decide +kernel
theorem dX4_earliest_4 : decode cX4_earliest 4 = .ok (.ifCond .le 12, 3) := by decide +kernel
theorem dX4_earliest_7 : decode cX4_earliest 7 = .ok (.aload_n 0, 1) := by decide +kernel
theorem dX4_earliest_8 : decode cX4_earliest 8 = .ok (.getfield 42, 3) := by decide +kernel
theorem dX4_earliest_11 : decode cX4_earliest 11 = .ok (.iconst 0, 1) := by decide +kernel
theorem dX4_earliest_12 : decode cX4_earliest 12 = .ok (.iaload, 1) := by decide +kernel
theorem dX4_earliest_13 : decode cX4_earliest 13 = .ok (.goto 5, 3) := by decide +kernel
theorem dX4_earliest_16 : decode cX4_earliest 16 = .ok (.ldc 106, 2) := by decide +kernel
theorem dX4_earliest_18 : decode cX4_earliest 18 = .ok (.istore_n 1, 1) := by decide +kernel
theorem dX4_earliest_19 : decode cX4_earliest 19 = .ok (.iconst 0, 1) := by decide +kernel
theorem dX4_earliest_20 : decode cX4_earliest 20 = .ok (.istore_n 2, 1) := by decide +kernel
theorem dX4_earliest_21 : decode cX4_earliest 21 = .ok (.iload_n 2, 1) := by decide +kernel
theorem dX4_earliest_22 : decode cX4_earliest 22 = .ok (.bipush 8, 2) := by decide +kernel
theorem dX4_earliest_24 : decode cX4_earliest 24 = .ok (.if_icmp .ge 32, 3) := by decide +kernel
theorem dX4_earliest_27 : decode cX4_earliest 27 = .ok (.aload_n 0, 1) := by decide +kernel
theorem dX4_earliest_28 : decode cX4_earliest 28 = .ok (.getfield 33, 3) := by decide +kernel
theorem dX4_earliest_31 : decode cX4_earliest 31 = .ok (.iload_n 2, 1) := by decide +kernel
theorem dX4_earliest_32 : decode cX4_earliest 32 = .ok (.iaload, 1) := by decide +kernel
theorem dX4_earliest_33 : decode cX4_earliest 33 = .ok (.ifCond .le 17, 3) := by decide +kernel
theorem dX4_earliest_36 : decode cX4_earliest 36 = .ok (.iload_n 1, 1) := by decide +kernel
theorem dX4_earliest_37 : decode cX4_earliest 37 = .ok (.aload_n 0, 1) := by decide +kernel
theorem dX4_earliest_38 : decode cX4_earliest 38 = .ok (.getfield 36, 3) := by decide +kernel
theorem dX4_earliest_41 : decode cX4_earliest 41 = .ok (.iload_n 2, 1) := by decide +kernel
theorem dX4_earliest_42 : decode cX4_earliest 42 = .ok (.bipush 8, 2) := by decide +kernel
theorem dX4_earliest_44 : decode cX4_earliest 44 = .ok (.imul, 1) := by decide +kernel
theorem dX4_earliest_45 : decode cX4_earliest 45 = .ok (.iaload, 1) := by decide +kernel
theorem dX4_earliest_46 : decode cX4_earliest 46 = .ok (.invokestatic 72, 3) := by decide +kernel
theorem dX4_earliest_49 : decode cX4_earliest 49 = .ok (.istore_n 1, 1) := by decide +kernel
theorem dX4_earliest_50 : decode cX4_earliest 50 = .ok (.iinc 2 1, 3) := by decide +kernel
theorem dX4_earliest_53 : decode cX4_earliest 53 = .ok (.goto (-32), 3) := by decide +kernel
theorem dX4_earliest_56 : decode cX4_earliest 56 = .ok (.iload_n 1, 1) := by decide +kernel
theorem dX4_earliest_57 : decode cX4_earliest 57 = .ok (.ireturn, 1) := by decide +kernel
theorem dX4_outcomeOf_0 : decode cX4_outcomeOf 0 = .ok (.aload_n 1, 1) := by decide +kernel
theorem dX4_outcomeOf_1 : decode cX4_outcomeOf 1 = .ok (.getfield 107, 3) := by decide +kernel
theorem dX4_outcomeOf_4 : decode cX4_outcomeOf 4 = .ok (.iload_n 2, 1) := by decide +kernel
theorem dX4_outcomeOf_5 : decode cX4_outcomeOf 5 = .ok (.iaload, 1) := by decide +kernel
theorem dX4_outcomeOf_6 : decode cX4_outcomeOf 6 = .ok (.aload_n 0, 1) := by decide +kernel
theorem dX4_outcomeOf_7 : decode cX4_outcomeOf 7 = .ok (.getfield 9, 3) := by decide +kernel
theorem dX4_outcomeOf_10 : decode cX4_outcomeOf 10 = .ok (.aload_n 1, 1) := by decide +kernel
theorem dX4_outcomeOf_11 : decode cX4_outcomeOf 11 = .ok (.getfield 110, 3) := by decide +kernel
theorem dX4_outcomeOf_14 : decode cX4_outcomeOf 14 = .ok (.iload_n 2, 1) := by decide +kernel
theorem dX4_outcomeOf_15 : decode cX4_outcomeOf 15 = .ok (.iaload, 1) := by decide +kernel
theorem dX4_outcomeOf_16 : decode cX4_outcomeOf 16 = .ok (.iaload, 1) := by decide +kernel
theorem dX4_outcomeOf_17 : decode cX4_outcomeOf 17 = .ok (.aload_n 0, 1) := by decide +kernel
theorem dX4_outcomeOf_18 : decode cX4_outcomeOf 18 = .ok (.getfield 9, 3) := by decide +kernel
theorem dX4_outcomeOf_21 : decode cX4_outcomeOf 21 = .ok (.aload_n 1, 1) := by decide +kernel
theorem dX4_outcomeOf_22 : decode cX4_outcomeOf 22 = .ok (.getfield 113, 3) := by decide +kernel
theorem dX4_outcomeOf_25 : decode cX4_outcomeOf 25 = .ok (.iload_n 2, 1) := by decide +kernel
theorem dX4_outcomeOf_26 : decode cX4_outcomeOf 26 = .ok (.iaload, 1) := by decide +kernel
theorem dX4_outcomeOf_27 : decode cX4_outcomeOf 27 = .ok (.iaload, 1) := by decide +kernel
theorem dX4_outcomeOf_28 : decode cX4_outcomeOf 28 = .ok (.aload_n 0, 1) := by decide +kernel
theorem dX4_outcomeOf_29 : decode cX4_outcomeOf 29 = .ok (.getfield 30, 3) := by decide +kernel
theorem dX4_outcomeOf_32 : decode cX4_outcomeOf 32 = .ok (.iload_n 2, 1) := by decide +kernel
theorem dX4_outcomeOf_33 : decode cX4_outcomeOf 33 = .ok (.iaload, 1) := by decide +kernel
theorem dX4_outcomeOf_34 : decode cX4_outcomeOf 34 = .ok (.invokestatic 116, 3) := by decide +kernel
theorem dX4_outcomeOf_37 : decode cX4_outcomeOf 37 = .ok (.ireturn, 1) := by decide +kernel
theorem dX4_drivenLevel_0 : decode cX4_drivenLevel 0 = .ok (.iconst 2, 1) := by decide +kernel
theorem dX4_drivenLevel_1 : decode cX4_drivenLevel 1 = .ok (.istore 4, 2) := by decide +kernel
theorem dX4_drivenLevel_3 : decode cX4_drivenLevel 3 = .ok (.iconst 0, 1) := by decide +kernel
theorem dX4_drivenLevel_4 : decode cX4_drivenLevel 4 = .ok (.istore 5, 2) := by decide +kernel
theorem dX4_drivenLevel_6 : decode cX4_drivenLevel 6 = .ok (.iload 5, 2) := by decide +kernel
theorem dX4_drivenLevel_8 : decode cX4_drivenLevel 8 = .ok (.aload_n 1, 1) := by decide +kernel
theorem dX4_drivenLevel_9 : decode cX4_drivenLevel 9 = .ok (.getfield 92, 3) := by decide +kernel
theorem dX4_drivenLevel_12 : decode cX4_drivenLevel 12 = .ok (.if_icmp .ge 40, 3) := by decide +kernel
theorem dX4_drivenLevel_15 : decode cX4_drivenLevel 15 = .ok (.aload_n 1, 1) := by decide +kernel
theorem dX4_drivenLevel_16 : decode cX4_drivenLevel 16 = .ok (.getfield 95, 3) := by decide +kernel
theorem dX4_drivenLevel_19 : decode cX4_drivenLevel 19 = .ok (.iload 5, 2) := by decide +kernel
theorem dX4_drivenLevel_21 : decode cX4_drivenLevel 21 = .ok (.iaload, 1) := by decide +kernel
theorem dX4_drivenLevel_22 : decode cX4_drivenLevel 22 = .ok (.iload_n 2, 1) := by decide +kernel
theorem dX4_drivenLevel_23 : decode cX4_drivenLevel 23 = .ok (.if_icmp .ne 23, 3) := by decide +kernel
theorem dX4_drivenLevel_26 : decode cX4_drivenLevel 26 = .ok (.iload 5, 2) := by decide +kernel
theorem dX4_drivenLevel_28 : decode cX4_drivenLevel 28 = .ok (.iload_n 3, 1) := by decide +kernel
theorem dX4_drivenLevel_29 : decode cX4_drivenLevel 29 = .ok (.if_icmp .eq 17, 3) := by decide +kernel
theorem dX4_drivenLevel_32 : decode cX4_drivenLevel 32 = .ok (.iload 4, 2) := by decide +kernel
theorem dX4_drivenLevel_34 : decode cX4_drivenLevel 34 = .ok (.aload_n 0, 1) := by decide +kernel
theorem dX4_drivenLevel_35 : decode cX4_drivenLevel 35 = .ok (.getfield 30, 3) := by decide +kernel
theorem dX4_drivenLevel_38 : decode cX4_drivenLevel 38 = .ok (.iload 5, 2) := by decide +kernel
theorem dX4_drivenLevel_40 : decode cX4_drivenLevel 40 = .ok (.iaload, 1) := by decide +kernel
theorem dX4_drivenLevel_41 : decode cX4_drivenLevel 41 = .ok (.invokestatic 122, 3) := by decide +kernel
theorem dX4_drivenLevel_44 : decode cX4_drivenLevel 44 = .ok (.istore 4, 2) := by decide +kernel
theorem dX4_drivenLevel_46 : decode cX4_drivenLevel 46 = .ok (.iinc 5 1, 3) := by decide +kernel
theorem dX4_drivenLevel_49 : decode cX4_drivenLevel 49 = .ok (.goto (-43), 3) := by decide +kernel
theorem dX4_drivenLevel_52 : decode cX4_drivenLevel 52 = .ok (.iload 4, 2) := by decide +kernel
theorem dX4_drivenLevel_54 : decode cX4_drivenLevel 54 = .ok (.ireturn, 1) := by decide +kernel
theorem dX4_holdingGates_0 : decode cX4_holdingGates 0 = .ok (.iconst 0, 1) := by decide +kernel
theorem dX4_holdingGates_1 : decode cX4_holdingGates 1 = .ok (.istore_n 2, 1) := by decide +kernel
theorem dX4_holdingGates_2 : decode cX4_holdingGates 2 = .ok (.iconst 0, 1) := by decide +kernel
theorem dX4_holdingGates_3 : decode cX4_holdingGates 3 = .ok (.istore_n 3, 1) := by decide +kernel
theorem dX4_holdingGates_4 : decode cX4_holdingGates 4 = .ok (.iload_n 3, 1) := by decide +kernel
theorem dX4_holdingGates_5 : decode cX4_holdingGates 5 = .ok (.aload_n 1, 1) := by decide +kernel
theorem dX4_holdingGates_6 : decode cX4_holdingGates 6 = .ok (.getfield 92, 3) := by decide +kernel
theorem dX4_holdingGates_9 : decode cX4_holdingGates 9 = .ok (.if_icmp .ge 30, 3) := by decide +kernel
theorem dX4_holdingGates_12 : decode cX4_holdingGates 12 = .ok (.aload_n 0, 1) := by decide +kernel
theorem dX4_holdingGates_13 : decode cX4_holdingGates 13 = .ok (.getfield 30, 3) := by decide +kernel
theorem dX4_holdingGates_16 : decode cX4_holdingGates 16 = .ok (.iload_n 3, 1) := by decide +kernel
theorem dX4_holdingGates_17 : decode cX4_holdingGates 17 = .ok (.iaload, 1) := by decide +kernel
theorem dX4_holdingGates_18 : decode cX4_holdingGates 18 = .ok (.aload_n 0, 1) := by decide +kernel
theorem dX4_holdingGates_19 : decode cX4_holdingGates 19 = .ok (.aload_n 1, 1) := by decide +kernel
theorem dX4_holdingGates_20 : decode cX4_holdingGates 20 = .ok (.iload_n 3, 1) := by decide +kernel
theorem dX4_holdingGates_21 : decode cX4_holdingGates 21 = .ok (.invokevirtual 125, 3) := by decide +kernel
theorem dX4_holdingGates_24 : decode cX4_holdingGates 24 = .ok (.if_icmp .ne 9, 3) := by decide +kernel
theorem dX4_holdingGates_27 : decode cX4_holdingGates 27 = .ok (.iload_n 2, 1) := by decide +kernel
theorem dX4_holdingGates_28 : decode cX4_holdingGates 28 = .ok (.iconst 1, 1) := by decide +kernel
theorem dX4_holdingGates_29 : decode cX4_holdingGates 29 = .ok (.iload_n 3, 1) := by decide +kernel
theorem dX4_holdingGates_30 : decode cX4_holdingGates 30 = .ok (.ishl, 1) := by decide +kernel
theorem dX4_holdingGates_31 : decode cX4_holdingGates 31 = .ok (.ior, 1) := by decide +kernel
theorem dX4_holdingGates_32 : decode cX4_holdingGates 32 = .ok (.istore_n 2, 1) := by decide +kernel
theorem dX4_holdingGates_33 : decode cX4_holdingGates 33 = .ok (.iinc 3 1, 3) := by decide +kernel
theorem dX4_holdingGates_36 : decode cX4_holdingGates 36 = .ok (.goto (-32), 3) := by decide +kernel
theorem dX4_holdingGates_39 : decode cX4_holdingGates 39 = .ok (.iload_n 2, 1) := by decide +kernel
theorem dX4_holdingGates_40 : decode cX4_holdingGates 40 = .ok (.ireturn, 1) := by decide +kernel
theorem dX4_changeTime_0 : decode cX4_changeTime 0 = .ok (.aload_n 0, 1) := by decide +kernel
theorem dX4_changeTime_1 : decode cX4_changeTime 1 = .ok (.iload_n 1, 1) := by decide +kernel
theorem dX4_changeTime_2 : decode cX4_changeTime 2 = .ok (.iload_n 2, 1) := by decide +kernel
theorem dX4_changeTime_3 : decode cX4_changeTime 3 = .ok (.invokevirtual 129, 3) := by decide +kernel
theorem dX4_changeTime_6 : decode cX4_changeTime 6 = .ok (.ifCond .eq 17, 3) := by decide +kernel
theorem dX4_changeTime_9 : decode cX4_changeTime 9 = .ok (.aload_n 0, 1) := by decide +kernel
theorem dX4_changeTime_10 : decode cX4_changeTime 10 = .ok (.getfield 24, 3) := by decide +kernel
theorem dX4_changeTime_13 : decode cX4_changeTime 13 = .ok (.aload_n 0, 1) := by decide +kernel
theorem dX4_changeTime_14 : decode cX4_changeTime 14 = .ok (.iload_n 1, 1) := by decide +kernel
theorem dX4_changeTime_15 : decode cX4_changeTime 15 = .ok (.iload_n 2, 1) := by decide +kernel
theorem dX4_changeTime_16 : decode cX4_changeTime 16 = .ok (.invokevirtual 133, 3) := by decide +kernel
theorem dX4_changeTime_19 : decode cX4_changeTime 19 = .ok (.iaload, 1) := by decide +kernel
theorem dX4_changeTime_20 : decode cX4_changeTime 20 = .ok (.goto 4, 3) := by decide +kernel
theorem dX4_changeTime_23 : decode cX4_changeTime 23 = .ok (.iconst (-1), 1) := by decide +kernel
theorem dX4_changeTime_24 : decode cX4_changeTime 24 = .ok (.ireturn, 1) := by decide +kernel
theorem dX4_changeLevel_0 : decode cX4_changeLevel 0 = .ok (.aload_n 0, 1) := by decide +kernel
theorem dX4_changeLevel_1 : decode cX4_changeLevel 1 = .ok (.iload_n 1, 1) := by decide +kernel
theorem dX4_changeLevel_2 : decode cX4_changeLevel 2 = .ok (.iload_n 2, 1) := by decide +kernel
theorem dX4_changeLevel_3 : decode cX4_changeLevel 3 = .ok (.invokevirtual 129, 3) := by decide +kernel
theorem dX4_changeLevel_6 : decode cX4_changeLevel 6 = .ok (.ifCond .eq 17, 3) := by decide +kernel
theorem dX4_changeLevel_9 : decode cX4_changeLevel 9 = .ok (.aload_n 0, 1) := by decide +kernel
theorem dX4_changeLevel_10 : decode cX4_changeLevel 10 = .ok (.getfield 27, 3) := by decide +kernel
theorem dX4_changeLevel_13 : decode cX4_changeLevel 13 = .ok (.aload_n 0, 1) := by decide +kernel
theorem dX4_changeLevel_14 : decode cX4_changeLevel 14 = .ok (.iload_n 1, 1) := by decide +kernel
theorem dX4_changeLevel_15 : decode cX4_changeLevel 15 = .ok (.iload_n 2, 1) := by decide +kernel
theorem dX4_changeLevel_16 : decode cX4_changeLevel 16 = .ok (.invokevirtual 133, 3) := by decide +kernel
theorem dX4_changeLevel_19 : decode cX4_changeLevel 19 = .ok (.iaload, 1) := by decide +kernel
theorem dX4_changeLevel_20 : decode cX4_changeLevel 20 = .ok (.goto 4, 3) := by decide +kernel
theorem dX4_changeLevel_23 : decode cX4_changeLevel 23 = .ok (.iconst (-1), 1) := by decide +kernel
theorem dX4_changeLevel_24 : decode cX4_changeLevel 24 = .ok (.ireturn, 1) := by decide +kernel
theorem dX4_hasChange_0 : decode cX4_hasChange 0 = .ok (.iload_n 2, 1) := by decide +kernel
theorem dX4_hasChange_1 : decode cX4_hasChange 1 = .ok (.ifCond .lt 22, 3) := by decide +kernel
theorem dX4_hasChange_4 : decode cX4_hasChange 4 = .ok (.iload_n 2, 1) := by decide +kernel
theorem dX4_hasChange_5 : decode cX4_hasChange 5 = .ok (.aload_n 0, 1) := by decide +kernel
theorem dX4_hasChange_6 : decode cX4_hasChange 6 = .ok (.getfield 15, 3) := by decide +kernel
theorem dX4_hasChange_9 : decode cX4_hasChange 9 = .ok (.iload_n 1, 1) := by decide +kernel
theorem dX4_hasChange_10 : decode cX4_hasChange 10 = .ok (.iaload, 1) := by decide +kernel
theorem dX4_hasChange_11 : decode cX4_hasChange 11 = .ok (.bipush 8, 2) := by decide +kernel
theorem dX4_hasChange_13 : decode cX4_hasChange 13 = .ok (.invokestatic 72, 3) := by decide +kernel
theorem dX4_hasChange_16 : decode cX4_hasChange 16 = .ok (.if_icmp .ge 7, 3) := by decide +kernel
theorem dX4_hasChange_19 : decode cX4_hasChange 19 = .ok (.iconst 1, 1) := by decide +kernel
theorem dX4_hasChange_20 : decode cX4_hasChange 20 = .ok (.goto 4, 3) := by decide +kernel
theorem dX4_hasChange_23 : decode cX4_hasChange 23 = .ok (.iconst 0, 1) := by decide +kernel
theorem dX4_hasChange_24 : decode cX4_hasChange 24 = .ok (.ireturn, 1) := by decide +kernel
theorem dX4_wavePlace_0 : decode cX4_wavePlace 0 = .ok (.iload_n 1, 1) := by decide +kernel
theorem dX4_wavePlace_1 : decode cX4_wavePlace 1 = .ok (.bipush 8, 2) := by decide +kernel
theorem dX4_wavePlace_3 : decode cX4_wavePlace 3 = .ok (.imul, 1) := by decide +kernel
theorem dX4_wavePlace_4 : decode cX4_wavePlace 4 = .ok (.aload_n 0, 1) := by decide +kernel
theorem dX4_wavePlace_5 : decode cX4_wavePlace 5 = .ok (.getfield 21, 3) := by decide +kernel
theorem dX4_wavePlace_8 : decode cX4_wavePlace 8 = .ok (.iload_n 1, 1) := by decide +kernel
theorem dX4_wavePlace_9 : decode cX4_wavePlace 9 = .ok (.iaload, 1) := by decide +kernel
theorem dX4_wavePlace_10 : decode cX4_wavePlace 10 = .ok (.iconst 1, 1) := by decide +kernel
theorem dX4_wavePlace_11 : decode cX4_wavePlace 11 = .ok (.isub, 1) := by decide +kernel
theorem dX4_wavePlace_12 : decode cX4_wavePlace 12 = .ok (.iload_n 2, 1) := by decide +kernel
theorem dX4_wavePlace_13 : decode cX4_wavePlace 13 = .ok (.isub, 1) := by decide +kernel
theorem dX4_wavePlace_14 : decode cX4_wavePlace 14 = .ok (.bipush 8, 2) := by decide +kernel
theorem dX4_wavePlace_16 : decode cX4_wavePlace 16 = .ok (.invokestatic 136, 3) := by decide +kernel
theorem dX4_wavePlace_19 : decode cX4_wavePlace 19 = .ok (.iadd, 1) := by decide +kernel
theorem dX4_wavePlace_20 : decode cX4_wavePlace 20 = .ok (.ireturn, 1) := by decide +kernel
theorem dX4_waitingTime_0 : decode cX4_waitingTime 0 = .ok (.aload_n 0, 1) := by decide +kernel
theorem dX4_waitingTime_1 : decode cX4_waitingTime 1 = .ok (.iload_n 1, 1) := by decide +kernel
theorem dX4_waitingTime_2 : decode cX4_waitingTime 2 = .ok (.iload_n 2, 1) := by decide +kernel
theorem dX4_waitingTime_3 : decode cX4_waitingTime 3 = .ok (.invokevirtual 139, 3) := by decide +kernel
theorem dX4_waitingTime_6 : decode cX4_waitingTime 6 = .ok (.ifCond .eq 17, 3) := by decide +kernel
theorem dX4_waitingTime_9 : decode cX4_waitingTime 9 = .ok (.aload_n 0, 1) := by decide +kernel
theorem dX4_waitingTime_10 : decode cX4_waitingTime 10 = .ok (.getfield 36, 3) := by decide +kernel
theorem dX4_waitingTime_13 : decode cX4_waitingTime 13 = .ok (.iload_n 1, 1) := by decide +kernel
theorem dX4_waitingTime_14 : decode cX4_waitingTime 14 = .ok (.bipush 8, 2) := by decide +kernel
theorem dX4_waitingTime_16 : decode cX4_waitingTime 16 = .ok (.imul, 1) := by decide +kernel
theorem dX4_waitingTime_17 : decode cX4_waitingTime 17 = .ok (.iload_n 2, 1) := by decide +kernel
theorem dX4_waitingTime_18 : decode cX4_waitingTime 18 = .ok (.iadd, 1) := by decide +kernel
theorem dX4_waitingTime_19 : decode cX4_waitingTime 19 = .ok (.iaload, 1) := by decide +kernel
theorem dX4_waitingTime_20 : decode cX4_waitingTime 20 = .ok (.goto 4, 3) := by decide +kernel
theorem dX4_waitingTime_23 : decode cX4_waitingTime 23 = .ok (.iconst (-1), 1) := by decide +kernel
theorem dX4_waitingTime_24 : decode cX4_waitingTime 24 = .ok (.ireturn, 1) := by decide +kernel
theorem dX4_waitingLevel_0 : decode cX4_waitingLevel 0 = .ok (.aload_n 0, 1) := by decide +kernel
theorem dX4_waitingLevel_1 : decode cX4_waitingLevel 1 = .ok (.iload_n 1, 1) := by decide +kernel
theorem dX4_waitingLevel_2 : decode cX4_waitingLevel 2 = .ok (.iload_n 2, 1) := by decide +kernel
theorem dX4_waitingLevel_3 : decode cX4_waitingLevel 3 = .ok (.invokevirtual 139, 3) := by decide +kernel
theorem dX4_waitingLevel_6 : decode cX4_waitingLevel 6 = .ok (.ifCond .eq 17, 3) := by decide +kernel
theorem dX4_waitingLevel_9 : decode cX4_waitingLevel 9 = .ok (.aload_n 0, 1) := by decide +kernel
theorem dX4_waitingLevel_10 : decode cX4_waitingLevel 10 = .ok (.getfield 39, 3) := by decide +kernel
theorem dX4_waitingLevel_13 : decode cX4_waitingLevel 13 = .ok (.iload_n 1, 1) := by decide +kernel
theorem dX4_waitingLevel_14 : decode cX4_waitingLevel 14 = .ok (.bipush 8, 2) := by decide +kernel
theorem dX4_waitingLevel_16 : decode cX4_waitingLevel 16 = .ok (.imul, 1) := by decide +kernel
theorem dX4_waitingLevel_17 : decode cX4_waitingLevel 17 = .ok (.iload_n 2, 1) := by decide +kernel
theorem dX4_waitingLevel_18 : decode cX4_waitingLevel 18 = .ok (.iadd, 1) := by decide +kernel
theorem dX4_waitingLevel_19 : decode cX4_waitingLevel 19 = .ok (.iaload, 1) := by decide +kernel
theorem dX4_waitingLevel_20 : decode cX4_waitingLevel 20 = .ok (.goto 4, 3) := by decide +kernel
theorem dX4_waitingLevel_23 : decode cX4_waitingLevel 23 = .ok (.iconst (-1), 1) := by decide +kernel
theorem dX4_waitingLevel_24 : decode cX4_waitingLevel 24 = .ok (.ireturn, 1) := by decide +kernel
theorem dX4_hasWaiting_0 : decode cX4_hasWaiting 0 = .ok (.iload_n 2, 1) := by decide +kernel
theorem dX4_hasWaiting_1 : decode cX4_hasWaiting 1 = .ok (.ifCond .lt 17, 3) := by decide +kernel
theorem dX4_hasWaiting_4 : decode cX4_hasWaiting 4 = .ok (.iload_n 2, 1) := by decide +kernel
theorem dX4_hasWaiting_5 : decode cX4_hasWaiting 5 = .ok (.aload_n 0, 1) := by decide +kernel
theorem dX4_hasWaiting_6 : decode cX4_hasWaiting 6 = .ok (.getfield 33, 3) := by decide +kernel
theorem dX4_hasWaiting_9 : decode cX4_hasWaiting 9 = .ok (.iload_n 1, 1) := by decide +kernel
theorem dX4_hasWaiting_10 : decode cX4_hasWaiting 10 = .ok (.iaload, 1) := by decide +kernel
theorem dX4_hasWaiting_11 : decode cX4_hasWaiting 11 = .ok (.if_icmp .ge 7, 3) := by decide +kernel
theorem dX4_hasWaiting_14 : decode cX4_hasWaiting 14 = .ok (.iconst 1, 1) := by decide +kernel
theorem dX4_hasWaiting_15 : decode cX4_hasWaiting 15 = .ok (.goto 4, 3) := by decide +kernel
theorem dX4_hasWaiting_18 : decode cX4_hasWaiting 18 = .ok (.iconst 0, 1) := by decide +kernel
theorem dX4_hasWaiting_19 : decode cX4_hasWaiting 19 = .ok (.ireturn, 1) := by decide +kernel
theorem dX4_handIsFull_0 : decode cX4_handIsFull 0 = .ok (.aload_n 0, 1) := by decide +kernel
theorem dX4_handIsFull_1 : decode cX4_handIsFull 1 = .ok (.getfield 65, 3) := by decide +kernel
theorem dX4_handIsFull_4 : decode cX4_handIsFull 4 = .ok (.bipush 8, 2) := by decide +kernel
theorem dX4_handIsFull_6 : decode cX4_handIsFull 6 = .ok (.if_icmp .lt 7, 3) := by decide +kernel
theorem dX4_handIsFull_9 : decode cX4_handIsFull 9 = .ok (.iconst 1, 1) := by decide +kernel
theorem dX4_handIsFull_10 : decode cX4_handIsFull 10 = .ok (.goto 4, 3) := by decide +kernel
theorem dX4_handIsFull_13 : decode cX4_handIsFull 13 = .ok (.iconst 0, 1) := by decide +kernel
theorem dX4_handIsFull_14 : decode cX4_handIsFull 14 = .ok (.ireturn, 1) := by decide +kernel
theorem dX4_addByHand_0 : decode cX4_addByHand 0 = .ok (.aload_n 0, 1) := by decide +kernel
theorem dX4_addByHand_1 : decode cX4_addByHand 1 = .ok (.invokevirtual 142, 3) := by decide +kernel
theorem dX4_addByHand_4 : decode cX4_addByHand 4 = .ok (.ifCond .eq 4, 3) := by decide +kernel
theorem dX4_addByHand_7 : decode cX4_addByHand 7 = .ok (.return_, 1) := by decide +kernel
theorem dX4_addByHand_8 : decode cX4_addByHand 8 = .ok (.aload_n 0, 1) := by decide +kernel
theorem dX4_addByHand_9 : decode cX4_addByHand 9 = .ok (.getfield 65, 3) := by decide +kernel
theorem dX4_addByHand_12 : decode cX4_addByHand 12 = .ok (.istore 4, 2) := by decide +kernel
theorem dX4_addByHand_14 : decode cX4_addByHand 14 = .ok (.iload 4, 2) := by decide +kernel
theorem dX4_addByHand_16 : decode cX4_addByHand 16 = .ok (.ifCond .le 70, 3) := by decide +kernel
theorem dX4_addByHand_19 : decode cX4_addByHand 19 = .ok (.aload_n 0, 1) := by decide +kernel
theorem dX4_addByHand_20 : decode cX4_addByHand 20 = .ok (.getfield 42, 3) := by decide +kernel
theorem dX4_addByHand_23 : decode cX4_addByHand 23 = .ok (.iload 4, 2) := by decide +kernel
theorem dX4_addByHand_25 : decode cX4_addByHand 25 = .ok (.iconst 1, 1) := by decide +kernel
theorem dX4_addByHand_26 : decode cX4_addByHand 26 = .ok (.isub, 1) := by decide +kernel
theorem dX4_addByHand_27 : decode cX4_addByHand 27 = .ok (.iaload, 1) := by decide +kernel
theorem dX4_addByHand_28 : decode cX4_addByHand 28 = .ok (.iload_n 3, 1) := by decide +kernel
theorem dX4_addByHand_29 : decode cX4_addByHand 29 = .ok (.if_icmp .le 57, 3) := by decide +kernel
theorem dX4_addByHand_32 : decode cX4_addByHand 32 = .ok (.aload_n 0, 1) := by decide +kernel
theorem dX4_addByHand_33 : decode cX4_addByHand 33 = .ok (.getfield 42, 3) := by decide +kernel
theorem dX4_addByHand_36 : decode cX4_addByHand 36 = .ok (.iload 4, 2) := by decide +kernel
theorem dX4_addByHand_38 : decode cX4_addByHand 38 = .ok (.aload_n 0, 1) := by decide +kernel
theorem dX4_addByHand_39 : decode cX4_addByHand 39 = .ok (.getfield 42, 3) := by decide +kernel
theorem dX4_addByHand_42 : decode cX4_addByHand 42 = .ok (.iload 4, 2) := by decide +kernel
theorem dX4_addByHand_44 : decode cX4_addByHand 44 = .ok (.iconst 1, 1) := by decide +kernel
theorem dX4_addByHand_45 : decode cX4_addByHand 45 = .ok (.isub, 1) := by decide +kernel
theorem dX4_addByHand_46 : decode cX4_addByHand 46 = .ok (.iaload, 1) := by decide +kernel
theorem dX4_addByHand_47 : decode cX4_addByHand 47 = .ok (.iastore, 1) := by decide +kernel
theorem dX4_addByHand_48 : decode cX4_addByHand 48 = .ok (.aload_n 0, 1) := by decide +kernel
theorem dX4_addByHand_49 : decode cX4_addByHand 49 = .ok (.getfield 45, 3) := by decide +kernel
theorem dX4_addByHand_52 : decode cX4_addByHand 52 = .ok (.iload 4, 2) := by decide +kernel
theorem dX4_addByHand_54 : decode cX4_addByHand 54 = .ok (.aload_n 0, 1) := by decide +kernel
theorem dX4_addByHand_55 : decode cX4_addByHand 55 = .ok (.getfield 45, 3) := by decide +kernel
theorem dX4_addByHand_58 : decode cX4_addByHand 58 = .ok (.iload 4, 2) := by decide +kernel
theorem dX4_addByHand_60 : decode cX4_addByHand 60 = .ok (.iconst 1, 1) := by decide +kernel
theorem dX4_addByHand_61 : decode cX4_addByHand 61 = .ok (.isub, 1) := by decide +kernel
theorem dX4_addByHand_62 : decode cX4_addByHand 62 = .ok (.iaload, 1) := by decide +kernel
theorem dX4_addByHand_63 : decode cX4_addByHand 63 = .ok (.iastore, 1) := by decide +kernel
theorem dX4_addByHand_64 : decode cX4_addByHand 64 = .ok (.aload_n 0, 1) := by decide +kernel
theorem dX4_addByHand_65 : decode cX4_addByHand 65 = .ok (.getfield 48, 3) := by decide +kernel
theorem dX4_addByHand_68 : decode cX4_addByHand 68 = .ok (.iload 4, 2) := by decide +kernel
theorem dX4_addByHand_70 : decode cX4_addByHand 70 = .ok (.aload_n 0, 1) := by decide +kernel
theorem dX4_addByHand_71 : decode cX4_addByHand 71 = .ok (.getfield 48, 3) := by decide +kernel
theorem dX4_addByHand_74 : decode cX4_addByHand 74 = .ok (.iload 4, 2) := by decide +kernel
theorem dX4_addByHand_76 : decode cX4_addByHand 76 = .ok (.iconst 1, 1) := by decide +kernel
theorem dX4_addByHand_77 : decode cX4_addByHand 77 = .ok (.isub, 1) := by decide +kernel
theorem dX4_addByHand_78 : decode cX4_addByHand 78 = .ok (.iaload, 1) := by decide +kernel
theorem dX4_addByHand_79 : decode cX4_addByHand 79 = .ok (.iastore, 1) := by decide +kernel
theorem dX4_addByHand_80 : decode cX4_addByHand 80 = .ok (.iinc 4 (-1), 3) := by decide +kernel
theorem dX4_addByHand_83 : decode cX4_addByHand 83 = .ok (.goto (-69), 3) := by decide +kernel
theorem dX4_addByHand_86 : decode cX4_addByHand 86 = .ok (.aload_n 0, 1) := by decide +kernel
theorem dX4_addByHand_87 : decode cX4_addByHand 87 = .ok (.getfield 42, 3) := by decide +kernel
theorem dX4_addByHand_90 : decode cX4_addByHand 90 = .ok (.iload 4, 2) := by decide +kernel
theorem dX4_addByHand_92 : decode cX4_addByHand 92 = .ok (.iload_n 3, 1) := by decide +kernel
theorem dX4_addByHand_93 : decode cX4_addByHand 93 = .ok (.iastore, 1) := by decide +kernel
theorem dX4_addByHand_94 : decode cX4_addByHand 94 = .ok (.aload_n 0, 1) := by decide +kernel
theorem dX4_addByHand_95 : decode cX4_addByHand 95 = .ok (.getfield 45, 3) := by decide +kernel
theorem dX4_addByHand_98 : decode cX4_addByHand 98 = .ok (.iload 4, 2) := by decide +kernel
theorem dX4_addByHand_100 : decode cX4_addByHand 100 = .ok (.iload_n 1, 1) := by decide +kernel
theorem dX4_addByHand_101 : decode cX4_addByHand 101 = .ok (.iastore, 1) := by decide +kernel
theorem dX4_addByHand_102 : decode cX4_addByHand 102 = .ok (.aload_n 0, 1) := by decide +kernel
theorem dX4_addByHand_103 : decode cX4_addByHand 103 = .ok (.getfield 48, 3) := by decide +kernel
theorem dX4_addByHand_106 : decode cX4_addByHand 106 = .ok (.iload 4, 2) := by decide +kernel
theorem dX4_addByHand_108 : decode cX4_addByHand 108 = .ok (.iload_n 2, 1) := by decide +kernel
theorem dX4_addByHand_109 : decode cX4_addByHand 109 = .ok (.iastore, 1) := by decide +kernel
theorem dX4_addByHand_110 : decode cX4_addByHand 110 = .ok (.aload_n 0, 1) := by decide +kernel
theorem dX4_addByHand_111 : decode cX4_addByHand 111 = .ok (.dup, 1) := by decide +kernel
theorem dX4_addByHand_112 : decode cX4_addByHand 112 = .ok (.getfield 65, 3) := by decide +kernel
theorem dX4_addByHand_115 : decode cX4_addByHand 115 = .ok (.iconst 1, 1) := by decide +kernel
theorem dX4_addByHand_116 : decode cX4_addByHand 116 = .ok (.iadd, 1) := by decide +kernel
theorem dX4_addByHand_117 : decode cX4_addByHand 117 = .ok (.putfield 65, 3) := by decide +kernel
theorem dX4_addByHand_120 : decode cX4_addByHand 120 = .ok (.return_, 1) := by decide +kernel
theorem dX4_tellAll_0 : decode cX4_tellAll 0 = .ok (.iconst 0, 1) := by decide +kernel
theorem dX4_tellAll_1 : decode cX4_tellAll 1 = .ok (.istore_n 2, 1) := by decide +kernel
theorem dX4_tellAll_2 : decode cX4_tellAll 2 = .ok (.iload_n 2, 1) := by decide +kernel
theorem dX4_tellAll_3 : decode cX4_tellAll 3 = .ok (.aload_n 1, 1) := by decide +kernel
theorem dX4_tellAll_4 : decode cX4_tellAll 4 = .ok (.getfield 92, 3) := by decide +kernel
theorem dX4_tellAll_7 : decode cX4_tellAll 7 = .ok (.if_icmp .ge 21, 3) := by decide +kernel
theorem dX4_tellAll_10 : decode cX4_tellAll 10 = .ok (.aload_n 0, 1) := by decide +kernel
theorem dX4_tellAll_11 : decode cX4_tellAll 11 = .ok (.aload_n 1, 1) := by decide +kernel
theorem dX4_tellAll_12 : decode cX4_tellAll 12 = .ok (.iload_n 2, 1) := by decide +kernel
theorem dX4_tellAll_13 : decode cX4_tellAll 13 = .ok (.aload_n 0, 1) := by decide +kernel
theorem dX4_tellAll_14 : decode cX4_tellAll 14 = .ok (.aload_n 1, 1) := by decide +kernel
theorem dX4_tellAll_15 : decode cX4_tellAll 15 = .ok (.iload_n 2, 1) := by decide +kernel
theorem dX4_tellAll_16 : decode cX4_tellAll 16 = .ok (.invokevirtual 125, 3) := by decide +kernel
theorem dX4_tellAll_19 : decode cX4_tellAll 19 = .ok (.invokevirtual 146, 3) := by decide +kernel
theorem dX4_tellAll_22 : decode cX4_tellAll 22 = .ok (.iinc 2 1, 3) := by decide +kernel
theorem dX4_tellAll_25 : decode cX4_tellAll 25 = .ok (.goto (-23), 3) := by decide +kernel
theorem dX4_tellAll_28 : decode cX4_tellAll 28 = .ok (.return_, 1) := by decide +kernel
theorem dX4_tellLookers_0 : decode cX4_tellLookers 0 = .ok (.iconst 0, 1) := by decide +kernel
theorem dX4_tellLookers_1 : decode cX4_tellLookers 1 = .ok (.istore_n 3, 1) := by decide +kernel
theorem dX4_tellLookers_2 : decode cX4_tellLookers 2 = .ok (.iload_n 3, 1) := by decide +kernel
theorem dX4_tellLookers_3 : decode cX4_tellLookers 3 = .ok (.aload_n 1, 1) := by decide +kernel
theorem dX4_tellLookers_4 : decode cX4_tellLookers 4 = .ok (.getfield 92, 3) := by decide +kernel
theorem dX4_tellLookers_7 : decode cX4_tellLookers 7 = .ok (.if_icmp .ge 31, 3) := by decide +kernel
theorem dX4_tellLookers_10 : decode cX4_tellLookers 10 = .ok (.aload_n 1, 1) := by decide +kernel
theorem dX4_tellLookers_11 : decode cX4_tellLookers 11 = .ok (.iload_n 3, 1) := by decide +kernel
theorem dX4_tellLookers_12 : decode cX4_tellLookers 12 = .ok (.invokevirtual 150, 3) := by decide +kernel
theorem dX4_tellLookers_15 : decode cX4_tellLookers 15 = .ok (.iload_n 2, 1) := by decide +kernel
theorem dX4_tellLookers_16 : decode cX4_tellLookers 16 = .ok (.iand, 1) := by decide +kernel
theorem dX4_tellLookers_17 : decode cX4_tellLookers 17 = .ok (.ifCond .eq 15, 3) := by decide +kernel
theorem dX4_tellLookers_20 : decode cX4_tellLookers 20 = .ok (.aload_n 0, 1) := by decide +kernel
theorem dX4_tellLookers_21 : decode cX4_tellLookers 21 = .ok (.aload_n 1, 1) := by decide +kernel
theorem dX4_tellLookers_22 : decode cX4_tellLookers 22 = .ok (.iload_n 3, 1) := by decide +kernel
theorem dX4_tellLookers_23 : decode cX4_tellLookers 23 = .ok (.aload_n 0, 1) := by decide +kernel
theorem dX4_tellLookers_24 : decode cX4_tellLookers 24 = .ok (.aload_n 1, 1) := by decide +kernel
theorem dX4_tellLookers_25 : decode cX4_tellLookers 25 = .ok (.iload_n 3, 1) := by decide +kernel
theorem dX4_tellLookers_26 : decode cX4_tellLookers 26 = .ok (.invokevirtual 125, 3) := by decide +kernel
theorem dX4_tellLookers_29 : decode cX4_tellLookers 29 = .ok (.invokevirtual 146, 3) := by decide +kernel
theorem dX4_tellLookers_32 : decode cX4_tellLookers 32 = .ok (.iinc 3 1, 3) := by decide +kernel
theorem dX4_tellLookers_35 : decode cX4_tellLookers 35 = .ok (.goto (-33), 3) := by decide +kernel
theorem dX4_tellLookers_38 : decode cX4_tellLookers 38 = .ok (.return_, 1) := by decide +kernel
theorem dX4_tellGate_0 : decode cX4_tellGate 0 = .ok (.aload_n 0, 1) := by decide +kernel
theorem dX4_tellGate_1 : decode cX4_tellGate 1 = .ok (.getfield 51, 3) := by decide +kernel
theorem dX4_tellGate_4 : decode cX4_tellGate 4 = .ok (.aload_n 1, 1) := by decide +kernel
theorem dX4_tellGate_5 : decode cX4_tellGate 5 = .ok (.getfield 154, 3) := by decide +kernel
theorem dX4_tellGate_8 : decode cX4_tellGate 8 = .ok (.iload_n 2, 1) := by decide +kernel
theorem dX4_tellGate_9 : decode cX4_tellGate 9 = .ok (.iaload, 1) := by decide +kernel
theorem dX4_tellGate_10 : decode cX4_tellGate 10 = .ok (.iadd, 1) := by decide +kernel
theorem dX4_tellGate_11 : decode cX4_tellGate 11 = .ok (.istore 4, 2) := by decide +kernel
theorem dX4_tellGate_13 : decode cX4_tellGate 13 = .ok (.iload_n 2, 1) := by decide +kernel
theorem dX4_tellGate_14 : decode cX4_tellGate 14 = .ok (.bipush 8, 2) := by decide +kernel
theorem dX4_tellGate_16 : decode cX4_tellGate 16 = .ok (.imul, 1) := by decide +kernel
theorem dX4_tellGate_17 : decode cX4_tellGate 17 = .ok (.istore 5, 2) := by decide +kernel
theorem dX4_tellGate_19 : decode cX4_tellGate 19 = .ok (.aload_n 0, 1) := by decide +kernel
theorem dX4_tellGate_20 : decode cX4_tellGate 20 = .ok (.getfield 33, 3) := by decide +kernel
theorem dX4_tellGate_23 : decode cX4_tellGate 23 = .ok (.iload_n 2, 1) := by decide +kernel
theorem dX4_tellGate_24 : decode cX4_tellGate 24 = .ok (.iaload, 1) := by decide +kernel
theorem dX4_tellGate_25 : decode cX4_tellGate 25 = .ok (.ifCond .le 37, 3) := by decide +kernel
theorem dX4_tellGate_28 : decode cX4_tellGate 28 = .ok (.aload_n 0, 1) := by decide +kernel
theorem dX4_tellGate_29 : decode cX4_tellGate 29 = .ok (.getfield 36, 3) := by decide +kernel
theorem dX4_tellGate_32 : decode cX4_tellGate 32 = .ok (.iload 5, 2) := by decide +kernel
theorem dX4_tellGate_34 : decode cX4_tellGate 34 = .ok (.aload_n 0, 1) := by decide +kernel
theorem dX4_tellGate_35 : decode cX4_tellGate 35 = .ok (.getfield 33, 3) := by decide +kernel
theorem dX4_tellGate_38 : decode cX4_tellGate 38 = .ok (.iload_n 2, 1) := by decide +kernel
theorem dX4_tellGate_39 : decode cX4_tellGate 39 = .ok (.iaload, 1) := by decide +kernel
theorem dX4_tellGate_40 : decode cX4_tellGate 40 = .ok (.iadd, 1) := by decide +kernel
theorem dX4_tellGate_41 : decode cX4_tellGate 41 = .ok (.iconst 1, 1) := by decide +kernel
theorem dX4_tellGate_42 : decode cX4_tellGate 42 = .ok (.isub, 1) := by decide +kernel
theorem dX4_tellGate_43 : decode cX4_tellGate 43 = .ok (.iaload, 1) := by decide +kernel
theorem dX4_tellGate_44 : decode cX4_tellGate 44 = .ok (.iload 4, 2) := by decide +kernel
theorem dX4_tellGate_46 : decode cX4_tellGate 46 = .ok (.if_icmp .lt 16, 3) := by decide +kernel
theorem dX4_tellGate_49 : decode cX4_tellGate 49 = .ok (.aload_n 0, 1) := by decide +kernel
theorem dX4_tellGate_50 : decode cX4_tellGate 50 = .ok (.getfield 33, 3) := by decide +kernel
theorem dX4_tellGate_53 : decode cX4_tellGate 53 = .ok (.iload_n 2, 1) := by decide +kernel
theorem dX4_tellGate_54 : decode cX4_tellGate 54 = .ok (.dup2, 1) := by decide +kernel
theorem dX4_tellGate_55 : decode cX4_tellGate 55 = .ok (.iaload, 1) := by decide +kernel
theorem dX4_tellGate_56 : decode cX4_tellGate 56 = .ok (.iconst 1, 1) := by decide +kernel
theorem dX4_tellGate_57 : decode cX4_tellGate 57 = .ok (.isub, 1) := by decide +kernel
theorem dX4_tellGate_58 : decode cX4_tellGate 58 = .ok (.iastore, 1) := by decide +kernel
theorem dX4_tellGate_59 : decode cX4_tellGate 59 = .ok (.goto (-40), 3) := by decide +kernel
theorem dX4_tellGate_62 : decode cX4_tellGate 62 = .ok (.aload_n 1, 1) := by decide +kernel
theorem dX4_tellGate_63 : decode cX4_tellGate 63 = .ok (.getfield 157, 3) := by decide +kernel
theorem dX4_tellGate_66 : decode cX4_tellGate 66 = .ok (.iload_n 2, 1) := by decide +kernel
theorem dX4_tellGate_67 : decode cX4_tellGate 67 = .ok (.iaload, 1) := by decide +kernel
theorem dX4_tellGate_68 : decode cX4_tellGate 68 = .ok (.iconst 1, 1) := by decide +kernel
theorem dX4_tellGate_69 : decode cX4_tellGate 69 = .ok (.if_icmp .ne 21, 3) := by decide +kernel
theorem dX4_tellGate_72 : decode cX4_tellGate 72 = .ok (.aload_n 0, 1) := by decide +kernel
theorem dX4_tellGate_73 : decode cX4_tellGate 73 = .ok (.iload_n 2, 1) := by decide +kernel
theorem dX4_tellGate_74 : decode cX4_tellGate 74 = .ok (.aload_n 0, 1) := by decide +kernel
theorem dX4_tellGate_75 : decode cX4_tellGate 75 = .ok (.getfield 33, 3) := by decide +kernel
theorem dX4_tellGate_78 : decode cX4_tellGate 78 = .ok (.iload_n 2, 1) := by decide +kernel
theorem dX4_tellGate_79 : decode cX4_tellGate 79 = .ok (.iaload, 1) := by decide +kernel
theorem dX4_tellGate_80 : decode cX4_tellGate 80 = .ok (.aload_n 0, 1) := by decide +kernel
theorem dX4_tellGate_81 : decode cX4_tellGate 81 = .ok (.iload_n 2, 1) := by decide +kernel
theorem dX4_tellGate_82 : decode cX4_tellGate 82 = .ok (.iload_n 3, 1) := by decide +kernel
theorem dX4_tellGate_83 : decode cX4_tellGate 83 = .ok (.invokevirtual 160, 3) := by decide +kernel
theorem dX4_tellGate_86 : decode cX4_tellGate 86 = .ok (.isub, 1) := by decide +kernel
theorem dX4_tellGate_87 : decode cX4_tellGate 87 = .ok (.invokevirtual 163, 3) := by decide +kernel
theorem dX4_tellGate_90 : decode cX4_tellGate 90 = .ok (.aload_n 0, 1) := by decide +kernel
theorem dX4_tellGate_91 : decode cX4_tellGate 91 = .ok (.getfield 33, 3) := by decide +kernel
theorem dX4_tellGate_94 : decode cX4_tellGate 94 = .ok (.iload_n 2, 1) := by decide +kernel
theorem dX4_tellGate_95 : decode cX4_tellGate 95 = .ok (.iaload, 1) := by decide +kernel
theorem dX4_tellGate_96 : decode cX4_tellGate 96 = .ok (.bipush 8, 2) := by decide +kernel
theorem dX4_tellGate_98 : decode cX4_tellGate 98 = .ok (.if_icmp .lt 9, 3) := by decide +kernel
theorem dX4_tellGate_101 : decode cX4_tellGate 101 = .ok (.aload_n 0, 1) := by decide +kernel
theorem dX4_tellGate_102 : decode cX4_tellGate 102 = .ok (.iload_n 2, 1) := by decide +kernel
theorem dX4_tellGate_103 : decode cX4_tellGate 103 = .ok (.iconst 1, 1) := by decide +kernel
theorem dX4_tellGate_104 : decode cX4_tellGate 104 = .ok (.invokevirtual 163, 3) := by decide +kernel
theorem dX4_tellGate_107 : decode cX4_tellGate 107 = .ok (.aload_n 0, 1) := by decide +kernel
theorem dX4_tellGate_108 : decode cX4_tellGate 108 = .ok (.getfield 36, 3) := by decide +kernel
theorem dX4_tellGate_111 : decode cX4_tellGate 111 = .ok (.iload 5, 2) := by decide +kernel
theorem dX4_tellGate_113 : decode cX4_tellGate 113 = .ok (.aload_n 0, 1) := by decide +kernel
theorem dX4_tellGate_114 : decode cX4_tellGate 114 = .ok (.getfield 33, 3) := by decide +kernel
theorem dX4_tellGate_117 : decode cX4_tellGate 117 = .ok (.iload_n 2, 1) := by decide +kernel
theorem dX4_tellGate_118 : decode cX4_tellGate 118 = .ok (.iaload, 1) := by decide +kernel
theorem dX4_tellGate_119 : decode cX4_tellGate 119 = .ok (.iadd, 1) := by decide +kernel
theorem dX4_tellGate_120 : decode cX4_tellGate 120 = .ok (.iload 4, 2) := by decide +kernel
theorem dX4_tellGate_122 : decode cX4_tellGate 122 = .ok (.iastore, 1) := by decide +kernel
theorem dX4_tellGate_123 : decode cX4_tellGate 123 = .ok (.aload_n 0, 1) := by decide +kernel
theorem dX4_tellGate_124 : decode cX4_tellGate 124 = .ok (.getfield 39, 3) := by decide +kernel
theorem dX4_tellGate_127 : decode cX4_tellGate 127 = .ok (.iload 5, 2) := by decide +kernel
theorem dX4_tellGate_129 : decode cX4_tellGate 129 = .ok (.aload_n 0, 1) := by decide +kernel
theorem dX4_tellGate_130 : decode cX4_tellGate 130 = .ok (.getfield 33, 3) := by decide +kernel
theorem dX4_tellGate_133 : decode cX4_tellGate 133 = .ok (.iload_n 2, 1) := by decide +kernel
theorem dX4_tellGate_134 : decode cX4_tellGate 134 = .ok (.iaload, 1) := by decide +kernel
theorem dX4_tellGate_135 : decode cX4_tellGate 135 = .ok (.iadd, 1) := by decide +kernel
theorem dX4_tellGate_136 : decode cX4_tellGate 136 = .ok (.iload_n 3, 1) := by decide +kernel
theorem dX4_tellGate_137 : decode cX4_tellGate 137 = .ok (.iastore, 1) := by decide +kernel
theorem dX4_tellGate_138 : decode cX4_tellGate 138 = .ok (.aload_n 0, 1) := by decide +kernel
theorem dX4_tellGate_139 : decode cX4_tellGate 139 = .ok (.getfield 33, 3) := by decide +kernel
theorem dX4_tellGate_142 : decode cX4_tellGate 142 = .ok (.iload_n 2, 1) := by decide +kernel
theorem dX4_tellGate_143 : decode cX4_tellGate 143 = .ok (.dup2, 1) := by decide +kernel
theorem dX4_tellGate_144 : decode cX4_tellGate 144 = .ok (.iaload, 1) := by decide +kernel
theorem dX4_tellGate_145 : decode cX4_tellGate 145 = .ok (.iconst 1, 1) := by decide +kernel
theorem dX4_tellGate_146 : decode cX4_tellGate 146 = .ok (.iadd, 1) := by decide +kernel
theorem dX4_tellGate_147 : decode cX4_tellGate 147 = .ok (.iastore, 1) := by decide +kernel
theorem dX4_tellGate_148 : decode cX4_tellGate 148 = .ok (.return_, 1) := by decide +kernel
theorem dX4_alikeAtEnd_0 : decode cX4_alikeAtEnd 0 = .ok (.iload_n 1, 1) := by decide +kernel
theorem dX4_alikeAtEnd_1 : decode cX4_alikeAtEnd 1 = .ok (.bipush 8, 2) := by decide +kernel
theorem dX4_alikeAtEnd_3 : decode cX4_alikeAtEnd 3 = .ok (.imul, 1) := by decide +kernel
theorem dX4_alikeAtEnd_4 : decode cX4_alikeAtEnd 4 = .ok (.istore_n 3, 1) := by decide +kernel
theorem dX4_alikeAtEnd_5 : decode cX4_alikeAtEnd 5 = .ok (.iconst 0, 1) := by decide +kernel
theorem dX4_alikeAtEnd_6 : decode cX4_alikeAtEnd 6 = .ok (.istore 4, 2) := by decide +kernel
theorem dX4_alikeAtEnd_8 : decode cX4_alikeAtEnd 8 = .ok (.iload 4, 2) := by decide +kernel
theorem dX4_alikeAtEnd_10 : decode cX4_alikeAtEnd 10 = .ok (.aload_n 0, 1) := by decide +kernel
theorem dX4_alikeAtEnd_11 : decode cX4_alikeAtEnd 11 = .ok (.getfield 33, 3) := by decide +kernel
theorem dX4_alikeAtEnd_14 : decode cX4_alikeAtEnd 14 = .ok (.iload_n 1, 1) := by decide +kernel
theorem dX4_alikeAtEnd_15 : decode cX4_alikeAtEnd 15 = .ok (.iaload, 1) := by decide +kernel
theorem dX4_alikeAtEnd_16 : decode cX4_alikeAtEnd 16 = .ok (.if_icmp .ge 31, 3) := by decide +kernel
theorem dX4_alikeAtEnd_19 : decode cX4_alikeAtEnd 19 = .ok (.aload_n 0, 1) := by decide +kernel
theorem dX4_alikeAtEnd_20 : decode cX4_alikeAtEnd 20 = .ok (.getfield 39, 3) := by decide +kernel
theorem dX4_alikeAtEnd_23 : decode cX4_alikeAtEnd 23 = .ok (.iload_n 3, 1) := by decide +kernel
theorem dX4_alikeAtEnd_24 : decode cX4_alikeAtEnd 24 = .ok (.aload_n 0, 1) := by decide +kernel
theorem dX4_alikeAtEnd_25 : decode cX4_alikeAtEnd 25 = .ok (.getfield 33, 3) := by decide +kernel
theorem dX4_alikeAtEnd_28 : decode cX4_alikeAtEnd 28 = .ok (.iload_n 1, 1) := by decide +kernel
theorem dX4_alikeAtEnd_29 : decode cX4_alikeAtEnd 29 = .ok (.iaload, 1) := by decide +kernel
theorem dX4_alikeAtEnd_30 : decode cX4_alikeAtEnd 30 = .ok (.iadd, 1) := by decide +kernel
theorem dX4_alikeAtEnd_31 : decode cX4_alikeAtEnd 31 = .ok (.iconst 1, 1) := by decide +kernel
theorem dX4_alikeAtEnd_32 : decode cX4_alikeAtEnd 32 = .ok (.isub, 1) := by decide +kernel
theorem dX4_alikeAtEnd_33 : decode cX4_alikeAtEnd 33 = .ok (.iload 4, 2) := by decide +kernel
theorem dX4_alikeAtEnd_35 : decode cX4_alikeAtEnd 35 = .ok (.isub, 1) := by decide +kernel
theorem dX4_alikeAtEnd_36 : decode cX4_alikeAtEnd 36 = .ok (.iaload, 1) := by decide +kernel
theorem dX4_alikeAtEnd_37 : decode cX4_alikeAtEnd 37 = .ok (.iload_n 2, 1) := by decide +kernel
theorem dX4_alikeAtEnd_38 : decode cX4_alikeAtEnd 38 = .ok (.if_icmp .ne 9, 3) := by decide +kernel
theorem dX4_alikeAtEnd_41 : decode cX4_alikeAtEnd 41 = .ok (.iinc 4 1, 3) := by decide +kernel
theorem dX4_alikeAtEnd_44 : decode cX4_alikeAtEnd 44 = .ok (.goto (-36), 3) := by decide +kernel
theorem dX4_alikeAtEnd_47 : decode cX4_alikeAtEnd 47 = .ok (.iload 4, 2) := by decide +kernel
theorem dX4_alikeAtEnd_49 : decode cX4_alikeAtEnd 49 = .ok (.ireturn, 1) := by decide +kernel
theorem dX4_dropFirst_0 : decode cX4_dropFirst 0 = .ok (.iload_n 1, 1) := by decide +kernel
theorem dX4_dropFirst_1 : decode cX4_dropFirst 1 = .ok (.bipush 8, 2) := by decide +kernel
theorem dX4_dropFirst_3 : decode cX4_dropFirst 3 = .ok (.imul, 1) := by decide +kernel
theorem dX4_dropFirst_4 : decode cX4_dropFirst 4 = .ok (.istore_n 3, 1) := by decide +kernel
theorem dX4_dropFirst_5 : decode cX4_dropFirst 5 = .ok (.aload_n 0, 1) := by decide +kernel
theorem dX4_dropFirst_6 : decode cX4_dropFirst 6 = .ok (.getfield 33, 3) := by decide +kernel
theorem dX4_dropFirst_9 : decode cX4_dropFirst 9 = .ok (.iload_n 1, 1) := by decide +kernel
theorem dX4_dropFirst_10 : decode cX4_dropFirst 10 = .ok (.iaload, 1) := by decide +kernel
theorem dX4_dropFirst_11 : decode cX4_dropFirst 11 = .ok (.iload_n 2, 1) := by decide +kernel
theorem dX4_dropFirst_12 : decode cX4_dropFirst 12 = .ok (.isub, 1) := by decide +kernel
theorem dX4_dropFirst_13 : decode cX4_dropFirst 13 = .ok (.istore 4, 2) := by decide +kernel
theorem dX4_dropFirst_15 : decode cX4_dropFirst 15 = .ok (.iconst 0, 1) := by decide +kernel
theorem dX4_dropFirst_16 : decode cX4_dropFirst 16 = .ok (.istore 5, 2) := by decide +kernel
theorem dX4_dropFirst_18 : decode cX4_dropFirst 18 = .ok (.iload 5, 2) := by decide +kernel
theorem dX4_dropFirst_20 : decode cX4_dropFirst 20 = .ok (.iload 4, 2) := by decide +kernel
theorem dX4_dropFirst_22 : decode cX4_dropFirst 22 = .ok (.if_icmp .ge 49, 3) := by decide +kernel
theorem dX4_dropFirst_25 : decode cX4_dropFirst 25 = .ok (.aload_n 0, 1) := by decide +kernel
theorem dX4_dropFirst_26 : decode cX4_dropFirst 26 = .ok (.getfield 36, 3) := by decide +kernel
theorem dX4_dropFirst_29 : decode cX4_dropFirst 29 = .ok (.iload_n 3, 1) := by decide +kernel
theorem dX4_dropFirst_30 : decode cX4_dropFirst 30 = .ok (.iload 5, 2) := by decide +kernel
theorem dX4_dropFirst_32 : decode cX4_dropFirst 32 = .ok (.iadd, 1) := by decide +kernel
theorem dX4_dropFirst_33 : decode cX4_dropFirst 33 = .ok (.aload_n 0, 1) := by decide +kernel
theorem dX4_dropFirst_34 : decode cX4_dropFirst 34 = .ok (.getfield 36, 3) := by decide +kernel
theorem dX4_dropFirst_37 : decode cX4_dropFirst 37 = .ok (.iload_n 3, 1) := by decide +kernel
theorem dX4_dropFirst_38 : decode cX4_dropFirst 38 = .ok (.iload 5, 2) := by decide +kernel
theorem dX4_dropFirst_40 : decode cX4_dropFirst 40 = .ok (.iadd, 1) := by decide +kernel
theorem dX4_dropFirst_41 : decode cX4_dropFirst 41 = .ok (.iload_n 2, 1) := by decide +kernel
theorem dX4_dropFirst_42 : decode cX4_dropFirst 42 = .ok (.iadd, 1) := by decide +kernel
theorem dX4_dropFirst_43 : decode cX4_dropFirst 43 = .ok (.iaload, 1) := by decide +kernel
theorem dX4_dropFirst_44 : decode cX4_dropFirst 44 = .ok (.iastore, 1) := by decide +kernel
theorem dX4_dropFirst_45 : decode cX4_dropFirst 45 = .ok (.aload_n 0, 1) := by decide +kernel
theorem dX4_dropFirst_46 : decode cX4_dropFirst 46 = .ok (.getfield 39, 3) := by decide +kernel
theorem dX4_dropFirst_49 : decode cX4_dropFirst 49 = .ok (.iload_n 3, 1) := by decide +kernel
theorem dX4_dropFirst_50 : decode cX4_dropFirst 50 = .ok (.iload 5, 2) := by decide +kernel
theorem dX4_dropFirst_52 : decode cX4_dropFirst 52 = .ok (.iadd, 1) := by decide +kernel
theorem dX4_dropFirst_53 : decode cX4_dropFirst 53 = .ok (.aload_n 0, 1) := by decide +kernel
theorem dX4_dropFirst_54 : decode cX4_dropFirst 54 = .ok (.getfield 39, 3) := by decide +kernel
theorem dX4_dropFirst_57 : decode cX4_dropFirst 57 = .ok (.iload_n 3, 1) := by decide +kernel
theorem dX4_dropFirst_58 : decode cX4_dropFirst 58 = .ok (.iload 5, 2) := by decide +kernel
theorem dX4_dropFirst_60 : decode cX4_dropFirst 60 = .ok (.iadd, 1) := by decide +kernel
theorem dX4_dropFirst_61 : decode cX4_dropFirst 61 = .ok (.iload_n 2, 1) := by decide +kernel
theorem dX4_dropFirst_62 : decode cX4_dropFirst 62 = .ok (.iadd, 1) := by decide +kernel
theorem dX4_dropFirst_63 : decode cX4_dropFirst 63 = .ok (.iaload, 1) := by decide +kernel
theorem dX4_dropFirst_64 : decode cX4_dropFirst 64 = .ok (.iastore, 1) := by decide +kernel
theorem dX4_dropFirst_65 : decode cX4_dropFirst 65 = .ok (.iinc 5 1, 3) := by decide +kernel
theorem dX4_dropFirst_68 : decode cX4_dropFirst 68 = .ok (.goto (-50), 3) := by decide +kernel
theorem dX4_dropFirst_71 : decode cX4_dropFirst 71 = .ok (.aload_n 0, 1) := by decide +kernel
theorem dX4_dropFirst_72 : decode cX4_dropFirst 72 = .ok (.getfield 33, 3) := by decide +kernel
theorem dX4_dropFirst_75 : decode cX4_dropFirst 75 = .ok (.iload_n 1, 1) := by decide +kernel
theorem dX4_dropFirst_76 : decode cX4_dropFirst 76 = .ok (.iload 4, 2) := by decide +kernel
theorem dX4_dropFirst_78 : decode cX4_dropFirst 78 = .ok (.iastore, 1) := by decide +kernel
theorem dX4_dropFirst_79 : decode cX4_dropFirst 79 = .ok (.return_, 1) := by decide +kernel
theorem dX4_emptyQueues_0 : decode cX4_emptyQueues 0 = .ok (.iconst 0, 1) := by decide +kernel
theorem dX4_emptyQueues_1 : decode cX4_emptyQueues 1 = .ok (.istore_n 1, 1) := by decide +kernel
theorem dX4_emptyQueues_2 : decode cX4_emptyQueues 2 = .ok (.iload_n 1, 1) := by decide +kernel
theorem dX4_emptyQueues_3 : decode cX4_emptyQueues 3 = .ok (.bipush 8, 2) := by decide +kernel
theorem dX4_emptyQueues_5 : decode cX4_emptyQueues 5 = .ok (.if_icmp .ge 16, 3) := by decide +kernel
theorem dX4_emptyQueues_8 : decode cX4_emptyQueues 8 = .ok (.aload_n 0, 1) := by decide +kernel
theorem dX4_emptyQueues_9 : decode cX4_emptyQueues 9 = .ok (.getfield 33, 3) := by decide +kernel
theorem dX4_emptyQueues_12 : decode cX4_emptyQueues 12 = .ok (.iload_n 1, 1) := by decide +kernel
theorem dX4_emptyQueues_13 : decode cX4_emptyQueues 13 = .ok (.iconst 0, 1) := by decide +kernel
theorem dX4_emptyQueues_14 : decode cX4_emptyQueues 14 = .ok (.iastore, 1) := by decide +kernel
theorem dX4_emptyQueues_15 : decode cX4_emptyQueues 15 = .ok (.iinc 1 1, 3) := by decide +kernel
theorem dX4_emptyQueues_18 : decode cX4_emptyQueues 18 = .ok (.goto (-16), 3) := by decide +kernel
theorem dX4_emptyQueues_21 : decode cX4_emptyQueues 21 = .ok (.aload_n 0, 1) := by decide +kernel
theorem dX4_emptyQueues_22 : decode cX4_emptyQueues 22 = .ok (.iconst 0, 1) := by decide +kernel
theorem dX4_emptyQueues_23 : decode cX4_emptyQueues 23 = .ok (.putfield 65, 3) := by decide +kernel
theorem dX4_emptyQueues_26 : decode cX4_emptyQueues 26 = .ok (.return_, 1) := by decide +kernel
theorem dX4_advanceTo_0 : decode cX4_advanceTo 0 = .ok (.iconst 0, 1) := by decide +kernel
theorem dX4_advanceTo_1 : decode cX4_advanceTo 1 = .ok (.istore_n 3, 1) := by decide +kernel
theorem dX4_advanceTo_2 : decode cX4_advanceTo 2 = .ok (.iload_n 3, 1) := by decide +kernel
theorem dX4_advanceTo_3 : decode cX4_advanceTo 3 = .ok (.sipush 200, 3) := by decide +kernel
theorem dX4_advanceTo_6 : decode cX4_advanceTo 6 = .ok (.if_icmp .gt 29, 3) := by decide +kernel
theorem dX4_advanceTo_9 : decode cX4_advanceTo 9 = .ok (.aload_n 0, 1) := by decide +kernel
theorem dX4_advanceTo_10 : decode cX4_advanceTo 10 = .ok (.getfield 58, 3) := by decide +kernel
theorem dX4_advanceTo_13 : decode cX4_advanceTo 13 = .ok (.ifCond .ne 22, 3) := by decide +kernel
theorem dX4_advanceTo_16 : decode cX4_advanceTo 16 = .ok (.aload_n 0, 1) := by decide +kernel
theorem dX4_advanceTo_17 : decode cX4_advanceTo 17 = .ok (.invokevirtual 102, 3) := by decide +kernel
theorem dX4_advanceTo_20 : decode cX4_advanceTo 20 = .ok (.iload_n 2, 1) := by decide +kernel
theorem dX4_advanceTo_21 : decode cX4_advanceTo 21 = .ok (.if_icmp .gt 14, 3) := by decide +kernel
theorem dX4_advanceTo_24 : decode cX4_advanceTo 24 = .ok (.aload_n 0, 1) := by decide +kernel
theorem dX4_advanceTo_25 : decode cX4_advanceTo 25 = .ok (.aload_n 1, 1) := by decide +kernel
theorem dX4_advanceTo_26 : decode cX4_advanceTo 26 = .ok (.invokevirtual 167, 3) := by decide +kernel
theorem dX4_advanceTo_29 : decode cX4_advanceTo 29 = .ok (.iinc 3 1, 3) := by decide +kernel
theorem dX4_advanceTo_32 : decode cX4_advanceTo 32 = .ok (.goto (-30), 3) := by decide +kernel
theorem dX4_advanceTo_35 : decode cX4_advanceTo 35 = .ok (.aload_n 0, 1) := by decide +kernel
theorem dX4_advanceTo_36 : decode cX4_advanceTo 36 = .ok (.getfield 58, 3) := by decide +kernel
theorem dX4_advanceTo_39 : decode cX4_advanceTo 39 = .ok (.ifCond .ne 8, 3) := by decide +kernel
theorem dX4_advanceTo_42 : decode cX4_advanceTo 42 = .ok (.aload_n 0, 1) := by decide +kernel
theorem dX4_advanceTo_43 : decode cX4_advanceTo 43 = .ok (.iload_n 2, 1) := by decide +kernel
theorem dX4_advanceTo_44 : decode cX4_advanceTo 44 = .ok (.putfield 51, 3) := by decide +kernel
theorem dX4_advanceTo_47 : decode cX4_advanceTo 47 = .ok (.iload_n 3, 1) := by decide +kernel
theorem dX4_advanceTo_48 : decode cX4_advanceTo 48 = .ok (.ireturn, 1) := by decide +kernel
theorem dX4_advance_0 : decode cX4_advance 0 = .ok (.aload_n 0, 1) := by decide +kernel
theorem dX4_advance_1 : decode cX4_advance 1 = .ok (.aload_n 0, 1) := by decide +kernel
theorem dX4_advance_2 : decode cX4_advance 2 = .ok (.getfield 51, 3) := by decide +kernel
theorem dX4_advance_5 : decode cX4_advance 5 = .ok (.aload_n 0, 1) := by decide +kernel
theorem dX4_advance_6 : decode cX4_advance 6 = .ok (.invokevirtual 102, 3) := by decide +kernel
theorem dX4_advance_9 : decode cX4_advance 9 = .ok (.invokestatic 170, 3) := by decide +kernel
theorem dX4_advance_12 : decode cX4_advance 12 = .ok (.putfield 51, 3) := by decide +kernel
theorem dX4_advance_15 : decode cX4_advance 15 = .ok (.iconst 0, 1) := by decide +kernel
theorem dX4_advance_16 : decode cX4_advance 16 = .ok (.istore_n 2, 1) := by decide +kernel
theorem dX4_advance_17 : decode cX4_advance 17 = .ok (.iconst 0, 1) := by decide +kernel
theorem dX4_advance_18 : decode cX4_advance 18 = .ok (.istore_n 3, 1) := by decide +kernel
theorem dX4_advance_19 : decode cX4_advance 19 = .ok (.iload_n 3, 1) := by decide +kernel
theorem dX4_advance_20 : decode cX4_advance 20 = .ok (.sipush 1000, 3) := by decide +kernel
theorem dX4_advance_23 : decode cX4_advance 23 = .ok (.if_icmp .ge 53, 3) := by decide +kernel
theorem dX4_advance_26 : decode cX4_advance 26 = .ok (.aload_n 0, 1) := by decide +kernel
theorem dX4_advance_27 : decode cX4_advance 27 = .ok (.getfield 58, 3) := by decide +kernel
theorem dX4_advance_30 : decode cX4_advance 30 = .ok (.ifCond .ne 46, 3) := by decide +kernel
theorem dX4_advance_33 : decode cX4_advance 33 = .ok (.aload_n 0, 1) := by decide +kernel
theorem dX4_advance_34 : decode cX4_advance 34 = .ok (.invokevirtual 102, 3) := by decide +kernel
theorem dX4_advance_37 : decode cX4_advance 37 = .ok (.aload_n 0, 1) := by decide +kernel
theorem dX4_advance_38 : decode cX4_advance 38 = .ok (.getfield 51, 3) := by decide +kernel
theorem dX4_advance_41 : decode cX4_advance 41 = .ok (.if_icmp .gt 35, 3) := by decide +kernel
theorem dX4_advance_44 : decode cX4_advance 44 = .ok (.aload_n 0, 1) := by decide +kernel
theorem dX4_advance_45 : decode cX4_advance 45 = .ok (.aload_n 1, 1) := by decide +kernel
theorem dX4_advance_46 : decode cX4_advance 46 = .ok (.invokevirtual 173, 3) := by decide +kernel
theorem dX4_advance_49 : decode cX4_advance 49 = .ok (.ifCond .eq 6, 3) := by decide +kernel
theorem dX4_advance_52 : decode cX4_advance 52 = .ok (.iinc 2 1, 3) := by decide +kernel
theorem dX4_advance_55 : decode cX4_advance 55 = .ok (.iload_n 2, 1) := by decide +kernel
theorem dX4_advance_56 : decode cX4_advance 56 = .ok (.bipush 40, 2) := by decide +kernel
theorem dX4_advance_58 : decode cX4_advance 58 = .ok (.if_icmp .lt 12, 3) := by decide +kernel
theorem dX4_advance_61 : decode cX4_advance 61 = .ok (.aload_n 0, 1) := by decide +kernel
theorem dX4_advance_62 : decode cX4_advance 62 = .ok (.iconst 1, 1) := by decide +kernel
theorem dX4_advance_63 : decode cX4_advance 63 = .ok (.putfield 58, 3) := by decide +kernel
theorem dX4_advance_66 : decode cX4_advance 66 = .ok (.aload_n 0, 1) := by decide +kernel
theorem dX4_advance_67 : decode cX4_advance 67 = .ok (.invokevirtual 84, 3) := by decide +kernel
theorem dX4_advance_70 : decode cX4_advance 70 = .ok (.iinc 3 1, 3) := by decide +kernel
theorem dX4_advance_73 : decode cX4_advance 73 = .ok (.goto (-54), 3) := by decide +kernel
theorem dX4_advance_76 : decode cX4_advance 76 = .ok (.return_, 1) := by decide +kernel
theorem dX4_makeCycle_0 : decode cX4_makeCycle 0 = .ok (.aload_n 0, 1) := by decide +kernel
theorem dX4_makeCycle_1 : decode cX4_makeCycle 1 = .ok (.aload_n 1, 1) := by decide +kernel
theorem dX4_makeCycle_2 : decode cX4_makeCycle 2 = .ok (.invokevirtual 177, 3) := by decide +kernel
theorem dX4_makeCycle_5 : decode cX4_makeCycle 5 = .ok (.istore_n 2, 1) := by decide +kernel
theorem dX4_makeCycle_6 : decode cX4_makeCycle 6 = .ok (.aload_n 0, 1) := by decide +kernel
theorem dX4_makeCycle_7 : decode cX4_makeCycle 7 = .ok (.invokevirtual 181, 3) := by decide +kernel
theorem dX4_makeCycle_10 : decode cX4_makeCycle 10 = .ok (.istore_n 3, 1) := by decide +kernel
theorem dX4_makeCycle_11 : decode cX4_makeCycle 11 = .ok (.iconst 0, 1) := by decide +kernel
theorem dX4_makeCycle_12 : decode cX4_makeCycle 12 = .ok (.istore 4, 2) := by decide +kernel
theorem dX4_makeCycle_14 : decode cX4_makeCycle 14 = .ok (.iload 4, 2) := by decide +kernel
theorem dX4_makeCycle_16 : decode cX4_makeCycle 16 = .ok (.aload_n 1, 1) := by decide +kernel
theorem dX4_makeCycle_17 : decode cX4_makeCycle 17 = .ok (.getfield 184, 3) := by decide +kernel
theorem dX4_makeCycle_20 : decode cX4_makeCycle 20 = .ok (.if_icmp .ge 36, 3) := by decide +kernel
theorem dX4_makeCycle_23 : decode cX4_makeCycle 23 = .ok (.iload_n 2, 1) := by decide +kernel
theorem dX4_makeCycle_24 : decode cX4_makeCycle 24 = .ok (.iload 4, 2) := by decide +kernel
theorem dX4_makeCycle_26 : decode cX4_makeCycle 26 = .ok (.ishr, 1) := by decide +kernel
theorem dX4_makeCycle_27 : decode cX4_makeCycle 27 = .ok (.iconst 1, 1) := by decide +kernel
theorem dX4_makeCycle_28 : decode cX4_makeCycle 28 = .ok (.iand, 1) := by decide +kernel
theorem dX4_makeCycle_29 : decode cX4_makeCycle 29 = .ok (.iconst 1, 1) := by decide +kernel
theorem dX4_makeCycle_30 : decode cX4_makeCycle 30 = .ok (.if_icmp .ne 20, 3) := by decide +kernel
theorem dX4_makeCycle_33 : decode cX4_makeCycle 33 = .ok (.iload_n 3, 1) := by decide +kernel
theorem dX4_makeCycle_34 : decode cX4_makeCycle 34 = .ok (.aload_n 0, 1) := by decide +kernel
theorem dX4_makeCycle_35 : decode cX4_makeCycle 35 = .ok (.iload 4, 2) := by decide +kernel
theorem dX4_makeCycle_37 : decode cX4_makeCycle 37 = .ok (.aload_n 0, 1) := by decide +kernel
theorem dX4_makeCycle_38 : decode cX4_makeCycle 38 = .ok (.aload_n 1, 1) := by decide +kernel
theorem dX4_makeCycle_39 : decode cX4_makeCycle 39 = .ok (.iload 4, 2) := by decide +kernel
theorem dX4_makeCycle_41 : decode cX4_makeCycle 41 = .ok (.iconst (-1), 1) := by decide +kernel
theorem dX4_makeCycle_42 : decode cX4_makeCycle 42 = .ok (.invokevirtual 187, 3) := by decide +kernel
theorem dX4_makeCycle_45 : decode cX4_makeCycle 45 = .ok (.invokevirtual 191, 3) := by decide +kernel
theorem dX4_makeCycle_48 : decode cX4_makeCycle 48 = .ok (.ior, 1) := by decide +kernel
theorem dX4_makeCycle_49 : decode cX4_makeCycle 49 = .ok (.istore_n 3, 1) := by decide +kernel
theorem dX4_makeCycle_50 : decode cX4_makeCycle 50 = .ok (.iinc 4 1, 3) := by decide +kernel
theorem dX4_makeCycle_53 : decode cX4_makeCycle 53 = .ok (.goto (-39), 3) := by decide +kernel
theorem dX4_makeCycle_56 : decode cX4_makeCycle 56 = .ok (.aload_n 0, 1) := by decide +kernel
theorem dX4_makeCycle_57 : decode cX4_makeCycle 57 = .ok (.aload_n 0, 1) := by decide +kernel
theorem dX4_makeCycle_58 : decode cX4_makeCycle 58 = .ok (.getfield 55, 3) := by decide +kernel
theorem dX4_makeCycle_61 : decode cX4_makeCycle 61 = .ok (.iconst 1, 1) := by decide +kernel
theorem dX4_makeCycle_62 : decode cX4_makeCycle 62 = .ok (.iadd, 1) := by decide +kernel
theorem dX4_makeCycle_63 : decode cX4_makeCycle 63 = .ok (.ldc 194, 2) := by decide +kernel
theorem dX4_makeCycle_65 : decode cX4_makeCycle 65 = .ok (.invokestatic 72, 3) := by decide +kernel
theorem dX4_makeCycle_68 : decode cX4_makeCycle 68 = .ok (.putfield 55, 3) := by decide +kernel
theorem dX4_makeCycle_71 : decode cX4_makeCycle 71 = .ok (.aload_n 0, 1) := by decide +kernel
theorem dX4_makeCycle_72 : decode cX4_makeCycle 72 = .ok (.aload_n 1, 1) := by decide +kernel
theorem dX4_makeCycle_73 : decode cX4_makeCycle 73 = .ok (.iload_n 3, 1) := by decide +kernel
theorem dX4_makeCycle_74 : decode cX4_makeCycle 74 = .ok (.invokevirtual 195, 3) := by decide +kernel
theorem dX4_makeCycle_77 : decode cX4_makeCycle 77 = .ok (.iload_n 3, 1) := by decide +kernel
theorem dX4_makeCycle_78 : decode cX4_makeCycle 78 = .ok (.ifCond .eq 7, 3) := by decide +kernel
theorem dX4_makeCycle_81 : decode cX4_makeCycle 81 = .ok (.iconst 1, 1) := by decide +kernel
theorem dX4_makeCycle_82 : decode cX4_makeCycle 82 = .ok (.goto 4, 3) := by decide +kernel
theorem dX4_makeCycle_85 : decode cX4_makeCycle 85 = .ok (.iconst 0, 1) := by decide +kernel
theorem dX4_makeCycle_86 : decode cX4_makeCycle 86 = .ok (.ireturn, 1) := by decide +kernel
theorem dX4_takeFromQueues_0 : decode cX4_takeFromQueues 0 = .ok (.iconst 0, 1) := by decide +kernel
theorem dX4_takeFromQueues_1 : decode cX4_takeFromQueues 1 = .ok (.istore_n 2, 1) := by decide +kernel
theorem dX4_takeFromQueues_2 : decode cX4_takeFromQueues 2 = .ok (.iconst 0, 1) := by decide +kernel
theorem dX4_takeFromQueues_3 : decode cX4_takeFromQueues 3 = .ok (.istore_n 3, 1) := by decide +kernel
theorem dX4_takeFromQueues_4 : decode cX4_takeFromQueues 4 = .ok (.iload_n 3, 1) := by decide +kernel
theorem dX4_takeFromQueues_5 : decode cX4_takeFromQueues 5 = .ok (.aload_n 1, 1) := by decide +kernel
theorem dX4_takeFromQueues_6 : decode cX4_takeFromQueues 6 = .ok (.getfield 92, 3) := by decide +kernel
theorem dX4_takeFromQueues_9 : decode cX4_takeFromQueues 9 = .ok (.if_icmp .ge 66, 3) := by decide +kernel
theorem dX4_takeFromQueues_12 : decode cX4_takeFromQueues 12 = .ok (.aload_n 0, 1) := by decide +kernel
theorem dX4_takeFromQueues_13 : decode cX4_takeFromQueues 13 = .ok (.getfield 33, 3) := by decide +kernel
theorem dX4_takeFromQueues_16 : decode cX4_takeFromQueues 16 = .ok (.iload_n 3, 1) := by decide +kernel
theorem dX4_takeFromQueues_17 : decode cX4_takeFromQueues 17 = .ok (.iaload, 1) := by decide +kernel
theorem dX4_takeFromQueues_18 : decode cX4_takeFromQueues 18 = .ok (.ifCond .le 51, 3) := by decide +kernel
theorem dX4_takeFromQueues_21 : decode cX4_takeFromQueues 21 = .ok (.aload_n 0, 1) := by decide +kernel
theorem dX4_takeFromQueues_22 : decode cX4_takeFromQueues 22 = .ok (.getfield 36, 3) := by decide +kernel
theorem dX4_takeFromQueues_25 : decode cX4_takeFromQueues 25 = .ok (.iload_n 3, 1) := by decide +kernel
theorem dX4_takeFromQueues_26 : decode cX4_takeFromQueues 26 = .ok (.bipush 8, 2) := by decide +kernel
theorem dX4_takeFromQueues_28 : decode cX4_takeFromQueues 28 = .ok (.imul, 1) := by decide +kernel
theorem dX4_takeFromQueues_29 : decode cX4_takeFromQueues 29 = .ok (.iaload, 1) := by decide +kernel
theorem dX4_takeFromQueues_30 : decode cX4_takeFromQueues 30 = .ok (.aload_n 0, 1) := by decide +kernel
theorem dX4_takeFromQueues_31 : decode cX4_takeFromQueues 31 = .ok (.getfield 51, 3) := by decide +kernel
theorem dX4_takeFromQueues_34 : decode cX4_takeFromQueues 34 = .ok (.if_icmp .gt 35, 3) := by decide +kernel
theorem dX4_takeFromQueues_37 : decode cX4_takeFromQueues 37 = .ok (.aload_n 0, 1) := by decide +kernel
theorem dX4_takeFromQueues_38 : decode cX4_takeFromQueues 38 = .ok (.getfield 30, 3) := by decide +kernel
theorem dX4_takeFromQueues_41 : decode cX4_takeFromQueues 41 = .ok (.iload_n 3, 1) := by decide +kernel
theorem dX4_takeFromQueues_42 : decode cX4_takeFromQueues 42 = .ok (.aload_n 0, 1) := by decide +kernel
theorem dX4_takeFromQueues_43 : decode cX4_takeFromQueues 43 = .ok (.getfield 39, 3) := by decide +kernel
theorem dX4_takeFromQueues_46 : decode cX4_takeFromQueues 46 = .ok (.iload_n 3, 1) := by decide +kernel
theorem dX4_takeFromQueues_47 : decode cX4_takeFromQueues 47 = .ok (.bipush 8, 2) := by decide +kernel
theorem dX4_takeFromQueues_49 : decode cX4_takeFromQueues 49 = .ok (.imul, 1) := by decide +kernel
theorem dX4_takeFromQueues_50 : decode cX4_takeFromQueues 50 = .ok (.iaload, 1) := by decide +kernel
theorem dX4_takeFromQueues_51 : decode cX4_takeFromQueues 51 = .ok (.iastore, 1) := by decide +kernel
theorem dX4_takeFromQueues_52 : decode cX4_takeFromQueues 52 = .ok (.aload_n 0, 1) := by decide +kernel
theorem dX4_takeFromQueues_53 : decode cX4_takeFromQueues 53 = .ok (.iload_n 3, 1) := by decide +kernel
theorem dX4_takeFromQueues_54 : decode cX4_takeFromQueues 54 = .ok (.iconst 1, 1) := by decide +kernel
theorem dX4_takeFromQueues_55 : decode cX4_takeFromQueues 55 = .ok (.invokevirtual 163, 3) := by decide +kernel
theorem dX4_takeFromQueues_58 : decode cX4_takeFromQueues 58 = .ok (.iload_n 2, 1) := by decide +kernel
theorem dX4_takeFromQueues_59 : decode cX4_takeFromQueues 59 = .ok (.iconst 1, 1) := by decide +kernel
theorem dX4_takeFromQueues_60 : decode cX4_takeFromQueues 60 = .ok (.aload_n 1, 1) := by decide +kernel
theorem dX4_takeFromQueues_61 : decode cX4_takeFromQueues 61 = .ok (.getfield 95, 3) := by decide +kernel
theorem dX4_takeFromQueues_64 : decode cX4_takeFromQueues 64 = .ok (.iload_n 3, 1) := by decide +kernel
theorem dX4_takeFromQueues_65 : decode cX4_takeFromQueues 65 = .ok (.iaload, 1) := by decide +kernel
theorem dX4_takeFromQueues_66 : decode cX4_takeFromQueues 66 = .ok (.ishl, 1) := by decide +kernel
theorem dX4_takeFromQueues_67 : decode cX4_takeFromQueues 67 = .ok (.ior, 1) := by decide +kernel
theorem dX4_takeFromQueues_68 : decode cX4_takeFromQueues 68 = .ok (.istore_n 2, 1) := by decide +kernel
theorem dX4_takeFromQueues_69 : decode cX4_takeFromQueues 69 = .ok (.iinc 3 1, 3) := by decide +kernel
theorem dX4_takeFromQueues_72 : decode cX4_takeFromQueues 72 = .ok (.goto (-68), 3) := by decide +kernel
theorem dX4_takeFromQueues_75 : decode cX4_takeFromQueues 75 = .ok (.iload_n 2, 1) := by decide +kernel
theorem dX4_takeFromQueues_76 : decode cX4_takeFromQueues 76 = .ok (.ireturn, 1) := by decide +kernel
theorem dX4_takeByHand_0 : decode cX4_takeByHand 0 = .ok (.aload_n 0, 1) := by decide +kernel
theorem dX4_takeByHand_1 : decode cX4_takeByHand 1 = .ok (.getfield 65, 3) := by decide +kernel
theorem dX4_takeByHand_4 : decode cX4_takeByHand 4 = .ok (.ifCond .eq 16, 3) := by decide +kernel
theorem dX4_takeByHand_7 : decode cX4_takeByHand 7 = .ok (.aload_n 0, 1) := by decide +kernel
theorem dX4_takeByHand_8 : decode cX4_takeByHand 8 = .ok (.getfield 42, 3) := by decide +kernel
theorem dX4_takeByHand_11 : decode cX4_takeByHand 11 = .ok (.iconst 0, 1) := by decide +kernel
theorem dX4_takeByHand_12 : decode cX4_takeByHand 12 = .ok (.iaload, 1) := by decide +kernel
theorem dX4_takeByHand_13 : decode cX4_takeByHand 13 = .ok (.aload_n 0, 1) := by decide +kernel
theorem dX4_takeByHand_14 : decode cX4_takeByHand 14 = .ok (.getfield 51, 3) := by decide +kernel
theorem dX4_takeByHand_17 : decode cX4_takeByHand 17 = .ok (.if_icmp .le 5, 3) := by decide +kernel
theorem dX4_takeByHand_20 : decode cX4_takeByHand 20 = .ok (.iconst 0, 1) := by decide +kernel
theorem dX4_takeByHand_21 : decode cX4_takeByHand 21 = .ok (.ireturn, 1) := by decide +kernel
theorem dX4_takeByHand_22 : decode cX4_takeByHand 22 = .ok (.aload_n 0, 1) := by decide +kernel
theorem dX4_takeByHand_23 : decode cX4_takeByHand 23 = .ok (.getfield 45, 3) := by decide +kernel
theorem dX4_takeByHand_26 : decode cX4_takeByHand 26 = .ok (.iconst 0, 1) := by decide +kernel
theorem dX4_takeByHand_27 : decode cX4_takeByHand 27 = .ok (.iaload, 1) := by decide +kernel
theorem dX4_takeByHand_28 : decode cX4_takeByHand 28 = .ok (.istore_n 1, 1) := by decide +kernel
theorem dX4_takeByHand_29 : decode cX4_takeByHand 29 = .ok (.aload_n 0, 1) := by decide +kernel
theorem dX4_takeByHand_30 : decode cX4_takeByHand 30 = .ok (.getfield 48, 3) := by decide +kernel
theorem dX4_takeByHand_33 : decode cX4_takeByHand 33 = .ok (.iconst 0, 1) := by decide +kernel
theorem dX4_takeByHand_34 : decode cX4_takeByHand 34 = .ok (.iaload, 1) := by decide +kernel
theorem dX4_takeByHand_35 : decode cX4_takeByHand 35 = .ok (.istore_n 2, 1) := by decide +kernel
theorem dX4_takeByHand_36 : decode cX4_takeByHand 36 = .ok (.aload_n 0, 1) := by decide +kernel
theorem dX4_takeByHand_37 : decode cX4_takeByHand 37 = .ok (.dup, 1) := by decide +kernel
theorem dX4_takeByHand_38 : decode cX4_takeByHand 38 = .ok (.getfield 65, 3) := by decide +kernel
theorem dX4_takeByHand_41 : decode cX4_takeByHand 41 = .ok (.iconst 1, 1) := by decide +kernel
theorem dX4_takeByHand_42 : decode cX4_takeByHand 42 = .ok (.isub, 1) := by decide +kernel
theorem dX4_takeByHand_43 : decode cX4_takeByHand 43 = .ok (.putfield 65, 3) := by decide +kernel
theorem dX4_takeByHand_46 : decode cX4_takeByHand 46 = .ok (.iconst 0, 1) := by decide +kernel
theorem dX4_takeByHand_47 : decode cX4_takeByHand 47 = .ok (.istore_n 3, 1) := by decide +kernel
theorem dX4_takeByHand_48 : decode cX4_takeByHand 48 = .ok (.iload_n 3, 1) := by decide +kernel
theorem dX4_takeByHand_49 : decode cX4_takeByHand 49 = .ok (.aload_n 0, 1) := by decide +kernel
theorem dX4_takeByHand_50 : decode cX4_takeByHand 50 = .ok (.getfield 65, 3) := by decide +kernel
theorem dX4_takeByHand_53 : decode cX4_takeByHand 53 = .ok (.if_icmp .ge 51, 3) := by decide +kernel
theorem dX4_takeByHand_56 : decode cX4_takeByHand 56 = .ok (.aload_n 0, 1) := by decide +kernel
theorem dX4_takeByHand_57 : decode cX4_takeByHand 57 = .ok (.getfield 42, 3) := by decide +kernel
theorem dX4_takeByHand_60 : decode cX4_takeByHand 60 = .ok (.iload_n 3, 1) := by decide +kernel
theorem dX4_takeByHand_61 : decode cX4_takeByHand 61 = .ok (.aload_n 0, 1) := by decide +kernel
theorem dX4_takeByHand_62 : decode cX4_takeByHand 62 = .ok (.getfield 42, 3) := by decide +kernel
end
section
theorem dX4_takeByHand_65 : decode cX4_takeByHand 65 = .ok (.iload_n 3, 1) := by decide +kernel
theorem dX4_takeByHand_66 : decode cX4_takeByHand 66 = .ok (.iconst 1, 1) := by decide +kernel
theorem dX4_takeByHand_67 : decode cX4_takeByHand 67 = .ok (.iadd, 1) := by decide +kernel
theorem dX4_takeByHand_68 : decode cX4_takeByHand 68 = .ok (.iaload, 1) := by decide +kernel
theorem dX4_takeByHand_69 : decode cX4_takeByHand 69 = .ok (.iastore, 1) := by decide +kernel
theorem dX4_takeByHand_70 : decode cX4_takeByHand 70 = .ok (.aload_n 0, 1) := by decide +kernel
theorem dX4_takeByHand_71 : decode cX4_takeByHand 71 = .ok (.getfield 45, 3) := by decide +kernel
theorem dX4_takeByHand_74 : decode cX4_takeByHand 74 = .ok (.iload_n 3, 1) := by decide +kernel
theorem dX4_takeByHand_75 : decode cX4_takeByHand 75 = .ok (.aload_n 0, 1) := by decide +kernel
theorem dX4_takeByHand_76 : decode cX4_takeByHand 76 = .ok (.getfield 45, 3) := by decide +kernel
theorem dX4_takeByHand_79 : decode cX4_takeByHand 79 = .ok (.iload_n 3, 1) := by decide +kernel
theorem dX4_takeByHand_80 : decode cX4_takeByHand 80 = .ok (.iconst 1, 1) := by decide +kernel
theorem dX4_takeByHand_81 : decode cX4_takeByHand 81 = .ok (.iadd, 1) := by decide +kernel
theorem dX4_takeByHand_82 : decode cX4_takeByHand 82 = .ok (.iaload, 1) := by decide +kernel
theorem dX4_takeByHand_83 : decode cX4_takeByHand 83 = .ok (.iastore, 1) := by decide +kernel
theorem dX4_takeByHand_84 : decode cX4_takeByHand 84 = .ok (.aload_n 0, 1) := by decide +kernel
theorem dX4_takeByHand_85 : decode cX4_takeByHand 85 = .ok (.getfield 48, 3) := by decide +kernel
theorem dX4_takeByHand_88 : decode cX4_takeByHand 88 = .ok (.iload_n 3, 1) := by decide +kernel
theorem dX4_takeByHand_89 : decode cX4_takeByHand 89 = .ok (.aload_n 0, 1) := by decide +kernel
theorem dX4_takeByHand_90 : decode cX4_takeByHand 90 = .ok (.getfield 48, 3) := by decide +kernel
theorem dX4_takeByHand_93 : decode cX4_takeByHand 93 = .ok (.iload_n 3, 1) := by decide +kernel
theorem dX4_takeByHand_94 : decode cX4_takeByHand 94 = .ok (.iconst 1, 1) := by decide +kernel
theorem dX4_takeByHand_95 : decode cX4_takeByHand 95 = .ok (.iadd, 1) := by decide +kernel
theorem dX4_takeByHand_96 : decode cX4_takeByHand 96 = .ok (.iaload, 1) := by decide +kernel
theorem dX4_takeByHand_97 : decode cX4_takeByHand 97 = .ok (.iastore, 1) := by decide +kernel
theorem dX4_takeByHand_98 : decode cX4_takeByHand 98 = .ok (.iinc 3 1, 3) := by decide +kernel
theorem dX4_takeByHand_101 : decode cX4_takeByHand 101 = .ok (.goto (-53), 3) := by decide +kernel
theorem dX4_takeByHand_104 : decode cX4_takeByHand 104 = .ok (.aload_n 0, 1) := by decide +kernel
theorem dX4_takeByHand_105 : decode cX4_takeByHand 105 = .ok (.iload_n 1, 1) := by decide +kernel
theorem dX4_takeByHand_106 : decode cX4_takeByHand 106 = .ok (.iload_n 2, 1) := by decide +kernel
theorem dX4_takeByHand_107 : decode cX4_takeByHand 107 = .ok (.invokevirtual 191, 3) := by decide +kernel
theorem dX4_takeByHand_110 : decode cX4_takeByHand 110 = .ok (.ireturn, 1) := by decide +kernel
theorem dX4_changeWire_0 : decode cX4_changeWire 0 = .ok (.aload_n 0, 1) := by decide +kernel
theorem dX4_changeWire_1 : decode cX4_changeWire 1 = .ok (.getfield 9, 3) := by decide +kernel
theorem dX4_changeWire_4 : decode cX4_changeWire 4 = .ok (.iload_n 1, 1) := by decide +kernel
theorem dX4_changeWire_5 : decode cX4_changeWire 5 = .ok (.iaload, 1) := by decide +kernel
theorem dX4_changeWire_6 : decode cX4_changeWire 6 = .ok (.iload_n 2, 1) := by decide +kernel
theorem dX4_changeWire_7 : decode cX4_changeWire 7 = .ok (.if_icmp .ne 5, 3) := by decide +kernel
theorem dX4_changeWire_10 : decode cX4_changeWire 10 = .ok (.iconst 0, 1) := by decide +kernel
theorem dX4_changeWire_11 : decode cX4_changeWire 11 = .ok (.ireturn, 1) := by decide +kernel
theorem dX4_changeWire_12 : decode cX4_changeWire 12 = .ok (.aload_n 0, 1) := by decide +kernel
theorem dX4_changeWire_13 : decode cX4_changeWire 13 = .ok (.getfield 18, 3) := by decide +kernel
theorem dX4_changeWire_16 : decode cX4_changeWire 16 = .ok (.iload_n 1, 1) := by decide +kernel
theorem dX4_changeWire_17 : decode cX4_changeWire 17 = .ok (.iaload, 1) := by decide +kernel
theorem dX4_changeWire_18 : decode cX4_changeWire 18 = .ok (.aload_n 0, 1) := by decide +kernel
theorem dX4_changeWire_19 : decode cX4_changeWire 19 = .ok (.getfield 51, 3) := by decide +kernel
theorem dX4_changeWire_22 : decode cX4_changeWire 22 = .ok (.if_icmp .ne 15, 3) := by decide +kernel
theorem dX4_changeWire_25 : decode cX4_changeWire 25 = .ok (.aload_n 0, 1) := by decide +kernel
theorem dX4_changeWire_26 : decode cX4_changeWire 26 = .ok (.dup, 1) := by decide +kernel
theorem dX4_changeWire_27 : decode cX4_changeWire 27 = .ok (.getfield 62, 3) := by decide +kernel
theorem dX4_changeWire_30 : decode cX4_changeWire 30 = .ok (.iconst 1, 1) := by decide +kernel
theorem dX4_changeWire_31 : decode cX4_changeWire 31 = .ok (.iload_n 1, 1) := by decide +kernel
theorem dX4_changeWire_32 : decode cX4_changeWire 32 = .ok (.ishl, 1) := by decide +kernel
theorem dX4_changeWire_33 : decode cX4_changeWire 33 = .ok (.ior, 1) := by decide +kernel
theorem dX4_changeWire_34 : decode cX4_changeWire 34 = .ok (.putfield 62, 3) := by decide +kernel
theorem dX4_changeWire_37 : decode cX4_changeWire 37 = .ok (.aload_n 0, 1) := by decide +kernel
theorem dX4_changeWire_38 : decode cX4_changeWire 38 = .ok (.getfield 18, 3) := by decide +kernel
theorem dX4_changeWire_41 : decode cX4_changeWire 41 = .ok (.iload_n 1, 1) := by decide +kernel
theorem dX4_changeWire_42 : decode cX4_changeWire 42 = .ok (.aload_n 0, 1) := by decide +kernel
theorem dX4_changeWire_43 : decode cX4_changeWire 43 = .ok (.getfield 51, 3) := by decide +kernel
theorem dX4_changeWire_46 : decode cX4_changeWire 46 = .ok (.iastore, 1) := by decide +kernel
theorem dX4_changeWire_47 : decode cX4_changeWire 47 = .ok (.aload_n 0, 1) := by decide +kernel
theorem dX4_changeWire_48 : decode cX4_changeWire 48 = .ok (.getfield 9, 3) := by decide +kernel
theorem dX4_changeWire_51 : decode cX4_changeWire 51 = .ok (.iload_n 1, 1) := by decide +kernel
theorem dX4_changeWire_52 : decode cX4_changeWire 52 = .ok (.iload_n 2, 1) := by decide +kernel
theorem dX4_changeWire_53 : decode cX4_changeWire 53 = .ok (.iastore, 1) := by decide +kernel
theorem dX4_changeWire_54 : decode cX4_changeWire 54 = .ok (.aload_n 0, 1) := by decide +kernel
theorem dX4_changeWire_55 : decode cX4_changeWire 55 = .ok (.getfield 15, 3) := by decide +kernel
theorem dX4_changeWire_58 : decode cX4_changeWire 58 = .ok (.iload_n 1, 1) := by decide +kernel
theorem dX4_changeWire_59 : decode cX4_changeWire 59 = .ok (.aload_n 0, 1) := by decide +kernel
theorem dX4_changeWire_60 : decode cX4_changeWire 60 = .ok (.getfield 15, 3) := by decide +kernel
theorem dX4_changeWire_63 : decode cX4_changeWire 63 = .ok (.iload_n 1, 1) := by decide +kernel
theorem dX4_changeWire_64 : decode cX4_changeWire 64 = .ok (.iaload, 1) := by decide +kernel
theorem dX4_changeWire_65 : decode cX4_changeWire 65 = .ok (.iconst 1, 1) := by decide +kernel
theorem dX4_changeWire_66 : decode cX4_changeWire 66 = .ok (.iadd, 1) := by decide +kernel
theorem dX4_changeWire_67 : decode cX4_changeWire 67 = .ok (.sipush 9999, 3) := by decide +kernel
theorem dX4_changeWire_70 : decode cX4_changeWire 70 = .ok (.invokestatic 72, 3) := by decide +kernel
theorem dX4_changeWire_73 : decode cX4_changeWire 73 = .ok (.iastore, 1) := by decide +kernel
theorem dX4_changeWire_74 : decode cX4_changeWire 74 = .ok (.aload_n 0, 1) := by decide +kernel
theorem dX4_changeWire_75 : decode cX4_changeWire 75 = .ok (.getfield 24, 3) := by decide +kernel
theorem dX4_changeWire_78 : decode cX4_changeWire 78 = .ok (.iload_n 1, 1) := by decide +kernel
theorem dX4_changeWire_79 : decode cX4_changeWire 79 = .ok (.bipush 8, 2) := by decide +kernel
theorem dX4_changeWire_81 : decode cX4_changeWire 81 = .ok (.imul, 1) := by decide +kernel
theorem dX4_changeWire_82 : decode cX4_changeWire 82 = .ok (.aload_n 0, 1) := by decide +kernel
theorem dX4_changeWire_83 : decode cX4_changeWire 83 = .ok (.getfield 21, 3) := by decide +kernel
theorem dX4_changeWire_86 : decode cX4_changeWire 86 = .ok (.iload_n 1, 1) := by decide +kernel
theorem dX4_changeWire_87 : decode cX4_changeWire 87 = .ok (.iaload, 1) := by decide +kernel
theorem dX4_changeWire_88 : decode cX4_changeWire 88 = .ok (.iadd, 1) := by decide +kernel
theorem dX4_changeWire_89 : decode cX4_changeWire 89 = .ok (.aload_n 0, 1) := by decide +kernel
theorem dX4_changeWire_90 : decode cX4_changeWire 90 = .ok (.getfield 51, 3) := by decide +kernel
theorem dX4_changeWire_93 : decode cX4_changeWire 93 = .ok (.iastore, 1) := by decide +kernel
theorem dX4_changeWire_94 : decode cX4_changeWire 94 = .ok (.aload_n 0, 1) := by decide +kernel
theorem dX4_changeWire_95 : decode cX4_changeWire 95 = .ok (.getfield 27, 3) := by decide +kernel
theorem dX4_changeWire_98 : decode cX4_changeWire 98 = .ok (.iload_n 1, 1) := by decide +kernel
theorem dX4_changeWire_99 : decode cX4_changeWire 99 = .ok (.bipush 8, 2) := by decide +kernel
theorem dX4_changeWire_101 : decode cX4_changeWire 101 = .ok (.imul, 1) := by decide +kernel
theorem dX4_changeWire_102 : decode cX4_changeWire 102 = .ok (.aload_n 0, 1) := by decide +kernel
theorem dX4_changeWire_103 : decode cX4_changeWire 103 = .ok (.getfield 21, 3) := by decide +kernel
theorem dX4_changeWire_106 : decode cX4_changeWire 106 = .ok (.iload_n 1, 1) := by decide +kernel
theorem dX4_changeWire_107 : decode cX4_changeWire 107 = .ok (.iaload, 1) := by decide +kernel
theorem dX4_changeWire_108 : decode cX4_changeWire 108 = .ok (.iadd, 1) := by decide +kernel
theorem dX4_changeWire_109 : decode cX4_changeWire 109 = .ok (.iload_n 2, 1) := by decide +kernel
theorem dX4_changeWire_110 : decode cX4_changeWire 110 = .ok (.iastore, 1) := by decide +kernel
theorem dX4_changeWire_111 : decode cX4_changeWire 111 = .ok (.aload_n 0, 1) := by decide +kernel
theorem dX4_changeWire_112 : decode cX4_changeWire 112 = .ok (.getfield 21, 3) := by decide +kernel
theorem dX4_changeWire_115 : decode cX4_changeWire 115 = .ok (.iload_n 1, 1) := by decide +kernel
theorem dX4_changeWire_116 : decode cX4_changeWire 116 = .ok (.aload_n 0, 1) := by decide +kernel
theorem dX4_changeWire_117 : decode cX4_changeWire 117 = .ok (.getfield 21, 3) := by decide +kernel
theorem dX4_changeWire_120 : decode cX4_changeWire 120 = .ok (.iload_n 1, 1) := by decide +kernel
theorem dX4_changeWire_121 : decode cX4_changeWire 121 = .ok (.iaload, 1) := by decide +kernel
theorem dX4_changeWire_122 : decode cX4_changeWire 122 = .ok (.iconst 1, 1) := by decide +kernel
theorem dX4_changeWire_123 : decode cX4_changeWire 123 = .ok (.iadd, 1) := by decide +kernel
theorem dX4_changeWire_124 : decode cX4_changeWire 124 = .ok (.bipush 8, 2) := by decide +kernel
theorem dX4_changeWire_126 : decode cX4_changeWire 126 = .ok (.irem, 1) := by decide +kernel
theorem dX4_changeWire_127 : decode cX4_changeWire 127 = .ok (.iastore, 1) := by decide +kernel
theorem dX4_changeWire_128 : decode cX4_changeWire 128 = .ok (.iconst 1, 1) := by decide +kernel
theorem dX4_changeWire_129 : decode cX4_changeWire 129 = .ok (.iload_n 1, 1) := by decide +kernel
theorem dX4_changeWire_130 : decode cX4_changeWire 130 = .ok (.ishl, 1) := by decide +kernel
theorem dX4_changeWire_131 : decode cX4_changeWire 131 = .ok (.ireturn, 1) := by decide +kernel
theorem dX5_init_0 : decode cX5_init 0 = .ok (.aload_n 0, 1) := by decide +kernel
theorem dX5_init_1 : decode cX5_init 1 = .ok (.invokespecial 3, 3) := by decide +kernel
theorem dX5_init_4 : decode cX5_init 4 = .ok (.aload_n 0, 1) := by decide +kernel
theorem dX5_init_5 : decode cX5_init 5 = .ok (.bipush 16, 2) := by decide +kernel
theorem dX5_init_7 : decode cX5_init 7 = .ok (.anewarray 9, 3) := by decide +kernel
theorem dX5_init_10 : decode cX5_init 10 = .ok (.putfield 11, 3) := by decide +kernel
theorem dX5_init_13 : decode cX5_init 13 = .ok (.iconst 0, 1) := by decide +kernel
theorem dX5_init_14 : decode cX5_init 14 = .ok (.istore_n 1, 1) := by decide +kernel
theorem dX5_init_15 : decode cX5_init 15 = .ok (.iload_n 1, 1) := by decide +kernel
theorem dX5_init_16 : decode cX5_init 16 = .ok (.bipush 16, 2) := by decide +kernel
theorem dX5_init_18 : decode cX5_init 18 = .ok (.if_icmp .ge 22, 3) := by decide +kernel
theorem dX5_init_21 : decode cX5_init 21 = .ok (.aload_n 0, 1) := by decide +kernel
theorem dX5_init_22 : decode cX5_init 22 = .ok (.getfield 11, 3) := by decide +kernel
theorem dX5_init_25 : decode cX5_init 25 = .ok (.iload_n 1, 1) := by decide +kernel
theorem dX5_init_26 : decode cX5_init 26 = .ok (.new 9, 3) := by decide +kernel
theorem dX5_init_29 : decode cX5_init 29 = .ok (.dup, 1) := by decide +kernel
theorem dX5_init_30 : decode cX5_init 30 = .ok (.invokespecial 17, 3) := by decide +kernel
theorem dX5_init_33 : decode cX5_init 33 = .ok (.aastore, 1) := by decide +kernel
theorem dX5_init_34 : decode cX5_init 34 = .ok (.iinc 1 1, 3) := by decide +kernel
theorem dX5_init_37 : decode cX5_init 37 = .ok (.goto (-22), 3) := by decide +kernel
theorem dX5_init_40 : decode cX5_init 40 = .ok (.return_, 1) := by decide +kernel
theorem dX5_forget_0 : decode cX5_forget 0 = .ok (.aload_n 0, 1) := by decide +kernel
theorem dX5_forget_1 : decode cX5_forget 1 = .ok (.iconst 0, 1) := by decide +kernel
theorem dX5_forget_2 : decode cX5_forget 2 = .ok (.putfield 18, 3) := by decide +kernel
theorem dX5_forget_5 : decode cX5_forget 5 = .ok (.return_, 1) := by decide +kernel
theorem dX5_remember_0 : decode cX5_remember 0 = .ok (.aload_n 0, 1) := by decide +kernel
theorem dX5_remember_1 : decode cX5_remember 1 = .ok (.getfield 11, 3) := by decide +kernel
theorem dX5_remember_4 : decode cX5_remember 4 = .ok (.aload_n 0, 1) := by decide +kernel
theorem dX5_remember_5 : decode cX5_remember 5 = .ok (.getfield 22, 3) := by decide +kernel
theorem dX5_remember_8 : decode cX5_remember 8 = .ok (.aaload, 1) := by decide +kernel
theorem dX5_remember_9 : decode cX5_remember 9 = .ok (.astore_n 2, 1) := by decide +kernel
theorem dX5_remember_10 : decode cX5_remember 10 = .ok (.aload_n 2, 1) := by decide +kernel
theorem dX5_remember_11 : decode cX5_remember 11 = .ok (.ifnull 8, 3) := by decide +kernel
theorem dX5_remember_14 : decode cX5_remember 14 = .ok (.aload_n 2, 1) := by decide +kernel
theorem dX5_remember_15 : decode cX5_remember 15 = .ok (.aload_n 1, 1) := by decide +kernel
theorem dX5_remember_16 : decode cX5_remember 16 = .ok (.invokevirtual 25, 3) := by decide +kernel
theorem dX5_remember_19 : decode cX5_remember 19 = .ok (.aload_n 0, 1) := by decide +kernel
theorem dX5_remember_20 : decode cX5_remember 20 = .ok (.aload_n 0, 1) := by decide +kernel
theorem dX5_remember_21 : decode cX5_remember 21 = .ok (.getfield 22, 3) := by decide +kernel
theorem dX5_remember_24 : decode cX5_remember 24 = .ok (.iconst 1, 1) := by decide +kernel
theorem dX5_remember_25 : decode cX5_remember 25 = .ok (.iadd, 1) := by decide +kernel
theorem dX5_remember_26 : decode cX5_remember 26 = .ok (.bipush 16, 2) := by decide +kernel
theorem dX5_remember_28 : decode cX5_remember 28 = .ok (.irem, 1) := by decide +kernel
theorem dX5_remember_29 : decode cX5_remember 29 = .ok (.putfield 22, 3) := by decide +kernel
theorem dX5_remember_32 : decode cX5_remember 32 = .ok (.aload_n 0, 1) := by decide +kernel
theorem dX5_remember_33 : decode cX5_remember 33 = .ok (.aload_n 0, 1) := by decide +kernel
theorem dX5_remember_34 : decode cX5_remember 34 = .ok (.getfield 18, 3) := by decide +kernel
theorem dX5_remember_37 : decode cX5_remember 37 = .ok (.iconst 1, 1) := by decide +kernel
theorem dX5_remember_38 : decode cX5_remember 38 = .ok (.iadd, 1) := by decide +kernel
theorem dX5_remember_39 : decode cX5_remember 39 = .ok (.bipush 16, 2) := by decide +kernel
theorem dX5_remember_41 : decode cX5_remember 41 = .ok (.invokestatic 29, 3) := by decide +kernel
theorem dX5_remember_44 : decode cX5_remember 44 = .ok (.putfield 18, 3) := by decide +kernel
theorem dX5_remember_47 : decode cX5_remember 47 = .ok (.return_, 1) := by decide +kernel
theorem dX5_bringBack_0 : decode cX5_bringBack 0 = .ok (.aload_n 0, 1) := by decide +kernel
theorem dX5_bringBack_1 : decode cX5_bringBack 1 = .ok (.aload_n 0, 1) := by decide +kernel
theorem dX5_bringBack_2 : decode cX5_bringBack 2 = .ok (.getfield 22, 3) := by decide +kernel
theorem dX5_bringBack_5 : decode cX5_bringBack 5 = .ok (.iload_n 1, 1) := by decide +kernel
theorem dX5_bringBack_6 : decode cX5_bringBack 6 = .ok (.isub, 1) := by decide +kernel
theorem dX5_bringBack_7 : decode cX5_bringBack 7 = .ok (.bipush 16, 2) := by decide +kernel
theorem dX5_bringBack_9 : decode cX5_bringBack 9 = .ok (.invokestatic 35, 3) := by decide +kernel
theorem dX5_bringBack_12 : decode cX5_bringBack 12 = .ok (.putfield 22, 3) := by decide +kernel
theorem dX5_bringBack_15 : decode cX5_bringBack 15 = .ok (.aload_n 0, 1) := by decide +kernel
theorem dX5_bringBack_16 : decode cX5_bringBack 16 = .ok (.dup, 1) := by decide +kernel
theorem dX5_bringBack_17 : decode cX5_bringBack 17 = .ok (.getfield 18, 3) := by decide +kernel
theorem dX5_bringBack_20 : decode cX5_bringBack 20 = .ok (.iload_n 1, 1) := by decide +kernel
theorem dX5_bringBack_21 : decode cX5_bringBack 21 = .ok (.isub, 1) := by decide +kernel
theorem dX5_bringBack_22 : decode cX5_bringBack 22 = .ok (.putfield 18, 3) := by decide +kernel
theorem dX5_bringBack_25 : decode cX5_bringBack 25 = .ok (.aload_n 0, 1) := by decide +kernel
theorem dX5_bringBack_26 : decode cX5_bringBack 26 = .ok (.getfield 11, 3) := by decide +kernel
theorem dX5_bringBack_29 : decode cX5_bringBack 29 = .ok (.aload_n 0, 1) := by decide +kernel
theorem dX5_bringBack_30 : decode cX5_bringBack 30 = .ok (.getfield 22, 3) := by decide +kernel
theorem dX5_bringBack_33 : decode cX5_bringBack 33 = .ok (.aaload, 1) := by decide +kernel
theorem dX5_bringBack_34 : decode cX5_bringBack 34 = .ok (.astore_n 3, 1) := by decide +kernel
theorem dX5_bringBack_35 : decode cX5_bringBack 35 = .ok (.aload_n 3, 1) := by decide +kernel
theorem dX5_bringBack_36 : decode cX5_bringBack 36 = .ok (.ifnull 8, 3) := by decide +kernel
theorem dX5_bringBack_39 : decode cX5_bringBack 39 = .ok (.aload_n 2, 1) := by decide +kernel
theorem dX5_bringBack_40 : decode cX5_bringBack 40 = .ok (.aload_n 3, 1) := by decide +kernel
theorem dX5_bringBack_41 : decode cX5_bringBack 41 = .ok (.invokevirtual 25, 3) := by decide +kernel
theorem dX5_bringBack_44 : decode cX5_bringBack 44 = .ok (.return_, 1) := by decide +kernel
theorem dX6_init_0 : decode cX6_init 0 = .ok (.aload_n 0, 1) := by decide +kernel
theorem dX6_init_1 : decode cX6_init 1 = .ok (.invokespecial 3, 3) := by decide +kernel
theorem dX6_init_4 : decode cX6_init 4 = .ok (.aload_n 0, 1) := by decide +kernel
theorem dX6_init_5 : decode cX6_init 5 = .ok (.bipush 8, 2) := by decide +kernel
theorem dX6_init_7 : decode cX6_init 7 = .ok (.newarray .int, 2) := by decide +kernel
theorem dX6_init_9 : decode cX6_init 9 = .ok (.putfield 9, 3) := by decide +kernel
theorem dX6_init_12 : decode cX6_init 12 = .ok (.aload_n 0, 1) := by decide +kernel
theorem dX6_init_13 : decode cX6_init 13 = .ok (.bipush 8, 2) := by decide +kernel
theorem dX6_init_15 : decode cX6_init 15 = .ok (.newarray .int, 2) := by decide +kernel
theorem dX6_init_17 : decode cX6_init 17 = .ok (.putfield 15, 3) := by decide +kernel
theorem dX6_init_20 : decode cX6_init 20 = .ok (.aload_n 0, 1) := by decide +kernel
theorem dX6_init_21 : decode cX6_init 21 = .ok (.bipush 8, 2) := by decide +kernel
theorem dX6_init_23 : decode cX6_init 23 = .ok (.newarray .int, 2) := by decide +kernel
theorem dX6_init_25 : decode cX6_init 25 = .ok (.putfield 18, 3) := by decide +kernel
theorem dX6_init_28 : decode cX6_init 28 = .ok (.aload_n 0, 1) := by decide +kernel
theorem dX6_init_29 : decode cX6_init 29 = .ok (.bipush 8, 2) := by decide +kernel
theorem dX6_init_31 : decode cX6_init 31 = .ok (.newarray .int, 2) := by decide +kernel
theorem dX6_init_33 : decode cX6_init 33 = .ok (.putfield 21, 3) := by decide +kernel
theorem dX6_init_36 : decode cX6_init 36 = .ok (.aload_n 0, 1) := by decide +kernel
theorem dX6_init_37 : decode cX6_init 37 = .ok (.bipush 8, 2) := by decide +kernel
theorem dX6_init_39 : decode cX6_init 39 = .ok (.newarray .int, 2) := by decide +kernel
theorem dX6_init_41 : decode cX6_init 41 = .ok (.putfield 24, 3) := by decide +kernel
theorem dX6_init_44 : decode cX6_init 44 = .ok (.aload_n 0, 1) := by decide +kernel
theorem dX6_init_45 : decode cX6_init 45 = .ok (.bipush 8, 2) := by decide +kernel
theorem dX6_init_47 : decode cX6_init 47 = .ok (.newarray .int, 2) := by decide +kernel
theorem dX6_init_49 : decode cX6_init 49 = .ok (.putfield 27, 3) := by decide +kernel
theorem dX6_init_52 : decode cX6_init 52 = .ok (.aload_n 0, 1) := by decide +kernel
theorem dX6_init_53 : decode cX6_init 53 = .ok (.bipush 8, 2) := by decide +kernel
theorem dX6_init_55 : decode cX6_init 55 = .ok (.newarray .int, 2) := by decide +kernel
theorem dX6_init_57 : decode cX6_init 57 = .ok (.putfield 30, 3) := by decide +kernel
theorem dX6_init_60 : decode cX6_init 60 = .ok (.return_, 1) := by decide +kernel
theorem dX6_empty_0 : decode cX6_empty 0 = .ok (.aload_n 0, 1) := by decide +kernel
theorem dX6_empty_1 : decode cX6_empty 1 = .ok (.iconst 0, 1) := by decide +kernel
theorem dX6_empty_2 : decode cX6_empty 2 = .ok (.putfield 33, 3) := by decide +kernel
theorem dX6_empty_5 : decode cX6_empty 5 = .ok (.aload_n 0, 1) := by decide +kernel
theorem dX6_empty_6 : decode cX6_empty 6 = .ok (.iconst 0, 1) := by decide +kernel
theorem dX6_empty_7 : decode cX6_empty 7 = .ok (.putfield 37, 3) := by decide +kernel
theorem dX6_empty_10 : decode cX6_empty 10 = .ok (.return_, 1) := by decide +kernel
theorem dX6_hasWire_0 : decode cX6_hasWire 0 = .ok (.iload_n 1, 1) := by decide +kernel
theorem dX6_hasWire_1 : decode cX6_hasWire 1 = .ok (.ifCond .lt 15, 3) := by decide +kernel
theorem dX6_hasWire_4 : decode cX6_hasWire 4 = .ok (.iload_n 1, 1) := by decide +kernel
theorem dX6_hasWire_5 : decode cX6_hasWire 5 = .ok (.aload_n 0, 1) := by decide +kernel
theorem dX6_hasWire_6 : decode cX6_hasWire 6 = .ok (.getfield 33, 3) := by decide +kernel
theorem dX6_hasWire_9 : decode cX6_hasWire 9 = .ok (.if_icmp .ge 7, 3) := by decide +kernel
theorem dX6_hasWire_12 : decode cX6_hasWire 12 = .ok (.iconst 1, 1) := by decide +kernel
theorem dX6_hasWire_13 : decode cX6_hasWire 13 = .ok (.goto 4, 3) := by decide +kernel
theorem dX6_hasWire_16 : decode cX6_hasWire 16 = .ok (.iconst 0, 1) := by decide +kernel
theorem dX6_hasWire_17 : decode cX6_hasWire 17 = .ok (.ireturn, 1) := by decide +kernel
theorem dX6_hasGate_0 : decode cX6_hasGate 0 = .ok (.iload_n 1, 1) := by decide +kernel
theorem dX6_hasGate_1 : decode cX6_hasGate 1 = .ok (.ifCond .lt 15, 3) := by decide +kernel
theorem dX6_hasGate_4 : decode cX6_hasGate 4 = .ok (.iload_n 1, 1) := by decide +kernel
theorem dX6_hasGate_5 : decode cX6_hasGate 5 = .ok (.aload_n 0, 1) := by decide +kernel
theorem dX6_hasGate_6 : decode cX6_hasGate 6 = .ok (.getfield 37, 3) := by decide +kernel
theorem dX6_hasGate_9 : decode cX6_hasGate 9 = .ok (.if_icmp .ge 7, 3) := by decide +kernel
theorem dX6_hasGate_12 : decode cX6_hasGate 12 = .ok (.iconst 1, 1) := by decide +kernel
theorem dX6_hasGate_13 : decode cX6_hasGate 13 = .ok (.goto 4, 3) := by decide +kernel
theorem dX6_hasGate_16 : decode cX6_hasGate 16 = .ok (.iconst 0, 1) := by decide +kernel
theorem dX6_hasGate_17 : decode cX6_hasGate 17 = .ok (.ireturn, 1) := by decide +kernel
theorem dX6_addWire_0 : decode cX6_addWire 0 = .ok (.aload_n 0, 1) := by decide +kernel
theorem dX6_addWire_1 : decode cX6_addWire 1 = .ok (.getfield 33, 3) := by decide +kernel
theorem dX6_addWire_4 : decode cX6_addWire 4 = .ok (.bipush 8, 2) := by decide +kernel
theorem dX6_addWire_6 : decode cX6_addWire 6 = .ok (.if_icmp .ge 23, 3) := by decide +kernel
theorem dX6_addWire_9 : decode cX6_addWire 9 = .ok (.aload_n 0, 1) := by decide +kernel
theorem dX6_addWire_10 : decode cX6_addWire 10 = .ok (.getfield 9, 3) := by decide +kernel
theorem dX6_addWire_13 : decode cX6_addWire 13 = .ok (.aload_n 0, 1) := by decide +kernel
theorem dX6_addWire_14 : decode cX6_addWire 14 = .ok (.getfield 33, 3) := by decide +kernel
theorem dX6_addWire_17 : decode cX6_addWire 17 = .ok (.iload_n 1, 1) := by decide +kernel
theorem dX6_addWire_18 : decode cX6_addWire 18 = .ok (.iastore, 1) := by decide +kernel
theorem dX6_addWire_19 : decode cX6_addWire 19 = .ok (.aload_n 0, 1) := by decide +kernel
theorem dX6_addWire_20 : decode cX6_addWire 20 = .ok (.dup, 1) := by decide +kernel
theorem dX6_addWire_21 : decode cX6_addWire 21 = .ok (.getfield 33, 3) := by decide +kernel
theorem dX6_addWire_24 : decode cX6_addWire 24 = .ok (.iconst 1, 1) := by decide +kernel
theorem dX6_addWire_25 : decode cX6_addWire 25 = .ok (.iadd, 1) := by decide +kernel
theorem dX6_addWire_26 : decode cX6_addWire 26 = .ok (.putfield 33, 3) := by decide +kernel
theorem dX6_addWire_29 : decode cX6_addWire 29 = .ok (.return_, 1) := by decide +kernel
theorem dX6_looks_0 : decode cX6_looks 0 = .ok (.iconst 1, 1) := by decide +kernel
theorem dX6_looks_1 : decode cX6_looks 1 = .ok (.aload_n 0, 1) := by decide +kernel
theorem dX6_looks_2 : decode cX6_looks 2 = .ok (.getfield 18, 3) := by decide +kernel
theorem dX6_looks_5 : decode cX6_looks 5 = .ok (.iload_n 1, 1) := by decide +kernel
theorem dX6_looks_6 : decode cX6_looks 6 = .ok (.iaload, 1) := by decide +kernel
theorem dX6_looks_7 : decode cX6_looks 7 = .ok (.ishl, 1) := by decide +kernel
theorem dX6_looks_8 : decode cX6_looks 8 = .ok (.istore_n 2, 1) := by decide +kernel
theorem dX6_looks_9 : decode cX6_looks 9 = .ok (.aload_n 0, 1) := by decide +kernel
theorem dX6_looks_10 : decode cX6_looks 10 = .ok (.getfield 15, 3) := by decide +kernel
theorem dX6_looks_13 : decode cX6_looks 13 = .ok (.iload_n 1, 1) := by decide +kernel
theorem dX6_looks_14 : decode cX6_looks 14 = .ok (.iaload, 1) := by decide +kernel
theorem dX6_looks_15 : decode cX6_looks 15 = .ok (.ifCond .ne 7, 3) := by decide +kernel
theorem dX6_looks_18 : decode cX6_looks 18 = .ok (.iload_n 2, 1) := by decide +kernel
theorem dX6_looks_19 : decode cX6_looks 19 = .ok (.goto 13, 3) := by decide +kernel
theorem dX6_looks_22 : decode cX6_looks 22 = .ok (.iload_n 2, 1) := by decide +kernel
theorem dX6_looks_23 : decode cX6_looks 23 = .ok (.iconst 1, 1) := by decide +kernel
theorem dX6_looks_24 : decode cX6_looks 24 = .ok (.aload_n 0, 1) := by decide +kernel
theorem dX6_looks_25 : decode cX6_looks 25 = .ok (.getfield 21, 3) := by decide +kernel
theorem dX6_looks_28 : decode cX6_looks 28 = .ok (.iload_n 1, 1) := by decide +kernel
theorem dX6_looks_29 : decode cX6_looks 29 = .ok (.iaload, 1) := by decide +kernel
theorem dX6_looks_30 : decode cX6_looks 30 = .ok (.ishl, 1) := by decide +kernel
theorem dX6_looks_31 : decode cX6_looks 31 = .ok (.ior, 1) := by decide +kernel
theorem dX6_looks_32 : decode cX6_looks 32 = .ok (.ireturn, 1) := by decide +kernel
theorem dX6_driversOf_0 : decode cX6_driversOf 0 = .ok (.iconst 0, 1) := by decide +kernel
theorem dX6_driversOf_1 : decode cX6_driversOf 1 = .ok (.istore_n 2, 1) := by decide +kernel
theorem dX6_driversOf_2 : decode cX6_driversOf 2 = .ok (.iconst 0, 1) := by decide +kernel
theorem dX6_driversOf_3 : decode cX6_driversOf 3 = .ok (.istore_n 3, 1) := by decide +kernel
theorem dX6_driversOf_4 : decode cX6_driversOf 4 = .ok (.iload_n 3, 1) := by decide +kernel
theorem dX6_driversOf_5 : decode cX6_driversOf 5 = .ok (.aload_n 0, 1) := by decide +kernel
theorem dX6_driversOf_6 : decode cX6_driversOf 6 = .ok (.getfield 37, 3) := by decide +kernel
theorem dX6_driversOf_9 : decode cX6_driversOf 9 = .ok (.if_icmp .ge 22, 3) := by decide +kernel
theorem dX6_driversOf_12 : decode cX6_driversOf 12 = .ok (.aload_n 0, 1) := by decide +kernel
theorem dX6_driversOf_13 : decode cX6_driversOf 13 = .ok (.getfield 24, 3) := by decide +kernel
theorem dX6_driversOf_16 : decode cX6_driversOf 16 = .ok (.iload_n 3, 1) := by decide +kernel
theorem dX6_driversOf_17 : decode cX6_driversOf 17 = .ok (.iaload, 1) := by decide +kernel
theorem dX6_driversOf_18 : decode cX6_driversOf 18 = .ok (.iload_n 1, 1) := by decide +kernel
theorem dX6_driversOf_19 : decode cX6_driversOf 19 = .ok (.if_icmp .ne 6, 3) := by decide +kernel
theorem dX6_driversOf_22 : decode cX6_driversOf 22 = .ok (.iinc 2 1, 3) := by decide +kernel
theorem dX6_driversOf_25 : decode cX6_driversOf 25 = .ok (.iinc 3 1, 3) := by decide +kernel
theorem dX6_driversOf_28 : decode cX6_driversOf 28 = .ok (.goto (-24), 3) := by decide +kernel
theorem dX6_driversOf_31 : decode cX6_driversOf 31 = .ok (.iload_n 2, 1) := by decide +kernel
theorem dX6_driversOf_32 : decode cX6_driversOf 32 = .ok (.ireturn, 1) := by decide +kernel
theorem dX6_lookersAt_0 : decode cX6_lookersAt 0 = .ok (.iconst 0, 1) := by decide +kernel
theorem dX6_lookersAt_1 : decode cX6_lookersAt 1 = .ok (.istore_n 2, 1) := by decide +kernel
theorem dX6_lookersAt_2 : decode cX6_lookersAt 2 = .ok (.iconst 0, 1) := by decide +kernel
theorem dX6_lookersAt_3 : decode cX6_lookersAt 3 = .ok (.istore_n 3, 1) := by decide +kernel
theorem dX6_lookersAt_4 : decode cX6_lookersAt 4 = .ok (.iload_n 3, 1) := by decide +kernel
theorem dX6_lookersAt_5 : decode cX6_lookersAt 5 = .ok (.aload_n 0, 1) := by decide +kernel
theorem dX6_lookersAt_6 : decode cX6_lookersAt 6 = .ok (.getfield 37, 3) := by decide +kernel
theorem dX6_lookersAt_9 : decode cX6_lookersAt 9 = .ok (.if_icmp .ge 25, 3) := by decide +kernel
theorem dX6_lookersAt_12 : decode cX6_lookersAt 12 = .ok (.aload_n 0, 1) := by decide +kernel
theorem dX6_lookersAt_13 : decode cX6_lookersAt 13 = .ok (.iload_n 3, 1) := by decide +kernel
theorem dX6_lookersAt_14 : decode cX6_lookersAt 14 = .ok (.invokevirtual 40, 3) := by decide +kernel
theorem dX6_lookersAt_17 : decode cX6_lookersAt 17 = .ok (.iload_n 1, 1) := by decide +kernel
theorem dX6_lookersAt_18 : decode cX6_lookersAt 18 = .ok (.ishr, 1) := by decide +kernel
theorem dX6_lookersAt_19 : decode cX6_lookersAt 19 = .ok (.iconst 1, 1) := by decide +kernel
theorem dX6_lookersAt_20 : decode cX6_lookersAt 20 = .ok (.iand, 1) := by decide +kernel
theorem dX6_lookersAt_21 : decode cX6_lookersAt 21 = .ok (.iconst 1, 1) := by decide +kernel
theorem dX6_lookersAt_22 : decode cX6_lookersAt 22 = .ok (.if_icmp .ne 6, 3) := by decide +kernel
theorem dX6_lookersAt_25 : decode cX6_lookersAt 25 = .ok (.iinc 2 1, 3) := by decide +kernel
theorem dX6_lookersAt_28 : decode cX6_lookersAt 28 = .ok (.iinc 3 1, 3) := by decide +kernel
theorem dX6_lookersAt_31 : decode cX6_lookersAt 31 = .ok (.goto (-27), 3) := by decide +kernel
theorem dX6_lookersAt_34 : decode cX6_lookersAt 34 = .ok (.iload_n 2, 1) := by decide +kernel
theorem dX6_lookersAt_35 : decode cX6_lookersAt 35 = .ok (.ireturn, 1) := by decide +kernel
theorem dX7_init_0 : decode cX7_init 0 = .ok (.aload_n 0, 1) := by decide +kernel
theorem dX7_init_1 : decode cX7_init 1 = .ok (.invokespecial 3, 3) := by decide +kernel
theorem dX7_init_4 : decode cX7_init 4 = .ok (.aload_n 0, 1) := by decide +kernel
theorem dX7_init_5 : decode cX7_init 5 = .ok (.sipush 200, 3) := by decide +kernel
theorem dX7_init_8 : decode cX7_init 8 = .ok (.newarray .int, 2) := by decide +kernel
theorem dX7_init_10 : decode cX7_init 10 = .ok (.putfield 11, 3) := by decide +kernel
theorem dX7_init_13 : decode cX7_init 13 = .ok (.aload_n 0, 1) := by decide +kernel
theorem dX7_init_14 : decode cX7_init 14 = .ok (.iconst (-1), 1) := by decide +kernel
theorem dX7_init_15 : decode cX7_init 15 = .ok (.putfield 15, 3) := by decide +kernel
theorem dX7_init_18 : decode cX7_init 18 = .ok (.return_, 1) := by decide +kernel
theorem dX7_addLetter_0 : decode cX7_addLetter 0 = .ok (.aload_n 0, 1) := by decide +kernel
theorem dX7_addLetter_1 : decode cX7_addLetter 1 = .ok (.getfield 19, 3) := by decide +kernel
theorem dX7_addLetter_4 : decode cX7_addLetter 4 = .ok (.sipush 200, 3) := by decide +kernel
theorem dX7_addLetter_7 : decode cX7_addLetter 7 = .ok (.if_icmp .lt 6, 3) := by decide +kernel
theorem dX7_addLetter_10 : decode cX7_addLetter 10 = .ok (.ldc 22, 2) := by decide +kernel
theorem dX7_addLetter_12 : decode cX7_addLetter 12 = .ok (.ireturn, 1) := by decide +kernel
theorem dX7_addLetter_13 : decode cX7_addLetter 13 = .ok (.aload_n 0, 1) := by decide +kernel
theorem dX7_addLetter_14 : decode cX7_addLetter 14 = .ok (.getfield 11, 3) := by decide +kernel
theorem dX7_addLetter_17 : decode cX7_addLetter 17 = .ok (.aload_n 0, 1) := by decide +kernel
theorem dX7_addLetter_18 : decode cX7_addLetter 18 = .ok (.getfield 19, 3) := by decide +kernel
theorem dX7_addLetter_21 : decode cX7_addLetter 21 = .ok (.iload_n 1, 1) := by decide +kernel
theorem dX7_addLetter_22 : decode cX7_addLetter 22 = .ok (.iastore, 1) := by decide +kernel
theorem dX7_addLetter_23 : decode cX7_addLetter 23 = .ok (.aload_n 0, 1) := by decide +kernel
theorem dX7_addLetter_24 : decode cX7_addLetter 24 = .ok (.dup, 1) := by decide +kernel
theorem dX7_addLetter_25 : decode cX7_addLetter 25 = .ok (.getfield 19, 3) := by decide +kernel
theorem dX7_addLetter_28 : decode cX7_addLetter 28 = .ok (.iconst 1, 1) := by decide +kernel
theorem dX7_addLetter_29 : decode cX7_addLetter 29 = .ok (.iadd, 1) := by decide +kernel
theorem dX7_addLetter_30 : decode cX7_addLetter 30 = .ok (.putfield 19, 3) := by decide +kernel
theorem dX7_addLetter_33 : decode cX7_addLetter 33 = .ok (.aload_n 0, 1) := by decide +kernel
theorem dX7_addLetter_34 : decode cX7_addLetter 34 = .ok (.getfield 19, 3) := by decide +kernel
theorem dX7_addLetter_37 : decode cX7_addLetter 37 = .ok (.ireturn, 1) := by decide +kernel
theorem dX7_dropText_0 : decode cX7_dropText 0 = .ok (.aload_n 0, 1) := by decide +kernel
theorem dX7_dropText_1 : decode cX7_dropText 1 = .ok (.iconst 0, 1) := by decide +kernel
theorem dX7_dropText_2 : decode cX7_dropText 2 = .ok (.putfield 19, 3) := by decide +kernel
theorem dX7_dropText_5 : decode cX7_dropText 5 = .ok (.return_, 1) := by decide +kernel
theorem dX7_readInto_0 : decode cX7_readInto 0 = .ok (.aload_n 1, 1) := by decide +kernel
theorem dX7_readInto_1 : decode cX7_readInto 1 = .ok (.invokevirtual 23, 3) := by decide +kernel
theorem dX7_readInto_4 : decode cX7_readInto 4 = .ok (.aload_n 0, 1) := by decide +kernel
theorem dX7_readInto_5 : decode cX7_readInto 5 = .ok (.iconst 0, 1) := by decide +kernel
theorem dX7_readInto_6 : decode cX7_readInto 6 = .ok (.putfield 28, 3) := by decide +kernel
theorem dX7_readInto_9 : decode cX7_readInto 9 = .ok (.aload_n 0, 1) := by decide +kernel
theorem dX7_readInto_10 : decode cX7_readInto 10 = .ok (.iconst (-1), 1) := by decide +kernel
theorem dX7_readInto_11 : decode cX7_readInto 11 = .ok (.putfield 15, 3) := by decide +kernel
theorem dX7_readInto_14 : decode cX7_readInto 14 = .ok (.aload_n 0, 1) := by decide +kernel
theorem dX7_readInto_15 : decode cX7_readInto 15 = .ok (.iconst 0, 1) := by decide +kernel
theorem dX7_readInto_16 : decode cX7_readInto 16 = .ok (.putfield 31, 3) := by decide +kernel
theorem dX7_readInto_19 : decode cX7_readInto 19 = .ok (.aload_n 0, 1) := by decide +kernel
theorem dX7_readInto_20 : decode cX7_readInto 20 = .ok (.invokevirtual 34, 3) := by decide +kernel
theorem dX7_readInto_23 : decode cX7_readInto 23 = .ok (.iconst 0, 1) := by decide +kernel
theorem dX7_readInto_24 : decode cX7_readInto 24 = .ok (.istore_n 2, 1) := by decide +kernel
theorem dX7_readInto_25 : decode cX7_readInto 25 = .ok (.iload_n 2, 1) := by decide +kernel
theorem dX7_readInto_26 : decode cX7_readInto 26 = .ok (.sipush 200, 3) := by decide +kernel
theorem dX7_readInto_29 : decode cX7_readInto 29 = .ok (.if_icmp .ge 36, 3) := by decide +kernel
theorem dX7_readInto_32 : decode cX7_readInto 32 = .ok (.aload_n 0, 1) := by decide +kernel
theorem dX7_readInto_33 : decode cX7_readInto 33 = .ok (.getfield 31, 3) := by decide +kernel
theorem dX7_readInto_36 : decode cX7_readInto 36 = .ok (.aload_n 0, 1) := by decide +kernel
theorem dX7_readInto_37 : decode cX7_readInto 37 = .ok (.getfield 19, 3) := by decide +kernel
theorem dX7_readInto_40 : decode cX7_readInto 40 = .ok (.if_icmp .ge 25, 3) := by decide +kernel
theorem dX7_readInto_43 : decode cX7_readInto 43 = .ok (.aload_n 0, 1) := by decide +kernel
theorem dX7_readInto_44 : decode cX7_readInto 44 = .ok (.getfield 28, 3) := by decide +kernel
theorem dX7_readInto_47 : decode cX7_readInto 47 = .ok (.ifCond .ne 18, 3) := by decide +kernel
theorem dX7_readInto_50 : decode cX7_readInto 50 = .ok (.aload_n 0, 1) := by decide +kernel
theorem dX7_readInto_51 : decode cX7_readInto 51 = .ok (.aload_n 1, 1) := by decide +kernel
theorem dX7_readInto_52 : decode cX7_readInto 52 = .ok (.invokevirtual 37, 3) := by decide +kernel
theorem dX7_readInto_55 : decode cX7_readInto 55 = .ok (.aload_n 0, 1) := by decide +kernel
theorem dX7_readInto_56 : decode cX7_readInto 56 = .ok (.invokevirtual 34, 3) := by decide +kernel
theorem dX7_readInto_59 : decode cX7_readInto 59 = .ok (.iinc 2 1, 3) := by decide +kernel
theorem dX7_readInto_62 : decode cX7_readInto 62 = .ok (.goto (-37), 3) := by decide +kernel
theorem dX7_readInto_65 : decode cX7_readInto 65 = .ok (.aload_n 0, 1) := by decide +kernel
theorem dX7_readInto_66 : decode cX7_readInto 66 = .ok (.getfield 28, 3) := by decide +kernel
theorem dX7_readInto_69 : decode cX7_readInto 69 = .ok (.ireturn, 1) := by decide +kernel
theorem dX7_readClause_0 : decode cX7_readClause 0 = .ok (.aload_n 0, 1) := by decide +kernel
theorem dX7_readClause_1 : decode cX7_readClause 1 = .ok (.invokevirtual 41, 3) := by decide +kernel
theorem dX7_readClause_4 : decode cX7_readClause 4 = .ok (.bipush 119, 2) := by decide +kernel
theorem dX7_readClause_6 : decode cX7_readClause 6 = .ok (.if_icmp .ne 11, 3) := by decide +kernel
theorem dX7_readClause_9 : decode cX7_readClause 9 = .ok (.aload_n 0, 1) := by decide +kernel
theorem dX7_readClause_10 : decode cX7_readClause 10 = .ok (.aload_n 1, 1) := by decide +kernel
theorem dX7_readClause_11 : decode cX7_readClause 11 = .ok (.invokevirtual 45, 3) := by decide +kernel
theorem dX7_readClause_14 : decode cX7_readClause 14 = .ok (.goto 29, 3) := by decide +kernel
theorem dX7_readClause_17 : decode cX7_readClause 17 = .ok (.aload_n 0, 1) := by decide +kernel
theorem dX7_readClause_18 : decode cX7_readClause 18 = .ok (.invokevirtual 41, 3) := by decide +kernel
theorem dX7_readClause_21 : decode cX7_readClause 21 = .ok (.bipush 103, 2) := by decide +kernel
theorem dX7_readClause_23 : decode cX7_readClause 23 = .ok (.if_icmp .ne 11, 3) := by decide +kernel
theorem dX7_readClause_26 : decode cX7_readClause 26 = .ok (.aload_n 0, 1) := by decide +kernel
theorem dX7_readClause_27 : decode cX7_readClause 27 = .ok (.aload_n 1, 1) := by decide +kernel
theorem dX7_readClause_28 : decode cX7_readClause 28 = .ok (.invokevirtual 48, 3) := by decide +kernel
theorem dX7_readClause_31 : decode cX7_readClause 31 = .ok (.goto 12, 3) := by decide +kernel
theorem dX7_readClause_34 : decode cX7_readClause 34 = .ok (.aload_n 0, 1) := by decide +kernel
theorem dX7_readClause_35 : decode cX7_readClause 35 = .ok (.iconst 1, 1) := by decide +kernel
theorem dX7_readClause_36 : decode cX7_readClause 36 = .ok (.aload_n 0, 1) := by decide +kernel
theorem dX7_readClause_37 : decode cX7_readClause 37 = .ok (.getfield 31, 3) := by decide +kernel
theorem dX7_readClause_40 : decode cX7_readClause 40 = .ok (.invokevirtual 51, 3) := by decide +kernel
theorem dX7_readClause_43 : decode cX7_readClause 43 = .ok (.return_, 1) := by decide +kernel
theorem dX7_readWire_0 : decode cX7_readWire 0 = .ok (.aload_n 1, 1) := by decide +kernel
theorem dX7_readWire_1 : decode cX7_readWire 1 = .ok (.getfield 55, 3) := by decide +kernel
theorem dX7_readWire_4 : decode cX7_readWire 4 = .ok (.bipush 8, 2) := by decide +kernel
theorem dX7_readWire_6 : decode cX7_readWire 6 = .ok (.if_icmp .lt 13, 3) := by decide +kernel
theorem dX7_readWire_9 : decode cX7_readWire 9 = .ok (.aload_n 0, 1) := by decide +kernel
theorem dX7_readWire_10 : decode cX7_readWire 10 = .ok (.iconst 3, 1) := by decide +kernel
theorem dX7_readWire_11 : decode cX7_readWire 11 = .ok (.aload_n 0, 1) := by decide +kernel
theorem dX7_readWire_12 : decode cX7_readWire 12 = .ok (.getfield 31, 3) := by decide +kernel
theorem dX7_readWire_15 : decode cX7_readWire 15 = .ok (.invokevirtual 51, 3) := by decide +kernel
theorem dX7_readWire_18 : decode cX7_readWire 18 = .ok (.return_, 1) := by decide +kernel
theorem dX7_readWire_19 : decode cX7_readWire 19 = .ok (.aload_n 0, 1) := by decide +kernel
theorem dX7_readWire_20 : decode cX7_readWire 20 = .ok (.dup, 1) := by decide +kernel
theorem dX7_readWire_21 : decode cX7_readWire 21 = .ok (.getfield 31, 3) := by decide +kernel
theorem dX7_readWire_24 : decode cX7_readWire 24 = .ok (.iconst 1, 1) := by decide +kernel
theorem dX7_readWire_25 : decode cX7_readWire 25 = .ok (.iadd, 1) := by decide +kernel
theorem dX7_readWire_26 : decode cX7_readWire 26 = .ok (.putfield 31, 3) := by decide +kernel
theorem dX7_readWire_29 : decode cX7_readWire 29 = .ok (.aload_n 0, 1) := by decide +kernel
theorem dX7_readWire_30 : decode cX7_readWire 30 = .ok (.iconst 3, 1) := by decide +kernel
theorem dX7_readWire_31 : decode cX7_readWire 31 = .ok (.invokevirtual 58, 3) := by decide +kernel
theorem dX7_readWire_34 : decode cX7_readWire 34 = .ok (.istore_n 2, 1) := by decide +kernel
theorem dX7_readWire_35 : decode cX7_readWire 35 = .ok (.aload_n 0, 1) := by decide +kernel
theorem dX7_readWire_36 : decode cX7_readWire 36 = .ok (.invokevirtual 62, 3) := by decide +kernel
theorem dX7_readWire_39 : decode cX7_readWire 39 = .ok (.aload_n 0, 1) := by decide +kernel
theorem dX7_readWire_40 : decode cX7_readWire 40 = .ok (.getfield 28, 3) := by decide +kernel
theorem dX7_readWire_43 : decode cX7_readWire 43 = .ok (.ifCond .ne 8, 3) := by decide +kernel
theorem dX7_readWire_46 : decode cX7_readWire 46 = .ok (.aload_n 1, 1) := by decide +kernel
theorem dX7_readWire_47 : decode cX7_readWire 47 = .ok (.iload_n 2, 1) := by decide +kernel
theorem dX7_readWire_48 : decode cX7_readWire 48 = .ok (.invokevirtual 65, 3) := by decide +kernel
theorem dX7_readWire_51 : decode cX7_readWire 51 = .ok (.return_, 1) := by decide +kernel
theorem dX7_readGate_0 : decode cX7_readGate 0 = .ok (.aload_n 1, 1) := by decide +kernel
theorem dX7_readGate_1 : decode cX7_readGate 1 = .ok (.getfield 69, 3) := by decide +kernel
theorem dX7_readGate_4 : decode cX7_readGate 4 = .ok (.istore_n 2, 1) := by decide +kernel
theorem dX7_readGate_5 : decode cX7_readGate 5 = .ok (.iload_n 2, 1) := by decide +kernel
theorem dX7_readGate_6 : decode cX7_readGate 6 = .ok (.bipush 8, 2) := by decide +kernel
theorem dX7_readGate_8 : decode cX7_readGate 8 = .ok (.if_icmp .lt 13, 3) := by decide +kernel
theorem dX7_readGate_11 : decode cX7_readGate 11 = .ok (.aload_n 0, 1) := by decide +kernel
theorem dX7_readGate_12 : decode cX7_readGate 12 = .ok (.iconst 3, 1) := by decide +kernel
theorem dX7_readGate_13 : decode cX7_readGate 13 = .ok (.aload_n 0, 1) := by decide +kernel
theorem dX7_readGate_14 : decode cX7_readGate 14 = .ok (.getfield 31, 3) := by decide +kernel
theorem dX7_readGate_17 : decode cX7_readGate 17 = .ok (.invokevirtual 51, 3) := by decide +kernel
theorem dX7_readGate_20 : decode cX7_readGate 20 = .ok (.return_, 1) := by decide +kernel
theorem dX7_readGate_21 : decode cX7_readGate 21 = .ok (.aload_n 0, 1) := by decide +kernel
theorem dX7_readGate_22 : decode cX7_readGate 22 = .ok (.dup, 1) := by decide +kernel
theorem dX7_readGate_23 : decode cX7_readGate 23 = .ok (.getfield 31, 3) := by decide +kernel
theorem dX7_readGate_26 : decode cX7_readGate 26 = .ok (.iconst 1, 1) := by decide +kernel
theorem dX7_readGate_27 : decode cX7_readGate 27 = .ok (.iadd, 1) := by decide +kernel
theorem dX7_readGate_28 : decode cX7_readGate 28 = .ok (.putfield 31, 3) := by decide +kernel
theorem dX7_readGate_31 : decode cX7_readGate 31 = .ok (.aload_n 1, 1) := by decide +kernel
theorem dX7_readGate_32 : decode cX7_readGate 32 = .ok (.getfield 55, 3) := by decide +kernel
theorem dX7_readGate_35 : decode cX7_readGate 35 = .ok (.iconst 1, 1) := by decide +kernel
theorem dX7_readGate_36 : decode cX7_readGate 36 = .ok (.isub, 1) := by decide +kernel
theorem dX7_readGate_37 : decode cX7_readGate 37 = .ok (.istore_n 3, 1) := by decide +kernel
theorem dX7_readGate_38 : decode cX7_readGate 38 = .ok (.aload_n 1, 1) := by decide +kernel
theorem dX7_readGate_39 : decode cX7_readGate 39 = .ok (.getfield 72, 3) := by decide +kernel
theorem dX7_readGate_42 : decode cX7_readGate 42 = .ok (.iload_n 2, 1) := by decide +kernel
theorem dX7_readGate_43 : decode cX7_readGate 43 = .ok (.aload_n 0, 1) := by decide +kernel
theorem dX7_readGate_44 : decode cX7_readGate 44 = .ok (.iconst 5, 1) := by decide +kernel
theorem dX7_readGate_45 : decode cX7_readGate 45 = .ok (.invokevirtual 58, 3) := by decide +kernel
theorem dX7_readGate_48 : decode cX7_readGate 48 = .ok (.iastore, 1) := by decide +kernel
theorem dX7_readGate_49 : decode cX7_readGate 49 = .ok (.aload_n 1, 1) := by decide +kernel
theorem dX7_readGate_50 : decode cX7_readGate 50 = .ok (.getfield 77, 3) := by decide +kernel
theorem dX7_readGate_53 : decode cX7_readGate 53 = .ok (.iload_n 2, 1) := by decide +kernel
theorem dX7_readGate_54 : decode cX7_readGate 54 = .ok (.aload_n 0, 1) := by decide +kernel
theorem dX7_readGate_55 : decode cX7_readGate 55 = .ok (.iload_n 3, 1) := by decide +kernel
theorem dX7_readGate_56 : decode cX7_readGate 56 = .ok (.invokevirtual 58, 3) := by decide +kernel
theorem dX7_readGate_59 : decode cX7_readGate 59 = .ok (.iastore, 1) := by decide +kernel
theorem dX7_readGate_60 : decode cX7_readGate 60 = .ok (.aload_n 1, 1) := by decide +kernel
theorem dX7_readGate_61 : decode cX7_readGate 61 = .ok (.getfield 80, 3) := by decide +kernel
theorem dX7_readGate_64 : decode cX7_readGate 64 = .ok (.iload_n 2, 1) := by decide +kernel
theorem dX7_readGate_65 : decode cX7_readGate 65 = .ok (.aload_n 0, 1) := by decide +kernel
theorem dX7_readGate_66 : decode cX7_readGate 66 = .ok (.iload_n 3, 1) := by decide +kernel
theorem dX7_readGate_67 : decode cX7_readGate 67 = .ok (.invokevirtual 58, 3) := by decide +kernel
theorem dX7_readGate_70 : decode cX7_readGate 70 = .ok (.iastore, 1) := by decide +kernel
theorem dX7_readGate_71 : decode cX7_readGate 71 = .ok (.aload_n 1, 1) := by decide +kernel
theorem dX7_readGate_72 : decode cX7_readGate 72 = .ok (.getfield 83, 3) := by decide +kernel
theorem dX7_readGate_75 : decode cX7_readGate 75 = .ok (.iload_n 2, 1) := by decide +kernel
theorem dX7_readGate_76 : decode cX7_readGate 76 = .ok (.aload_n 0, 1) := by decide +kernel
theorem dX7_readGate_77 : decode cX7_readGate 77 = .ok (.iload_n 3, 1) := by decide +kernel
theorem dX7_readGate_78 : decode cX7_readGate 78 = .ok (.invokevirtual 58, 3) := by decide +kernel
theorem dX7_readGate_81 : decode cX7_readGate 81 = .ok (.iastore, 1) := by decide +kernel
theorem dX7_readGate_82 : decode cX7_readGate 82 = .ok (.aload_n 1, 1) := by decide +kernel
theorem dX7_readGate_83 : decode cX7_readGate 83 = .ok (.getfield 86, 3) := by decide +kernel
theorem dX7_readGate_86 : decode cX7_readGate 86 = .ok (.iload_n 2, 1) := by decide +kernel
theorem dX7_readGate_87 : decode cX7_readGate 87 = .ok (.aload_n 0, 1) := by decide +kernel
theorem dX7_readGate_88 : decode cX7_readGate 88 = .ok (.bipush 20, 2) := by decide +kernel
theorem dX7_readGate_90 : decode cX7_readGate 90 = .ok (.invokevirtual 58, 3) := by decide +kernel
theorem dX7_readGate_93 : decode cX7_readGate 93 = .ok (.iastore, 1) := by decide +kernel
theorem dX7_readGate_94 : decode cX7_readGate 94 = .ok (.aload_n 1, 1) := by decide +kernel
theorem dX7_readGate_95 : decode cX7_readGate 95 = .ok (.getfield 86, 3) := by decide +kernel
theorem dX7_readGate_98 : decode cX7_readGate 98 = .ok (.iload_n 2, 1) := by decide +kernel
theorem dX7_readGate_99 : decode cX7_readGate 99 = .ok (.iaload, 1) := by decide +kernel
theorem dX7_readGate_100 : decode cX7_readGate 100 = .ok (.ifCond .ne 30, 3) := by decide +kernel
theorem dX7_readGate_103 : decode cX7_readGate 103 = .ok (.aload_n 1, 1) := by decide +kernel
theorem dX7_readGate_104 : decode cX7_readGate 104 = .ok (.iload_n 2, 1) := by decide +kernel
theorem dX7_readGate_105 : decode cX7_readGate 105 = .ok (.invokevirtual 89, 3) := by decide +kernel
theorem dX7_readGate_108 : decode cX7_readGate 108 = .ok (.aload_n 1, 1) := by decide +kernel
theorem dX7_readGate_109 : decode cX7_readGate 109 = .ok (.getfield 83, 3) := by decide +kernel
theorem dX7_readGate_112 : decode cX7_readGate 112 = .ok (.iload_n 2, 1) := by decide +kernel
theorem dX7_readGate_113 : decode cX7_readGate 113 = .ok (.iaload, 1) := by decide +kernel
theorem dX7_readGate_114 : decode cX7_readGate 114 = .ok (.ishr, 1) := by decide +kernel
theorem dX7_readGate_115 : decode cX7_readGate 115 = .ok (.iconst 1, 1) := by decide +kernel
theorem dX7_readGate_116 : decode cX7_readGate 116 = .ok (.iand, 1) := by decide +kernel
theorem dX7_readGate_117 : decode cX7_readGate 117 = .ok (.iconst 1, 1) := by decide +kernel
theorem dX7_readGate_118 : decode cX7_readGate 118 = .ok (.if_icmp .ne 12, 3) := by decide +kernel
theorem dX7_readGate_121 : decode cX7_readGate 121 = .ok (.aload_n 0, 1) := by decide +kernel
theorem dX7_readGate_122 : decode cX7_readGate 122 = .ok (.iconst 4, 1) := by decide +kernel
theorem dX7_readGate_123 : decode cX7_readGate 123 = .ok (.aload_n 0, 1) := by decide +kernel
theorem dX7_readGate_124 : decode cX7_readGate 124 = .ok (.getfield 92, 3) := by decide +kernel
theorem dX7_readGate_127 : decode cX7_readGate 127 = .ok (.invokevirtual 51, 3) := by decide +kernel
theorem dX7_readGate_130 : decode cX7_readGate 130 = .ok (.aload_n 1, 1) := by decide +kernel
theorem dX7_readGate_131 : decode cX7_readGate 131 = .ok (.getfield 95, 3) := by decide +kernel
theorem dX7_readGate_134 : decode cX7_readGate 134 = .ok (.iload_n 2, 1) := by decide +kernel
theorem dX7_readGate_135 : decode cX7_readGate 135 = .ok (.aload_n 0, 1) := by decide +kernel
theorem dX7_readGate_136 : decode cX7_readGate 136 = .ok (.iconst 1, 1) := by decide +kernel
theorem dX7_readGate_137 : decode cX7_readGate 137 = .ok (.invokevirtual 58, 3) := by decide +kernel
theorem dX7_readGate_140 : decode cX7_readGate 140 = .ok (.iastore, 1) := by decide +kernel
theorem dX7_readGate_141 : decode cX7_readGate 141 = .ok (.aload_n 0, 1) := by decide +kernel
theorem dX7_readGate_142 : decode cX7_readGate 142 = .ok (.invokevirtual 62, 3) := by decide +kernel
theorem dX7_readGate_145 : decode cX7_readGate 145 = .ok (.aload_n 0, 1) := by decide +kernel
theorem dX7_readGate_146 : decode cX7_readGate 146 = .ok (.getfield 28, 3) := by decide +kernel
theorem dX7_readGate_149 : decode cX7_readGate 149 = .ok (.ifCond .ne 13, 3) := by decide +kernel
theorem dX7_readGate_152 : decode cX7_readGate 152 = .ok (.aload_n 1, 1) := by decide +kernel
theorem dX7_readGate_153 : decode cX7_readGate 153 = .ok (.dup, 1) := by decide +kernel
theorem dX7_readGate_154 : decode cX7_readGate 154 = .ok (.getfield 69, 3) := by decide +kernel
theorem dX7_readGate_157 : decode cX7_readGate 157 = .ok (.iconst 1, 1) := by decide +kernel
theorem dX7_readGate_158 : decode cX7_readGate 158 = .ok (.iadd, 1) := by decide +kernel
theorem dX7_readGate_159 : decode cX7_readGate 159 = .ok (.putfield 69, 3) := by decide +kernel
theorem dX7_readGate_162 : decode cX7_readGate 162 = .ok (.return_, 1) := by decide +kernel
theorem dX7_readNumber_0 : decode cX7_readNumber 0 = .ok (.aload_n 0, 1) := by decide +kernel
theorem dX7_readNumber_1 : decode cX7_readNumber 1 = .ok (.invokevirtual 34, 3) := by decide +kernel
theorem dX7_readNumber_4 : decode cX7_readNumber 4 = .ok (.aload_n 0, 1) := by decide +kernel
theorem dX7_readNumber_5 : decode cX7_readNumber 5 = .ok (.aload_n 0, 1) := by decide +kernel
theorem dX7_readNumber_6 : decode cX7_readNumber 6 = .ok (.getfield 31, 3) := by decide +kernel
theorem dX7_readNumber_9 : decode cX7_readNumber 9 = .ok (.putfield 92, 3) := by decide +kernel
theorem dX7_readNumber_12 : decode cX7_readNumber 12 = .ok (.aload_n 0, 1) := by decide +kernel
theorem dX7_readNumber_13 : decode cX7_readNumber 13 = .ok (.invokevirtual 41, 3) := by decide +kernel
theorem dX7_readNumber_16 : decode cX7_readNumber 16 = .ok (.invokestatic 98, 3) := by decide +kernel
theorem dX7_readNumber_19 : decode cX7_readNumber 19 = .ok (.ifCond .ne 14, 3) := by decide +kernel
theorem dX7_readNumber_22 : decode cX7_readNumber 22 = .ok (.aload_n 0, 1) := by decide +kernel
theorem dX7_readNumber_23 : decode cX7_readNumber 23 = .ok (.iconst 1, 1) := by decide +kernel
theorem dX7_readNumber_24 : decode cX7_readNumber 24 = .ok (.aload_n 0, 1) := by decide +kernel
theorem dX7_readNumber_25 : decode cX7_readNumber 25 = .ok (.getfield 31, 3) := by decide +kernel
theorem dX7_readNumber_28 : decode cX7_readNumber 28 = .ok (.invokevirtual 51, 3) := by decide +kernel
theorem dX7_readNumber_31 : decode cX7_readNumber 31 = .ok (.iconst 0, 1) := by decide +kernel
theorem dX7_readNumber_32 : decode cX7_readNumber 32 = .ok (.ireturn, 1) := by decide +kernel
theorem dX7_readNumber_33 : decode cX7_readNumber 33 = .ok (.iconst 0, 1) := by decide +kernel
theorem dX7_readNumber_34 : decode cX7_readNumber 34 = .ok (.istore_n 2, 1) := by decide +kernel
theorem dX7_readNumber_35 : decode cX7_readNumber 35 = .ok (.iconst 0, 1) := by decide +kernel
theorem dX7_readNumber_36 : decode cX7_readNumber 36 = .ok (.istore_n 3, 1) := by decide +kernel
theorem dX7_readNumber_37 : decode cX7_readNumber 37 = .ok (.aload_n 0, 1) := by decide +kernel
theorem dX7_readNumber_38 : decode cX7_readNumber 38 = .ok (.getfield 31, 3) := by decide +kernel
theorem dX7_readNumber_41 : decode cX7_readNumber 41 = .ok (.aload_n 0, 1) := by decide +kernel
theorem dX7_readNumber_42 : decode cX7_readNumber 42 = .ok (.getfield 19, 3) := by decide +kernel
theorem dX7_readNumber_45 : decode cX7_readNumber 45 = .ok (.if_icmp .ge 51, 3) := by decide +kernel
theorem dX7_readNumber_48 : decode cX7_readNumber 48 = .ok (.aload_n 0, 1) := by decide +kernel
theorem dX7_readNumber_49 : decode cX7_readNumber 49 = .ok (.invokevirtual 41, 3) := by decide +kernel
theorem dX7_readNumber_52 : decode cX7_readNumber 52 = .ok (.invokestatic 98, 3) := by decide +kernel
theorem dX7_readNumber_55 : decode cX7_readNumber 55 = .ok (.ifCond .eq 41, 3) := by decide +kernel
theorem dX7_readNumber_58 : decode cX7_readNumber 58 = .ok (.iload_n 3, 1) := by decide +kernel
theorem dX7_readNumber_59 : decode cX7_readNumber 59 = .ok (.iconst 2, 1) := by decide +kernel
theorem dX7_readNumber_60 : decode cX7_readNumber 60 = .ok (.if_icmp .ge 18, 3) := by decide +kernel
theorem dX7_readNumber_63 : decode cX7_readNumber 63 = .ok (.iload_n 2, 1) := by decide +kernel
theorem dX7_readNumber_64 : decode cX7_readNumber 64 = .ok (.bipush 10, 2) := by decide +kernel
theorem dX7_readNumber_66 : decode cX7_readNumber 66 = .ok (.imul, 1) := by decide +kernel
theorem dX7_readNumber_67 : decode cX7_readNumber 67 = .ok (.aload_n 0, 1) := by decide +kernel
theorem dX7_readNumber_68 : decode cX7_readNumber 68 = .ok (.invokevirtual 41, 3) := by decide +kernel
theorem dX7_readNumber_71 : decode cX7_readNumber 71 = .ok (.iadd, 1) := by decide +kernel
theorem dX7_readNumber_72 : decode cX7_readNumber 72 = .ok (.bipush 48, 2) := by decide +kernel
theorem dX7_readNumber_74 : decode cX7_readNumber 74 = .ok (.isub, 1) := by decide +kernel
theorem dX7_readNumber_75 : decode cX7_readNumber 75 = .ok (.goto 4, 3) := by decide +kernel
theorem dX7_readNumber_78 : decode cX7_readNumber 78 = .ok (.iload_n 2, 1) := by decide +kernel
theorem dX7_readNumber_79 : decode cX7_readNumber 79 = .ok (.istore_n 2, 1) := by decide +kernel
theorem dX7_readNumber_80 : decode cX7_readNumber 80 = .ok (.iinc 3 1, 3) := by decide +kernel
theorem dX7_readNumber_83 : decode cX7_readNumber 83 = .ok (.aload_n 0, 1) := by decide +kernel
theorem dX7_readNumber_84 : decode cX7_readNumber 84 = .ok (.dup, 1) := by decide +kernel
theorem dX7_readNumber_85 : decode cX7_readNumber 85 = .ok (.getfield 31, 3) := by decide +kernel
theorem dX7_readNumber_88 : decode cX7_readNumber 88 = .ok (.iconst 1, 1) := by decide +kernel
theorem dX7_readNumber_89 : decode cX7_readNumber 89 = .ok (.iadd, 1) := by decide +kernel
theorem dX7_readNumber_90 : decode cX7_readNumber 90 = .ok (.putfield 31, 3) := by decide +kernel
theorem dX7_readNumber_93 : decode cX7_readNumber 93 = .ok (.goto (-56), 3) := by decide +kernel
theorem dX7_readNumber_96 : decode cX7_readNumber 96 = .ok (.iload_n 3, 1) := by decide +kernel
theorem dX7_readNumber_97 : decode cX7_readNumber 97 = .ok (.iconst 2, 1) := by decide +kernel
theorem dX7_readNumber_98 : decode cX7_readNumber 98 = .ok (.if_icmp .gt 8, 3) := by decide +kernel
theorem dX7_readNumber_101 : decode cX7_readNumber 101 = .ok (.iload_n 2, 1) := by decide +kernel
theorem dX7_readNumber_102 : decode cX7_readNumber 102 = .ok (.iload_n 1, 1) := by decide +kernel
theorem dX7_readNumber_103 : decode cX7_readNumber 103 = .ok (.if_icmp .le 14, 3) := by decide +kernel
theorem dX7_readNumber_106 : decode cX7_readNumber 106 = .ok (.aload_n 0, 1) := by decide +kernel
theorem dX7_readNumber_107 : decode cX7_readNumber 107 = .ok (.iconst 2, 1) := by decide +kernel
theorem dX7_readNumber_108 : decode cX7_readNumber 108 = .ok (.aload_n 0, 1) := by decide +kernel
theorem dX7_readNumber_109 : decode cX7_readNumber 109 = .ok (.getfield 92, 3) := by decide +kernel
theorem dX7_readNumber_112 : decode cX7_readNumber 112 = .ok (.invokevirtual 51, 3) := by decide +kernel
theorem dX7_readNumber_115 : decode cX7_readNumber 115 = .ok (.iconst 0, 1) := by decide +kernel
theorem dX7_readNumber_116 : decode cX7_readNumber 116 = .ok (.ireturn, 1) := by decide +kernel
theorem dX7_readNumber_117 : decode cX7_readNumber 117 = .ok (.iload_n 2, 1) := by decide +kernel
theorem dX7_readNumber_118 : decode cX7_readNumber 118 = .ok (.ireturn, 1) := by decide +kernel
theorem dX7_readEnd_0 : decode cX7_readEnd 0 = .ok (.aload_n 0, 1) := by decide +kernel
theorem dX7_readEnd_1 : decode cX7_readEnd 1 = .ok (.invokevirtual 34, 3) := by decide +kernel
theorem dX7_readEnd_4 : decode cX7_readEnd 4 = .ok (.aload_n 0, 1) := by decide +kernel
theorem dX7_readEnd_5 : decode cX7_readEnd 5 = .ok (.invokevirtual 41, 3) := by decide +kernel
theorem dX7_readEnd_8 : decode cX7_readEnd 8 = .ok (.bipush 59, 2) := by decide +kernel
theorem dX7_readEnd_10 : decode cX7_readEnd 10 = .ok (.if_icmp .eq 12, 3) := by decide +kernel
theorem dX7_readEnd_13 : decode cX7_readEnd 13 = .ok (.aload_n 0, 1) := by decide +kernel
theorem dX7_readEnd_14 : decode cX7_readEnd 14 = .ok (.iconst 1, 1) := by decide +kernel
theorem dX7_readEnd_15 : decode cX7_readEnd 15 = .ok (.aload_n 0, 1) := by decide +kernel
theorem dX7_readEnd_16 : decode cX7_readEnd 16 = .ok (.getfield 31, 3) := by decide +kernel
theorem dX7_readEnd_19 : decode cX7_readEnd 19 = .ok (.invokevirtual 51, 3) := by decide +kernel
theorem dX7_readEnd_22 : decode cX7_readEnd 22 = .ok (.aload_n 0, 1) := by decide +kernel
theorem dX7_readEnd_23 : decode cX7_readEnd 23 = .ok (.dup, 1) := by decide +kernel
theorem dX7_readEnd_24 : decode cX7_readEnd 24 = .ok (.getfield 31, 3) := by decide +kernel
theorem dX7_readEnd_27 : decode cX7_readEnd 27 = .ok (.iconst 1, 1) := by decide +kernel
theorem dX7_readEnd_28 : decode cX7_readEnd 28 = .ok (.iadd, 1) := by decide +kernel
theorem dX7_readEnd_29 : decode cX7_readEnd 29 = .ok (.putfield 31, 3) := by decide +kernel
theorem dX7_readEnd_32 : decode cX7_readEnd 32 = .ok (.return_, 1) := by decide +kernel
theorem dX7_skipBlanks_0 : decode cX7_skipBlanks 0 = .ok (.aload_n 0, 1) := by decide +kernel
theorem dX7_skipBlanks_1 : decode cX7_skipBlanks 1 = .ok (.getfield 31, 3) := by decide +kernel
theorem dX7_skipBlanks_4 : decode cX7_skipBlanks 4 = .ok (.aload_n 0, 1) := by decide +kernel
theorem dX7_skipBlanks_5 : decode cX7_skipBlanks 5 = .ok (.getfield 19, 3) := by decide +kernel
theorem dX7_skipBlanks_8 : decode cX7_skipBlanks 8 = .ok (.if_icmp .ge 25, 3) := by decide +kernel
theorem dX7_skipBlanks_11 : decode cX7_skipBlanks 11 = .ok (.aload_n 0, 1) := by decide +kernel
theorem dX7_skipBlanks_12 : decode cX7_skipBlanks 12 = .ok (.invokevirtual 41, 3) := by decide +kernel
theorem dX7_skipBlanks_15 : decode cX7_skipBlanks 15 = .ok (.bipush 32, 2) := by decide +kernel
theorem dX7_skipBlanks_17 : decode cX7_skipBlanks 17 = .ok (.if_icmp .ne 16, 3) := by decide +kernel
theorem dX7_skipBlanks_20 : decode cX7_skipBlanks 20 = .ok (.aload_n 0, 1) := by decide +kernel
theorem dX7_skipBlanks_21 : decode cX7_skipBlanks 21 = .ok (.dup, 1) := by decide +kernel
theorem dX7_skipBlanks_22 : decode cX7_skipBlanks 22 = .ok (.getfield 31, 3) := by decide +kernel
theorem dX7_skipBlanks_25 : decode cX7_skipBlanks 25 = .ok (.iconst 1, 1) := by decide +kernel
theorem dX7_skipBlanks_26 : decode cX7_skipBlanks 26 = .ok (.iadd, 1) := by decide +kernel
theorem dX7_skipBlanks_27 : decode cX7_skipBlanks 27 = .ok (.putfield 31, 3) := by decide +kernel
theorem dX7_skipBlanks_30 : decode cX7_skipBlanks 30 = .ok (.goto (-30), 3) := by decide +kernel
theorem dX7_skipBlanks_33 : decode cX7_skipBlanks 33 = .ok (.return_, 1) := by decide +kernel
theorem dX7_letterHere_0 : decode cX7_letterHere 0 = .ok (.aload_n 0, 1) := by decide +kernel
theorem dX7_letterHere_1 : decode cX7_letterHere 1 = .ok (.getfield 31, 3) := by decide +kernel
theorem dX7_letterHere_4 : decode cX7_letterHere 4 = .ok (.ifCond .lt 26, 3) := by decide +kernel
theorem dX7_letterHere_7 : decode cX7_letterHere 7 = .ok (.aload_n 0, 1) := by decide +kernel
theorem dX7_letterHere_8 : decode cX7_letterHere 8 = .ok (.getfield 31, 3) := by decide +kernel
theorem dX7_letterHere_11 : decode cX7_letterHere 11 = .ok (.aload_n 0, 1) := by decide +kernel
theorem dX7_letterHere_12 : decode cX7_letterHere 12 = .ok (.getfield 19, 3) := by decide +kernel
theorem dX7_letterHere_15 : decode cX7_letterHere 15 = .ok (.if_icmp .ge 15, 3) := by decide +kernel
theorem dX7_letterHere_18 : decode cX7_letterHere 18 = .ok (.aload_n 0, 1) := by decide +kernel
theorem dX7_letterHere_19 : decode cX7_letterHere 19 = .ok (.getfield 11, 3) := by decide +kernel
theorem dX7_letterHere_22 : decode cX7_letterHere 22 = .ok (.aload_n 0, 1) := by decide +kernel
theorem dX7_letterHere_23 : decode cX7_letterHere 23 = .ok (.getfield 31, 3) := by decide +kernel
theorem dX7_letterHere_26 : decode cX7_letterHere 26 = .ok (.iaload, 1) := by decide +kernel
theorem dX7_letterHere_27 : decode cX7_letterHere 27 = .ok (.goto 4, 3) := by decide +kernel
theorem dX7_letterHere_30 : decode cX7_letterHere 30 = .ok (.iconst (-1), 1) := by decide +kernel
theorem dX7_letterHere_31 : decode cX7_letterHere 31 = .ok (.ireturn, 1) := by decide +kernel
theorem dX7_isFigure_0 : decode cX7_isFigure 0 = .ok (.iload_n 0, 1) := by decide +kernel
theorem dX7_isFigure_1 : decode cX7_isFigure 1 = .ok (.bipush 48, 2) := by decide +kernel
theorem dX7_isFigure_3 : decode cX7_isFigure 3 = .ok (.if_icmp .lt 13, 3) := by decide +kernel
theorem dX7_isFigure_6 : decode cX7_isFigure 6 = .ok (.iload_n 0, 1) := by decide +kernel
theorem dX7_isFigure_7 : decode cX7_isFigure 7 = .ok (.bipush 57, 2) := by decide +kernel
theorem dX7_isFigure_9 : decode cX7_isFigure 9 = .ok (.if_icmp .gt 7, 3) := by decide +kernel
theorem dX7_isFigure_12 : decode cX7_isFigure 12 = .ok (.iconst 1, 1) := by decide +kernel
theorem dX7_isFigure_13 : decode cX7_isFigure 13 = .ok (.goto 4, 3) := by decide +kernel
theorem dX7_isFigure_16 : decode cX7_isFigure 16 = .ok (.iconst 0, 1) := by decide +kernel
theorem dX7_isFigure_17 : decode cX7_isFigure 17 = .ok (.ireturn, 1) := by decide +kernel
theorem dX7_findFault_0 : decode cX7_findFault 0 = .ok (.aload_n 0, 1) := by decide +kernel
theorem dX7_findFault_1 : decode cX7_findFault 1 = .ok (.getfield 28, 3) := by decide +kernel
theorem dX7_findFault_4 : decode cX7_findFault 4 = .ok (.ifCond .ne 13, 3) := by decide +kernel
theorem dX7_findFault_7 : decode cX7_findFault 7 = .ok (.aload_n 0, 1) := by decide +kernel
theorem dX7_findFault_8 : decode cX7_findFault 8 = .ok (.iload_n 1, 1) := by decide +kernel
theorem dX7_findFault_9 : decode cX7_findFault 9 = .ok (.putfield 28, 3) := by decide +kernel
theorem dX7_findFault_12 : decode cX7_findFault 12 = .ok (.aload_n 0, 1) := by decide +kernel
theorem dX7_findFault_13 : decode cX7_findFault 13 = .ok (.iload_n 2, 1) := by decide +kernel
theorem dX7_findFault_14 : decode cX7_findFault 14 = .ok (.putfield 15, 3) := by decide +kernel
theorem dX7_findFault_17 : decode cX7_findFault 17 = .ok (.return_, 1) := by decide +kernel
theorem dX8_init_0 : decode cX8_init 0 = .ok (.aload_n 0, 1) := by decide +kernel
theorem dX8_init_1 : decode cX8_init 1 = .ok (.invokespecial 1, 3) := by decide +kernel
theorem dX8_init_4 : decode cX8_init 4 = .ok (.aload_n 0, 1) := by decide +kernel
theorem dX8_init_5 : decode cX8_init 5 = .ok (.new 7, 3) := by decide +kernel
theorem dX8_init_8 : decode cX8_init 8 = .ok (.dup, 1) := by decide +kernel
theorem dX8_init_9 : decode cX8_init 9 = .ok (.invokespecial 9, 3) := by decide +kernel
theorem dX8_init_12 : decode cX8_init 12 = .ok (.putfield 10, 3) := by decide +kernel
theorem dX8_init_15 : decode cX8_init 15 = .ok (.aload_n 0, 1) := by decide +kernel
theorem dX8_init_16 : decode cX8_init 16 = .ok (.new 16, 3) := by decide +kernel
theorem dX8_init_19 : decode cX8_init 19 = .ok (.dup, 1) := by decide +kernel
theorem dX8_init_20 : decode cX8_init 20 = .ok (.invokespecial 18, 3) := by decide +kernel
theorem dX8_init_23 : decode cX8_init 23 = .ok (.putfield 19, 3) := by decide +kernel
theorem dX8_init_26 : decode cX8_init 26 = .ok (.aload_n 0, 1) := by decide +kernel
theorem dX8_init_27 : decode cX8_init 27 = .ok (.new 16, 3) := by decide +kernel
theorem dX8_init_30 : decode cX8_init 30 = .ok (.dup, 1) := by decide +kernel
theorem dX8_init_31 : decode cX8_init 31 = .ok (.invokespecial 18, 3) := by decide +kernel
theorem dX8_init_34 : decode cX8_init 34 = .ok (.putfield 23, 3) := by decide +kernel
theorem dX8_init_37 : decode cX8_init 37 = .ok (.aload_n 0, 1) := by decide +kernel
theorem dX8_init_38 : decode cX8_init 38 = .ok (.new 26, 3) := by decide +kernel
theorem dX8_init_41 : decode cX8_init 41 = .ok (.dup, 1) := by decide +kernel
theorem dX8_init_42 : decode cX8_init 42 = .ok (.invokespecial 28, 3) := by decide +kernel
theorem dX8_init_45 : decode cX8_init 45 = .ok (.putfield 29, 3) := by decide +kernel
theorem dX8_init_48 : decode cX8_init 48 = .ok (.aload_n 0, 1) := by decide +kernel
theorem dX8_init_49 : decode cX8_init 49 = .ok (.new 26, 3) := by decide +kernel
theorem dX8_init_52 : decode cX8_init 52 = .ok (.dup, 1) := by decide +kernel
theorem dX8_init_53 : decode cX8_init 53 = .ok (.invokespecial 28, 3) := by decide +kernel
theorem dX8_init_56 : decode cX8_init 56 = .ok (.putfield 33, 3) := by decide +kernel
theorem dX8_init_59 : decode cX8_init 59 = .ok (.aload_n 0, 1) := by decide +kernel
theorem dX8_init_60 : decode cX8_init 60 = .ok (.new 36, 3) := by decide +kernel
theorem dX8_init_63 : decode cX8_init 63 = .ok (.dup, 1) := by decide +kernel
theorem dX8_init_64 : decode cX8_init 64 = .ok (.invokespecial 38, 3) := by decide +kernel
theorem dX8_init_67 : decode cX8_init 67 = .ok (.putfield 39, 3) := by decide +kernel
theorem dX8_init_70 : decode cX8_init 70 = .ok (.aload_n 0, 1) := by decide +kernel
theorem dX8_init_71 : decode cX8_init 71 = .ok (.new 43, 3) := by decide +kernel
theorem dX8_init_74 : decode cX8_init 74 = .ok (.dup, 1) := by decide +kernel
theorem dX8_init_75 : decode cX8_init 75 = .ok (.invokespecial 45, 3) := by decide +kernel
theorem dX8_init_78 : decode cX8_init 78 = .ok (.putfield 46, 3) := by decide +kernel
theorem dX8_init_81 : decode cX8_init 81 = .ok (.aload_n 0, 1) := by decide +kernel
theorem dX8_init_82 : decode cX8_init 82 = .ok (.new 43, 3) := by decide +kernel
theorem dX8_init_85 : decode cX8_init 85 = .ok (.dup, 1) := by decide +kernel
theorem dX8_init_86 : decode cX8_init 86 = .ok (.invokespecial 45, 3) := by decide +kernel
theorem dX8_init_89 : decode cX8_init 89 = .ok (.putfield 50, 3) := by decide +kernel
theorem dX8_init_92 : decode cX8_init 92 = .ok (.aload_n 0, 1) := by decide +kernel
theorem dX8_init_93 : decode cX8_init 93 = .ok (.new 53, 3) := by decide +kernel
theorem dX8_init_96 : decode cX8_init 96 = .ok (.dup, 1) := by decide +kernel
theorem dX8_init_97 : decode cX8_init 97 = .ok (.invokespecial 55, 3) := by decide +kernel
theorem dX8_init_100 : decode cX8_init 100 = .ok (.putfield 56, 3) := by decide +kernel
theorem dX8_init_103 : decode cX8_init 103 = .ok (.aload_n 0, 1) := by decide +kernel
theorem dX8_init_104 : decode cX8_init 104 = .ok (.new 60, 3) := by decide +kernel
theorem dX8_init_107 : decode cX8_init 107 = .ok (.dup, 1) := by decide +kernel
theorem dX8_init_108 : decode cX8_init 108 = .ok (.invokespecial 62, 3) := by decide +kernel
theorem dX8_init_111 : decode cX8_init 111 = .ok (.putfield 63, 3) := by decide +kernel
theorem dX8_init_114 : decode cX8_init 114 = .ok (.return_, 1) := by decide +kernel
theorem dX8_feed_0 : decode cX8_feed 0 = .ok (.iload_n 1, 1) := by decide +kernel
theorem dX8_feed_1 : decode cX8_feed 1 = .ok (.ifCond .lt 10, 3) := by decide +kernel
theorem dX8_feed_4 : decode cX8_feed 4 = .ok (.iload_n 1, 1) := by decide +kernel
theorem dX8_feed_5 : decode cX8_feed 5 = .ok (.sipush 255, 3) := by decide +kernel
theorem dX8_feed_8 : decode cX8_feed 8 = .ok (.if_icmp .le 6, 3) := by decide +kernel
theorem dX8_feed_11 : decode cX8_feed 11 = .ok (.ldc 67, 2) := by decide +kernel
theorem dX8_feed_13 : decode cX8_feed 13 = .ok (.ireturn, 1) := by decide +kernel
theorem dX8_feed_14 : decode cX8_feed 14 = .ok (.aload_n 0, 1) := by decide +kernel
theorem dX8_feed_15 : decode cX8_feed 15 = .ok (.getfield 10, 3) := by decide +kernel
theorem dX8_feed_18 : decode cX8_feed 18 = .ok (.iload_n 1, 1) := by decide +kernel
theorem dX8_feed_19 : decode cX8_feed 19 = .ok (.invokevirtual 68, 3) := by decide +kernel
theorem dX8_feed_22 : decode cX8_feed 22 = .ok (.ireturn, 1) := by decide +kernel
theorem dX8_wires_0 : decode cX8_wires 0 = .ok (.aload_n 0, 1) := by decide +kernel
theorem dX8_wires_1 : decode cX8_wires 1 = .ok (.getfield 10, 3) := by decide +kernel
theorem dX8_wires_4 : decode cX8_wires 4 = .ok (.aload_n 0, 1) := by decide +kernel
theorem dX8_wires_5 : decode cX8_wires 5 = .ok (.getfield 23, 3) := by decide +kernel
theorem dX8_wires_8 : decode cX8_wires 8 = .ok (.invokevirtual 72, 3) := by decide +kernel
theorem dX8_wires_11 : decode cX8_wires 11 = .ok (.istore_n 1, 1) := by decide +kernel
theorem dX8_wires_12 : decode cX8_wires 12 = .ok (.aload_n 0, 1) := by decide +kernel
theorem dX8_wires_13 : decode cX8_wires 13 = .ok (.getfield 10, 3) := by decide +kernel
theorem dX8_wires_16 : decode cX8_wires 16 = .ok (.invokevirtual 76, 3) := by decide +kernel
theorem dX8_wires_19 : decode cX8_wires 19 = .ok (.iload_n 1, 1) := by decide +kernel
theorem dX8_wires_20 : decode cX8_wires 20 = .ok (.ifCond .eq 8, 3) := by decide +kernel
theorem dX8_wires_23 : decode cX8_wires 23 = .ok (.bipush (-10), 2) := by decide +kernel
theorem dX8_wires_25 : decode cX8_wires 25 = .ok (.iload_n 1, 1) := by decide +kernel
theorem dX8_wires_26 : decode cX8_wires 26 = .ok (.isub, 1) := by decide +kernel
theorem dX8_wires_27 : decode cX8_wires 27 = .ok (.ireturn, 1) := by decide +kernel
theorem dX8_wires_28 : decode cX8_wires 28 = .ok (.aload_n 0, 1) := by decide +kernel
theorem dX8_wires_29 : decode cX8_wires 29 = .ok (.getfield 23, 3) := by decide +kernel
theorem dX8_wires_32 : decode cX8_wires 32 = .ok (.astore_n 2, 1) := by decide +kernel
theorem dX8_wires_33 : decode cX8_wires 33 = .ok (.aload_n 0, 1) := by decide +kernel
theorem dX8_wires_34 : decode cX8_wires 34 = .ok (.aload_n 0, 1) := by decide +kernel
theorem dX8_wires_35 : decode cX8_wires 35 = .ok (.getfield 19, 3) := by decide +kernel
theorem dX8_wires_38 : decode cX8_wires 38 = .ok (.putfield 23, 3) := by decide +kernel
theorem dX8_wires_41 : decode cX8_wires 41 = .ok (.aload_n 0, 1) := by decide +kernel
theorem dX8_wires_42 : decode cX8_wires 42 = .ok (.aload_n 2, 1) := by decide +kernel
theorem dX8_wires_43 : decode cX8_wires 43 = .ok (.putfield 19, 3) := by decide +kernel
theorem dX8_wires_46 : decode cX8_wires 46 = .ok (.aload_n 0, 1) := by decide +kernel
theorem dX8_wires_47 : decode cX8_wires 47 = .ok (.getfield 29, 3) := by decide +kernel
theorem dX8_wires_50 : decode cX8_wires 50 = .ok (.aload_n 0, 1) := by decide +kernel
theorem dX8_wires_51 : decode cX8_wires 51 = .ok (.getfield 19, 3) := by decide +kernel
theorem dX8_wires_54 : decode cX8_wires 54 = .ok (.invokevirtual 79, 3) := by decide +kernel
theorem dX8_wires_57 : decode cX8_wires 57 = .ok (.aload_n 0, 1) := by decide +kernel
theorem dX8_wires_58 : decode cX8_wires 58 = .ok (.getfield 39, 3) := by decide +kernel
theorem dX8_wires_61 : decode cX8_wires 61 = .ok (.invokevirtual 83, 3) := by decide +kernel
theorem dX8_wires_64 : decode cX8_wires 64 = .ok (.aload_n 0, 1) := by decide +kernel
theorem dX8_wires_65 : decode cX8_wires 65 = .ok (.getfield 46, 3) := by decide +kernel
theorem dX8_wires_68 : decode cX8_wires 68 = .ok (.invokevirtual 86, 3) := by decide +kernel
theorem dX8_wires_71 : decode cX8_wires 71 = .ok (.aload_n 0, 1) := by decide +kernel
theorem dX8_wires_72 : decode cX8_wires 72 = .ok (.getfield 50, 3) := by decide +kernel
theorem dX8_wires_75 : decode cX8_wires 75 = .ok (.invokevirtual 86, 3) := by decide +kernel
theorem dX8_wires_78 : decode cX8_wires 78 = .ok (.aload_n 0, 1) := by decide +kernel
theorem dX8_wires_79 : decode cX8_wires 79 = .ok (.getfield 56, 3) := by decide +kernel
theorem dX8_wires_82 : decode cX8_wires 82 = .ok (.invokevirtual 87, 3) := by decide +kernel
theorem dX8_wires_85 : decode cX8_wires 85 = .ok (.aload_n 0, 1) := by decide +kernel
theorem dX8_wires_86 : decode cX8_wires 86 = .ok (.getfield 19, 3) := by decide +kernel
theorem dX8_wires_89 : decode cX8_wires 89 = .ok (.getfield 90, 3) := by decide +kernel
theorem dX8_wires_92 : decode cX8_wires 92 = .ok (.ireturn, 1) := by decide +kernel
theorem dX8_fault_0 : decode cX8_fault 0 = .ok (.aload_n 0, 1) := by decide +kernel
theorem dX8_fault_1 : decode cX8_fault 1 = .ok (.getfield 10, 3) := by decide +kernel
theorem dX8_fault_4 : decode cX8_fault 4 = .ok (.getfield 94, 3) := by decide +kernel
theorem dX8_fault_7 : decode cX8_fault 7 = .ok (.ireturn, 1) := by decide +kernel
theorem dX8_told_0 : decode cX8_told 0 = .ok (.iload_n 1, 1) := by decide +kernel
theorem dX8_told_1 : decode cX8_told 1 = .ok (.tableswitch 208 0 13 #[71, 79, 87, 95, 103, 111, 127, 143, 155, 163, 168, 176, 184, 200], 71) := by decide +kernel
theorem dX8_told_72 : decode cX8_told 72 = .ok (.aload_n 0, 1) := by decide +kernel
theorem dX8_told_73 : decode cX8_told 73 = .ok (.getfield 19, 3) := by decide +kernel
theorem dX8_told_76 : decode cX8_told 76 = .ok (.getfield 90, 3) := by decide +kernel
theorem dX8_told_79 : decode cX8_told 79 = .ok (.ireturn, 1) := by decide +kernel
theorem dX8_told_80 : decode cX8_told 80 = .ok (.aload_n 0, 1) := by decide +kernel
theorem dX8_told_81 : decode cX8_told 81 = .ok (.getfield 19, 3) := by decide +kernel
theorem dX8_told_84 : decode cX8_told 84 = .ok (.getfield 97, 3) := by decide +kernel
theorem dX8_told_87 : decode cX8_told 87 = .ok (.ireturn, 1) := by decide +kernel
theorem dX8_told_88 : decode cX8_told 88 = .ok (.aload_n 0, 1) := by decide +kernel
theorem dX8_told_89 : decode cX8_told 89 = .ok (.getfield 10, 3) := by decide +kernel
theorem dX8_told_92 : decode cX8_told 92 = .ok (.getfield 100, 3) := by decide +kernel
theorem dX8_told_95 : decode cX8_told 95 = .ok (.ireturn, 1) := by decide +kernel
theorem dX8_told_96 : decode cX8_told 96 = .ok (.aload_n 0, 1) := by decide +kernel
theorem dX8_told_97 : decode cX8_told 97 = .ok (.getfield 29, 3) := by decide +kernel
theorem dX8_told_100 : decode cX8_told 100 = .ok (.getfield 103, 3) := by decide +kernel
theorem dX8_told_103 : decode cX8_told 103 = .ok (.ireturn, 1) := by decide +kernel
theorem dX8_told_104 : decode cX8_told 104 = .ok (.aload_n 0, 1) := by decide +kernel
theorem dX8_told_105 : decode cX8_told 105 = .ok (.getfield 29, 3) := by decide +kernel
theorem dX8_told_108 : decode cX8_told 108 = .ok (.getfield 106, 3) := by decide +kernel
theorem dX8_told_111 : decode cX8_told 111 = .ok (.ireturn, 1) := by decide +kernel
theorem dX8_told_112 : decode cX8_told 112 = .ok (.aload_n 0, 1) := by decide +kernel
theorem dX8_told_113 : decode cX8_told 113 = .ok (.getfield 29, 3) := by decide +kernel
theorem dX8_told_116 : decode cX8_told 116 = .ok (.getfield 109, 3) := by decide +kernel
theorem dX8_told_119 : decode cX8_told 119 = .ok (.ifCond .eq 7, 3) := by decide +kernel
theorem dX8_told_122 : decode cX8_told 122 = .ok (.iconst 1, 1) := by decide +kernel
theorem dX8_told_123 : decode cX8_told 123 = .ok (.goto 4, 3) := by decide +kernel
theorem dX8_told_126 : decode cX8_told 126 = .ok (.iconst 0, 1) := by decide +kernel
theorem dX8_told_127 : decode cX8_told 127 = .ok (.ireturn, 1) := by decide +kernel
theorem dX8_told_128 : decode cX8_told 128 = .ok (.aload_n 0, 1) := by decide +kernel
theorem dX8_told_129 : decode cX8_told 129 = .ok (.getfield 29, 3) := by decide +kernel
theorem dX8_told_132 : decode cX8_told 132 = .ok (.invokevirtual 113, 3) := by decide +kernel
theorem dX8_told_135 : decode cX8_told 135 = .ok (.ifCond .eq 7, 3) := by decide +kernel
theorem dX8_told_138 : decode cX8_told 138 = .ok (.iconst 1, 1) := by decide +kernel
theorem dX8_told_139 : decode cX8_told 139 = .ok (.goto 4, 3) := by decide +kernel
theorem dX8_told_142 : decode cX8_told 142 = .ok (.iconst 0, 1) := by decide +kernel
theorem dX8_told_143 : decode cX8_told 143 = .ok (.ireturn, 1) := by decide +kernel
theorem dX8_told_144 : decode cX8_told 144 = .ok (.aload_n 0, 1) := by decide +kernel
theorem dX8_told_145 : decode cX8_told 145 = .ok (.getfield 29, 3) := by decide +kernel
theorem dX8_told_148 : decode cX8_told 148 = .ok (.aload_n 0, 1) := by decide +kernel
theorem dX8_told_149 : decode cX8_told 149 = .ok (.getfield 19, 3) := by decide +kernel
theorem dX8_told_152 : decode cX8_told 152 = .ok (.invokevirtual 117, 3) := by decide +kernel
theorem dX8_told_155 : decode cX8_told 155 = .ok (.ireturn, 1) := by decide +kernel
theorem dX8_told_156 : decode cX8_told 156 = .ok (.aload_n 0, 1) := by decide +kernel
theorem dX8_told_157 : decode cX8_told 157 = .ok (.getfield 29, 3) := by decide +kernel
theorem dX8_told_160 : decode cX8_told 160 = .ok (.getfield 120, 3) := by decide +kernel
theorem dX8_told_163 : decode cX8_told 163 = .ok (.ireturn, 1) := by decide +kernel
theorem dX8_told_164 : decode cX8_told 164 = .ok (.aload_n 0, 1) := by decide +kernel
theorem dX8_told_165 : decode cX8_told 165 = .ok (.invokevirtual 123, 3) := by decide +kernel
theorem dX8_told_168 : decode cX8_told 168 = .ok (.ireturn, 1) := by decide +kernel
theorem dX8_told_169 : decode cX8_told 169 = .ok (.aload_n 0, 1) := by decide +kernel
theorem dX8_told_170 : decode cX8_told 170 = .ok (.getfield 29, 3) := by decide +kernel
theorem dX8_told_173 : decode cX8_told 173 = .ok (.getfield 127, 3) := by decide +kernel
theorem dX8_told_176 : decode cX8_told 176 = .ok (.ireturn, 1) := by decide +kernel
theorem dX8_told_177 : decode cX8_told 177 = .ok (.aload_n 0, 1) := by decide +kernel
theorem dX8_told_178 : decode cX8_told 178 = .ok (.getfield 56, 3) := by decide +kernel
theorem dX8_told_181 : decode cX8_told 181 = .ok (.getfield 130, 3) := by decide +kernel
theorem dX8_told_184 : decode cX8_told 184 = .ok (.ireturn, 1) := by decide +kernel
theorem dX8_told_185 : decode cX8_told 185 = .ok (.aload_n 0, 1) := by decide +kernel
theorem dX8_told_186 : decode cX8_told 186 = .ok (.getfield 56, 3) := by decide +kernel
theorem dX8_told_189 : decode cX8_told 189 = .ok (.aload_n 0, 1) := by decide +kernel
theorem dX8_told_190 : decode cX8_told 190 = .ok (.getfield 19, 3) := by decide +kernel
theorem dX8_told_193 : decode cX8_told 193 = .ok (.aload_n 0, 1) := by decide +kernel
theorem dX8_told_194 : decode cX8_told 194 = .ok (.getfield 29, 3) := by decide +kernel
theorem dX8_told_197 : decode cX8_told 197 = .ok (.invokevirtual 133, 3) := by decide +kernel
theorem dX8_told_200 : decode cX8_told 200 = .ok (.ireturn, 1) := by decide +kernel
theorem dX8_told_201 : decode cX8_told 201 = .ok (.aload_n 0, 1) := by decide +kernel
theorem dX8_told_202 : decode cX8_told 202 = .ok (.getfield 39, 3) := by decide +kernel
theorem dX8_told_205 : decode cX8_told 205 = .ok (.getfield 137, 3) := by decide +kernel
theorem dX8_told_208 : decode cX8_told 208 = .ok (.ireturn, 1) := by decide +kernel
theorem dX8_told_209 : decode cX8_told 209 = .ok (.ldc 67, 2) := by decide +kernel
theorem dX8_told_211 : decode cX8_told 211 = .ok (.ireturn, 1) := by decide +kernel
theorem dX8_wire_0 : decode cX8_wire 0 = .ok (.aload_n 0, 1) := by decide +kernel
theorem dX8_wire_1 : decode cX8_wire 1 = .ok (.getfield 19, 3) := by decide +kernel
theorem dX8_wire_4 : decode cX8_wire 4 = .ok (.iload_n 1, 1) := by decide +kernel
theorem dX8_wire_5 : decode cX8_wire 5 = .ok (.invokevirtual 138, 3) := by decide +kernel
theorem dX8_wire_8 : decode cX8_wire 8 = .ok (.ifCond .ne 6, 3) := by decide +kernel
theorem dX8_wire_11 : decode cX8_wire 11 = .ok (.ldc 142, 2) := by decide +kernel
theorem dX8_wire_13 : decode cX8_wire 13 = .ok (.ireturn, 1) := by decide +kernel
theorem dX8_wire_14 : decode cX8_wire 14 = .ok (.iload_n 2, 1) := by decide +kernel
theorem dX8_wire_15 : decode cX8_wire 15 = .ok (.tableswitch 81 0 4 #[33, 43, 52, 62, 72], 33) := by decide +kernel
theorem dX8_wire_48 : decode cX8_wire 48 = .ok (.aload_n 0, 1) := by decide +kernel
theorem dX8_wire_49 : decode cX8_wire 49 = .ok (.getfield 29, 3) := by decide +kernel
theorem dX8_wire_52 : decode cX8_wire 52 = .ok (.getfield 143, 3) := by decide +kernel
theorem dX8_wire_55 : decode cX8_wire 55 = .ok (.iload_n 1, 1) := by decide +kernel
theorem dX8_wire_56 : decode cX8_wire 56 = .ok (.iaload, 1) := by decide +kernel
theorem dX8_wire_57 : decode cX8_wire 57 = .ok (.ireturn, 1) := by decide +kernel
theorem dX8_wire_58 : decode cX8_wire 58 = .ok (.aload_n 0, 1) := by decide +kernel
theorem dX8_wire_59 : decode cX8_wire 59 = .ok (.getfield 19, 3) := by decide +kernel
theorem dX8_wire_62 : decode cX8_wire 62 = .ok (.iload_n 1, 1) := by decide +kernel
theorem dX8_wire_63 : decode cX8_wire 63 = .ok (.invokevirtual 147, 3) := by decide +kernel
theorem dX8_wire_66 : decode cX8_wire 66 = .ok (.ireturn, 1) := by decide +kernel
theorem dX8_wire_67 : decode cX8_wire 67 = .ok (.aload_n 0, 1) := by decide +kernel
theorem dX8_wire_68 : decode cX8_wire 68 = .ok (.getfield 29, 3) := by decide +kernel
theorem dX8_wire_71 : decode cX8_wire 71 = .ok (.getfield 150, 3) := by decide +kernel
theorem dX8_wire_74 : decode cX8_wire 74 = .ok (.iload_n 1, 1) := by decide +kernel
theorem dX8_wire_75 : decode cX8_wire 75 = .ok (.iaload, 1) := by decide +kernel
theorem dX8_wire_76 : decode cX8_wire 76 = .ok (.ireturn, 1) := by decide +kernel
theorem dX8_wire_77 : decode cX8_wire 77 = .ok (.aload_n 0, 1) := by decide +kernel
theorem dX8_wire_78 : decode cX8_wire 78 = .ok (.getfield 29, 3) := by decide +kernel
theorem dX8_wire_81 : decode cX8_wire 81 = .ok (.getfield 153, 3) := by decide +kernel
theorem dX8_wire_84 : decode cX8_wire 84 = .ok (.iload_n 1, 1) := by decide +kernel
theorem dX8_wire_85 : decode cX8_wire 85 = .ok (.iaload, 1) := by decide +kernel
theorem dX8_wire_86 : decode cX8_wire 86 = .ok (.ireturn, 1) := by decide +kernel
theorem dX8_wire_87 : decode cX8_wire 87 = .ok (.aload_n 0, 1) := by decide +kernel
theorem dX8_wire_88 : decode cX8_wire 88 = .ok (.getfield 19, 3) := by decide +kernel
theorem dX8_wire_91 : decode cX8_wire 91 = .ok (.iload_n 1, 1) := by decide +kernel
theorem dX8_wire_92 : decode cX8_wire 92 = .ok (.invokevirtual 156, 3) := by decide +kernel
theorem dX8_wire_95 : decode cX8_wire 95 = .ok (.ireturn, 1) := by decide +kernel
theorem dX8_wire_96 : decode cX8_wire 96 = .ok (.ldc 67, 2) := by decide +kernel
theorem dX8_wire_98 : decode cX8_wire 98 = .ok (.ireturn, 1) := by decide +kernel
theorem dX8_wave_0 : decode cX8_wave 0 = .ok (.aload_n 0, 1) := by decide +kernel
theorem dX8_wave_1 : decode cX8_wave 1 = .ok (.getfield 19, 3) := by decide +kernel
theorem dX8_wave_4 : decode cX8_wave 4 = .ok (.iload_n 1, 1) := by decide +kernel
theorem dX8_wave_5 : decode cX8_wave 5 = .ok (.invokevirtual 138, 3) := by decide +kernel
theorem dX8_wave_8 : decode cX8_wave 8 = .ok (.ifCond .ne 6, 3) := by decide +kernel
theorem dX8_wave_11 : decode cX8_wave 11 = .ok (.ldc 142, 2) := by decide +kernel
theorem dX8_wave_13 : decode cX8_wave 13 = .ok (.ireturn, 1) := by decide +kernel
theorem dX8_wave_14 : decode cX8_wave 14 = .ok (.iload_n 3, 1) := by decide +kernel
theorem dX8_wave_15 : decode cX8_wave 15 = .ok (.lookupswitch 45 #[(0, 25), (1, 35)], 25) := by decide +kernel
theorem dX8_wave_40 : decode cX8_wave 40 = .ok (.aload_n 0, 1) := by decide +kernel
theorem dX8_wave_41 : decode cX8_wave 41 = .ok (.getfield 29, 3) := by decide +kernel
theorem dX8_wave_44 : decode cX8_wave 44 = .ok (.iload_n 1, 1) := by decide +kernel
theorem dX8_wave_45 : decode cX8_wave 45 = .ok (.iload_n 2, 1) := by decide +kernel
theorem dX8_wave_46 : decode cX8_wave 46 = .ok (.invokevirtual 159, 3) := by decide +kernel
theorem dX8_wave_49 : decode cX8_wave 49 = .ok (.ireturn, 1) := by decide +kernel
theorem dX8_wave_50 : decode cX8_wave 50 = .ok (.aload_n 0, 1) := by decide +kernel
theorem dX8_wave_51 : decode cX8_wave 51 = .ok (.getfield 29, 3) := by decide +kernel
theorem dX8_wave_54 : decode cX8_wave 54 = .ok (.iload_n 1, 1) := by decide +kernel
theorem dX8_wave_55 : decode cX8_wave 55 = .ok (.iload_n 2, 1) := by decide +kernel
theorem dX8_wave_56 : decode cX8_wave 56 = .ok (.invokevirtual 163, 3) := by decide +kernel
theorem dX8_wave_59 : decode cX8_wave 59 = .ok (.ireturn, 1) := by decide +kernel
theorem dX8_wave_60 : decode cX8_wave 60 = .ok (.ldc 67, 2) := by decide +kernel
theorem dX8_wave_62 : decode cX8_wave 62 = .ok (.ireturn, 1) := by decide +kernel
theorem dX8_gate_0 : decode cX8_gate 0 = .ok (.aload_n 0, 1) := by decide +kernel
theorem dX8_gate_1 : decode cX8_gate 1 = .ok (.getfield 19, 3) := by decide +kernel
theorem dX8_gate_4 : decode cX8_gate 4 = .ok (.iload_n 1, 1) := by decide +kernel
theorem dX8_gate_5 : decode cX8_gate 5 = .ok (.invokevirtual 166, 3) := by decide +kernel
theorem dX8_gate_8 : decode cX8_gate 8 = .ok (.ifCond .ne 6, 3) := by decide +kernel
theorem dX8_gate_11 : decode cX8_gate 11 = .ok (.ldc 142, 2) := by decide +kernel
theorem dX8_gate_13 : decode cX8_gate 13 = .ok (.ireturn, 1) := by decide +kernel
theorem dX8_gate_14 : decode cX8_gate 14 = .ok (.iload_n 2, 1) := by decide +kernel
theorem dX8_gate_15 : decode cX8_gate 15 = .ok (.tableswitch 168 0 9 #[53, 63, 73, 83, 93, 103, 113, 123, 136, 146], 53) := by decide +kernel
theorem dX8_gate_68 : decode cX8_gate 68 = .ok (.aload_n 0, 1) := by decide +kernel
theorem dX8_gate_69 : decode cX8_gate 69 = .ok (.getfield 19, 3) := by decide +kernel
theorem dX8_gate_72 : decode cX8_gate 72 = .ok (.getfield 169, 3) := by decide +kernel
theorem dX8_gate_75 : decode cX8_gate 75 = .ok (.iload_n 1, 1) := by decide +kernel
theorem dX8_gate_76 : decode cX8_gate 76 = .ok (.iaload, 1) := by decide +kernel
theorem dX8_gate_77 : decode cX8_gate 77 = .ok (.ireturn, 1) := by decide +kernel
theorem dX8_gate_78 : decode cX8_gate 78 = .ok (.aload_n 0, 1) := by decide +kernel
theorem dX8_gate_79 : decode cX8_gate 79 = .ok (.getfield 19, 3) := by decide +kernel
theorem dX8_gate_82 : decode cX8_gate 82 = .ok (.getfield 172, 3) := by decide +kernel
theorem dX8_gate_85 : decode cX8_gate 85 = .ok (.iload_n 1, 1) := by decide +kernel
theorem dX8_gate_86 : decode cX8_gate 86 = .ok (.iaload, 1) := by decide +kernel
theorem dX8_gate_87 : decode cX8_gate 87 = .ok (.ireturn, 1) := by decide +kernel
theorem dX8_gate_88 : decode cX8_gate 88 = .ok (.aload_n 0, 1) := by decide +kernel
theorem dX8_gate_89 : decode cX8_gate 89 = .ok (.getfield 19, 3) := by decide +kernel
theorem dX8_gate_92 : decode cX8_gate 92 = .ok (.getfield 175, 3) := by decide +kernel
theorem dX8_gate_95 : decode cX8_gate 95 = .ok (.iload_n 1, 1) := by decide +kernel
theorem dX8_gate_96 : decode cX8_gate 96 = .ok (.iaload, 1) := by decide +kernel
theorem dX8_gate_97 : decode cX8_gate 97 = .ok (.ireturn, 1) := by decide +kernel
theorem dX8_gate_98 : decode cX8_gate 98 = .ok (.aload_n 0, 1) := by decide +kernel
theorem dX8_gate_99 : decode cX8_gate 99 = .ok (.getfield 19, 3) := by decide +kernel
theorem dX8_gate_102 : decode cX8_gate 102 = .ok (.getfield 178, 3) := by decide +kernel
theorem dX8_gate_105 : decode cX8_gate 105 = .ok (.iload_n 1, 1) := by decide +kernel
theorem dX8_gate_106 : decode cX8_gate 106 = .ok (.iaload, 1) := by decide +kernel
theorem dX8_gate_107 : decode cX8_gate 107 = .ok (.ireturn, 1) := by decide +kernel
theorem dX8_gate_108 : decode cX8_gate 108 = .ok (.aload_n 0, 1) := by decide +kernel
theorem dX8_gate_109 : decode cX8_gate 109 = .ok (.getfield 19, 3) := by decide +kernel
theorem dX8_gate_112 : decode cX8_gate 112 = .ok (.getfield 181, 3) := by decide +kernel
theorem dX8_gate_115 : decode cX8_gate 115 = .ok (.iload_n 1, 1) := by decide +kernel
theorem dX8_gate_116 : decode cX8_gate 116 = .ok (.iaload, 1) := by decide +kernel
theorem dX8_gate_117 : decode cX8_gate 117 = .ok (.ireturn, 1) := by decide +kernel
theorem dX8_gate_118 : decode cX8_gate 118 = .ok (.aload_n 0, 1) := by decide +kernel
theorem dX8_gate_119 : decode cX8_gate 119 = .ok (.getfield 19, 3) := by decide +kernel
theorem dX8_gate_122 : decode cX8_gate 122 = .ok (.getfield 184, 3) := by decide +kernel
theorem dX8_gate_125 : decode cX8_gate 125 = .ok (.iload_n 1, 1) := by decide +kernel
theorem dX8_gate_126 : decode cX8_gate 126 = .ok (.iaload, 1) := by decide +kernel
theorem dX8_gate_127 : decode cX8_gate 127 = .ok (.ireturn, 1) := by decide +kernel
theorem dX8_gate_128 : decode cX8_gate 128 = .ok (.aload_n 0, 1) := by decide +kernel
theorem dX8_gate_129 : decode cX8_gate 129 = .ok (.getfield 29, 3) := by decide +kernel
theorem dX8_gate_132 : decode cX8_gate 132 = .ok (.getfield 187, 3) := by decide +kernel
theorem dX8_gate_135 : decode cX8_gate 135 = .ok (.iload_n 1, 1) := by decide +kernel
theorem dX8_gate_136 : decode cX8_gate 136 = .ok (.iaload, 1) := by decide +kernel
theorem dX8_gate_137 : decode cX8_gate 137 = .ok (.ireturn, 1) := by decide +kernel
theorem dX8_gate_138 : decode cX8_gate 138 = .ok (.aload_n 0, 1) := by decide +kernel
theorem dX8_gate_139 : decode cX8_gate 139 = .ok (.getfield 29, 3) := by decide +kernel
theorem dX8_gate_142 : decode cX8_gate 142 = .ok (.aload_n 0, 1) := by decide +kernel
theorem dX8_gate_143 : decode cX8_gate 143 = .ok (.getfield 19, 3) := by decide +kernel
theorem dX8_gate_146 : decode cX8_gate 146 = .ok (.iload_n 1, 1) := by decide +kernel
theorem dX8_gate_147 : decode cX8_gate 147 = .ok (.invokevirtual 190, 3) := by decide +kernel
theorem dX8_gate_150 : decode cX8_gate 150 = .ok (.ireturn, 1) := by decide +kernel
theorem dX8_gate_151 : decode cX8_gate 151 = .ok (.aload_n 0, 1) := by decide +kernel
theorem dX8_gate_152 : decode cX8_gate 152 = .ok (.getfield 29, 3) := by decide +kernel
theorem dX8_gate_155 : decode cX8_gate 155 = .ok (.getfield 194, 3) := by decide +kernel
theorem dX8_gate_158 : decode cX8_gate 158 = .ok (.iload_n 1, 1) := by decide +kernel
theorem dX8_gate_159 : decode cX8_gate 159 = .ok (.iaload, 1) := by decide +kernel
theorem dX8_gate_160 : decode cX8_gate 160 = .ok (.ireturn, 1) := by decide +kernel
theorem dX8_gate_161 : decode cX8_gate 161 = .ok (.aload_n 0, 1) := by decide +kernel
theorem dX8_gate_162 : decode cX8_gate 162 = .ok (.getfield 29, 3) := by decide +kernel
theorem dX8_gate_165 : decode cX8_gate 165 = .ok (.aload_n 0, 1) := by decide +kernel
theorem dX8_gate_166 : decode cX8_gate 166 = .ok (.getfield 19, 3) := by decide +kernel
theorem dX8_gate_169 : decode cX8_gate 169 = .ok (.aload_n 0, 1) := by decide +kernel
theorem dX8_gate_170 : decode cX8_gate 170 = .ok (.getfield 19, 3) := by decide +kernel
theorem dX8_gate_173 : decode cX8_gate 173 = .ok (.getfield 178, 3) := by decide +kernel
theorem dX8_gate_176 : decode cX8_gate 176 = .ok (.iload_n 1, 1) := by decide +kernel
theorem dX8_gate_177 : decode cX8_gate 177 = .ok (.iaload, 1) := by decide +kernel
theorem dX8_gate_178 : decode cX8_gate 178 = .ok (.iload_n 1, 1) := by decide +kernel
theorem dX8_gate_179 : decode cX8_gate 179 = .ok (.invokevirtual 197, 3) := by decide +kernel
theorem dX8_gate_182 : decode cX8_gate 182 = .ok (.ireturn, 1) := by decide +kernel
theorem dX8_gate_183 : decode cX8_gate 183 = .ok (.ldc 67, 2) := by decide +kernel
theorem dX8_gate_185 : decode cX8_gate 185 = .ok (.ireturn, 1) := by decide +kernel
theorem dX8_queue_0 : decode cX8_queue 0 = .ok (.aload_n 0, 1) := by decide +kernel
theorem dX8_queue_1 : decode cX8_queue 1 = .ok (.getfield 19, 3) := by decide +kernel
theorem dX8_queue_4 : decode cX8_queue 4 = .ok (.iload_n 1, 1) := by decide +kernel
theorem dX8_queue_5 : decode cX8_queue 5 = .ok (.invokevirtual 166, 3) := by decide +kernel
theorem dX8_queue_8 : decode cX8_queue 8 = .ok (.ifCond .ne 6, 3) := by decide +kernel
theorem dX8_queue_11 : decode cX8_queue 11 = .ok (.ldc 142, 2) := by decide +kernel
theorem dX8_queue_13 : decode cX8_queue 13 = .ok (.ireturn, 1) := by decide +kernel
theorem dX8_queue_14 : decode cX8_queue 14 = .ok (.iload_n 3, 1) := by decide +kernel
theorem dX8_queue_15 : decode cX8_queue 15 = .ok (.lookupswitch 45 #[(0, 25), (1, 35)], 25) := by decide +kernel
theorem dX8_queue_40 : decode cX8_queue 40 = .ok (.aload_n 0, 1) := by decide +kernel
theorem dX8_queue_41 : decode cX8_queue 41 = .ok (.getfield 29, 3) := by decide +kernel
theorem dX8_queue_44 : decode cX8_queue 44 = .ok (.iload_n 1, 1) := by decide +kernel
theorem dX8_queue_45 : decode cX8_queue 45 = .ok (.iload_n 2, 1) := by decide +kernel
theorem dX8_queue_46 : decode cX8_queue 46 = .ok (.invokevirtual 201, 3) := by decide +kernel
theorem dX8_queue_49 : decode cX8_queue 49 = .ok (.ireturn, 1) := by decide +kernel
theorem dX8_queue_50 : decode cX8_queue 50 = .ok (.aload_n 0, 1) := by decide +kernel
theorem dX8_queue_51 : decode cX8_queue 51 = .ok (.getfield 29, 3) := by decide +kernel
theorem dX8_queue_54 : decode cX8_queue 54 = .ok (.iload_n 1, 1) := by decide +kernel
theorem dX8_queue_55 : decode cX8_queue 55 = .ok (.iload_n 2, 1) := by decide +kernel
theorem dX8_queue_56 : decode cX8_queue 56 = .ok (.invokevirtual 204, 3) := by decide +kernel
theorem dX8_queue_59 : decode cX8_queue 59 = .ok (.ireturn, 1) := by decide +kernel
theorem dX8_queue_60 : decode cX8_queue 60 = .ok (.ldc 67, 2) := by decide +kernel
theorem dX8_queue_62 : decode cX8_queue 62 = .ok (.ireturn, 1) := by decide +kernel
theorem dX8_resolved_0 : decode cX8_resolved 0 = .ok (.iload_n 1, 1) := by decide +kernel
theorem dX8_resolved_1 : decode cX8_resolved 1 = .ok (.invokestatic 207, 3) := by decide +kernel
theorem dX8_resolved_4 : decode cX8_resolved 4 = .ok (.ifCond .eq 10, 3) := by decide +kernel
theorem dX8_resolved_7 : decode cX8_resolved 7 = .ok (.iload_n 2, 1) := by decide +kernel
theorem dX8_resolved_8 : decode cX8_resolved 8 = .ok (.invokestatic 207, 3) := by decide +kernel
theorem dX8_resolved_11 : decode cX8_resolved 11 = .ok (.ifCond .ne 6, 3) := by decide +kernel
theorem dX8_resolved_14 : decode cX8_resolved 14 = .ok (.ldc 142, 2) := by decide +kernel
theorem dX8_resolved_16 : decode cX8_resolved 16 = .ok (.ireturn, 1) := by decide +kernel
theorem dX8_resolved_17 : decode cX8_resolved 17 = .ok (.iload_n 1, 1) := by decide +kernel
theorem dX8_resolved_18 : decode cX8_resolved 18 = .ok (.iload_n 2, 1) := by decide +kernel
theorem dX8_resolved_19 : decode cX8_resolved 19 = .ok (.invokestatic 212, 3) := by decide +kernel
theorem dX8_resolved_22 : decode cX8_resolved 22 = .ok (.ireturn, 1) := by decide +kernel
theorem dX8_comes_0 : decode cX8_comes 0 = .ok (.iload_n 2, 1) := by decide +kernel
theorem dX8_comes_1 : decode cX8_comes 1 = .ok (.invokestatic 207, 3) := by decide +kernel
theorem dX8_comes_4 : decode cX8_comes 4 = .ok (.ifCond .eq 10, 3) := by decide +kernel
theorem dX8_comes_7 : decode cX8_comes 7 = .ok (.iload_n 3, 1) := by decide +kernel
theorem dX8_comes_8 : decode cX8_comes 8 = .ok (.invokestatic 207, 3) := by decide +kernel
theorem dX8_comes_11 : decode cX8_comes 11 = .ok (.ifCond .ne 6, 3) := by decide +kernel
theorem dX8_comes_14 : decode cX8_comes 14 = .ok (.ldc 142, 2) := by decide +kernel
theorem dX8_comes_16 : decode cX8_comes 16 = .ok (.ireturn, 1) := by decide +kernel
theorem dX8_comes_17 : decode cX8_comes 17 = .ok (.iload_n 1, 1) := by decide +kernel
theorem dX8_comes_18 : decode cX8_comes 18 = .ok (.ifCond .lt 8, 3) := by decide +kernel
theorem dX8_comes_21 : decode cX8_comes 21 = .ok (.iload_n 1, 1) := by decide +kernel
theorem dX8_comes_22 : decode cX8_comes 22 = .ok (.iconst 4, 1) := by decide +kernel
theorem dX8_comes_23 : decode cX8_comes 23 = .ok (.if_icmp .le 6, 3) := by decide +kernel
theorem dX8_comes_26 : decode cX8_comes 26 = .ok (.ldc 67, 2) := by decide +kernel
theorem dX8_comes_28 : decode cX8_comes 28 = .ok (.ireturn, 1) := by decide +kernel
theorem dX8_comes_29 : decode cX8_comes 29 = .ok (.iload_n 1, 1) := by decide +kernel
theorem dX8_comes_30 : decode cX8_comes 30 = .ok (.iload_n 2, 1) := by decide +kernel
theorem dX8_comes_31 : decode cX8_comes 31 = .ok (.iload_n 3, 1) := by decide +kernel
theorem dX8_comes_32 : decode cX8_comes 32 = .ok (.iconst 2, 1) := by decide +kernel
theorem dX8_comes_33 : decode cX8_comes 33 = .ok (.invokestatic 215, 3) := by decide +kernel
theorem dX8_comes_36 : decode cX8_comes 36 = .ok (.ireturn, 1) := by decide +kernel
theorem dX8_step_0 : decode cX8_step 0 = .ok (.aload_n 0, 1) := by decide +kernel
theorem dX8_step_1 : decode cX8_step 1 = .ok (.getfield 29, 3) := by decide +kernel
theorem dX8_step_4 : decode cX8_step 4 = .ok (.getfield 109, 3) := by decide +kernel
theorem dX8_step_7 : decode cX8_step 7 = .ok (.ifCond .ne 13, 3) := by decide +kernel
theorem dX8_step_10 : decode cX8_step 10 = .ok (.aload_n 0, 1) := by decide +kernel
theorem dX8_step_11 : decode cX8_step 11 = .ok (.getfield 29, 3) := by decide +kernel
theorem dX8_step_14 : decode cX8_step 14 = .ok (.invokevirtual 113, 3) := by decide +kernel
theorem dX8_step_17 : decode cX8_step 17 = .ok (.ifCond .eq 6, 3) := by decide +kernel
theorem dX8_step_20 : decode cX8_step 20 = .ok (.ldc 219, 2) := by decide +kernel
theorem dX8_step_22 : decode cX8_step 22 = .ok (.ireturn, 1) := by decide +kernel
theorem dX8_step_23 : decode cX8_step 23 = .ok (.aload_n 0, 1) := by decide +kernel
theorem dX8_step_24 : decode cX8_step 24 = .ok (.getfield 39, 3) := by decide +kernel
theorem dX8_step_27 : decode cX8_step 27 = .ok (.aload_n 0, 1) := by decide +kernel
theorem dX8_step_28 : decode cX8_step 28 = .ok (.getfield 29, 3) := by decide +kernel
theorem dX8_step_31 : decode cX8_step 31 = .ok (.invokevirtual 220, 3) := by decide +kernel
theorem dX8_step_34 : decode cX8_step 34 = .ok (.aload_n 0, 1) := by decide +kernel
theorem dX8_step_35 : decode cX8_step 35 = .ok (.getfield 29, 3) := by decide +kernel
theorem dX8_step_38 : decode cX8_step 38 = .ok (.aload_n 0, 1) := by decide +kernel
theorem dX8_step_39 : decode cX8_step 39 = .ok (.getfield 19, 3) := by decide +kernel
theorem dX8_step_42 : decode cX8_step 42 = .ok (.invokevirtual 224, 3) := by decide +kernel
theorem dX8_step_45 : decode cX8_step 45 = .ok (.aload_n 0, 1) := by decide +kernel
theorem dX8_step_46 : decode cX8_step 46 = .ok (.getfield 29, 3) := by decide +kernel
theorem dX8_step_49 : decode cX8_step 49 = .ok (.getfield 103, 3) := by decide +kernel
theorem dX8_step_52 : decode cX8_step 52 = .ok (.ireturn, 1) := by decide +kernel
theorem dX8_run_0 : decode cX8_run 0 = .ok (.iload_n 1, 1) := by decide +kernel
theorem dX8_run_1 : decode cX8_run 1 = .ok (.iconst 1, 1) := by decide +kernel
theorem dX8_run_2 : decode cX8_run 2 = .ok (.if_icmp .lt 10, 3) := by decide +kernel
theorem dX8_run_5 : decode cX8_run 5 = .ok (.iload_n 1, 1) := by decide +kernel
theorem dX8_run_6 : decode cX8_run 6 = .ok (.sipush 200, 3) := by decide +kernel
theorem dX8_run_9 : decode cX8_run 9 = .ok (.if_icmp .le 6, 3) := by decide +kernel
theorem dX8_run_12 : decode cX8_run 12 = .ok (.ldc 67, 2) := by decide +kernel
theorem dX8_run_14 : decode cX8_run 14 = .ok (.ireturn, 1) := by decide +kernel
theorem dX8_run_15 : decode cX8_run 15 = .ok (.aload_n 0, 1) := by decide +kernel
theorem dX8_run_16 : decode cX8_run 16 = .ok (.getfield 29, 3) := by decide +kernel
theorem dX8_run_19 : decode cX8_run 19 = .ok (.getfield 109, 3) := by decide +kernel
theorem dX8_run_22 : decode cX8_run 22 = .ok (.ifCond .eq 6, 3) := by decide +kernel
theorem dX8_run_25 : decode cX8_run 25 = .ok (.ldc 219, 2) := by decide +kernel
theorem dX8_run_27 : decode cX8_run 27 = .ok (.ireturn, 1) := by decide +kernel
theorem dX8_run_28 : decode cX8_run 28 = .ok (.aload_n 0, 1) := by decide +kernel
theorem dX8_run_29 : decode cX8_run 29 = .ok (.getfield 39, 3) := by decide +kernel
theorem dX8_run_32 : decode cX8_run 32 = .ok (.aload_n 0, 1) := by decide +kernel
theorem dX8_run_33 : decode cX8_run 33 = .ok (.getfield 29, 3) := by decide +kernel
theorem dX8_run_36 : decode cX8_run 36 = .ok (.invokevirtual 220, 3) := by decide +kernel
theorem dX8_run_39 : decode cX8_run 39 = .ok (.aload_n 0, 1) := by decide +kernel
theorem dX8_run_40 : decode cX8_run 40 = .ok (.getfield 29, 3) := by decide +kernel
theorem dX8_run_43 : decode cX8_run 43 = .ok (.aload_n 0, 1) := by decide +kernel
theorem dX8_run_44 : decode cX8_run 44 = .ok (.getfield 19, 3) := by decide +kernel
theorem dX8_run_47 : decode cX8_run 47 = .ok (.aload_n 0, 1) := by decide +kernel
theorem dX8_run_48 : decode cX8_run 48 = .ok (.getfield 29, 3) := by decide +kernel
theorem dX8_run_51 : decode cX8_run 51 = .ok (.getfield 103, 3) := by decide +kernel
theorem dX8_run_54 : decode cX8_run 54 = .ok (.iload_n 1, 1) := by decide +kernel
theorem dX8_run_55 : decode cX8_run 55 = .ok (.iadd, 1) := by decide +kernel
theorem dX8_run_56 : decode cX8_run 56 = .ok (.invokevirtual 227, 3) := by decide +kernel
theorem dX8_run_59 : decode cX8_run 59 = .ok (.ireturn, 1) := by decide +kernel
theorem dX8_set_0 : decode cX8_set 0 = .ok (.aload_n 0, 1) := by decide +kernel
theorem dX8_set_1 : decode cX8_set 1 = .ok (.getfield 19, 3) := by decide +kernel
theorem dX8_set_4 : decode cX8_set 4 = .ok (.iload_n 1, 1) := by decide +kernel
theorem dX8_set_5 : decode cX8_set 5 = .ok (.invokevirtual 138, 3) := by decide +kernel
theorem dX8_set_8 : decode cX8_set 8 = .ok (.ifCond .eq 10, 3) := by decide +kernel
theorem dX8_set_11 : decode cX8_set 11 = .ok (.iload_n 2, 1) := by decide +kernel
theorem dX8_set_12 : decode cX8_set 12 = .ok (.invokestatic 207, 3) := by decide +kernel
theorem dX8_set_15 : decode cX8_set 15 = .ok (.ifCond .ne 6, 3) := by decide +kernel
theorem dX8_set_18 : decode cX8_set 18 = .ok (.ldc 142, 2) := by decide +kernel
theorem dX8_set_20 : decode cX8_set 20 = .ok (.ireturn, 1) := by decide +kernel
theorem dX8_set_21 : decode cX8_set 21 = .ok (.iload_n 3, 1) := by decide +kernel
theorem dX8_set_22 : decode cX8_set 22 = .ok (.ifCond .lt 9, 3) := by decide +kernel
theorem dX8_set_25 : decode cX8_set 25 = .ok (.iload_n 3, 1) := by decide +kernel
theorem dX8_set_26 : decode cX8_set 26 = .ok (.bipush 20, 2) := by decide +kernel
theorem dX8_set_28 : decode cX8_set 28 = .ok (.if_icmp .le 6, 3) := by decide +kernel
theorem dX8_set_31 : decode cX8_set 31 = .ok (.ldc 67, 2) := by decide +kernel
theorem dX8_set_33 : decode cX8_set 33 = .ok (.ireturn, 1) := by decide +kernel
theorem dX8_set_34 : decode cX8_set 34 = .ok (.aload_n 0, 1) := by decide +kernel
theorem dX8_set_35 : decode cX8_set 35 = .ok (.iload_n 1, 1) := by decide +kernel
theorem dX8_set_36 : decode cX8_set 36 = .ok (.invokevirtual 230, 3) := by decide +kernel
theorem dX8_set_39 : decode cX8_set 39 = .ok (.ifCond .ne 6, 3) := by decide +kernel
theorem dX8_set_42 : decode cX8_set 42 = .ok (.ldc 219, 2) := by decide +kernel
theorem dX8_set_44 : decode cX8_set 44 = .ok (.ireturn, 1) := by decide +kernel
theorem dX8_set_45 : decode cX8_set 45 = .ok (.aload_n 0, 1) := by decide +kernel
theorem dX8_set_46 : decode cX8_set 46 = .ok (.getfield 29, 3) := by decide +kernel
theorem dX8_set_49 : decode cX8_set 49 = .ok (.invokevirtual 233, 3) := by decide +kernel
theorem dX8_set_52 : decode cX8_set 52 = .ok (.ifCond .eq 6, 3) := by decide +kernel
theorem dX8_set_55 : decode cX8_set 55 = .ok (.ldc 236, 2) := by decide +kernel
theorem dX8_set_57 : decode cX8_set 57 = .ok (.ireturn, 1) := by decide +kernel
theorem dX8_set_58 : decode cX8_set 58 = .ok (.aload_n 0, 1) := by decide +kernel
theorem dX8_set_59 : decode cX8_set 59 = .ok (.getfield 39, 3) := by decide +kernel
theorem dX8_set_62 : decode cX8_set 62 = .ok (.aload_n 0, 1) := by decide +kernel
theorem dX8_set_63 : decode cX8_set 63 = .ok (.getfield 29, 3) := by decide +kernel
theorem dX8_set_66 : decode cX8_set 66 = .ok (.invokevirtual 220, 3) := by decide +kernel
theorem dX8_set_69 : decode cX8_set 69 = .ok (.aload_n 0, 1) := by decide +kernel
theorem dX8_set_70 : decode cX8_set 70 = .ok (.getfield 29, 3) := by decide +kernel
theorem dX8_set_73 : decode cX8_set 73 = .ok (.iload_n 1, 1) := by decide +kernel
theorem dX8_set_74 : decode cX8_set 74 = .ok (.iload_n 2, 1) := by decide +kernel
theorem dX8_set_75 : decode cX8_set 75 = .ok (.aload_n 0, 1) := by decide +kernel
theorem dX8_set_76 : decode cX8_set 76 = .ok (.getfield 29, 3) := by decide +kernel
theorem dX8_set_79 : decode cX8_set 79 = .ok (.getfield 103, 3) := by decide +kernel
theorem dX8_set_82 : decode cX8_set 82 = .ok (.iload_n 3, 1) := by decide +kernel
theorem dX8_set_83 : decode cX8_set 83 = .ok (.iadd, 1) := by decide +kernel
theorem dX8_set_84 : decode cX8_set 84 = .ok (.invokevirtual 237, 3) := by decide +kernel
theorem dX8_set_87 : decode cX8_set 87 = .ok (.aload_n 0, 1) := by decide +kernel
theorem dX8_set_88 : decode cX8_set 88 = .ok (.getfield 29, 3) := by decide +kernel
theorem dX8_set_91 : decode cX8_set 91 = .ok (.getfield 127, 3) := by decide +kernel
theorem dX8_set_94 : decode cX8_set 94 = .ok (.ireturn, 1) := by decide +kernel
theorem dX8_calm_0 : decode cX8_calm 0 = .ok (.aload_n 0, 1) := by decide +kernel
theorem dX8_calm_1 : decode cX8_calm 1 = .ok (.getfield 29, 3) := by decide +kernel
theorem dX8_calm_4 : decode cX8_calm 4 = .ok (.getfield 109, 3) := by decide +kernel
theorem dX8_calm_7 : decode cX8_calm 7 = .ok (.ifCond .ne 6, 3) := by decide +kernel
theorem dX8_calm_10 : decode cX8_calm 10 = .ok (.ldc 219, 2) := by decide +kernel
theorem dX8_calm_12 : decode cX8_calm 12 = .ok (.ireturn, 1) := by decide +kernel
theorem dX8_calm_13 : decode cX8_calm 13 = .ok (.aload_n 0, 1) := by decide +kernel
theorem dX8_calm_14 : decode cX8_calm 14 = .ok (.getfield 39, 3) := by decide +kernel
theorem dX8_calm_17 : decode cX8_calm 17 = .ok (.aload_n 0, 1) := by decide +kernel
theorem dX8_calm_18 : decode cX8_calm 18 = .ok (.getfield 29, 3) := by decide +kernel
theorem dX8_calm_21 : decode cX8_calm 21 = .ok (.invokevirtual 220, 3) := by decide +kernel
theorem dX8_calm_24 : decode cX8_calm 24 = .ok (.aload_n 0, 1) := by decide +kernel
theorem dX8_calm_25 : decode cX8_calm 25 = .ok (.getfield 29, 3) := by decide +kernel
theorem dX8_calm_28 : decode cX8_calm 28 = .ok (.iconst 0, 1) := by decide +kernel
theorem dX8_calm_29 : decode cX8_calm 29 = .ok (.putfield 109, 3) := by decide +kernel
theorem dX8_calm_32 : decode cX8_calm 32 = .ok (.aload_n 0, 1) := by decide +kernel
theorem dX8_calm_33 : decode cX8_calm 33 = .ok (.getfield 29, 3) := by decide +kernel
theorem dX8_calm_36 : decode cX8_calm 36 = .ok (.aload_n 0, 1) := by decide +kernel
end
section
theorem dX8_calm_37 : decode cX8_calm 37 = .ok (.getfield 19, 3) := by decide +kernel
theorem dX8_calm_40 : decode cX8_calm 40 = .ok (.invokevirtual 241, 3) := by decide +kernel
theorem dX8_calm_43 : decode cX8_calm 43 = .ok (.aload_n 0, 1) := by decide +kernel
theorem dX8_calm_44 : decode cX8_calm 44 = .ok (.getfield 29, 3) := by decide +kernel
theorem dX8_calm_47 : decode cX8_calm 47 = .ok (.getfield 103, 3) := by decide +kernel
theorem dX8_calm_50 : decode cX8_calm 50 = .ok (.ireturn, 1) := by decide +kernel
theorem dX8_drift_0 : decode cX8_drift 0 = .ok (.iload_n 1, 1) := by decide +kernel
theorem dX8_drift_1 : decode cX8_drift 1 = .ok (.iconst 1, 1) := by decide +kernel
theorem dX8_drift_2 : decode cX8_drift 2 = .ok (.if_icmp .lt 9, 3) := by decide +kernel
theorem dX8_drift_5 : decode cX8_drift 5 = .ok (.iload_n 1, 1) := by decide +kernel
theorem dX8_drift_6 : decode cX8_drift 6 = .ok (.bipush 16, 2) := by decide +kernel
theorem dX8_drift_8 : decode cX8_drift 8 = .ok (.if_icmp .le 6, 3) := by decide +kernel
theorem dX8_drift_11 : decode cX8_drift 11 = .ok (.ldc 67, 2) := by decide +kernel
theorem dX8_drift_13 : decode cX8_drift 13 = .ok (.ireturn, 1) := by decide +kernel
theorem dX8_drift_14 : decode cX8_drift 14 = .ok (.aload_n 0, 1) := by decide +kernel
theorem dX8_drift_15 : decode cX8_drift 15 = .ok (.getfield 19, 3) := by decide +kernel
theorem dX8_drift_18 : decode cX8_drift 18 = .ok (.getfield 90, 3) := by decide +kernel
theorem dX8_drift_21 : decode cX8_drift 21 = .ok (.ifCond .le 20, 3) := by decide +kernel
theorem dX8_drift_24 : decode cX8_drift 24 = .ok (.iconst 0, 1) := by decide +kernel
theorem dX8_drift_25 : decode cX8_drift 25 = .ok (.istore_n 2, 1) := by decide +kernel
theorem dX8_drift_26 : decode cX8_drift 26 = .ok (.iload_n 2, 1) := by decide +kernel
theorem dX8_drift_27 : decode cX8_drift 27 = .ok (.iload_n 1, 1) := by decide +kernel
theorem dX8_drift_28 : decode cX8_drift 28 = .ok (.if_icmp .ge 13, 3) := by decide +kernel
theorem dX8_drift_31 : decode cX8_drift 31 = .ok (.aload_n 0, 1) := by decide +kernel
theorem dX8_drift_32 : decode cX8_drift 32 = .ok (.invokevirtual 244, 3) := by decide +kernel
theorem dX8_drift_35 : decode cX8_drift 35 = .ok (.iinc 2 1, 3) := by decide +kernel
theorem dX8_drift_38 : decode cX8_drift 38 = .ok (.goto (-12), 3) := by decide +kernel
theorem dX8_drift_41 : decode cX8_drift 41 = .ok (.aload_n 0, 1) := by decide +kernel
theorem dX8_drift_42 : decode cX8_drift 42 = .ok (.getfield 29, 3) := by decide +kernel
theorem dX8_drift_45 : decode cX8_drift 45 = .ok (.getfield 103, 3) := by decide +kernel
theorem dX8_drift_48 : decode cX8_drift 48 = .ok (.ireturn, 1) := by decide +kernel
theorem dX8_undo_0 : decode cX8_undo 0 = .ok (.iload_n 1, 1) := by decide +kernel
theorem dX8_undo_1 : decode cX8_undo 1 = .ok (.iconst 1, 1) := by decide +kernel
theorem dX8_undo_2 : decode cX8_undo 2 = .ok (.if_icmp .lt 9, 3) := by decide +kernel
theorem dX8_undo_5 : decode cX8_undo 5 = .ok (.iload_n 1, 1) := by decide +kernel
theorem dX8_undo_6 : decode cX8_undo 6 = .ok (.bipush 16, 2) := by decide +kernel
theorem dX8_undo_8 : decode cX8_undo 8 = .ok (.if_icmp .le 6, 3) := by decide +kernel
theorem dX8_undo_11 : decode cX8_undo 11 = .ok (.ldc 67, 2) := by decide +kernel
theorem dX8_undo_13 : decode cX8_undo 13 = .ok (.ireturn, 1) := by decide +kernel
theorem dX8_undo_14 : decode cX8_undo 14 = .ok (.iload_n 1, 1) := by decide +kernel
theorem dX8_undo_15 : decode cX8_undo 15 = .ok (.aload_n 0, 1) := by decide +kernel
theorem dX8_undo_16 : decode cX8_undo 16 = .ok (.getfield 39, 3) := by decide +kernel
theorem dX8_undo_19 : decode cX8_undo 19 = .ok (.getfield 137, 3) := by decide +kernel
theorem dX8_undo_22 : decode cX8_undo 22 = .ok (.if_icmp .le 6, 3) := by decide +kernel
theorem dX8_undo_25 : decode cX8_undo 25 = .ok (.ldc 219, 2) := by decide +kernel
theorem dX8_undo_27 : decode cX8_undo 27 = .ok (.ireturn, 1) := by decide +kernel
theorem dX8_undo_28 : decode cX8_undo 28 = .ok (.aload_n 0, 1) := by decide +kernel
theorem dX8_undo_29 : decode cX8_undo 29 = .ok (.getfield 39, 3) := by decide +kernel
theorem dX8_undo_32 : decode cX8_undo 32 = .ok (.iload_n 1, 1) := by decide +kernel
theorem dX8_undo_33 : decode cX8_undo 33 = .ok (.aload_n 0, 1) := by decide +kernel
theorem dX8_undo_34 : decode cX8_undo 34 = .ok (.getfield 29, 3) := by decide +kernel
theorem dX8_undo_37 : decode cX8_undo 37 = .ok (.invokevirtual 247, 3) := by decide +kernel
theorem dX8_undo_40 : decode cX8_undo 40 = .ok (.aload_n 0, 1) := by decide +kernel
theorem dX8_undo_41 : decode cX8_undo 41 = .ok (.getfield 29, 3) := by decide +kernel
theorem dX8_undo_44 : decode cX8_undo 44 = .ok (.getfield 103, 3) := by decide +kernel
theorem dX8_undo_47 : decode cX8_undo 47 = .ok (.ireturn, 1) := by decide +kernel
theorem dX8_write_0 : decode cX8_write 0 = .ok (.aload_n 0, 1) := by decide +kernel
theorem dX8_write_1 : decode cX8_write 1 = .ok (.getfield 19, 3) := by decide +kernel
theorem dX8_write_4 : decode cX8_write 4 = .ok (.iload_n 1, 1) := by decide +kernel
theorem dX8_write_5 : decode cX8_write 5 = .ok (.invokevirtual 138, 3) := by decide +kernel
theorem dX8_write_8 : decode cX8_write 8 = .ok (.ifCond .eq 10, 3) := by decide +kernel
theorem dX8_write_11 : decode cX8_write 11 = .ok (.iload_n 2, 1) := by decide +kernel
theorem dX8_write_12 : decode cX8_write 12 = .ok (.invokestatic 207, 3) := by decide +kernel
theorem dX8_write_15 : decode cX8_write 15 = .ok (.ifCond .ne 6, 3) := by decide +kernel
theorem dX8_write_18 : decode cX8_write 18 = .ok (.ldc 142, 2) := by decide +kernel
theorem dX8_write_20 : decode cX8_write 20 = .ok (.ireturn, 1) := by decide +kernel
theorem dX8_write_21 : decode cX8_write 21 = .ok (.aload_n 0, 1) := by decide +kernel
theorem dX8_write_22 : decode cX8_write 22 = .ok (.getfield 56, 3) := by decide +kernel
theorem dX8_write_25 : decode cX8_write 25 = .ok (.iload_n 1, 1) := by decide +kernel
theorem dX8_write_26 : decode cX8_write 26 = .ok (.iload_n 2, 1) := by decide +kernel
theorem dX8_write_27 : decode cX8_write 27 = .ok (.invokevirtual 251, 3) := by decide +kernel
theorem dX8_write_30 : decode cX8_write 30 = .ok (.ireturn, 1) := by decide +kernel
theorem dX8_tear_0 : decode cX8_tear 0 = .ok (.aload_n 0, 1) := by decide +kernel
theorem dX8_tear_1 : decode cX8_tear 1 = .ok (.getfield 56, 3) := by decide +kernel
theorem dX8_tear_4 : decode cX8_tear 4 = .ok (.getfield 130, 3) := by decide +kernel
theorem dX8_tear_7 : decode cX8_tear 7 = .ok (.istore_n 1, 1) := by decide +kernel
theorem dX8_tear_8 : decode cX8_tear 8 = .ok (.aload_n 0, 1) := by decide +kernel
theorem dX8_tear_9 : decode cX8_tear 9 = .ok (.getfield 56, 3) := by decide +kernel
theorem dX8_tear_12 : decode cX8_tear 12 = .ok (.invokevirtual 87, 3) := by decide +kernel
theorem dX8_tear_15 : decode cX8_tear 15 = .ok (.iload_n 1, 1) := by decide +kernel
theorem dX8_tear_16 : decode cX8_tear 16 = .ok (.ireturn, 1) := by decide +kernel
theorem dX8_seed_0 : decode cX8_seed 0 = .ok (.iload_n 1, 1) := by decide +kernel
theorem dX8_seed_1 : decode cX8_seed 1 = .ok (.ifCond .ge 6, 3) := by decide +kernel
theorem dX8_seed_4 : decode cX8_seed 4 = .ok (.ldc 67, 2) := by decide +kernel
theorem dX8_seed_6 : decode cX8_seed 6 = .ok (.ireturn, 1) := by decide +kernel
theorem dX8_seed_7 : decode cX8_seed 7 = .ok (.aload_n 0, 1) := by decide +kernel
theorem dX8_seed_8 : decode cX8_seed 8 = .ok (.getfield 63, 3) := by decide +kernel
theorem dX8_seed_11 : decode cX8_seed 11 = .ok (.getfield 254, 3) := by decide +kernel
theorem dX8_seed_14 : decode cX8_seed 14 = .ok (.istore_n 2, 1) := by decide +kernel
theorem dX8_seed_15 : decode cX8_seed 15 = .ok (.aload_n 0, 1) := by decide +kernel
theorem dX8_seed_16 : decode cX8_seed 16 = .ok (.getfield 63, 3) := by decide +kernel
theorem dX8_seed_19 : decode cX8_seed 19 = .ok (.iload_n 1, 1) := by decide +kernel
theorem dX8_seed_20 : decode cX8_seed 20 = .ok (.putfield 254, 3) := by decide +kernel
theorem dX8_seed_23 : decode cX8_seed 23 = .ok (.iload_n 2, 1) := by decide +kernel
theorem dX8_seed_24 : decode cX8_seed 24 = .ok (.ireturn, 1) := by decide +kernel
theorem dX8_keep_0 : decode cX8_keep 0 = .ok (.aload_n 0, 1) := by decide +kernel
theorem dX8_keep_1 : decode cX8_keep 1 = .ok (.iload_n 1, 1) := by decide +kernel
theorem dX8_keep_2 : decode cX8_keep 2 = .ok (.invokevirtual 257, 3) := by decide +kernel
theorem dX8_keep_5 : decode cX8_keep 5 = .ok (.astore_n 2, 1) := by decide +kernel
theorem dX8_keep_6 : decode cX8_keep 6 = .ok (.aload_n 2, 1) := by decide +kernel
theorem dX8_keep_7 : decode cX8_keep 7 = .ok (.ifnonnull 6, 3) := by decide +kernel
theorem dX8_keep_10 : decode cX8_keep 10 = .ok (.ldc 142, 2) := by decide +kernel
theorem dX8_keep_12 : decode cX8_keep 12 = .ok (.ireturn, 1) := by decide +kernel
theorem dX8_keep_13 : decode cX8_keep 13 = .ok (.aload_n 2, 1) := by decide +kernel
theorem dX8_keep_14 : decode cX8_keep 14 = .ok (.aload_n 0, 1) := by decide +kernel
theorem dX8_keep_15 : decode cX8_keep 15 = .ok (.getfield 29, 3) := by decide +kernel
theorem dX8_keep_18 : decode cX8_keep 18 = .ok (.aload_n 0, 1) := by decide +kernel
theorem dX8_keep_19 : decode cX8_keep 19 = .ok (.getfield 63, 3) := by decide +kernel
theorem dX8_keep_22 : decode cX8_keep 22 = .ok (.invokevirtual 261, 3) := by decide +kernel
theorem dX8_keep_25 : decode cX8_keep 25 = .ok (.aload_n 0, 1) := by decide +kernel
theorem dX8_keep_26 : decode cX8_keep 26 = .ok (.getfield 39, 3) := by decide +kernel
theorem dX8_keep_29 : decode cX8_keep 29 = .ok (.invokevirtual 83, 3) := by decide +kernel
theorem dX8_keep_32 : decode cX8_keep 32 = .ok (.iconst 1, 1) := by decide +kernel
theorem dX8_keep_33 : decode cX8_keep 33 = .ok (.ireturn, 1) := by decide +kernel
theorem dX8_goBack_0 : decode cX8_goBack 0 = .ok (.aload_n 0, 1) := by decide +kernel
theorem dX8_goBack_1 : decode cX8_goBack 1 = .ok (.iload_n 1, 1) := by decide +kernel
theorem dX8_goBack_2 : decode cX8_goBack 2 = .ok (.invokevirtual 257, 3) := by decide +kernel
theorem dX8_goBack_5 : decode cX8_goBack 5 = .ok (.astore_n 2, 1) := by decide +kernel
theorem dX8_goBack_6 : decode cX8_goBack 6 = .ok (.aload_n 2, 1) := by decide +kernel
theorem dX8_goBack_7 : decode cX8_goBack 7 = .ok (.ifnonnull 6, 3) := by decide +kernel
theorem dX8_goBack_10 : decode cX8_goBack 10 = .ok (.ldc 142, 2) := by decide +kernel
theorem dX8_goBack_12 : decode cX8_goBack 12 = .ok (.ireturn, 1) := by decide +kernel
theorem dX8_goBack_13 : decode cX8_goBack 13 = .ok (.aload_n 2, 1) := by decide +kernel
theorem dX8_goBack_14 : decode cX8_goBack 14 = .ok (.getfield 265, 3) := by decide +kernel
theorem dX8_goBack_17 : decode cX8_goBack 17 = .ok (.ifCond .ne 6, 3) := by decide +kernel
theorem dX8_goBack_20 : decode cX8_goBack 20 = .ok (.ldc 219, 2) := by decide +kernel
theorem dX8_goBack_22 : decode cX8_goBack 22 = .ok (.ireturn, 1) := by decide +kernel
theorem dX8_goBack_23 : decode cX8_goBack 23 = .ok (.aload_n 2, 1) := by decide +kernel
theorem dX8_goBack_24 : decode cX8_goBack 24 = .ok (.aload_n 0, 1) := by decide +kernel
theorem dX8_goBack_25 : decode cX8_goBack 25 = .ok (.getfield 29, 3) := by decide +kernel
theorem dX8_goBack_28 : decode cX8_goBack 28 = .ok (.aload_n 0, 1) := by decide +kernel
theorem dX8_goBack_29 : decode cX8_goBack 29 = .ok (.getfield 63, 3) := by decide +kernel
theorem dX8_goBack_32 : decode cX8_goBack 32 = .ok (.invokevirtual 268, 3) := by decide +kernel
theorem dX8_goBack_35 : decode cX8_goBack 35 = .ok (.aload_n 0, 1) := by decide +kernel
theorem dX8_goBack_36 : decode cX8_goBack 36 = .ok (.getfield 39, 3) := by decide +kernel
theorem dX8_goBack_39 : decode cX8_goBack 39 = .ok (.invokevirtual 83, 3) := by decide +kernel
theorem dX8_goBack_42 : decode cX8_goBack 42 = .ok (.iconst 1, 1) := by decide +kernel
theorem dX8_goBack_43 : decode cX8_goBack 43 = .ok (.ireturn, 1) := by decide +kernel
theorem dX8_imageOf_0 : decode cX8_imageOf 0 = .ok (.iload_n 1, 1) := by decide +kernel
theorem dX8_imageOf_1 : decode cX8_imageOf 1 = .ok (.ifCond .ne 8, 3) := by decide +kernel
theorem dX8_imageOf_4 : decode cX8_imageOf 4 = .ok (.aload_n 0, 1) := by decide +kernel
theorem dX8_imageOf_5 : decode cX8_imageOf 5 = .ok (.getfield 46, 3) := by decide +kernel
theorem dX8_imageOf_8 : decode cX8_imageOf 8 = .ok (.areturn, 1) := by decide +kernel
theorem dX8_imageOf_9 : decode cX8_imageOf 9 = .ok (.iload_n 1, 1) := by decide +kernel
theorem dX8_imageOf_10 : decode cX8_imageOf 10 = .ok (.iconst 1, 1) := by decide +kernel
theorem dX8_imageOf_11 : decode cX8_imageOf 11 = .ok (.if_icmp .ne 10, 3) := by decide +kernel
theorem dX8_imageOf_14 : decode cX8_imageOf 14 = .ok (.aload_n 0, 1) := by decide +kernel
theorem dX8_imageOf_15 : decode cX8_imageOf 15 = .ok (.getfield 50, 3) := by decide +kernel
theorem dX8_imageOf_18 : decode cX8_imageOf 18 = .ok (.goto 4, 3) := by decide +kernel
theorem dX8_imageOf_21 : decode cX8_imageOf 21 = .ok (.aconst_null, 1) := by decide +kernel
theorem dX8_imageOf_22 : decode cX8_imageOf 22 = .ok (.areturn, 1) := by decide +kernel
theorem dX8_maySetByHand_0 : decode cX8_maySetByHand 0 = .ok (.aload_n 0, 1) := by decide +kernel
theorem dX8_maySetByHand_1 : decode cX8_maySetByHand 1 = .ok (.getfield 29, 3) := by decide +kernel
theorem dX8_maySetByHand_4 : decode cX8_maySetByHand 4 = .ok (.getfield 109, 3) := by decide +kernel
theorem dX8_maySetByHand_7 : decode cX8_maySetByHand 7 = .ok (.ifCond .ne 18, 3) := by decide +kernel
theorem dX8_maySetByHand_10 : decode cX8_maySetByHand 10 = .ok (.aload_n 0, 1) := by decide +kernel
theorem dX8_maySetByHand_11 : decode cX8_maySetByHand 11 = .ok (.getfield 19, 3) := by decide +kernel
theorem dX8_maySetByHand_14 : decode cX8_maySetByHand 14 = .ok (.iload_n 1, 1) := by decide +kernel
theorem dX8_maySetByHand_15 : decode cX8_maySetByHand 15 = .ok (.invokevirtual 147, 3) := by decide +kernel
theorem dX8_maySetByHand_18 : decode cX8_maySetByHand 18 = .ok (.ifCond .ne 7, 3) := by decide +kernel
theorem dX8_maySetByHand_21 : decode cX8_maySetByHand 21 = .ok (.iconst 1, 1) := by decide +kernel
theorem dX8_maySetByHand_22 : decode cX8_maySetByHand 22 = .ok (.goto 4, 3) := by decide +kernel
theorem dX8_maySetByHand_25 : decode cX8_maySetByHand 25 = .ok (.iconst 0, 1) := by decide +kernel
theorem dX8_maySetByHand_26 : decode cX8_maySetByHand 26 = .ok (.ireturn, 1) := by decide +kernel
theorem dX8_driftOnce_0 : decode cX8_driftOnce 0 = .ok (.aload_n 0, 1) := by decide +kernel
theorem dX8_driftOnce_1 : decode cX8_driftOnce 1 = .ok (.getfield 39, 3) := by decide +kernel
theorem dX8_driftOnce_4 : decode cX8_driftOnce 4 = .ok (.aload_n 0, 1) := by decide +kernel
theorem dX8_driftOnce_5 : decode cX8_driftOnce 5 = .ok (.getfield 29, 3) := by decide +kernel
theorem dX8_driftOnce_8 : decode cX8_driftOnce 8 = .ok (.invokevirtual 220, 3) := by decide +kernel
theorem dX8_driftOnce_11 : decode cX8_driftOnce 11 = .ok (.aload_n 0, 1) := by decide +kernel
theorem dX8_driftOnce_12 : decode cX8_driftOnce 12 = .ok (.getfield 63, 3) := by decide +kernel
theorem dX8_driftOnce_15 : decode cX8_driftOnce 15 = .ok (.aload_n 0, 1) := by decide +kernel
theorem dX8_driftOnce_16 : decode cX8_driftOnce 16 = .ok (.getfield 19, 3) := by decide +kernel
theorem dX8_driftOnce_19 : decode cX8_driftOnce 19 = .ok (.getfield 90, 3) := by decide +kernel
theorem dX8_driftOnce_22 : decode cX8_driftOnce 22 = .ok (.invokevirtual 271, 3) := by decide +kernel
theorem dX8_driftOnce_25 : decode cX8_driftOnce 25 = .ok (.istore_n 1, 1) := by decide +kernel
theorem dX8_driftOnce_26 : decode cX8_driftOnce 26 = .ok (.aload_n 0, 1) := by decide +kernel
theorem dX8_driftOnce_27 : decode cX8_driftOnce 27 = .ok (.getfield 63, 3) := by decide +kernel
theorem dX8_driftOnce_30 : decode cX8_driftOnce 30 = .ok (.iconst 4, 1) := by decide +kernel
theorem dX8_driftOnce_31 : decode cX8_driftOnce 31 = .ok (.invokevirtual 271, 3) := by decide +kernel
theorem dX8_driftOnce_34 : decode cX8_driftOnce 34 = .ok (.istore_n 2, 1) := by decide +kernel
theorem dX8_driftOnce_35 : decode cX8_driftOnce 35 = .ok (.aload_n 0, 1) := by decide +kernel
theorem dX8_driftOnce_36 : decode cX8_driftOnce 36 = .ok (.getfield 63, 3) := by decide +kernel
theorem dX8_driftOnce_39 : decode cX8_driftOnce 39 = .ok (.bipush 21, 2) := by decide +kernel
theorem dX8_driftOnce_41 : decode cX8_driftOnce 41 = .ok (.invokevirtual 271, 3) := by decide +kernel
theorem dX8_driftOnce_44 : decode cX8_driftOnce 44 = .ok (.istore_n 3, 1) := by decide +kernel
theorem dX8_driftOnce_45 : decode cX8_driftOnce 45 = .ok (.aload_n 0, 1) := by decide +kernel
theorem dX8_driftOnce_46 : decode cX8_driftOnce 46 = .ok (.iload_n 1, 1) := by decide +kernel
theorem dX8_driftOnce_47 : decode cX8_driftOnce 47 = .ok (.invokevirtual 230, 3) := by decide +kernel
theorem dX8_driftOnce_50 : decode cX8_driftOnce 50 = .ok (.ifCond .eq 31, 3) := by decide +kernel
theorem dX8_driftOnce_53 : decode cX8_driftOnce 53 = .ok (.aload_n 0, 1) := by decide +kernel
theorem dX8_driftOnce_54 : decode cX8_driftOnce 54 = .ok (.getfield 29, 3) := by decide +kernel
theorem dX8_driftOnce_57 : decode cX8_driftOnce 57 = .ok (.invokevirtual 233, 3) := by decide +kernel
theorem dX8_driftOnce_60 : decode cX8_driftOnce 60 = .ok (.ifCond .ne 21, 3) := by decide +kernel
theorem dX8_driftOnce_63 : decode cX8_driftOnce 63 = .ok (.aload_n 0, 1) := by decide +kernel
theorem dX8_driftOnce_64 : decode cX8_driftOnce 64 = .ok (.getfield 29, 3) := by decide +kernel
theorem dX8_driftOnce_67 : decode cX8_driftOnce 67 = .ok (.iload_n 1, 1) := by decide +kernel
theorem dX8_driftOnce_68 : decode cX8_driftOnce 68 = .ok (.iload_n 2, 1) := by decide +kernel
theorem dX8_driftOnce_69 : decode cX8_driftOnce 69 = .ok (.aload_n 0, 1) := by decide +kernel
theorem dX8_driftOnce_70 : decode cX8_driftOnce 70 = .ok (.getfield 29, 3) := by decide +kernel
theorem dX8_driftOnce_73 : decode cX8_driftOnce 73 = .ok (.getfield 103, 3) := by decide +kernel
theorem dX8_driftOnce_76 : decode cX8_driftOnce 76 = .ok (.iload_n 3, 1) := by decide +kernel
theorem dX8_driftOnce_77 : decode cX8_driftOnce 77 = .ok (.iadd, 1) := by decide +kernel
theorem dX8_driftOnce_78 : decode cX8_driftOnce 78 = .ok (.invokevirtual 237, 3) := by decide +kernel
theorem dX8_driftOnce_81 : decode cX8_driftOnce 81 = .ok (.aload_n 0, 1) := by decide +kernel
theorem dX8_driftOnce_82 : decode cX8_driftOnce 82 = .ok (.getfield 29, 3) := by decide +kernel
theorem dX8_driftOnce_85 : decode cX8_driftOnce 85 = .ok (.getfield 109, 3) := by decide +kernel
theorem dX8_driftOnce_88 : decode cX8_driftOnce 88 = .ok (.ifCond .ne 24, 3) := by decide +kernel
theorem dX8_driftOnce_91 : decode cX8_driftOnce 91 = .ok (.aload_n 0, 1) := by decide +kernel
theorem dX8_driftOnce_92 : decode cX8_driftOnce 92 = .ok (.getfield 29, 3) := by decide +kernel
theorem dX8_driftOnce_95 : decode cX8_driftOnce 95 = .ok (.invokevirtual 113, 3) := by decide +kernel
theorem dX8_driftOnce_98 : decode cX8_driftOnce 98 = .ok (.ifCond .ne 14, 3) := by decide +kernel
theorem dX8_driftOnce_101 : decode cX8_driftOnce 101 = .ok (.aload_n 0, 1) := by decide +kernel
theorem dX8_driftOnce_102 : decode cX8_driftOnce 102 = .ok (.getfield 29, 3) := by decide +kernel
theorem dX8_driftOnce_105 : decode cX8_driftOnce 105 = .ok (.aload_n 0, 1) := by decide +kernel
theorem dX8_driftOnce_106 : decode cX8_driftOnce 106 = .ok (.getfield 19, 3) := by decide +kernel
theorem dX8_driftOnce_109 : decode cX8_driftOnce 109 = .ok (.invokevirtual 224, 3) := by decide +kernel
theorem dX8_driftOnce_112 : decode cX8_driftOnce 112 = .ok (.return_, 1) := by decide +kernel
theorem dX8_stepsTillStill_0 : decode cX8_stepsTillStill 0 = .ok (.aload_n 0, 1) := by decide +kernel
theorem dX8_stepsTillStill_1 : decode cX8_stepsTillStill 1 = .ok (.getfield 33, 3) := by decide +kernel
theorem dX8_stepsTillStill_4 : decode cX8_stepsTillStill 4 = .ok (.aload_n 0, 1) := by decide +kernel
theorem dX8_stepsTillStill_5 : decode cX8_stepsTillStill 5 = .ok (.getfield 29, 3) := by decide +kernel
theorem dX8_stepsTillStill_8 : decode cX8_stepsTillStill 8 = .ok (.invokevirtual 274, 3) := by decide +kernel
theorem dX8_stepsTillStill_11 : decode cX8_stepsTillStill 11 = .ok (.iconst 0, 1) := by decide +kernel
theorem dX8_stepsTillStill_12 : decode cX8_stepsTillStill 12 = .ok (.istore_n 1, 1) := by decide +kernel
theorem dX8_stepsTillStill_13 : decode cX8_stepsTillStill 13 = .ok (.iload_n 1, 1) := by decide +kernel
theorem dX8_stepsTillStill_14 : decode cX8_stepsTillStill 14 = .ok (.bipush 100, 2) := by decide +kernel
theorem dX8_stepsTillStill_16 : decode cX8_stepsTillStill 16 = .ok (.if_icmp .ge 40, 3) := by decide +kernel
theorem dX8_stepsTillStill_19 : decode cX8_stepsTillStill 19 = .ok (.aload_n 0, 1) := by decide +kernel
theorem dX8_stepsTillStill_20 : decode cX8_stepsTillStill 20 = .ok (.getfield 33, 3) := by decide +kernel
theorem dX8_stepsTillStill_23 : decode cX8_stepsTillStill 23 = .ok (.getfield 109, 3) := by decide +kernel
theorem dX8_stepsTillStill_26 : decode cX8_stepsTillStill 26 = .ok (.ifCond .ne 30, 3) := by decide +kernel
theorem dX8_stepsTillStill_29 : decode cX8_stepsTillStill 29 = .ok (.aload_n 0, 1) := by decide +kernel
theorem dX8_stepsTillStill_30 : decode cX8_stepsTillStill 30 = .ok (.getfield 33, 3) := by decide +kernel
theorem dX8_stepsTillStill_33 : decode cX8_stepsTillStill 33 = .ok (.invokevirtual 113, 3) := by decide +kernel
theorem dX8_stepsTillStill_36 : decode cX8_stepsTillStill 36 = .ok (.ifCond .ne 20, 3) := by decide +kernel
theorem dX8_stepsTillStill_39 : decode cX8_stepsTillStill 39 = .ok (.aload_n 0, 1) := by decide +kernel
theorem dX8_stepsTillStill_40 : decode cX8_stepsTillStill 40 = .ok (.getfield 33, 3) := by decide +kernel
theorem dX8_stepsTillStill_43 : decode cX8_stepsTillStill 43 = .ok (.aload_n 0, 1) := by decide +kernel
theorem dX8_stepsTillStill_44 : decode cX8_stepsTillStill 44 = .ok (.getfield 19, 3) := by decide +kernel
theorem dX8_stepsTillStill_47 : decode cX8_stepsTillStill 47 = .ok (.invokevirtual 224, 3) := by decide +kernel
theorem dX8_stepsTillStill_50 : decode cX8_stepsTillStill 50 = .ok (.iinc 1 1, 3) := by decide +kernel
theorem dX8_stepsTillStill_53 : decode cX8_stepsTillStill 53 = .ok (.goto (-40), 3) := by decide +kernel
theorem dX8_stepsTillStill_56 : decode cX8_stepsTillStill 56 = .ok (.aload_n 0, 1) := by decide +kernel
theorem dX8_stepsTillStill_57 : decode cX8_stepsTillStill 57 = .ok (.getfield 33, 3) := by decide +kernel
theorem dX8_stepsTillStill_60 : decode cX8_stepsTillStill 60 = .ok (.getfield 109, 3) := by decide +kernel
theorem dX8_stepsTillStill_63 : decode cX8_stepsTillStill 63 = .ok (.ifCond .ne 13, 3) := by decide +kernel
theorem dX8_stepsTillStill_66 : decode cX8_stepsTillStill 66 = .ok (.aload_n 0, 1) := by decide +kernel
theorem dX8_stepsTillStill_67 : decode cX8_stepsTillStill 67 = .ok (.getfield 33, 3) := by decide +kernel
theorem dX8_stepsTillStill_70 : decode cX8_stepsTillStill 70 = .ok (.invokevirtual 113, 3) := by decide +kernel
theorem dX8_stepsTillStill_73 : decode cX8_stepsTillStill 73 = .ok (.ifCond .ne 7, 3) := by decide +kernel
theorem dX8_stepsTillStill_76 : decode cX8_stepsTillStill 76 = .ok (.iconst (-1), 1) := by decide +kernel
theorem dX8_stepsTillStill_77 : decode cX8_stepsTillStill 77 = .ok (.goto 4, 3) := by decide +kernel
theorem dX8_stepsTillStill_80 : decode cX8_stepsTillStill 80 = .ok (.iload_n 1, 1) := by decide +kernel
theorem dX8_stepsTillStill_81 : decode cX8_stepsTillStill 81 = .ok (.ireturn, 1) := by decide +kernel
theorem dJ9_floorMod_7cf53_0 : decode cJ9_floorMod_7cf53 0 = .ok (.iload_n 0, 1) := by decide +kernel
theorem dJ9_floorMod_7cf53_1 : decode cJ9_floorMod_7cf53 1 = .ok (.iload_n 1, 1) := by decide +kernel
theorem dJ9_floorMod_7cf53_2 : decode cJ9_floorMod_7cf53 2 = .ok (.irem, 1) := by decide +kernel
theorem dJ9_floorMod_7cf53_3 : decode cJ9_floorMod_7cf53 3 = .ok (.istore_n 2, 1) := by decide +kernel
theorem dJ9_floorMod_7cf53_4 : decode cJ9_floorMod_7cf53 4 = .ok (.iload_n 0, 1) := by decide +kernel
theorem dJ9_floorMod_7cf53_5 : decode cJ9_floorMod_7cf53 5 = .ok (.iload_n 1, 1) := by decide +kernel
theorem dJ9_floorMod_7cf53_6 : decode cJ9_floorMod_7cf53 6 = .ok (.ixor, 1) := by decide +kernel
theorem dJ9_floorMod_7cf53_7 : decode cJ9_floorMod_7cf53 7 = .ok (.ifCond .ge 11, 3) := by decide +kernel
theorem dJ9_floorMod_7cf53_10 : decode cJ9_floorMod_7cf53 10 = .ok (.iload_n 2, 1) := by decide +kernel
theorem dJ9_floorMod_7cf53_11 : decode cJ9_floorMod_7cf53 11 = .ok (.ifCond .eq 7, 3) := by decide +kernel
theorem dJ9_floorMod_7cf53_14 : decode cJ9_floorMod_7cf53 14 = .ok (.iload_n 2, 1) := by decide +kernel
theorem dJ9_floorMod_7cf53_15 : decode cJ9_floorMod_7cf53 15 = .ok (.iload_n 1, 1) := by decide +kernel
theorem dJ9_floorMod_7cf53_16 : decode cJ9_floorMod_7cf53 16 = .ok (.iadd, 1) := by decide +kernel
theorem dJ9_floorMod_7cf53_17 : decode cJ9_floorMod_7cf53 17 = .ok (.ireturn, 1) := by decide +kernel
theorem dJ9_floorMod_7cf53_18 : decode cJ9_floorMod_7cf53 18 = .ok (.iload_n 2, 1) := by decide +kernel
theorem dJ9_floorMod_7cf53_19 : decode cJ9_floorMod_7cf53 19 = .ok (.ireturn, 1) := by decide +kernel
theorem dJ9_max_7cf53_0 : decode cJ9_max_7cf53 0 = .ok (.iload_n 0, 1) := by decide +kernel
theorem dJ9_max_7cf53_1 : decode cJ9_max_7cf53 1 = .ok (.iload_n 1, 1) := by decide +kernel
theorem dJ9_max_7cf53_2 : decode cJ9_max_7cf53 2 = .ok (.if_icmp .lt 7, 3) := by decide +kernel
theorem dJ9_max_7cf53_5 : decode cJ9_max_7cf53 5 = .ok (.iload_n 0, 1) := by decide +kernel
theorem dJ9_max_7cf53_6 : decode cJ9_max_7cf53 6 = .ok (.goto 4, 3) := by decide +kernel
theorem dJ9_max_7cf53_9 : decode cJ9_max_7cf53 9 = .ok (.iload_n 1, 1) := by decide +kernel
theorem dJ9_max_7cf53_10 : decode cJ9_max_7cf53 10 = .ok (.ireturn, 1) := by decide +kernel
theorem dJ9_min_7cf53_0 : decode cJ9_min_7cf53 0 = .ok (.iload_n 0, 1) := by decide +kernel
theorem dJ9_min_7cf53_1 : decode cJ9_min_7cf53 1 = .ok (.iload_n 1, 1) := by decide +kernel
theorem dJ9_min_7cf53_2 : decode cJ9_min_7cf53 2 = .ok (.if_icmp .gt 7, 3) := by decide +kernel
theorem dJ9_min_7cf53_5 : decode cJ9_min_7cf53 5 = .ok (.iload_n 0, 1) := by decide +kernel
theorem dJ9_min_7cf53_6 : decode cJ9_min_7cf53 6 = .ok (.goto 4, 3) := by decide +kernel
theorem dJ9_min_7cf53_9 : decode cJ9_min_7cf53 9 = .ok (.iload_n 1, 1) := by decide +kernel
theorem dJ9_min_7cf53_10 : decode cJ9_min_7cf53 10 = .ok (.ireturn, 1) := by decide +kernel
end
section
theorem dX9_init_0 : decode cX9_init 0 = .ok (.aload_n 0, 1) := by decide +kernel
theorem dX9_init_1 : decode cX9_init 1 = .ok (.invokespecial 1, 3) := by decide +kernel
theorem dX9_init_4 : decode cX9_init 4 = .ok (.aload_n 0, 1) := by decide +kernel
theorem dX9_init_5 : decode cX9_init 5 = .ok (.sipush 6880, 3) := by decide +kernel
theorem dX9_init_8 : decode cX9_init 8 = .ok (.newarray .int, 2) := by decide +kernel
theorem dX9_init_10 : decode cX9_init 10 = .ok (.putfield 7, 3) := by decide +kernel
theorem dX9_init_13 : decode cX9_init 13 = .ok (.aload_n 0, 1) := by decide +kernel
theorem dX9_init_14 : decode cX9_init 14 = .ok (.bipush 48, 2) := by decide +kernel
theorem dX9_init_16 : decode cX9_init 16 = .ok (.newarray .int, 2) := by decide +kernel
theorem dX9_init_18 : decode cX9_init 18 = .ok (.putfield 13, 3) := by decide +kernel
theorem dX9_init_21 : decode cX9_init 21 = .ok (.aload_n 0, 1) := by decide +kernel
theorem dX9_init_22 : decode cX9_init 22 = .ok (.iconst 2, 1) := by decide +kernel
theorem dX9_init_23 : decode cX9_init 23 = .ok (.newarray .int, 2) := by decide +kernel
theorem dX9_init_25 : decode cX9_init 25 = .ok (.putfield 16, 3) := by decide +kernel
theorem dX9_init_28 : decode cX9_init 28 = .ok (.aload_n 0, 1) := by decide +kernel
theorem dX9_init_29 : decode cX9_init 29 = .ok (.bipush 20, 2) := by decide +kernel
theorem dX9_init_31 : decode cX9_init 31 = .ok (.newarray .int, 2) := by decide +kernel
theorem dX9_init_33 : decode cX9_init 33 = .ok (.putfield 19, 3) := by decide +kernel
theorem dX9_init_36 : decode cX9_init 36 = .ok (.aload_n 0, 1) := by decide +kernel
theorem dX9_init_37 : decode cX9_init 37 = .ok (.bipush 20, 2) := by decide +kernel
theorem dX9_init_39 : decode cX9_init 39 = .ok (.newarray .int, 2) := by decide +kernel
theorem dX9_init_41 : decode cX9_init 41 = .ok (.putfield 22, 3) := by decide +kernel
theorem dX9_init_44 : decode cX9_init 44 = .ok (.aload_n 0, 1) := by decide +kernel
theorem dX9_init_45 : decode cX9_init 45 = .ok (.sipush 200, 3) := by decide +kernel
theorem dX9_init_48 : decode cX9_init 48 = .ok (.newarray .int, 2) := by decide +kernel
theorem dX9_init_50 : decode cX9_init 50 = .ok (.putfield 25, 3) := by decide +kernel
theorem dX9_init_53 : decode cX9_init 53 = .ok (.aload_n 0, 1) := by decide +kernel
theorem dX9_init_54 : decode cX9_init 54 = .ok (.iconst (-1), 1) := by decide +kernel
theorem dX9_init_55 : decode cX9_init 55 = .ok (.putfield 28, 3) := by decide +kernel
theorem dX9_init_58 : decode cX9_init 58 = .ok (.aload_n 0, 1) := by decide +kernel
theorem dX9_init_59 : decode cX9_init 59 = .ok (.bipush 8, 2) := by decide +kernel
theorem dX9_init_61 : decode cX9_init 61 = .ok (.newarray .int, 2) := by decide +kernel
theorem dX9_init_63 : decode cX9_init 63 = .ok (.putfield 32, 3) := by decide +kernel
theorem dX9_init_66 : decode cX9_init 66 = .ok (.aload_n 0, 1) := by decide +kernel
theorem dX9_init_67 : decode cX9_init 67 = .ok (.bipush 48, 2) := by decide +kernel
theorem dX9_init_69 : decode cX9_init 69 = .ok (.newarray .int, 2) := by decide +kernel
theorem dX9_init_71 : decode cX9_init 71 = .ok (.putfield 35, 3) := by decide +kernel
theorem dX9_init_74 : decode cX9_init 74 = .ok (.return_, 1) := by decide +kernel
theorem dX9_in_0 : decode cX9_in 0 = .ok (.iload_n 0, 1) := by decide +kernel
theorem dX9_in_1 : decode cX9_in 1 = .ok (.iload_n 1, 1) := by decide +kernel
theorem dX9_in_2 : decode cX9_in 2 = .ok (.if_icmp .lt 12, 3) := by decide +kernel
theorem dX9_in_5 : decode cX9_in 5 = .ok (.iload_n 0, 1) := by decide +kernel
theorem dX9_in_6 : decode cX9_in 6 = .ok (.iload_n 2, 1) := by decide +kernel
theorem dX9_in_7 : decode cX9_in 7 = .ok (.if_icmp .gt 7, 3) := by decide +kernel
theorem dX9_in_10 : decode cX9_in 10 = .ok (.iconst 1, 1) := by decide +kernel
theorem dX9_in_11 : decode cX9_in 11 = .ok (.goto 4, 3) := by decide +kernel
theorem dX9_in_14 : decode cX9_in 14 = .ok (.iconst 0, 1) := by decide +kernel
theorem dX9_in_15 : decode cX9_in 15 = .ok (.ireturn, 1) := by decide +kernel
theorem dX9_least_0 : decode cX9_least 0 = .ok (.iload_n 0, 1) := by decide +kernel
theorem dX9_least_1 : decode cX9_least 1 = .ok (.iload_n 1, 1) := by decide +kernel
theorem dX9_least_2 : decode cX9_least 2 = .ok (.if_icmp .ge 7, 3) := by decide +kernel
theorem dX9_least_5 : decode cX9_least 5 = .ok (.iload_n 0, 1) := by decide +kernel
theorem dX9_least_6 : decode cX9_least 6 = .ok (.goto 4, 3) := by decide +kernel
theorem dX9_least_9 : decode cX9_least 9 = .ok (.iload_n 1, 1) := by decide +kernel
theorem dX9_least_10 : decode cX9_least 10 = .ok (.ireturn, 1) := by decide +kernel
theorem dX9_copyRow_0 : decode cX9_copyRow 0 = .ok (.iconst 0, 1) := by decide +kernel
theorem dX9_copyRow_1 : decode cX9_copyRow 1 = .ok (.istore_n 3, 1) := by decide +kernel
theorem dX9_copyRow_2 : decode cX9_copyRow 2 = .ok (.iload_n 3, 1) := by decide +kernel
theorem dX9_copyRow_3 : decode cX9_copyRow 3 = .ok (.sipush 344, 3) := by decide +kernel
theorem dX9_copyRow_6 : decode cX9_copyRow 6 = .ok (.if_icmp .ge 25, 3) := by decide +kernel
theorem dX9_copyRow_9 : decode cX9_copyRow 9 = .ok (.aload_n 0, 1) := by decide +kernel
theorem dX9_copyRow_10 : decode cX9_copyRow 10 = .ok (.getfield 7, 3) := by decide +kernel
theorem dX9_copyRow_13 : decode cX9_copyRow 13 = .ok (.iload_n 2, 1) := by decide +kernel
theorem dX9_copyRow_14 : decode cX9_copyRow 14 = .ok (.iload_n 3, 1) := by decide +kernel
theorem dX9_copyRow_15 : decode cX9_copyRow 15 = .ok (.iadd, 1) := by decide +kernel
theorem dX9_copyRow_16 : decode cX9_copyRow 16 = .ok (.aload_n 0, 1) := by decide +kernel
theorem dX9_copyRow_17 : decode cX9_copyRow 17 = .ok (.getfield 7, 3) := by decide +kernel
theorem dX9_copyRow_20 : decode cX9_copyRow 20 = .ok (.iload_n 1, 1) := by decide +kernel
theorem dX9_copyRow_21 : decode cX9_copyRow 21 = .ok (.iload_n 3, 1) := by decide +kernel
theorem dX9_copyRow_22 : decode cX9_copyRow 22 = .ok (.iadd, 1) := by decide +kernel
theorem dX9_copyRow_23 : decode cX9_copyRow 23 = .ok (.iaload, 1) := by decide +kernel
theorem dX9_copyRow_24 : decode cX9_copyRow 24 = .ok (.iastore, 1) := by decide +kernel
theorem dX9_copyRow_25 : decode cX9_copyRow 25 = .ok (.iinc 3 1, 3) := by decide +kernel
theorem dX9_copyRow_28 : decode cX9_copyRow 28 = .ok (.goto (-26), 3) := by decide +kernel
theorem dX9_copyRow_31 : decode cX9_copyRow 31 = .ok (.return_, 1) := by decide +kernel
theorem dX9_isWire_0 : decode cX9_isWire 0 = .ok (.iload_n 1, 1) := by decide +kernel
theorem dX9_isWire_1 : decode cX9_isWire 1 = .ok (.iconst 0, 1) := by decide +kernel
theorem dX9_isWire_2 : decode cX9_isWire 2 = .ok (.aload_n 0, 1) := by decide +kernel
theorem dX9_isWire_3 : decode cX9_isWire 3 = .ok (.getfield 38, 3) := by decide +kernel
theorem dX9_isWire_6 : decode cX9_isWire 6 = .ok (.iconst 1, 1) := by decide +kernel
theorem dX9_isWire_7 : decode cX9_isWire 7 = .ok (.isub, 1) := by decide +kernel
theorem dX9_isWire_8 : decode cX9_isWire 8 = .ok (.invokestatic 41, 3) := by decide +kernel
theorem dX9_isWire_11 : decode cX9_isWire 11 = .ok (.ireturn, 1) := by decide +kernel
theorem dX9_isGate_0 : decode cX9_isGate 0 = .ok (.iload_n 1, 1) := by decide +kernel
theorem dX9_isGate_1 : decode cX9_isGate 1 = .ok (.iconst 0, 1) := by decide +kernel
theorem dX9_isGate_2 : decode cX9_isGate 2 = .ok (.aload_n 0, 1) := by decide +kernel
theorem dX9_isGate_3 : decode cX9_isGate 3 = .ok (.getfield 45, 3) := by decide +kernel
theorem dX9_isGate_6 : decode cX9_isGate 6 = .ok (.iconst 1, 1) := by decide +kernel
theorem dX9_isGate_7 : decode cX9_isGate 7 = .ok (.isub, 1) := by decide +kernel
theorem dX9_isGate_8 : decode cX9_isGate 8 = .ok (.invokestatic 41, 3) := by decide +kernel
theorem dX9_isGate_11 : decode cX9_isGate 11 = .ok (.ireturn, 1) := by decide +kernel
theorem dX9_isLevel_0 : decode cX9_isLevel 0 = .ok (.iload_n 0, 1) := by decide +kernel
theorem dX9_isLevel_1 : decode cX9_isLevel 1 = .ok (.iconst 0, 1) := by decide +kernel
theorem dX9_isLevel_2 : decode cX9_isLevel 2 = .ok (.iconst 3, 1) := by decide +kernel
theorem dX9_isLevel_3 : decode cX9_isLevel 3 = .ok (.invokestatic 41, 3) := by decide +kernel
theorem dX9_isLevel_6 : decode cX9_isLevel 6 = .ok (.ireturn, 1) := by decide +kernel
theorem dX9_of_0 : decode cX9_of 0 = .ok (.aload_n 0, 1) := by decide +kernel
theorem dX9_of_1 : decode cX9_of 1 = .ok (.getfield 13, 3) := by decide +kernel
theorem dX9_of_4 : decode cX9_of 4 = .ok (.bipush 6, 2) := by decide +kernel
theorem dX9_of_6 : decode cX9_of 6 = .ok (.iload_n 1, 1) := by decide +kernel
theorem dX9_of_7 : decode cX9_of 7 = .ok (.imul, 1) := by decide +kernel
theorem dX9_of_8 : decode cX9_of 8 = .ok (.iload_n 2, 1) := by decide +kernel
theorem dX9_of_9 : decode cX9_of 9 = .ok (.iadd, 1) := by decide +kernel
theorem dX9_of_10 : decode cX9_of 10 = .ok (.iaload, 1) := by decide +kernel
theorem dX9_of_11 : decode cX9_of 11 = .ok (.ireturn, 1) := by decide +kernel
theorem dX9_firm_0 : decode cX9_firm 0 = .ok (.iload_n 0, 1) := by decide +kernel
theorem dX9_firm_1 : decode cX9_firm 1 = .ok (.iconst 2, 1) := by decide +kernel
theorem dX9_firm_2 : decode cX9_firm 2 = .ok (.if_icmp .ne 7, 3) := by decide +kernel
theorem dX9_firm_5 : decode cX9_firm 5 = .ok (.iconst 3, 1) := by decide +kernel
theorem dX9_firm_6 : decode cX9_firm 6 = .ok (.goto 4, 3) := by decide +kernel
theorem dX9_firm_9 : decode cX9_firm 9 = .ok (.iload_n 0, 1) := by decide +kernel
theorem dX9_firm_10 : decode cX9_firm 10 = .ok (.ireturn, 1) := by decide +kernel
theorem dX9_together_0 : decode cX9_together 0 = .ok (.iload_n 0, 1) := by decide +kernel
theorem dX9_together_1 : decode cX9_together 1 = .ok (.iconst 2, 1) := by decide +kernel
theorem dX9_together_2 : decode cX9_together 2 = .ok (.if_icmp .ne 5, 3) := by decide +kernel
theorem dX9_together_5 : decode cX9_together 5 = .ok (.iload_n 1, 1) := by decide +kernel
theorem dX9_together_6 : decode cX9_together 6 = .ok (.ireturn, 1) := by decide +kernel
theorem dX9_together_7 : decode cX9_together 7 = .ok (.iload_n 1, 1) := by decide +kernel
theorem dX9_together_8 : decode cX9_together 8 = .ok (.iconst 2, 1) := by decide +kernel
theorem dX9_together_9 : decode cX9_together 9 = .ok (.if_icmp .eq 8, 3) := by decide +kernel
theorem dX9_together_12 : decode cX9_together 12 = .ok (.iload_n 0, 1) := by decide +kernel
theorem dX9_together_13 : decode cX9_together 13 = .ok (.iload_n 1, 1) := by decide +kernel
theorem dX9_together_14 : decode cX9_together 14 = .ok (.if_icmp .ne 7, 3) := by decide +kernel
theorem dX9_together_17 : decode cX9_together 17 = .ok (.iload_n 0, 1) := by decide +kernel
theorem dX9_together_18 : decode cX9_together 18 = .ok (.goto 4, 3) := by decide +kernel
theorem dX9_together_21 : decode cX9_together 21 = .ok (.iconst 3, 1) := by decide +kernel
theorem dX9_together_22 : decode cX9_together 22 = .ok (.ireturn, 1) := by decide +kernel
theorem dX9_made_0 : decode cX9_made 0 = .ok (.iload_n 1, 1) := by decide +kernel
theorem dX9_made_1 : decode cX9_made 1 = .ok (.invokestatic 48, 3) := by decide +kernel
theorem dX9_made_4 : decode cX9_made 4 = .ok (.istore_n 3, 1) := by decide +kernel
theorem dX9_made_5 : decode cX9_made 5 = .ok (.iload_n 2, 1) := by decide +kernel
theorem dX9_made_6 : decode cX9_made 6 = .ok (.invokestatic 48, 3) := by decide +kernel
theorem dX9_made_9 : decode cX9_made 9 = .ok (.istore 4, 2) := by decide +kernel
theorem dX9_made_11 : decode cX9_made 11 = .ok (.iload_n 0, 1) := by decide +kernel
theorem dX9_made_12 : decode cX9_made 12 = .ok (.tableswitch 132 0 3 #[32, 45, 75, 105], 32) := by decide +kernel
theorem dX9_made_44 : decode cX9_made 44 = .ok (.iload_n 3, 1) := by decide +kernel
theorem dX9_made_45 : decode cX9_made 45 = .ok (.iconst 3, 1) := by decide +kernel
theorem dX9_made_46 : decode cX9_made 46 = .ok (.if_icmp .ne 7, 3) := by decide +kernel
theorem dX9_made_49 : decode cX9_made 49 = .ok (.iconst 3, 1) := by decide +kernel
theorem dX9_made_50 : decode cX9_made 50 = .ok (.goto 6, 3) := by decide +kernel
theorem dX9_made_53 : decode cX9_made 53 = .ok (.iconst 1, 1) := by decide +kernel
theorem dX9_made_54 : decode cX9_made 54 = .ok (.iload_n 3, 1) := by decide +kernel
theorem dX9_made_55 : decode cX9_made 55 = .ok (.isub, 1) := by decide +kernel
theorem dX9_made_56 : decode cX9_made 56 = .ok (.ireturn, 1) := by decide +kernel
theorem dX9_made_57 : decode cX9_made 57 = .ok (.iload_n 3, 1) := by decide +kernel
theorem dX9_made_58 : decode cX9_made 58 = .ok (.ifCond .eq 8, 3) := by decide +kernel
theorem dX9_made_61 : decode cX9_made 61 = .ok (.iload 4, 2) := by decide +kernel
theorem dX9_made_63 : decode cX9_made 63 = .ok (.ifCond .ne 7, 3) := by decide +kernel
theorem dX9_made_66 : decode cX9_made 66 = .ok (.iconst 0, 1) := by decide +kernel
theorem dX9_made_67 : decode cX9_made 67 = .ok (.goto 19, 3) := by decide +kernel
theorem dX9_made_70 : decode cX9_made 70 = .ok (.iload_n 3, 1) := by decide +kernel
theorem dX9_made_71 : decode cX9_made 71 = .ok (.iconst 1, 1) := by decide +kernel
theorem dX9_made_72 : decode cX9_made 72 = .ok (.if_icmp .ne 13, 3) := by decide +kernel
theorem dX9_made_75 : decode cX9_made 75 = .ok (.iload 4, 2) := by decide +kernel
theorem dX9_made_77 : decode cX9_made 77 = .ok (.iconst 1, 1) := by decide +kernel
theorem dX9_made_78 : decode cX9_made 78 = .ok (.if_icmp .ne 7, 3) := by decide +kernel
theorem dX9_made_81 : decode cX9_made 81 = .ok (.iconst 1, 1) := by decide +kernel
theorem dX9_made_82 : decode cX9_made 82 = .ok (.goto 4, 3) := by decide +kernel
theorem dX9_made_85 : decode cX9_made 85 = .ok (.iconst 3, 1) := by decide +kernel
theorem dX9_made_86 : decode cX9_made 86 = .ok (.ireturn, 1) := by decide +kernel
theorem dX9_made_87 : decode cX9_made 87 = .ok (.iload_n 3, 1) := by decide +kernel
theorem dX9_made_88 : decode cX9_made 88 = .ok (.iconst 1, 1) := by decide +kernel
theorem dX9_made_89 : decode cX9_made 89 = .ok (.if_icmp .eq 9, 3) := by decide +kernel
theorem dX9_made_92 : decode cX9_made 92 = .ok (.iload 4, 2) := by decide +kernel
theorem dX9_made_94 : decode cX9_made 94 = .ok (.iconst 1, 1) := by decide +kernel
theorem dX9_made_95 : decode cX9_made 95 = .ok (.if_icmp .ne 7, 3) := by decide +kernel
theorem dX9_made_98 : decode cX9_made 98 = .ok (.iconst 1, 1) := by decide +kernel
theorem dX9_made_99 : decode cX9_made 99 = .ok (.goto 17, 3) := by decide +kernel
theorem dX9_made_102 : decode cX9_made 102 = .ok (.iload_n 3, 1) := by decide +kernel
theorem dX9_made_103 : decode cX9_made 103 = .ok (.ifCond .ne 12, 3) := by decide +kernel
theorem dX9_made_106 : decode cX9_made 106 = .ok (.iload 4, 2) := by decide +kernel
theorem dX9_made_108 : decode cX9_made 108 = .ok (.ifCond .ne 7, 3) := by decide +kernel
theorem dX9_made_111 : decode cX9_made 111 = .ok (.iconst 0, 1) := by decide +kernel
theorem dX9_made_112 : decode cX9_made 112 = .ok (.goto 4, 3) := by decide +kernel
theorem dX9_made_115 : decode cX9_made 115 = .ok (.iconst 3, 1) := by decide +kernel
theorem dX9_made_116 : decode cX9_made 116 = .ok (.ireturn, 1) := by decide +kernel
theorem dX9_made_117 : decode cX9_made 117 = .ok (.iload_n 3, 1) := by decide +kernel
theorem dX9_made_118 : decode cX9_made 118 = .ok (.iconst 3, 1) := by decide +kernel
theorem dX9_made_119 : decode cX9_made 119 = .ok (.if_icmp .eq 9, 3) := by decide +kernel
theorem dX9_made_122 : decode cX9_made 122 = .ok (.iload 4, 2) := by decide +kernel
theorem dX9_made_124 : decode cX9_made 124 = .ok (.iconst 3, 1) := by decide +kernel
theorem dX9_made_125 : decode cX9_made 125 = .ok (.if_icmp .ne 7, 3) := by decide +kernel
theorem dX9_made_128 : decode cX9_made 128 = .ok (.iconst 3, 1) := by decide +kernel
theorem dX9_made_129 : decode cX9_made 129 = .ok (.goto 14, 3) := by decide +kernel
theorem dX9_made_132 : decode cX9_made 132 = .ok (.iload_n 3, 1) := by decide +kernel
theorem dX9_made_133 : decode cX9_made 133 = .ok (.iload 4, 2) := by decide +kernel
theorem dX9_made_135 : decode cX9_made 135 = .ok (.if_icmp .ne 7, 3) := by decide +kernel
theorem dX9_made_138 : decode cX9_made 138 = .ok (.iconst 0, 1) := by decide +kernel
theorem dX9_made_139 : decode cX9_made 139 = .ok (.goto 4, 3) := by decide +kernel
theorem dX9_made_142 : decode cX9_made 142 = .ok (.iconst 1, 1) := by decide +kernel
theorem dX9_made_143 : decode cX9_made 143 = .ok (.ireturn, 1) := by decide +kernel
theorem dX9_made_144 : decode cX9_made 144 = .ok (.iload 4, 2) := by decide +kernel
theorem dX9_made_146 : decode cX9_made 146 = .ok (.ifCond .ne 7, 3) := by decide +kernel
theorem dX9_made_149 : decode cX9_made 149 = .ok (.iconst 2, 1) := by decide +kernel
theorem dX9_made_150 : decode cX9_made 150 = .ok (.goto 14, 3) := by decide +kernel
theorem dX9_made_153 : decode cX9_made 153 = .ok (.iload 4, 2) := by decide +kernel
theorem dX9_made_155 : decode cX9_made 155 = .ok (.iconst 1, 1) := by decide +kernel
theorem dX9_made_156 : decode cX9_made 156 = .ok (.if_icmp .ne 7, 3) := by decide +kernel
theorem dX9_made_159 : decode cX9_made 159 = .ok (.iload_n 3, 1) := by decide +kernel
theorem dX9_made_160 : decode cX9_made 160 = .ok (.goto 4, 3) := by decide +kernel
theorem dX9_made_163 : decode cX9_made 163 = .ok (.iconst 3, 1) := by decide +kernel
theorem dX9_made_164 : decode cX9_made 164 = .ok (.ireturn, 1) := by decide +kernel
theorem dX9_comesOf_0 : decode cX9_comesOf 0 = .ok (.aload_n 0, 1) := by decide +kernel
theorem dX9_comesOf_1 : decode cX9_comesOf 1 = .ok (.getfield 7, 3) := by decide +kernel
theorem dX9_comesOf_4 : decode cX9_comesOf 4 = .ok (.iload_n 1, 1) := by decide +kernel
theorem dX9_comesOf_5 : decode cX9_comesOf 5 = .ok (.bipush 8, 2) := by decide +kernel
theorem dX9_comesOf_7 : decode cX9_comesOf 7 = .ok (.iadd, 1) := by decide +kernel
theorem dX9_comesOf_8 : decode cX9_comesOf 8 = .ok (.aload_n 0, 1) := by decide +kernel
theorem dX9_comesOf_9 : decode cX9_comesOf 9 = .ok (.iload_n 2, 1) := by decide +kernel
theorem dX9_comesOf_10 : decode cX9_comesOf 10 = .ok (.iconst 1, 1) := by decide +kernel
theorem dX9_comesOf_11 : decode cX9_comesOf 11 = .ok (.invokevirtual 52, 3) := by decide +kernel
theorem dX9_comesOf_14 : decode cX9_comesOf 14 = .ok (.iadd, 1) := by decide +kernel
theorem dX9_comesOf_15 : decode cX9_comesOf 15 = .ok (.iaload, 1) := by decide +kernel
theorem dX9_comesOf_16 : decode cX9_comesOf 16 = .ok (.istore_n 3, 1) := by decide +kernel
theorem dX9_comesOf_17 : decode cX9_comesOf 17 = .ok (.aload_n 0, 1) := by decide +kernel
theorem dX9_comesOf_18 : decode cX9_comesOf 18 = .ok (.getfield 7, 3) := by decide +kernel
theorem dX9_comesOf_21 : decode cX9_comesOf 21 = .ok (.iload_n 1, 1) := by decide +kernel
theorem dX9_comesOf_22 : decode cX9_comesOf 22 = .ok (.bipush 8, 2) := by decide +kernel
theorem dX9_comesOf_24 : decode cX9_comesOf 24 = .ok (.iadd, 1) := by decide +kernel
theorem dX9_comesOf_25 : decode cX9_comesOf 25 = .ok (.aload_n 0, 1) := by decide +kernel
theorem dX9_comesOf_26 : decode cX9_comesOf 26 = .ok (.iload_n 2, 1) := by decide +kernel
theorem dX9_comesOf_27 : decode cX9_comesOf 27 = .ok (.iconst 2, 1) := by decide +kernel
theorem dX9_comesOf_28 : decode cX9_comesOf 28 = .ok (.invokevirtual 52, 3) := by decide +kernel
theorem dX9_comesOf_31 : decode cX9_comesOf 31 = .ok (.iadd, 1) := by decide +kernel
theorem dX9_comesOf_32 : decode cX9_comesOf 32 = .ok (.iaload, 1) := by decide +kernel
theorem dX9_comesOf_33 : decode cX9_comesOf 33 = .ok (.istore 4, 2) := by decide +kernel
theorem dX9_comesOf_35 : decode cX9_comesOf 35 = .ok (.aload_n 0, 1) := by decide +kernel
theorem dX9_comesOf_36 : decode cX9_comesOf 36 = .ok (.iload_n 2, 1) := by decide +kernel
theorem dX9_comesOf_37 : decode cX9_comesOf 37 = .ok (.iconst 0, 1) := by decide +kernel
theorem dX9_comesOf_38 : decode cX9_comesOf 38 = .ok (.invokevirtual 52, 3) := by decide +kernel
theorem dX9_comesOf_41 : decode cX9_comesOf 41 = .ok (.iconst 5, 1) := by decide +kernel
theorem dX9_comesOf_42 : decode cX9_comesOf 42 = .ok (.if_icmp .ne 29, 3) := by decide +kernel
theorem dX9_comesOf_45 : decode cX9_comesOf 45 = .ok (.iload 4, 2) := by decide +kernel
theorem dX9_comesOf_47 : decode cX9_comesOf 47 = .ok (.iconst 1, 1) := by decide +kernel
theorem dX9_comesOf_48 : decode cX9_comesOf 48 = .ok (.if_icmp .ne 10, 3) := by decide +kernel
theorem dX9_comesOf_51 : decode cX9_comesOf 51 = .ok (.iload_n 3, 1) := by decide +kernel
theorem dX9_comesOf_52 : decode cX9_comesOf 52 = .ok (.invokestatic 48, 3) := by decide +kernel
theorem dX9_comesOf_55 : decode cX9_comesOf 55 = .ok (.goto 15, 3) := by decide +kernel
theorem dX9_comesOf_58 : decode cX9_comesOf 58 = .ok (.aload_n 0, 1) := by decide +kernel
theorem dX9_comesOf_59 : decode cX9_comesOf 59 = .ok (.getfield 7, 3) := by decide +kernel
theorem dX9_comesOf_62 : decode cX9_comesOf 62 = .ok (.iload_n 1, 1) := by decide +kernel
theorem dX9_comesOf_63 : decode cX9_comesOf 63 = .ok (.sipush 176, 3) := by decide +kernel
theorem dX9_comesOf_66 : decode cX9_comesOf 66 = .ok (.iadd, 1) := by decide +kernel
theorem dX9_comesOf_67 : decode cX9_comesOf 67 = .ok (.iload_n 2, 1) := by decide +kernel
theorem dX9_comesOf_68 : decode cX9_comesOf 68 = .ok (.iadd, 1) := by decide +kernel
theorem dX9_comesOf_69 : decode cX9_comesOf 69 = .ok (.iaload, 1) := by decide +kernel
theorem dX9_comesOf_70 : decode cX9_comesOf 70 = .ok (.ireturn, 1) := by decide +kernel
theorem dX9_comesOf_71 : decode cX9_comesOf 71 = .ok (.aload_n 0, 1) := by decide +kernel
theorem dX9_comesOf_72 : decode cX9_comesOf 72 = .ok (.iload_n 2, 1) := by decide +kernel
theorem dX9_comesOf_73 : decode cX9_comesOf 73 = .ok (.iconst 0, 1) := by decide +kernel
theorem dX9_comesOf_74 : decode cX9_comesOf 74 = .ok (.invokevirtual 52, 3) := by decide +kernel
theorem dX9_comesOf_77 : decode cX9_comesOf 77 = .ok (.iload_n 3, 1) := by decide +kernel
theorem dX9_comesOf_78 : decode cX9_comesOf 78 = .ok (.iload 4, 2) := by decide +kernel
theorem dX9_comesOf_80 : decode cX9_comesOf 80 = .ok (.invokestatic 56, 3) := by decide +kernel
theorem dX9_comesOf_83 : decode cX9_comesOf 83 = .ok (.ireturn, 1) := by decide +kernel
theorem dX9_looksAt_0 : decode cX9_looksAt 0 = .ok (.aload_n 0, 1) := by decide +kernel
theorem dX9_looksAt_1 : decode cX9_looksAt 1 = .ok (.iload_n 1, 1) := by decide +kernel
theorem dX9_looksAt_2 : decode cX9_looksAt 2 = .ok (.iconst 1, 1) := by decide +kernel
theorem dX9_looksAt_3 : decode cX9_looksAt 3 = .ok (.invokevirtual 52, 3) := by decide +kernel
theorem dX9_looksAt_6 : decode cX9_looksAt 6 = .ok (.iload_n 2, 1) := by decide +kernel
theorem dX9_looksAt_7 : decode cX9_looksAt 7 = .ok (.if_icmp .eq 22, 3) := by decide +kernel
theorem dX9_looksAt_10 : decode cX9_looksAt 10 = .ok (.aload_n 0, 1) := by decide +kernel
theorem dX9_looksAt_11 : decode cX9_looksAt 11 = .ok (.iload_n 1, 1) := by decide +kernel
theorem dX9_looksAt_12 : decode cX9_looksAt 12 = .ok (.iconst 0, 1) := by decide +kernel
theorem dX9_looksAt_13 : decode cX9_looksAt 13 = .ok (.invokevirtual 52, 3) := by decide +kernel
theorem dX9_looksAt_16 : decode cX9_looksAt 16 = .ok (.ifCond .eq 17, 3) := by decide +kernel
theorem dX9_looksAt_19 : decode cX9_looksAt 19 = .ok (.aload_n 0, 1) := by decide +kernel
theorem dX9_looksAt_20 : decode cX9_looksAt 20 = .ok (.iload_n 1, 1) := by decide +kernel
theorem dX9_looksAt_21 : decode cX9_looksAt 21 = .ok (.iconst 2, 1) := by decide +kernel
theorem dX9_looksAt_22 : decode cX9_looksAt 22 = .ok (.invokevirtual 52, 3) := by decide +kernel
theorem dX9_looksAt_25 : decode cX9_looksAt 25 = .ok (.iload_n 2, 1) := by decide +kernel
theorem dX9_looksAt_26 : decode cX9_looksAt 26 = .ok (.if_icmp .ne 7, 3) := by decide +kernel
theorem dX9_looksAt_29 : decode cX9_looksAt 29 = .ok (.iconst 1, 1) := by decide +kernel
theorem dX9_looksAt_30 : decode cX9_looksAt 30 = .ok (.goto 4, 3) := by decide +kernel
theorem dX9_looksAt_33 : decode cX9_looksAt 33 = .ok (.iconst 0, 1) := by decide +kernel
theorem dX9_looksAt_34 : decode cX9_looksAt 34 = .ok (.ireturn, 1) := by decide +kernel
theorem dX9_driversOf_0 : decode cX9_driversOf 0 = .ok (.iconst 0, 1) := by decide +kernel
theorem dX9_driversOf_1 : decode cX9_driversOf 1 = .ok (.istore_n 2, 1) := by decide +kernel
theorem dX9_driversOf_2 : decode cX9_driversOf 2 = .ok (.iconst 0, 1) := by decide +kernel
theorem dX9_driversOf_3 : decode cX9_driversOf 3 = .ok (.istore_n 3, 1) := by decide +kernel
theorem dX9_driversOf_4 : decode cX9_driversOf 4 = .ok (.iload_n 3, 1) := by decide +kernel
theorem dX9_driversOf_5 : decode cX9_driversOf 5 = .ok (.aload_n 0, 1) := by decide +kernel
theorem dX9_driversOf_6 : decode cX9_driversOf 6 = .ok (.getfield 45, 3) := by decide +kernel
theorem dX9_driversOf_9 : decode cX9_driversOf 9 = .ok (.if_icmp .ge 27, 3) := by decide +kernel
theorem dX9_driversOf_12 : decode cX9_driversOf 12 = .ok (.iload_n 2, 1) := by decide +kernel
theorem dX9_driversOf_13 : decode cX9_driversOf 13 = .ok (.aload_n 0, 1) := by decide +kernel
theorem dX9_driversOf_14 : decode cX9_driversOf 14 = .ok (.iload_n 3, 1) := by decide +kernel
theorem dX9_driversOf_15 : decode cX9_driversOf 15 = .ok (.iconst 3, 1) := by decide +kernel
theorem dX9_driversOf_16 : decode cX9_driversOf 16 = .ok (.invokevirtual 52, 3) := by decide +kernel
theorem dX9_driversOf_19 : decode cX9_driversOf 19 = .ok (.iload_n 1, 1) := by decide +kernel
theorem dX9_driversOf_20 : decode cX9_driversOf 20 = .ok (.if_icmp .ne 7, 3) := by decide +kernel
theorem dX9_driversOf_23 : decode cX9_driversOf 23 = .ok (.iconst 1, 1) := by decide +kernel
theorem dX9_driversOf_24 : decode cX9_driversOf 24 = .ok (.goto 4, 3) := by decide +kernel
theorem dX9_driversOf_27 : decode cX9_driversOf 27 = .ok (.iconst 0, 1) := by decide +kernel
theorem dX9_driversOf_28 : decode cX9_driversOf 28 = .ok (.iadd, 1) := by decide +kernel
theorem dX9_driversOf_29 : decode cX9_driversOf 29 = .ok (.istore_n 2, 1) := by decide +kernel
theorem dX9_driversOf_30 : decode cX9_driversOf 30 = .ok (.iinc 3 1, 3) := by decide +kernel
theorem dX9_driversOf_33 : decode cX9_driversOf 33 = .ok (.goto (-29), 3) := by decide +kernel
theorem dX9_driversOf_36 : decode cX9_driversOf 36 = .ok (.iload_n 2, 1) := by decide +kernel
theorem dX9_driversOf_37 : decode cX9_driversOf 37 = .ok (.ireturn, 1) := by decide +kernel
theorem dX9_drivenTo_0 : decode cX9_drivenTo 0 = .ok (.iconst 2, 1) := by decide +kernel
theorem dX9_drivenTo_1 : decode cX9_drivenTo 1 = .ok (.istore 4, 2) := by decide +kernel
theorem dX9_drivenTo_3 : decode cX9_drivenTo 3 = .ok (.iconst 0, 1) := by decide +kernel
theorem dX9_drivenTo_4 : decode cX9_drivenTo 4 = .ok (.istore 5, 2) := by decide +kernel
theorem dX9_drivenTo_6 : decode cX9_drivenTo 6 = .ok (.iload 5, 2) := by decide +kernel
theorem dX9_drivenTo_8 : decode cX9_drivenTo 8 = .ok (.aload_n 0, 1) := by decide +kernel
theorem dX9_drivenTo_9 : decode cX9_drivenTo 9 = .ok (.getfield 45, 3) := by decide +kernel
theorem dX9_drivenTo_12 : decode cX9_drivenTo 12 = .ok (.if_icmp .ge 51, 3) := by decide +kernel
theorem dX9_drivenTo_15 : decode cX9_drivenTo 15 = .ok (.iload 5, 2) := by decide +kernel
theorem dX9_drivenTo_17 : decode cX9_drivenTo 17 = .ok (.iload_n 3, 1) := by decide +kernel
theorem dX9_drivenTo_18 : decode cX9_drivenTo 18 = .ok (.if_icmp .eq 35, 3) := by decide +kernel
theorem dX9_drivenTo_21 : decode cX9_drivenTo 21 = .ok (.aload_n 0, 1) := by decide +kernel
theorem dX9_drivenTo_22 : decode cX9_drivenTo 22 = .ok (.iload 5, 2) := by decide +kernel
theorem dX9_drivenTo_24 : decode cX9_drivenTo 24 = .ok (.iconst 3, 1) := by decide +kernel
theorem dX9_drivenTo_25 : decode cX9_drivenTo 25 = .ok (.invokevirtual 52, 3) := by decide +kernel
theorem dX9_drivenTo_28 : decode cX9_drivenTo 28 = .ok (.iload_n 2, 1) := by decide +kernel
theorem dX9_drivenTo_29 : decode cX9_drivenTo 29 = .ok (.if_icmp .ne 24, 3) := by decide +kernel
theorem dX9_drivenTo_32 : decode cX9_drivenTo 32 = .ok (.iload 4, 2) := by decide +kernel
theorem dX9_drivenTo_34 : decode cX9_drivenTo 34 = .ok (.aload_n 0, 1) := by decide +kernel
theorem dX9_drivenTo_35 : decode cX9_drivenTo 35 = .ok (.getfield 7, 3) := by decide +kernel
theorem dX9_drivenTo_38 : decode cX9_drivenTo 38 = .ok (.iload_n 1, 1) := by decide +kernel
theorem dX9_drivenTo_39 : decode cX9_drivenTo 39 = .ok (.sipush 176, 3) := by decide +kernel
theorem dX9_drivenTo_42 : decode cX9_drivenTo 42 = .ok (.iadd, 1) := by decide +kernel
theorem dX9_drivenTo_43 : decode cX9_drivenTo 43 = .ok (.iload 5, 2) := by decide +kernel
theorem dX9_drivenTo_45 : decode cX9_drivenTo 45 = .ok (.iadd, 1) := by decide +kernel
theorem dX9_drivenTo_46 : decode cX9_drivenTo 46 = .ok (.iaload, 1) := by decide +kernel
theorem dX9_drivenTo_47 : decode cX9_drivenTo 47 = .ok (.invokestatic 60, 3) := by decide +kernel
theorem dX9_drivenTo_50 : decode cX9_drivenTo 50 = .ok (.goto 5, 3) := by decide +kernel
theorem dX9_drivenTo_53 : decode cX9_drivenTo 53 = .ok (.iload 4, 2) := by decide +kernel
theorem dX9_drivenTo_55 : decode cX9_drivenTo 55 = .ok (.istore 4, 2) := by decide +kernel
theorem dX9_drivenTo_57 : decode cX9_drivenTo 57 = .ok (.iinc 5 1, 3) := by decide +kernel
theorem dX9_drivenTo_60 : decode cX9_drivenTo 60 = .ok (.goto (-54), 3) := by decide +kernel
theorem dX9_drivenTo_63 : decode cX9_drivenTo 63 = .ok (.iload 4, 2) := by decide +kernel
theorem dX9_drivenTo_65 : decode cX9_drivenTo 65 = .ok (.ireturn, 1) := by decide +kernel
theorem dX9_dropFirst_0 : decode cX9_dropFirst 0 = .ok (.aload_n 0, 1) := by decide +kernel
theorem dX9_dropFirst_1 : decode cX9_dropFirst 1 = .ok (.getfield 7, 3) := by decide +kernel
theorem dX9_dropFirst_4 : decode cX9_dropFirst 4 = .ok (.iload_n 1, 1) := by decide +kernel
theorem dX9_dropFirst_5 : decode cX9_dropFirst 5 = .ok (.sipush 184, 3) := by decide +kernel
theorem dX9_dropFirst_8 : decode cX9_dropFirst 8 = .ok (.iadd, 1) := by decide +kernel
theorem dX9_dropFirst_9 : decode cX9_dropFirst 9 = .ok (.iload_n 2, 1) := by decide +kernel
theorem dX9_dropFirst_10 : decode cX9_dropFirst 10 = .ok (.iadd, 1) := by decide +kernel
theorem dX9_dropFirst_11 : decode cX9_dropFirst 11 = .ok (.iaload, 1) := by decide +kernel
theorem dX9_dropFirst_12 : decode cX9_dropFirst 12 = .ok (.iload_n 3, 1) := by decide +kernel
theorem dX9_dropFirst_13 : decode cX9_dropFirst 13 = .ok (.isub, 1) := by decide +kernel
theorem dX9_dropFirst_14 : decode cX9_dropFirst 14 = .ok (.istore 4, 2) := by decide +kernel
theorem dX9_dropFirst_16 : decode cX9_dropFirst 16 = .ok (.iconst 0, 1) := by decide +kernel
theorem dX9_dropFirst_17 : decode cX9_dropFirst 17 = .ok (.istore 5, 2) := by decide +kernel
theorem dX9_dropFirst_19 : decode cX9_dropFirst 19 = .ok (.iload 5, 2) := by decide +kernel
theorem dX9_dropFirst_21 : decode cX9_dropFirst 21 = .ok (.iload 4, 2) := by decide +kernel
theorem dX9_dropFirst_23 : decode cX9_dropFirst 23 = .ok (.if_icmp .ge 85, 3) := by decide +kernel
theorem dX9_dropFirst_26 : decode cX9_dropFirst 26 = .ok (.aload_n 0, 1) := by decide +kernel
theorem dX9_dropFirst_27 : decode cX9_dropFirst 27 = .ok (.getfield 7, 3) := by decide +kernel
theorem dX9_dropFirst_30 : decode cX9_dropFirst 30 = .ok (.iload_n 1, 1) := by decide +kernel
theorem dX9_dropFirst_31 : decode cX9_dropFirst 31 = .ok (.sipush 192, 3) := by decide +kernel
theorem dX9_dropFirst_34 : decode cX9_dropFirst 34 = .ok (.iadd, 1) := by decide +kernel
theorem dX9_dropFirst_35 : decode cX9_dropFirst 35 = .ok (.bipush 8, 2) := by decide +kernel
theorem dX9_dropFirst_37 : decode cX9_dropFirst 37 = .ok (.iload_n 2, 1) := by decide +kernel
theorem dX9_dropFirst_38 : decode cX9_dropFirst 38 = .ok (.imul, 1) := by decide +kernel
theorem dX9_dropFirst_39 : decode cX9_dropFirst 39 = .ok (.iadd, 1) := by decide +kernel
theorem dX9_dropFirst_40 : decode cX9_dropFirst 40 = .ok (.iload 5, 2) := by decide +kernel
theorem dX9_dropFirst_42 : decode cX9_dropFirst 42 = .ok (.iadd, 1) := by decide +kernel
theorem dX9_dropFirst_43 : decode cX9_dropFirst 43 = .ok (.aload_n 0, 1) := by decide +kernel
theorem dX9_dropFirst_44 : decode cX9_dropFirst 44 = .ok (.getfield 7, 3) := by decide +kernel
theorem dX9_dropFirst_47 : decode cX9_dropFirst 47 = .ok (.iload_n 1, 1) := by decide +kernel
theorem dX9_dropFirst_48 : decode cX9_dropFirst 48 = .ok (.sipush 192, 3) := by decide +kernel
theorem dX9_dropFirst_51 : decode cX9_dropFirst 51 = .ok (.iadd, 1) := by decide +kernel
theorem dX9_dropFirst_52 : decode cX9_dropFirst 52 = .ok (.bipush 8, 2) := by decide +kernel
theorem dX9_dropFirst_54 : decode cX9_dropFirst 54 = .ok (.iload_n 2, 1) := by decide +kernel
theorem dX9_dropFirst_55 : decode cX9_dropFirst 55 = .ok (.imul, 1) := by decide +kernel
theorem dX9_dropFirst_56 : decode cX9_dropFirst 56 = .ok (.iadd, 1) := by decide +kernel
theorem dX9_dropFirst_57 : decode cX9_dropFirst 57 = .ok (.iload 5, 2) := by decide +kernel
theorem dX9_dropFirst_59 : decode cX9_dropFirst 59 = .ok (.iadd, 1) := by decide +kernel
theorem dX9_dropFirst_60 : decode cX9_dropFirst 60 = .ok (.iload_n 3, 1) := by decide +kernel
theorem dX9_dropFirst_61 : decode cX9_dropFirst 61 = .ok (.iadd, 1) := by decide +kernel
theorem dX9_dropFirst_62 : decode cX9_dropFirst 62 = .ok (.iaload, 1) := by decide +kernel
theorem dX9_dropFirst_63 : decode cX9_dropFirst 63 = .ok (.iastore, 1) := by decide +kernel
theorem dX9_dropFirst_64 : decode cX9_dropFirst 64 = .ok (.aload_n 0, 1) := by decide +kernel
theorem dX9_dropFirst_65 : decode cX9_dropFirst 65 = .ok (.getfield 7, 3) := by decide +kernel
theorem dX9_dropFirst_68 : decode cX9_dropFirst 68 = .ok (.iload_n 1, 1) := by decide +kernel
theorem dX9_dropFirst_69 : decode cX9_dropFirst 69 = .ok (.sipush 256, 3) := by decide +kernel
theorem dX9_dropFirst_72 : decode cX9_dropFirst 72 = .ok (.iadd, 1) := by decide +kernel
theorem dX9_dropFirst_73 : decode cX9_dropFirst 73 = .ok (.bipush 8, 2) := by decide +kernel
theorem dX9_dropFirst_75 : decode cX9_dropFirst 75 = .ok (.iload_n 2, 1) := by decide +kernel
theorem dX9_dropFirst_76 : decode cX9_dropFirst 76 = .ok (.imul, 1) := by decide +kernel
theorem dX9_dropFirst_77 : decode cX9_dropFirst 77 = .ok (.iadd, 1) := by decide +kernel
theorem dX9_dropFirst_78 : decode cX9_dropFirst 78 = .ok (.iload 5, 2) := by decide +kernel
theorem dX9_dropFirst_80 : decode cX9_dropFirst 80 = .ok (.iadd, 1) := by decide +kernel
theorem dX9_dropFirst_81 : decode cX9_dropFirst 81 = .ok (.aload_n 0, 1) := by decide +kernel
theorem dX9_dropFirst_82 : decode cX9_dropFirst 82 = .ok (.getfield 7, 3) := by decide +kernel
theorem dX9_dropFirst_85 : decode cX9_dropFirst 85 = .ok (.iload_n 1, 1) := by decide +kernel
theorem dX9_dropFirst_86 : decode cX9_dropFirst 86 = .ok (.sipush 256, 3) := by decide +kernel
theorem dX9_dropFirst_89 : decode cX9_dropFirst 89 = .ok (.iadd, 1) := by decide +kernel
theorem dX9_dropFirst_90 : decode cX9_dropFirst 90 = .ok (.bipush 8, 2) := by decide +kernel
theorem dX9_dropFirst_92 : decode cX9_dropFirst 92 = .ok (.iload_n 2, 1) := by decide +kernel
theorem dX9_dropFirst_93 : decode cX9_dropFirst 93 = .ok (.imul, 1) := by decide +kernel
theorem dX9_dropFirst_94 : decode cX9_dropFirst 94 = .ok (.iadd, 1) := by decide +kernel
theorem dX9_dropFirst_95 : decode cX9_dropFirst 95 = .ok (.iload 5, 2) := by decide +kernel
theorem dX9_dropFirst_97 : decode cX9_dropFirst 97 = .ok (.iadd, 1) := by decide +kernel
theorem dX9_dropFirst_98 : decode cX9_dropFirst 98 = .ok (.iload_n 3, 1) := by decide +kernel
theorem dX9_dropFirst_99 : decode cX9_dropFirst 99 = .ok (.iadd, 1) := by decide +kernel
theorem dX9_dropFirst_100 : decode cX9_dropFirst 100 = .ok (.iaload, 1) := by decide +kernel
theorem dX9_dropFirst_101 : decode cX9_dropFirst 101 = .ok (.iastore, 1) := by decide +kernel
theorem dX9_dropFirst_102 : decode cX9_dropFirst 102 = .ok (.iinc 5 1, 3) := by decide +kernel
theorem dX9_dropFirst_105 : decode cX9_dropFirst 105 = .ok (.goto (-86), 3) := by decide +kernel
theorem dX9_dropFirst_108 : decode cX9_dropFirst 108 = .ok (.aload_n 0, 1) := by decide +kernel
theorem dX9_dropFirst_109 : decode cX9_dropFirst 109 = .ok (.getfield 7, 3) := by decide +kernel
theorem dX9_dropFirst_112 : decode cX9_dropFirst 112 = .ok (.iload_n 1, 1) := by decide +kernel
theorem dX9_dropFirst_113 : decode cX9_dropFirst 113 = .ok (.sipush 184, 3) := by decide +kernel
theorem dX9_dropFirst_116 : decode cX9_dropFirst 116 = .ok (.iadd, 1) := by decide +kernel
theorem dX9_dropFirst_117 : decode cX9_dropFirst 117 = .ok (.iload_n 2, 1) := by decide +kernel
theorem dX9_dropFirst_118 : decode cX9_dropFirst 118 = .ok (.iadd, 1) := by decide +kernel
theorem dX9_dropFirst_119 : decode cX9_dropFirst 119 = .ok (.iload 4, 2) := by decide +kernel
theorem dX9_dropFirst_121 : decode cX9_dropFirst 121 = .ok (.iastore, 1) := by decide +kernel
theorem dX9_dropFirst_122 : decode cX9_dropFirst 122 = .ok (.return_, 1) := by decide +kernel
theorem dX9_tell_0 : decode cX9_tell 0 = .ok (.aload_n 0, 1) := by decide +kernel
theorem dX9_tell_1 : decode cX9_tell 1 = .ok (.iload_n 1, 1) := by decide +kernel
theorem dX9_tell_2 : decode cX9_tell 2 = .ok (.iload_n 2, 1) := by decide +kernel
theorem dX9_tell_3 : decode cX9_tell 3 = .ok (.invokevirtual 63, 3) := by decide +kernel
theorem dX9_tell_6 : decode cX9_tell 6 = .ok (.istore_n 3, 1) := by decide +kernel
theorem dX9_tell_7 : decode cX9_tell 7 = .ok (.aload_n 0, 1) := by decide +kernel
theorem dX9_tell_8 : decode cX9_tell 8 = .ok (.getfield 7, 3) := by decide +kernel
theorem dX9_tell_11 : decode cX9_tell 11 = .ok (.iload_n 1, 1) := by decide +kernel
theorem dX9_tell_12 : decode cX9_tell 12 = .ok (.iconst 0, 1) := by decide +kernel
theorem dX9_tell_13 : decode cX9_tell 13 = .ok (.iadd, 1) := by decide +kernel
theorem dX9_tell_14 : decode cX9_tell 14 = .ok (.iaload, 1) := by decide +kernel
theorem dX9_tell_15 : decode cX9_tell 15 = .ok (.aload_n 0, 1) := by decide +kernel
theorem dX9_tell_16 : decode cX9_tell 16 = .ok (.iload_n 2, 1) := by decide +kernel
theorem dX9_tell_17 : decode cX9_tell 17 = .ok (.iconst 4, 1) := by decide +kernel
theorem dX9_tell_18 : decode cX9_tell 18 = .ok (.invokevirtual 52, 3) := by decide +kernel
theorem dX9_tell_21 : decode cX9_tell 21 = .ok (.iadd, 1) := by decide +kernel
theorem dX9_tell_22 : decode cX9_tell 22 = .ok (.istore 4, 2) := by decide +kernel
theorem dX9_tell_24 : decode cX9_tell 24 = .ok (.bipush 8, 2) := by decide +kernel
theorem dX9_tell_26 : decode cX9_tell 26 = .ok (.iload_n 2, 1) := by decide +kernel
theorem dX9_tell_27 : decode cX9_tell 27 = .ok (.imul, 1) := by decide +kernel
theorem dX9_tell_28 : decode cX9_tell 28 = .ok (.istore 5, 2) := by decide +kernel
theorem dX9_tell_30 : decode cX9_tell 30 = .ok (.aload_n 0, 1) := by decide +kernel
theorem dX9_tell_31 : decode cX9_tell 31 = .ok (.getfield 7, 3) := by decide +kernel
theorem dX9_tell_34 : decode cX9_tell 34 = .ok (.iload_n 1, 1) := by decide +kernel
theorem dX9_tell_35 : decode cX9_tell 35 = .ok (.sipush 184, 3) := by decide +kernel
theorem dX9_tell_38 : decode cX9_tell 38 = .ok (.iadd, 1) := by decide +kernel
theorem dX9_tell_39 : decode cX9_tell 39 = .ok (.iload_n 2, 1) := by decide +kernel
theorem dX9_tell_40 : decode cX9_tell 40 = .ok (.iadd, 1) := by decide +kernel
theorem dX9_tell_41 : decode cX9_tell 41 = .ok (.iaload, 1) := by decide +kernel
theorem dX9_tell_42 : decode cX9_tell 42 = .ok (.ifCond .le 55, 3) := by decide +kernel
theorem dX9_tell_45 : decode cX9_tell 45 = .ok (.aload_n 0, 1) := by decide +kernel
theorem dX9_tell_46 : decode cX9_tell 46 = .ok (.getfield 7, 3) := by decide +kernel
theorem dX9_tell_49 : decode cX9_tell 49 = .ok (.iload_n 1, 1) := by decide +kernel
theorem dX9_tell_50 : decode cX9_tell 50 = .ok (.sipush 192, 3) := by decide +kernel
theorem dX9_tell_53 : decode cX9_tell 53 = .ok (.iadd, 1) := by decide +kernel
theorem dX9_tell_54 : decode cX9_tell 54 = .ok (.iload 5, 2) := by decide +kernel
theorem dX9_tell_56 : decode cX9_tell 56 = .ok (.iadd, 1) := by decide +kernel
theorem dX9_tell_57 : decode cX9_tell 57 = .ok (.aload_n 0, 1) := by decide +kernel
theorem dX9_tell_58 : decode cX9_tell 58 = .ok (.getfield 7, 3) := by decide +kernel
theorem dX9_tell_61 : decode cX9_tell 61 = .ok (.iload_n 1, 1) := by decide +kernel
theorem dX9_tell_62 : decode cX9_tell 62 = .ok (.sipush 184, 3) := by decide +kernel
theorem dX9_tell_65 : decode cX9_tell 65 = .ok (.iadd, 1) := by decide +kernel
theorem dX9_tell_66 : decode cX9_tell 66 = .ok (.iload_n 2, 1) := by decide +kernel
theorem dX9_tell_67 : decode cX9_tell 67 = .ok (.iadd, 1) := by decide +kernel
theorem dX9_tell_68 : decode cX9_tell 68 = .ok (.iaload, 1) := by decide +kernel
theorem dX9_tell_69 : decode cX9_tell 69 = .ok (.iadd, 1) := by decide +kernel
theorem dX9_tell_70 : decode cX9_tell 70 = .ok (.iconst 1, 1) := by decide +kernel
theorem dX9_tell_71 : decode cX9_tell 71 = .ok (.isub, 1) := by decide +kernel
theorem dX9_tell_72 : decode cX9_tell 72 = .ok (.iaload, 1) := by decide +kernel
theorem dX9_tell_73 : decode cX9_tell 73 = .ok (.iload 4, 2) := by decide +kernel
theorem dX9_tell_75 : decode cX9_tell 75 = .ok (.if_icmp .lt 22, 3) := by decide +kernel
theorem dX9_tell_78 : decode cX9_tell 78 = .ok (.aload_n 0, 1) := by decide +kernel
theorem dX9_tell_79 : decode cX9_tell 79 = .ok (.getfield 7, 3) := by decide +kernel
theorem dX9_tell_82 : decode cX9_tell 82 = .ok (.iload_n 1, 1) := by decide +kernel
theorem dX9_tell_83 : decode cX9_tell 83 = .ok (.sipush 184, 3) := by decide +kernel
theorem dX9_tell_86 : decode cX9_tell 86 = .ok (.iadd, 1) := by decide +kernel
theorem dX9_tell_87 : decode cX9_tell 87 = .ok (.iload_n 2, 1) := by decide +kernel
theorem dX9_tell_88 : decode cX9_tell 88 = .ok (.iadd, 1) := by decide +kernel
theorem dX9_tell_89 : decode cX9_tell 89 = .ok (.dup2, 1) := by decide +kernel
theorem dX9_tell_90 : decode cX9_tell 90 = .ok (.iaload, 1) := by decide +kernel
theorem dX9_tell_91 : decode cX9_tell 91 = .ok (.iconst 1, 1) := by decide +kernel
theorem dX9_tell_92 : decode cX9_tell 92 = .ok (.isub, 1) := by decide +kernel
theorem dX9_tell_93 : decode cX9_tell 93 = .ok (.iastore, 1) := by decide +kernel
theorem dX9_tell_94 : decode cX9_tell 94 = .ok (.goto (-64), 3) := by decide +kernel
theorem dX9_tell_97 : decode cX9_tell 97 = .ok (.aload_n 0, 1) := by decide +kernel
theorem dX9_tell_98 : decode cX9_tell 98 = .ok (.iload_n 2, 1) := by decide +kernel
theorem dX9_tell_99 : decode cX9_tell 99 = .ok (.iconst 5, 1) := by decide +kernel
theorem dX9_tell_100 : decode cX9_tell 100 = .ok (.invokevirtual 52, 3) := by decide +kernel
theorem dX9_tell_103 : decode cX9_tell 103 = .ok (.iconst 1, 1) := by decide +kernel
theorem dX9_tell_104 : decode cX9_tell 104 = .ok (.if_icmp .ne 71, 3) := by decide +kernel
theorem dX9_tell_107 : decode cX9_tell 107 = .ok (.iconst 0, 1) := by decide +kernel
theorem dX9_tell_108 : decode cX9_tell 108 = .ok (.istore 6, 2) := by decide +kernel
theorem dX9_tell_110 : decode cX9_tell 110 = .ok (.iconst 0, 1) := by decide +kernel
theorem dX9_tell_111 : decode cX9_tell 111 = .ok (.istore 7, 2) := by decide +kernel
theorem dX9_tell_113 : decode cX9_tell 113 = .ok (.iload 7, 2) := by decide +kernel
theorem dX9_tell_115 : decode cX9_tell 115 = .ok (.aload_n 0, 1) := by decide +kernel
theorem dX9_tell_116 : decode cX9_tell 116 = .ok (.getfield 7, 3) := by decide +kernel
theorem dX9_tell_119 : decode cX9_tell 119 = .ok (.iload_n 1, 1) := by decide +kernel
theorem dX9_tell_120 : decode cX9_tell 120 = .ok (.sipush 184, 3) := by decide +kernel
theorem dX9_tell_123 : decode cX9_tell 123 = .ok (.iadd, 1) := by decide +kernel
theorem dX9_tell_124 : decode cX9_tell 124 = .ok (.iload_n 2, 1) := by decide +kernel
theorem dX9_tell_125 : decode cX9_tell 125 = .ok (.iadd, 1) := by decide +kernel
theorem dX9_tell_126 : decode cX9_tell 126 = .ok (.iaload, 1) := by decide +kernel
theorem dX9_tell_127 : decode cX9_tell 127 = .ok (.if_icmp .ge 40, 3) := by decide +kernel
theorem dX9_tell_130 : decode cX9_tell 130 = .ok (.aload_n 0, 1) := by decide +kernel
theorem dX9_tell_131 : decode cX9_tell 131 = .ok (.getfield 7, 3) := by decide +kernel
theorem dX9_tell_134 : decode cX9_tell 134 = .ok (.iload_n 1, 1) := by decide +kernel
theorem dX9_tell_135 : decode cX9_tell 135 = .ok (.sipush 256, 3) := by decide +kernel
theorem dX9_tell_138 : decode cX9_tell 138 = .ok (.iadd, 1) := by decide +kernel
theorem dX9_tell_139 : decode cX9_tell 139 = .ok (.iload 5, 2) := by decide +kernel
theorem dX9_tell_141 : decode cX9_tell 141 = .ok (.iadd, 1) := by decide +kernel
theorem dX9_tell_142 : decode cX9_tell 142 = .ok (.iload 7, 2) := by decide +kernel
theorem dX9_tell_144 : decode cX9_tell 144 = .ok (.iadd, 1) := by decide +kernel
theorem dX9_tell_145 : decode cX9_tell 145 = .ok (.iaload, 1) := by decide +kernel
theorem dX9_tell_146 : decode cX9_tell 146 = .ok (.iload_n 3, 1) := by decide +kernel
theorem dX9_tell_147 : decode cX9_tell 147 = .ok (.if_icmp .ne 8, 3) := by decide +kernel
theorem dX9_tell_150 : decode cX9_tell 150 = .ok (.iload 6, 2) := by decide +kernel
theorem dX9_tell_152 : decode cX9_tell 152 = .ok (.goto 7, 3) := by decide +kernel
theorem dX9_tell_155 : decode cX9_tell 155 = .ok (.iload 7, 2) := by decide +kernel
theorem dX9_tell_157 : decode cX9_tell 157 = .ok (.iconst 1, 1) := by decide +kernel
theorem dX9_tell_158 : decode cX9_tell 158 = .ok (.iadd, 1) := by decide +kernel
theorem dX9_tell_159 : decode cX9_tell 159 = .ok (.istore 6, 2) := by decide +kernel
theorem dX9_tell_161 : decode cX9_tell 161 = .ok (.iinc 7 1, 3) := by decide +kernel
theorem dX9_tell_164 : decode cX9_tell 164 = .ok (.goto (-51), 3) := by decide +kernel
theorem dX9_tell_167 : decode cX9_tell 167 = .ok (.aload_n 0, 1) := by decide +kernel
theorem dX9_tell_168 : decode cX9_tell 168 = .ok (.iload_n 1, 1) := by decide +kernel
theorem dX9_tell_169 : decode cX9_tell 169 = .ok (.iload_n 2, 1) := by decide +kernel
theorem dX9_tell_170 : decode cX9_tell 170 = .ok (.iload 6, 2) := by decide +kernel
theorem dX9_tell_172 : decode cX9_tell 172 = .ok (.invokevirtual 66, 3) := by decide +kernel
theorem dX9_tell_175 : decode cX9_tell 175 = .ok (.aload_n 0, 1) := by decide +kernel
theorem dX9_tell_176 : decode cX9_tell 176 = .ok (.getfield 7, 3) := by decide +kernel
theorem dX9_tell_179 : decode cX9_tell 179 = .ok (.iload_n 1, 1) := by decide +kernel
theorem dX9_tell_180 : decode cX9_tell 180 = .ok (.sipush 184, 3) := by decide +kernel
theorem dX9_tell_183 : decode cX9_tell 183 = .ok (.iadd, 1) := by decide +kernel
theorem dX9_tell_184 : decode cX9_tell 184 = .ok (.iload_n 2, 1) := by decide +kernel
theorem dX9_tell_185 : decode cX9_tell 185 = .ok (.iadd, 1) := by decide +kernel
theorem dX9_tell_186 : decode cX9_tell 186 = .ok (.iaload, 1) := by decide +kernel
theorem dX9_tell_187 : decode cX9_tell 187 = .ok (.bipush 8, 2) := by decide +kernel
theorem dX9_tell_189 : decode cX9_tell 189 = .ok (.if_icmp .ne 10, 3) := by decide +kernel
theorem dX9_tell_192 : decode cX9_tell 192 = .ok (.aload_n 0, 1) := by decide +kernel
theorem dX9_tell_193 : decode cX9_tell 193 = .ok (.iload_n 1, 1) := by decide +kernel
theorem dX9_tell_194 : decode cX9_tell 194 = .ok (.iload_n 2, 1) := by decide +kernel
theorem dX9_tell_195 : decode cX9_tell 195 = .ok (.iconst 1, 1) := by decide +kernel
theorem dX9_tell_196 : decode cX9_tell 196 = .ok (.invokevirtual 66, 3) := by decide +kernel
theorem dX9_tell_199 : decode cX9_tell 199 = .ok (.aload_n 0, 1) := by decide +kernel
theorem dX9_tell_200 : decode cX9_tell 200 = .ok (.getfield 7, 3) := by decide +kernel
theorem dX9_tell_203 : decode cX9_tell 203 = .ok (.iload_n 1, 1) := by decide +kernel
theorem dX9_tell_204 : decode cX9_tell 204 = .ok (.sipush 184, 3) := by decide +kernel
theorem dX9_tell_207 : decode cX9_tell 207 = .ok (.iadd, 1) := by decide +kernel
theorem dX9_tell_208 : decode cX9_tell 208 = .ok (.iload_n 2, 1) := by decide +kernel
theorem dX9_tell_209 : decode cX9_tell 209 = .ok (.iadd, 1) := by decide +kernel
theorem dX9_tell_210 : decode cX9_tell 210 = .ok (.iaload, 1) := by decide +kernel
theorem dX9_tell_211 : decode cX9_tell 211 = .ok (.istore 6, 2) := by decide +kernel
theorem dX9_tell_213 : decode cX9_tell 213 = .ok (.aload_n 0, 1) := by decide +kernel
theorem dX9_tell_214 : decode cX9_tell 214 = .ok (.getfield 7, 3) := by decide +kernel
theorem dX9_tell_217 : decode cX9_tell 217 = .ok (.iload_n 1, 1) := by decide +kernel
theorem dX9_tell_218 : decode cX9_tell 218 = .ok (.sipush 192, 3) := by decide +kernel
theorem dX9_tell_221 : decode cX9_tell 221 = .ok (.iadd, 1) := by decide +kernel
theorem dX9_tell_222 : decode cX9_tell 222 = .ok (.iload 5, 2) := by decide +kernel
theorem dX9_tell_224 : decode cX9_tell 224 = .ok (.iadd, 1) := by decide +kernel
theorem dX9_tell_225 : decode cX9_tell 225 = .ok (.iload 6, 2) := by decide +kernel
theorem dX9_tell_227 : decode cX9_tell 227 = .ok (.iadd, 1) := by decide +kernel
theorem dX9_tell_228 : decode cX9_tell 228 = .ok (.iload 4, 2) := by decide +kernel
theorem dX9_tell_230 : decode cX9_tell 230 = .ok (.iastore, 1) := by decide +kernel
theorem dX9_tell_231 : decode cX9_tell 231 = .ok (.aload_n 0, 1) := by decide +kernel
theorem dX9_tell_232 : decode cX9_tell 232 = .ok (.getfield 7, 3) := by decide +kernel
theorem dX9_tell_235 : decode cX9_tell 235 = .ok (.iload_n 1, 1) := by decide +kernel
theorem dX9_tell_236 : decode cX9_tell 236 = .ok (.sipush 256, 3) := by decide +kernel
theorem dX9_tell_239 : decode cX9_tell 239 = .ok (.iadd, 1) := by decide +kernel
theorem dX9_tell_240 : decode cX9_tell 240 = .ok (.iload 5, 2) := by decide +kernel
theorem dX9_tell_242 : decode cX9_tell 242 = .ok (.iadd, 1) := by decide +kernel
theorem dX9_tell_243 : decode cX9_tell 243 = .ok (.iload 6, 2) := by decide +kernel
theorem dX9_tell_245 : decode cX9_tell 245 = .ok (.iadd, 1) := by decide +kernel
theorem dX9_tell_246 : decode cX9_tell 246 = .ok (.iload_n 3, 1) := by decide +kernel
theorem dX9_tell_247 : decode cX9_tell 247 = .ok (.iastore, 1) := by decide +kernel
theorem dX9_tell_248 : decode cX9_tell 248 = .ok (.aload_n 0, 1) := by decide +kernel
theorem dX9_tell_249 : decode cX9_tell 249 = .ok (.getfield 7, 3) := by decide +kernel
theorem dX9_tell_252 : decode cX9_tell 252 = .ok (.iload_n 1, 1) := by decide +kernel
theorem dX9_tell_253 : decode cX9_tell 253 = .ok (.sipush 184, 3) := by decide +kernel
theorem dX9_tell_256 : decode cX9_tell 256 = .ok (.iadd, 1) := by decide +kernel
theorem dX9_tell_257 : decode cX9_tell 257 = .ok (.iload_n 2, 1) := by decide +kernel
theorem dX9_tell_258 : decode cX9_tell 258 = .ok (.iadd, 1) := by decide +kernel
theorem dX9_tell_259 : decode cX9_tell 259 = .ok (.iload 6, 2) := by decide +kernel
theorem dX9_tell_261 : decode cX9_tell 261 = .ok (.iconst 1, 1) := by decide +kernel
theorem dX9_tell_262 : decode cX9_tell 262 = .ok (.iadd, 1) := by decide +kernel
theorem dX9_tell_263 : decode cX9_tell 263 = .ok (.iastore, 1) := by decide +kernel
theorem dX9_tell_264 : decode cX9_tell 264 = .ok (.return_, 1) := by decide +kernel
theorem dX9_tellAll_0 : decode cX9_tellAll 0 = .ok (.iconst 0, 1) := by decide +kernel
theorem dX9_tellAll_1 : decode cX9_tellAll 1 = .ok (.istore_n 2, 1) := by decide +kernel
theorem dX9_tellAll_2 : decode cX9_tellAll 2 = .ok (.iload_n 2, 1) := by decide +kernel
theorem dX9_tellAll_3 : decode cX9_tellAll 3 = .ok (.aload_n 0, 1) := by decide +kernel
theorem dX9_tellAll_4 : decode cX9_tellAll 4 = .ok (.getfield 45, 3) := by decide +kernel
theorem dX9_tellAll_7 : decode cX9_tellAll 7 = .ok (.if_icmp .ge 15, 3) := by decide +kernel
theorem dX9_tellAll_10 : decode cX9_tellAll 10 = .ok (.aload_n 0, 1) := by decide +kernel
theorem dX9_tellAll_11 : decode cX9_tellAll 11 = .ok (.iload_n 1, 1) := by decide +kernel
theorem dX9_tellAll_12 : decode cX9_tellAll 12 = .ok (.iload_n 2, 1) := by decide +kernel
theorem dX9_tellAll_13 : decode cX9_tellAll 13 = .ok (.invokevirtual 70, 3) := by decide +kernel
theorem dX9_tellAll_16 : decode cX9_tellAll 16 = .ok (.iinc 2 1, 3) := by decide +kernel
theorem dX9_tellAll_19 : decode cX9_tellAll 19 = .ok (.goto (-17), 3) := by decide +kernel
theorem dX9_tellAll_22 : decode cX9_tellAll 22 = .ok (.return_, 1) := by decide +kernel
theorem dX9_dropHand_0 : decode cX9_dropHand 0 = .ok (.aload_n 0, 1) := by decide +kernel
theorem dX9_dropHand_1 : decode cX9_dropHand 1 = .ok (.getfield 7, 3) := by decide +kernel
theorem dX9_dropHand_4 : decode cX9_dropHand 4 = .ok (.iload_n 1, 1) := by decide +kernel
theorem dX9_dropHand_5 : decode cX9_dropHand 5 = .ok (.iconst 3, 1) := by decide +kernel
theorem dX9_dropHand_6 : decode cX9_dropHand 6 = .ok (.iadd, 1) := by decide +kernel
theorem dX9_dropHand_7 : decode cX9_dropHand 7 = .ok (.dup2, 1) := by decide +kernel
theorem dX9_dropHand_8 : decode cX9_dropHand 8 = .ok (.iaload, 1) := by decide +kernel
theorem dX9_dropHand_9 : decode cX9_dropHand 9 = .ok (.iconst 1, 1) := by decide +kernel
theorem dX9_dropHand_10 : decode cX9_dropHand 10 = .ok (.isub, 1) := by decide +kernel
theorem dX9_dropHand_11 : decode cX9_dropHand 11 = .ok (.iastore, 1) := by decide +kernel
theorem dX9_dropHand_12 : decode cX9_dropHand 12 = .ok (.iconst 0, 1) := by decide +kernel
theorem dX9_dropHand_13 : decode cX9_dropHand 13 = .ok (.istore_n 2, 1) := by decide +kernel
theorem dX9_dropHand_14 : decode cX9_dropHand 14 = .ok (.iload_n 2, 1) := by decide +kernel
theorem dX9_dropHand_15 : decode cX9_dropHand 15 = .ok (.aload_n 0, 1) := by decide +kernel
theorem dX9_dropHand_16 : decode cX9_dropHand 16 = .ok (.getfield 7, 3) := by decide +kernel
theorem dX9_dropHand_19 : decode cX9_dropHand 19 = .ok (.iload_n 1, 1) := by decide +kernel
theorem dX9_dropHand_20 : decode cX9_dropHand 20 = .ok (.iconst 3, 1) := by decide +kernel
theorem dX9_dropHand_21 : decode cX9_dropHand 21 = .ok (.iadd, 1) := by decide +kernel
theorem dX9_dropHand_22 : decode cX9_dropHand 22 = .ok (.iaload, 1) := by decide +kernel
theorem dX9_dropHand_23 : decode cX9_dropHand 23 = .ok (.if_icmp .ge 87, 3) := by decide +kernel
theorem dX9_dropHand_26 : decode cX9_dropHand 26 = .ok (.aload_n 0, 1) := by decide +kernel
theorem dX9_dropHand_27 : decode cX9_dropHand 27 = .ok (.getfield 7, 3) := by decide +kernel
theorem dX9_dropHand_30 : decode cX9_dropHand 30 = .ok (.iload_n 1, 1) := by decide +kernel
theorem dX9_dropHand_31 : decode cX9_dropHand 31 = .ok (.sipush 320, 3) := by decide +kernel
theorem dX9_dropHand_34 : decode cX9_dropHand 34 = .ok (.iadd, 1) := by decide +kernel
theorem dX9_dropHand_35 : decode cX9_dropHand 35 = .ok (.iload_n 2, 1) := by decide +kernel
theorem dX9_dropHand_36 : decode cX9_dropHand 36 = .ok (.iadd, 1) := by decide +kernel
theorem dX9_dropHand_37 : decode cX9_dropHand 37 = .ok (.aload_n 0, 1) := by decide +kernel
theorem dX9_dropHand_38 : decode cX9_dropHand 38 = .ok (.getfield 7, 3) := by decide +kernel
theorem dX9_dropHand_41 : decode cX9_dropHand 41 = .ok (.iload_n 1, 1) := by decide +kernel
theorem dX9_dropHand_42 : decode cX9_dropHand 42 = .ok (.sipush 320, 3) := by decide +kernel
theorem dX9_dropHand_45 : decode cX9_dropHand 45 = .ok (.iadd, 1) := by decide +kernel
theorem dX9_dropHand_46 : decode cX9_dropHand 46 = .ok (.iload_n 2, 1) := by decide +kernel
theorem dX9_dropHand_47 : decode cX9_dropHand 47 = .ok (.iadd, 1) := by decide +kernel
theorem dX9_dropHand_48 : decode cX9_dropHand 48 = .ok (.iconst 1, 1) := by decide +kernel
theorem dX9_dropHand_49 : decode cX9_dropHand 49 = .ok (.iadd, 1) := by decide +kernel
theorem dX9_dropHand_50 : decode cX9_dropHand 50 = .ok (.iaload, 1) := by decide +kernel
theorem dX9_dropHand_51 : decode cX9_dropHand 51 = .ok (.iastore, 1) := by decide +kernel
theorem dX9_dropHand_52 : decode cX9_dropHand 52 = .ok (.aload_n 0, 1) := by decide +kernel
theorem dX9_dropHand_53 : decode cX9_dropHand 53 = .ok (.getfield 7, 3) := by decide +kernel
theorem dX9_dropHand_56 : decode cX9_dropHand 56 = .ok (.iload_n 1, 1) := by decide +kernel
theorem dX9_dropHand_57 : decode cX9_dropHand 57 = .ok (.sipush 328, 3) := by decide +kernel
theorem dX9_dropHand_60 : decode cX9_dropHand 60 = .ok (.iadd, 1) := by decide +kernel
theorem dX9_dropHand_61 : decode cX9_dropHand 61 = .ok (.iload_n 2, 1) := by decide +kernel
theorem dX9_dropHand_62 : decode cX9_dropHand 62 = .ok (.iadd, 1) := by decide +kernel
theorem dX9_dropHand_63 : decode cX9_dropHand 63 = .ok (.aload_n 0, 1) := by decide +kernel
theorem dX9_dropHand_64 : decode cX9_dropHand 64 = .ok (.getfield 7, 3) := by decide +kernel
theorem dX9_dropHand_67 : decode cX9_dropHand 67 = .ok (.iload_n 1, 1) := by decide +kernel
theorem dX9_dropHand_68 : decode cX9_dropHand 68 = .ok (.sipush 328, 3) := by decide +kernel
theorem dX9_dropHand_71 : decode cX9_dropHand 71 = .ok (.iadd, 1) := by decide +kernel
theorem dX9_dropHand_72 : decode cX9_dropHand 72 = .ok (.iload_n 2, 1) := by decide +kernel
theorem dX9_dropHand_73 : decode cX9_dropHand 73 = .ok (.iadd, 1) := by decide +kernel
theorem dX9_dropHand_74 : decode cX9_dropHand 74 = .ok (.iconst 1, 1) := by decide +kernel
theorem dX9_dropHand_75 : decode cX9_dropHand 75 = .ok (.iadd, 1) := by decide +kernel
theorem dX9_dropHand_76 : decode cX9_dropHand 76 = .ok (.iaload, 1) := by decide +kernel
theorem dX9_dropHand_77 : decode cX9_dropHand 77 = .ok (.iastore, 1) := by decide +kernel
theorem dX9_dropHand_78 : decode cX9_dropHand 78 = .ok (.aload_n 0, 1) := by decide +kernel
theorem dX9_dropHand_79 : decode cX9_dropHand 79 = .ok (.getfield 7, 3) := by decide +kernel
theorem dX9_dropHand_82 : decode cX9_dropHand 82 = .ok (.iload_n 1, 1) := by decide +kernel
theorem dX9_dropHand_83 : decode cX9_dropHand 83 = .ok (.sipush 336, 3) := by decide +kernel
theorem dX9_dropHand_86 : decode cX9_dropHand 86 = .ok (.iadd, 1) := by decide +kernel
theorem dX9_dropHand_87 : decode cX9_dropHand 87 = .ok (.iload_n 2, 1) := by decide +kernel
theorem dX9_dropHand_88 : decode cX9_dropHand 88 = .ok (.iadd, 1) := by decide +kernel
theorem dX9_dropHand_89 : decode cX9_dropHand 89 = .ok (.aload_n 0, 1) := by decide +kernel
theorem dX9_dropHand_90 : decode cX9_dropHand 90 = .ok (.getfield 7, 3) := by decide +kernel
theorem dX9_dropHand_93 : decode cX9_dropHand 93 = .ok (.iload_n 1, 1) := by decide +kernel
theorem dX9_dropHand_94 : decode cX9_dropHand 94 = .ok (.sipush 336, 3) := by decide +kernel
theorem dX9_dropHand_97 : decode cX9_dropHand 97 = .ok (.iadd, 1) := by decide +kernel
theorem dX9_dropHand_98 : decode cX9_dropHand 98 = .ok (.iload_n 2, 1) := by decide +kernel
theorem dX9_dropHand_99 : decode cX9_dropHand 99 = .ok (.iadd, 1) := by decide +kernel
theorem dX9_dropHand_100 : decode cX9_dropHand 100 = .ok (.iconst 1, 1) := by decide +kernel
theorem dX9_dropHand_101 : decode cX9_dropHand 101 = .ok (.iadd, 1) := by decide +kernel
theorem dX9_dropHand_102 : decode cX9_dropHand 102 = .ok (.iaload, 1) := by decide +kernel
theorem dX9_dropHand_103 : decode cX9_dropHand 103 = .ok (.iastore, 1) := by decide +kernel
theorem dX9_dropHand_104 : decode cX9_dropHand 104 = .ok (.iinc 2 1, 3) := by decide +kernel
theorem dX9_dropHand_107 : decode cX9_dropHand 107 = .ok (.goto (-93), 3) := by decide +kernel
theorem dX9_dropHand_110 : decode cX9_dropHand 110 = .ok (.return_, 1) := by decide +kernel
theorem dX9_waits_0 : decode cX9_waits 0 = .ok (.aload_n 0, 1) := by decide +kernel
theorem dX9_waits_1 : decode cX9_waits 1 = .ok (.getfield 7, 3) := by decide +kernel
theorem dX9_waits_4 : decode cX9_waits 4 = .ok (.iload_n 1, 1) := by decide +kernel
theorem dX9_waits_5 : decode cX9_waits 5 = .ok (.iconst 3, 1) := by decide +kernel
theorem dX9_waits_6 : decode cX9_waits 6 = .ok (.iadd, 1) := by decide +kernel
theorem dX9_waits_7 : decode cX9_waits 7 = .ok (.iaload, 1) := by decide +kernel
theorem dX9_waits_8 : decode cX9_waits 8 = .ok (.ifCond .le 16, 3) := by decide +kernel
theorem dX9_waits_11 : decode cX9_waits 11 = .ok (.aload_n 0, 1) := by decide +kernel
theorem dX9_waits_12 : decode cX9_waits 12 = .ok (.getfield 7, 3) := by decide +kernel
theorem dX9_waits_15 : decode cX9_waits 15 = .ok (.iload_n 1, 1) := by decide +kernel
theorem dX9_waits_16 : decode cX9_waits 16 = .ok (.sipush 320, 3) := by decide +kernel
theorem dX9_waits_19 : decode cX9_waits 19 = .ok (.iadd, 1) := by decide +kernel
theorem dX9_waits_20 : decode cX9_waits 20 = .ok (.iaload, 1) := by decide +kernel
theorem dX9_waits_21 : decode cX9_waits 21 = .ok (.goto 4, 3) := by decide +kernel
theorem dX9_waits_24 : decode cX9_waits 24 = .ok (.iconst (-1), 1) := by decide +kernel
theorem dX9_waits_25 : decode cX9_waits 25 = .ok (.istore_n 2, 1) := by decide +kernel
theorem dX9_waits_26 : decode cX9_waits 26 = .ok (.iconst 0, 1) := by decide +kernel
theorem dX9_waits_27 : decode cX9_waits 27 = .ok (.istore_n 3, 1) := by decide +kernel
theorem dX9_waits_28 : decode cX9_waits 28 = .ok (.iload_n 3, 1) := by decide +kernel
theorem dX9_waits_29 : decode cX9_waits 29 = .ok (.aload_n 0, 1) := by decide +kernel
theorem dX9_waits_30 : decode cX9_waits 30 = .ok (.getfield 45, 3) := by decide +kernel
theorem dX9_waits_33 : decode cX9_waits 33 = .ok (.if_icmp .ge 59, 3) := by decide +kernel
theorem dX9_waits_36 : decode cX9_waits 36 = .ok (.aload_n 0, 1) := by decide +kernel
theorem dX9_waits_37 : decode cX9_waits 37 = .ok (.getfield 7, 3) := by decide +kernel
theorem dX9_waits_40 : decode cX9_waits 40 = .ok (.iload_n 1, 1) := by decide +kernel
theorem dX9_waits_41 : decode cX9_waits 41 = .ok (.sipush 192, 3) := by decide +kernel
theorem dX9_waits_44 : decode cX9_waits 44 = .ok (.iadd, 1) := by decide +kernel
theorem dX9_waits_45 : decode cX9_waits 45 = .ok (.bipush 8, 2) := by decide +kernel
theorem dX9_waits_47 : decode cX9_waits 47 = .ok (.iload_n 3, 1) := by decide +kernel
theorem dX9_waits_48 : decode cX9_waits 48 = .ok (.imul, 1) := by decide +kernel
theorem dX9_waits_49 : decode cX9_waits 49 = .ok (.iadd, 1) := by decide +kernel
theorem dX9_waits_50 : decode cX9_waits 50 = .ok (.iaload, 1) := by decide +kernel
theorem dX9_waits_51 : decode cX9_waits 51 = .ok (.istore 4, 2) := by decide +kernel
theorem dX9_waits_53 : decode cX9_waits 53 = .ok (.aload_n 0, 1) := by decide +kernel
theorem dX9_waits_54 : decode cX9_waits 54 = .ok (.getfield 7, 3) := by decide +kernel
theorem dX9_waits_57 : decode cX9_waits 57 = .ok (.iload_n 1, 1) := by decide +kernel
theorem dX9_waits_58 : decode cX9_waits 58 = .ok (.sipush 184, 3) := by decide +kernel
theorem dX9_waits_61 : decode cX9_waits 61 = .ok (.iadd, 1) := by decide +kernel
theorem dX9_waits_62 : decode cX9_waits 62 = .ok (.iload_n 3, 1) := by decide +kernel
theorem dX9_waits_63 : decode cX9_waits 63 = .ok (.iadd, 1) := by decide +kernel
theorem dX9_waits_64 : decode cX9_waits 64 = .ok (.iaload, 1) := by decide +kernel
theorem dX9_waits_65 : decode cX9_waits 65 = .ok (.ifCond .le 19, 3) := by decide +kernel
theorem dX9_waits_68 : decode cX9_waits 68 = .ok (.iload_n 2, 1) := by decide +kernel
theorem dX9_waits_69 : decode cX9_waits 69 = .ok (.iconst (-1), 1) := by decide +kernel
theorem dX9_waits_70 : decode cX9_waits 70 = .ok (.if_icmp .eq 9, 3) := by decide +kernel
theorem dX9_waits_73 : decode cX9_waits 73 = .ok (.iload 4, 2) := by decide +kernel
theorem dX9_waits_75 : decode cX9_waits 75 = .ok (.iload_n 2, 1) := by decide +kernel
theorem dX9_waits_76 : decode cX9_waits 76 = .ok (.if_icmp .ge 8, 3) := by decide +kernel
theorem dX9_waits_79 : decode cX9_waits 79 = .ok (.iload 4, 2) := by decide +kernel
theorem dX9_waits_81 : decode cX9_waits 81 = .ok (.goto 4, 3) := by decide +kernel
theorem dX9_waits_84 : decode cX9_waits 84 = .ok (.iload_n 2, 1) := by decide +kernel
theorem dX9_waits_85 : decode cX9_waits 85 = .ok (.istore_n 2, 1) := by decide +kernel
theorem dX9_waits_86 : decode cX9_waits 86 = .ok (.iinc 3 1, 3) := by decide +kernel
theorem dX9_waits_89 : decode cX9_waits 89 = .ok (.goto (-61), 3) := by decide +kernel
theorem dX9_waits_92 : decode cX9_waits 92 = .ok (.iload_n 2, 1) := by decide +kernel
theorem dX9_waits_93 : decode cX9_waits 93 = .ok (.ireturn, 1) := by decide +kernel
theorem dX9_change_0 : decode cX9_change 0 = .ok (.aload_n 0, 1) := by decide +kernel
theorem dX9_change_1 : decode cX9_change 1 = .ok (.getfield 7, 3) := by decide +kernel
theorem dX9_change_4 : decode cX9_change 4 = .ok (.iload_n 1, 1) := by decide +kernel
theorem dX9_change_5 : decode cX9_change 5 = .ok (.iconst 0, 1) := by decide +kernel
theorem dX9_change_6 : decode cX9_change 6 = .ok (.iadd, 1) := by decide +kernel
theorem dX9_change_7 : decode cX9_change 7 = .ok (.iaload, 1) := by decide +kernel
theorem dX9_change_8 : decode cX9_change 8 = .ok (.istore 4, 2) := by decide +kernel
theorem dX9_change_10 : decode cX9_change 10 = .ok (.aload_n 0, 1) := by decide +kernel
theorem dX9_change_11 : decode cX9_change 11 = .ok (.getfield 7, 3) := by decide +kernel
theorem dX9_change_14 : decode cX9_change 14 = .ok (.iload_n 1, 1) := by decide +kernel
theorem dX9_change_15 : decode cX9_change 15 = .ok (.bipush 8, 2) := by decide +kernel
theorem dX9_change_17 : decode cX9_change 17 = .ok (.iadd, 1) := by decide +kernel
theorem dX9_change_18 : decode cX9_change 18 = .ok (.iload_n 2, 1) := by decide +kernel
theorem dX9_change_19 : decode cX9_change 19 = .ok (.iadd, 1) := by decide +kernel
theorem dX9_change_20 : decode cX9_change 20 = .ok (.iload_n 3, 1) := by decide +kernel
theorem dX9_change_21 : decode cX9_change 21 = .ok (.iastore, 1) := by decide +kernel
theorem dX9_change_22 : decode cX9_change 22 = .ok (.aload_n 0, 1) := by decide +kernel
theorem dX9_change_23 : decode cX9_change 23 = .ok (.getfield 7, 3) := by decide +kernel
theorem dX9_change_26 : decode cX9_change 26 = .ok (.iload_n 1, 1) := by decide +kernel
theorem dX9_change_27 : decode cX9_change 27 = .ok (.bipush 16, 2) := by decide +kernel
theorem dX9_change_29 : decode cX9_change 29 = .ok (.iadd, 1) := by decide +kernel
theorem dX9_change_30 : decode cX9_change 30 = .ok (.iload_n 2, 1) := by decide +kernel
theorem dX9_change_31 : decode cX9_change 31 = .ok (.iadd, 1) := by decide +kernel
theorem dX9_change_32 : decode cX9_change 32 = .ok (.aload_n 0, 1) := by decide +kernel
theorem dX9_change_33 : decode cX9_change 33 = .ok (.getfield 7, 3) := by decide +kernel
theorem dX9_change_36 : decode cX9_change 36 = .ok (.iload_n 1, 1) := by decide +kernel
theorem dX9_change_37 : decode cX9_change 37 = .ok (.bipush 16, 2) := by decide +kernel
theorem dX9_change_39 : decode cX9_change 39 = .ok (.iadd, 1) := by decide +kernel
theorem dX9_change_40 : decode cX9_change 40 = .ok (.iload_n 2, 1) := by decide +kernel
theorem dX9_change_41 : decode cX9_change 41 = .ok (.iadd, 1) := by decide +kernel
theorem dX9_change_42 : decode cX9_change 42 = .ok (.iaload, 1) := by decide +kernel
theorem dX9_change_43 : decode cX9_change 43 = .ok (.iconst 1, 1) := by decide +kernel
theorem dX9_change_44 : decode cX9_change 44 = .ok (.iadd, 1) := by decide +kernel
theorem dX9_change_45 : decode cX9_change 45 = .ok (.sipush 9999, 3) := by decide +kernel
theorem dX9_change_48 : decode cX9_change 48 = .ok (.invokestatic 74, 3) := by decide +kernel
theorem dX9_change_51 : decode cX9_change 51 = .ok (.iastore, 1) := by decide +kernel
theorem dX9_change_52 : decode cX9_change 52 = .ok (.aload_n 0, 1) := by decide +kernel
theorem dX9_change_53 : decode cX9_change 53 = .ok (.getfield 7, 3) := by decide +kernel
theorem dX9_change_56 : decode cX9_change 56 = .ok (.iload_n 1, 1) := by decide +kernel
theorem dX9_change_57 : decode cX9_change 57 = .ok (.bipush 32, 2) := by decide +kernel
theorem dX9_change_59 : decode cX9_change 59 = .ok (.iadd, 1) := by decide +kernel
theorem dX9_change_60 : decode cX9_change 60 = .ok (.iload_n 2, 1) := by decide +kernel
theorem dX9_change_61 : decode cX9_change 61 = .ok (.iadd, 1) := by decide +kernel
theorem dX9_change_62 : decode cX9_change 62 = .ok (.aload_n 0, 1) := by decide +kernel
theorem dX9_change_63 : decode cX9_change 63 = .ok (.getfield 7, 3) := by decide +kernel
theorem dX9_change_66 : decode cX9_change 66 = .ok (.iload_n 1, 1) := by decide +kernel
theorem dX9_change_67 : decode cX9_change 67 = .ok (.bipush 24, 2) := by decide +kernel
theorem dX9_change_69 : decode cX9_change 69 = .ok (.iadd, 1) := by decide +kernel
theorem dX9_change_70 : decode cX9_change 70 = .ok (.iload_n 2, 1) := by decide +kernel
theorem dX9_change_71 : decode cX9_change 71 = .ok (.iadd, 1) := by decide +kernel
theorem dX9_change_72 : decode cX9_change 72 = .ok (.iaload, 1) := by decide +kernel
theorem dX9_change_73 : decode cX9_change 73 = .ok (.iload 4, 2) := by decide +kernel
theorem dX9_change_75 : decode cX9_change 75 = .ok (.if_icmp .ne 7, 3) := by decide +kernel
theorem dX9_change_78 : decode cX9_change 78 = .ok (.iconst 1, 1) := by decide +kernel
theorem dX9_change_79 : decode cX9_change 79 = .ok (.goto 14, 3) := by decide +kernel
theorem dX9_change_82 : decode cX9_change 82 = .ok (.aload_n 0, 1) := by decide +kernel
theorem dX9_change_83 : decode cX9_change 83 = .ok (.getfield 7, 3) := by decide +kernel
theorem dX9_change_86 : decode cX9_change 86 = .ok (.iload_n 1, 1) := by decide +kernel
theorem dX9_change_87 : decode cX9_change 87 = .ok (.bipush 32, 2) := by decide +kernel
theorem dX9_change_89 : decode cX9_change 89 = .ok (.iadd, 1) := by decide +kernel
theorem dX9_change_90 : decode cX9_change 90 = .ok (.iload_n 2, 1) := by decide +kernel
theorem dX9_change_91 : decode cX9_change 91 = .ok (.iadd, 1) := by decide +kernel
theorem dX9_change_92 : decode cX9_change 92 = .ok (.iaload, 1) := by decide +kernel
theorem dX9_change_93 : decode cX9_change 93 = .ok (.iastore, 1) := by decide +kernel
theorem dX9_change_94 : decode cX9_change 94 = .ok (.aload_n 0, 1) := by decide +kernel
theorem dX9_change_95 : decode cX9_change 95 = .ok (.getfield 7, 3) := by decide +kernel
theorem dX9_change_98 : decode cX9_change 98 = .ok (.iload_n 1, 1) := by decide +kernel
theorem dX9_change_99 : decode cX9_change 99 = .ok (.bipush 24, 2) := by decide +kernel
theorem dX9_change_101 : decode cX9_change 101 = .ok (.iadd, 1) := by decide +kernel
theorem dX9_change_102 : decode cX9_change 102 = .ok (.iload_n 2, 1) := by decide +kernel
theorem dX9_change_103 : decode cX9_change 103 = .ok (.iadd, 1) := by decide +kernel
theorem dX9_change_104 : decode cX9_change 104 = .ok (.iload 4, 2) := by decide +kernel
theorem dX9_change_106 : decode cX9_change 106 = .ok (.iastore, 1) := by decide +kernel
theorem dX9_change_107 : decode cX9_change 107 = .ok (.iload_n 1, 1) := by decide +kernel
theorem dX9_change_108 : decode cX9_change 108 = .ok (.bipush 48, 2) := by decide +kernel
theorem dX9_change_110 : decode cX9_change 110 = .ok (.iadd, 1) := by decide +kernel
theorem dX9_change_111 : decode cX9_change 111 = .ok (.bipush 8, 2) := by decide +kernel
theorem dX9_change_113 : decode cX9_change 113 = .ok (.iload_n 2, 1) := by decide +kernel
theorem dX9_change_114 : decode cX9_change 114 = .ok (.imul, 1) := by decide +kernel
theorem dX9_change_115 : decode cX9_change 115 = .ok (.iadd, 1) := by decide +kernel
theorem dX9_change_116 : decode cX9_change 116 = .ok (.istore 5, 2) := by decide +kernel
theorem dX9_change_118 : decode cX9_change 118 = .ok (.iload_n 1, 1) := by decide +kernel
theorem dX9_change_119 : decode cX9_change 119 = .ok (.bipush 112, 2) := by decide +kernel
theorem dX9_change_121 : decode cX9_change 121 = .ok (.iadd, 1) := by decide +kernel
theorem dX9_change_122 : decode cX9_change 122 = .ok (.bipush 8, 2) := by decide +kernel
theorem dX9_change_124 : decode cX9_change 124 = .ok (.iload_n 2, 1) := by decide +kernel
theorem dX9_change_125 : decode cX9_change 125 = .ok (.imul, 1) := by decide +kernel
theorem dX9_change_126 : decode cX9_change 126 = .ok (.iadd, 1) := by decide +kernel
theorem dX9_change_127 : decode cX9_change 127 = .ok (.istore 6, 2) := by decide +kernel
theorem dX9_change_129 : decode cX9_change 129 = .ok (.bipush 7, 2) := by decide +kernel
theorem dX9_change_131 : decode cX9_change 131 = .ok (.istore 7, 2) := by decide +kernel
theorem dX9_change_133 : decode cX9_change 133 = .ok (.iload 7, 2) := by decide +kernel
theorem dX9_change_135 : decode cX9_change 135 = .ok (.ifCond .le 53, 3) := by decide +kernel
theorem dX9_change_138 : decode cX9_change 138 = .ok (.aload_n 0, 1) := by decide +kernel
theorem dX9_change_139 : decode cX9_change 139 = .ok (.getfield 7, 3) := by decide +kernel
theorem dX9_change_142 : decode cX9_change 142 = .ok (.iload 5, 2) := by decide +kernel
theorem dX9_change_144 : decode cX9_change 144 = .ok (.iload 7, 2) := by decide +kernel
theorem dX9_change_146 : decode cX9_change 146 = .ok (.iadd, 1) := by decide +kernel
theorem dX9_change_147 : decode cX9_change 147 = .ok (.aload_n 0, 1) := by decide +kernel
theorem dX9_change_148 : decode cX9_change 148 = .ok (.getfield 7, 3) := by decide +kernel
theorem dX9_change_151 : decode cX9_change 151 = .ok (.iload 5, 2) := by decide +kernel
theorem dX9_change_153 : decode cX9_change 153 = .ok (.iload 7, 2) := by decide +kernel
theorem dX9_change_155 : decode cX9_change 155 = .ok (.iadd, 1) := by decide +kernel
theorem dX9_change_156 : decode cX9_change 156 = .ok (.iconst 1, 1) := by decide +kernel
theorem dX9_change_157 : decode cX9_change 157 = .ok (.isub, 1) := by decide +kernel
theorem dX9_change_158 : decode cX9_change 158 = .ok (.iaload, 1) := by decide +kernel
theorem dX9_change_159 : decode cX9_change 159 = .ok (.iastore, 1) := by decide +kernel
theorem dX9_change_160 : decode cX9_change 160 = .ok (.aload_n 0, 1) := by decide +kernel
theorem dX9_change_161 : decode cX9_change 161 = .ok (.getfield 7, 3) := by decide +kernel
theorem dX9_change_164 : decode cX9_change 164 = .ok (.iload 6, 2) := by decide +kernel
theorem dX9_change_166 : decode cX9_change 166 = .ok (.iload 7, 2) := by decide +kernel
theorem dX9_change_168 : decode cX9_change 168 = .ok (.iadd, 1) := by decide +kernel
theorem dX9_change_169 : decode cX9_change 169 = .ok (.aload_n 0, 1) := by decide +kernel
theorem dX9_change_170 : decode cX9_change 170 = .ok (.getfield 7, 3) := by decide +kernel
theorem dX9_change_173 : decode cX9_change 173 = .ok (.iload 6, 2) := by decide +kernel
theorem dX9_change_175 : decode cX9_change 175 = .ok (.iload 7, 2) := by decide +kernel
theorem dX9_change_177 : decode cX9_change 177 = .ok (.iadd, 1) := by decide +kernel
theorem dX9_change_178 : decode cX9_change 178 = .ok (.iconst 1, 1) := by decide +kernel
theorem dX9_change_179 : decode cX9_change 179 = .ok (.isub, 1) := by decide +kernel
theorem dX9_change_180 : decode cX9_change 180 = .ok (.iaload, 1) := by decide +kernel
theorem dX9_change_181 : decode cX9_change 181 = .ok (.iastore, 1) := by decide +kernel
theorem dX9_change_182 : decode cX9_change 182 = .ok (.iinc 7 (-1), 3) := by decide +kernel
theorem dX9_change_185 : decode cX9_change 185 = .ok (.goto (-52), 3) := by decide +kernel
theorem dX9_change_188 : decode cX9_change 188 = .ok (.aload_n 0, 1) := by decide +kernel
theorem dX9_change_189 : decode cX9_change 189 = .ok (.getfield 7, 3) := by decide +kernel
theorem dX9_change_192 : decode cX9_change 192 = .ok (.iload 5, 2) := by decide +kernel
theorem dX9_change_194 : decode cX9_change 194 = .ok (.iload 4, 2) := by decide +kernel
theorem dX9_change_196 : decode cX9_change 196 = .ok (.iastore, 1) := by decide +kernel
theorem dX9_change_197 : decode cX9_change 197 = .ok (.aload_n 0, 1) := by decide +kernel
theorem dX9_change_198 : decode cX9_change 198 = .ok (.getfield 7, 3) := by decide +kernel
theorem dX9_change_201 : decode cX9_change 201 = .ok (.iload 6, 2) := by decide +kernel
theorem dX9_change_203 : decode cX9_change 203 = .ok (.iload_n 3, 1) := by decide +kernel
theorem dX9_change_204 : decode cX9_change 204 = .ok (.iastore, 1) := by decide +kernel
theorem dX9_change_205 : decode cX9_change 205 = .ok (.aload_n 0, 1) := by decide +kernel
theorem dX9_change_206 : decode cX9_change 206 = .ok (.getfield 7, 3) := by decide +kernel
theorem dX9_change_209 : decode cX9_change 209 = .ok (.iload_n 1, 1) := by decide +kernel
theorem dX9_change_210 : decode cX9_change 210 = .ok (.bipush 40, 2) := by decide +kernel
theorem dX9_change_212 : decode cX9_change 212 = .ok (.iadd, 1) := by decide +kernel
theorem dX9_change_213 : decode cX9_change 213 = .ok (.iload_n 2, 1) := by decide +kernel
theorem dX9_change_214 : decode cX9_change 214 = .ok (.iadd, 1) := by decide +kernel
theorem dX9_change_215 : decode cX9_change 215 = .ok (.aload_n 0, 1) := by decide +kernel
theorem dX9_change_216 : decode cX9_change 216 = .ok (.getfield 7, 3) := by decide +kernel
theorem dX9_change_219 : decode cX9_change 219 = .ok (.iload_n 1, 1) := by decide +kernel
theorem dX9_change_220 : decode cX9_change 220 = .ok (.bipush 40, 2) := by decide +kernel
theorem dX9_change_222 : decode cX9_change 222 = .ok (.iadd, 1) := by decide +kernel
theorem dX9_change_223 : decode cX9_change 223 = .ok (.iload_n 2, 1) := by decide +kernel
theorem dX9_change_224 : decode cX9_change 224 = .ok (.iadd, 1) := by decide +kernel
theorem dX9_change_225 : decode cX9_change 225 = .ok (.iaload, 1) := by decide +kernel
theorem dX9_change_226 : decode cX9_change 226 = .ok (.iconst 1, 1) := by decide +kernel
theorem dX9_change_227 : decode cX9_change 227 = .ok (.iadd, 1) := by decide +kernel
theorem dX9_change_228 : decode cX9_change 228 = .ok (.bipush 8, 2) := by decide +kernel
theorem dX9_change_230 : decode cX9_change 230 = .ok (.invokestatic 74, 3) := by decide +kernel
theorem dX9_change_233 : decode cX9_change 233 = .ok (.iastore, 1) := by decide +kernel
theorem dX9_change_234 : decode cX9_change 234 = .ok (.return_, 1) := by decide +kernel
theorem dX9_cycle_0 : decode cX9_cycle 0 = .ok (.aload_n 0, 1) := by decide +kernel
theorem dX9_cycle_1 : decode cX9_cycle 1 = .ok (.getfield 7, 3) := by decide +kernel
theorem dX9_cycle_4 : decode cX9_cycle 4 = .ok (.iload_n 1, 1) := by decide +kernel
theorem dX9_cycle_5 : decode cX9_cycle 5 = .ok (.iconst 0, 1) := by decide +kernel
theorem dX9_cycle_6 : decode cX9_cycle 6 = .ok (.iadd, 1) := by decide +kernel
theorem dX9_cycle_7 : decode cX9_cycle 7 = .ok (.iaload, 1) := by decide +kernel
theorem dX9_cycle_8 : decode cX9_cycle 8 = .ok (.istore_n 2, 1) := by decide +kernel
theorem dX9_cycle_9 : decode cX9_cycle 9 = .ok (.iconst (-1), 1) := by decide +kernel
theorem dX9_cycle_10 : decode cX9_cycle 10 = .ok (.istore_n 3, 1) := by decide +kernel
theorem dX9_cycle_11 : decode cX9_cycle 11 = .ok (.iconst 2, 1) := by decide +kernel
theorem dX9_cycle_12 : decode cX9_cycle 12 = .ok (.istore 4, 2) := by decide +kernel
theorem dX9_cycle_14 : decode cX9_cycle 14 = .ok (.iconst 0, 1) := by decide +kernel
theorem dX9_cycle_15 : decode cX9_cycle 15 = .ok (.istore 5, 2) := by decide +kernel
theorem dX9_cycle_17 : decode cX9_cycle 17 = .ok (.iload 5, 2) := by decide +kernel
theorem dX9_cycle_19 : decode cX9_cycle 19 = .ok (.aload_n 0, 1) := by decide +kernel
theorem dX9_cycle_20 : decode cX9_cycle 20 = .ok (.getfield 45, 3) := by decide +kernel
theorem dX9_cycle_23 : decode cX9_cycle 23 = .ok (.if_icmp .ge 82, 3) := by decide +kernel
theorem dX9_cycle_26 : decode cX9_cycle 26 = .ok (.aload_n 0, 1) := by decide +kernel
theorem dX9_cycle_27 : decode cX9_cycle 27 = .ok (.getfield 7, 3) := by decide +kernel
theorem dX9_cycle_30 : decode cX9_cycle 30 = .ok (.iload_n 1, 1) := by decide +kernel
theorem dX9_cycle_31 : decode cX9_cycle 31 = .ok (.sipush 184, 3) := by decide +kernel
theorem dX9_cycle_34 : decode cX9_cycle 34 = .ok (.iadd, 1) := by decide +kernel
theorem dX9_cycle_35 : decode cX9_cycle 35 = .ok (.iload 5, 2) := by decide +kernel
theorem dX9_cycle_37 : decode cX9_cycle 37 = .ok (.iadd, 1) := by decide +kernel
theorem dX9_cycle_38 : decode cX9_cycle 38 = .ok (.iaload, 1) := by decide +kernel
theorem dX9_cycle_39 : decode cX9_cycle 39 = .ok (.ifCond .le 60, 3) := by decide +kernel
theorem dX9_cycle_42 : decode cX9_cycle 42 = .ok (.aload_n 0, 1) := by decide +kernel
theorem dX9_cycle_43 : decode cX9_cycle 43 = .ok (.getfield 7, 3) := by decide +kernel
theorem dX9_cycle_46 : decode cX9_cycle 46 = .ok (.iload_n 1, 1) := by decide +kernel
theorem dX9_cycle_47 : decode cX9_cycle 47 = .ok (.sipush 192, 3) := by decide +kernel
theorem dX9_cycle_50 : decode cX9_cycle 50 = .ok (.iadd, 1) := by decide +kernel
theorem dX9_cycle_51 : decode cX9_cycle 51 = .ok (.bipush 8, 2) := by decide +kernel
theorem dX9_cycle_53 : decode cX9_cycle 53 = .ok (.iload 5, 2) := by decide +kernel
theorem dX9_cycle_55 : decode cX9_cycle 55 = .ok (.imul, 1) := by decide +kernel
theorem dX9_cycle_56 : decode cX9_cycle 56 = .ok (.iadd, 1) := by decide +kernel
theorem dX9_cycle_57 : decode cX9_cycle 57 = .ok (.iaload, 1) := by decide +kernel
theorem dX9_cycle_58 : decode cX9_cycle 58 = .ok (.iload_n 2, 1) := by decide +kernel
theorem dX9_cycle_59 : decode cX9_cycle 59 = .ok (.if_icmp .ne 40, 3) := by decide +kernel
theorem dX9_cycle_62 : decode cX9_cycle 62 = .ok (.aload_n 0, 1) := by decide +kernel
theorem dX9_cycle_63 : decode cX9_cycle 63 = .ok (.getfield 7, 3) := by decide +kernel
theorem dX9_cycle_66 : decode cX9_cycle 66 = .ok (.iload_n 1, 1) := by decide +kernel
theorem dX9_cycle_67 : decode cX9_cycle 67 = .ok (.sipush 176, 3) := by decide +kernel
theorem dX9_cycle_70 : decode cX9_cycle 70 = .ok (.iadd, 1) := by decide +kernel
theorem dX9_cycle_71 : decode cX9_cycle 71 = .ok (.iload 5, 2) := by decide +kernel
theorem dX9_cycle_73 : decode cX9_cycle 73 = .ok (.iadd, 1) := by decide +kernel
theorem dX9_cycle_74 : decode cX9_cycle 74 = .ok (.aload_n 0, 1) := by decide +kernel
theorem dX9_cycle_75 : decode cX9_cycle 75 = .ok (.getfield 7, 3) := by decide +kernel
theorem dX9_cycle_78 : decode cX9_cycle 78 = .ok (.iload_n 1, 1) := by decide +kernel
theorem dX9_cycle_79 : decode cX9_cycle 79 = .ok (.sipush 256, 3) := by decide +kernel
theorem dX9_cycle_82 : decode cX9_cycle 82 = .ok (.iadd, 1) := by decide +kernel
theorem dX9_cycle_83 : decode cX9_cycle 83 = .ok (.bipush 8, 2) := by decide +kernel
theorem dX9_cycle_85 : decode cX9_cycle 85 = .ok (.iload 5, 2) := by decide +kernel
theorem dX9_cycle_87 : decode cX9_cycle 87 = .ok (.imul, 1) := by decide +kernel
theorem dX9_cycle_88 : decode cX9_cycle 88 = .ok (.iadd, 1) := by decide +kernel
theorem dX9_cycle_89 : decode cX9_cycle 89 = .ok (.iaload, 1) := by decide +kernel
theorem dX9_cycle_90 : decode cX9_cycle 90 = .ok (.iastore, 1) := by decide +kernel
theorem dX9_cycle_91 : decode cX9_cycle 91 = .ok (.aload_n 0, 1) := by decide +kernel
theorem dX9_cycle_92 : decode cX9_cycle 92 = .ok (.iload_n 1, 1) := by decide +kernel
theorem dX9_cycle_93 : decode cX9_cycle 93 = .ok (.iload 5, 2) := by decide +kernel
theorem dX9_cycle_95 : decode cX9_cycle 95 = .ok (.iconst 1, 1) := by decide +kernel
theorem dX9_cycle_96 : decode cX9_cycle 96 = .ok (.invokevirtual 66, 3) := by decide +kernel
theorem dX9_cycle_99 : decode cX9_cycle 99 = .ok (.iinc 5 1, 3) := by decide +kernel
theorem dX9_cycle_102 : decode cX9_cycle 102 = .ok (.goto (-85), 3) := by decide +kernel
theorem dX9_cycle_105 : decode cX9_cycle 105 = .ok (.aload_n 0, 1) := by decide +kernel
theorem dX9_cycle_106 : decode cX9_cycle 106 = .ok (.getfield 7, 3) := by decide +kernel
theorem dX9_cycle_109 : decode cX9_cycle 109 = .ok (.iload_n 1, 1) := by decide +kernel
theorem dX9_cycle_110 : decode cX9_cycle 110 = .ok (.iconst 3, 1) := by decide +kernel
theorem dX9_cycle_111 : decode cX9_cycle 111 = .ok (.iadd, 1) := by decide +kernel
theorem dX9_cycle_112 : decode cX9_cycle 112 = .ok (.iaload, 1) := by decide +kernel
theorem dX9_cycle_113 : decode cX9_cycle 113 = .ok (.ifCond .le 45, 3) := by decide +kernel
theorem dX9_cycle_116 : decode cX9_cycle 116 = .ok (.aload_n 0, 1) := by decide +kernel
theorem dX9_cycle_117 : decode cX9_cycle 117 = .ok (.getfield 7, 3) := by decide +kernel
theorem dX9_cycle_120 : decode cX9_cycle 120 = .ok (.iload_n 1, 1) := by decide +kernel
theorem dX9_cycle_121 : decode cX9_cycle 121 = .ok (.sipush 320, 3) := by decide +kernel
theorem dX9_cycle_124 : decode cX9_cycle 124 = .ok (.iadd, 1) := by decide +kernel
theorem dX9_cycle_125 : decode cX9_cycle 125 = .ok (.iaload, 1) := by decide +kernel
theorem dX9_cycle_126 : decode cX9_cycle 126 = .ok (.iload_n 2, 1) := by decide +kernel
theorem dX9_cycle_127 : decode cX9_cycle 127 = .ok (.if_icmp .ne 31, 3) := by decide +kernel
theorem dX9_cycle_130 : decode cX9_cycle 130 = .ok (.aload_n 0, 1) := by decide +kernel
theorem dX9_cycle_131 : decode cX9_cycle 131 = .ok (.getfield 7, 3) := by decide +kernel
theorem dX9_cycle_134 : decode cX9_cycle 134 = .ok (.iload_n 1, 1) := by decide +kernel
theorem dX9_cycle_135 : decode cX9_cycle 135 = .ok (.sipush 328, 3) := by decide +kernel
theorem dX9_cycle_138 : decode cX9_cycle 138 = .ok (.iadd, 1) := by decide +kernel
theorem dX9_cycle_139 : decode cX9_cycle 139 = .ok (.iaload, 1) := by decide +kernel
theorem dX9_cycle_140 : decode cX9_cycle 140 = .ok (.istore_n 3, 1) := by decide +kernel
theorem dX9_cycle_141 : decode cX9_cycle 141 = .ok (.aload_n 0, 1) := by decide +kernel
theorem dX9_cycle_142 : decode cX9_cycle 142 = .ok (.getfield 7, 3) := by decide +kernel
theorem dX9_cycle_145 : decode cX9_cycle 145 = .ok (.iload_n 1, 1) := by decide +kernel
theorem dX9_cycle_146 : decode cX9_cycle 146 = .ok (.sipush 336, 3) := by decide +kernel
theorem dX9_cycle_149 : decode cX9_cycle 149 = .ok (.iadd, 1) := by decide +kernel
theorem dX9_cycle_150 : decode cX9_cycle 150 = .ok (.iaload, 1) := by decide +kernel
theorem dX9_cycle_151 : decode cX9_cycle 151 = .ok (.istore 4, 2) := by decide +kernel
theorem dX9_cycle_153 : decode cX9_cycle 153 = .ok (.aload_n 0, 1) := by decide +kernel
theorem dX9_cycle_154 : decode cX9_cycle 154 = .ok (.iload_n 1, 1) := by decide +kernel
theorem dX9_cycle_155 : decode cX9_cycle 155 = .ok (.invokevirtual 77, 3) := by decide +kernel
theorem dX9_cycle_158 : decode cX9_cycle 158 = .ok (.aload_n 0, 1) := by decide +kernel
theorem dX9_cycle_159 : decode cX9_cycle 159 = .ok (.getfield 7, 3) := by decide +kernel
theorem dX9_cycle_162 : decode cX9_cycle 162 = .ok (.iload_n 1, 1) := by decide +kernel
theorem dX9_cycle_163 : decode cX9_cycle 163 = .ok (.iconst 1, 1) := by decide +kernel
theorem dX9_cycle_164 : decode cX9_cycle 164 = .ok (.iadd, 1) := by decide +kernel
theorem dX9_cycle_165 : decode cX9_cycle 165 = .ok (.aload_n 0, 1) := by decide +kernel
theorem dX9_cycle_166 : decode cX9_cycle 166 = .ok (.getfield 7, 3) := by decide +kernel
theorem dX9_cycle_169 : decode cX9_cycle 169 = .ok (.iload_n 1, 1) := by decide +kernel
theorem dX9_cycle_170 : decode cX9_cycle 170 = .ok (.iconst 1, 1) := by decide +kernel
theorem dX9_cycle_171 : decode cX9_cycle 171 = .ok (.iadd, 1) := by decide +kernel
theorem dX9_cycle_172 : decode cX9_cycle 172 = .ok (.iaload, 1) := by decide +kernel
theorem dX9_cycle_173 : decode cX9_cycle 173 = .ok (.iconst 1, 1) := by decide +kernel
theorem dX9_cycle_174 : decode cX9_cycle 174 = .ok (.iadd, 1) := by decide +kernel
theorem dX9_cycle_175 : decode cX9_cycle 175 = .ok (.ldc 81, 2) := by decide +kernel
theorem dX9_cycle_177 : decode cX9_cycle 177 = .ok (.invokestatic 74, 3) := by decide +kernel
theorem dX9_cycle_180 : decode cX9_cycle 180 = .ok (.iastore, 1) := by decide +kernel
theorem dX9_cycle_181 : decode cX9_cycle 181 = .ok (.iconst 0, 1) := by decide +kernel
theorem dX9_cycle_182 : decode cX9_cycle 182 = .ok (.istore 5, 2) := by decide +kernel
theorem dX9_cycle_184 : decode cX9_cycle 184 = .ok (.iconst 0, 1) := by decide +kernel
theorem dX9_cycle_185 : decode cX9_cycle 185 = .ok (.istore 6, 2) := by decide +kernel
theorem dX9_cycle_187 : decode cX9_cycle 187 = .ok (.iconst 0, 1) := by decide +kernel
theorem dX9_cycle_188 : decode cX9_cycle 188 = .ok (.istore 7, 2) := by decide +kernel
theorem dX9_cycle_190 : decode cX9_cycle 190 = .ok (.iload 7, 2) := by decide +kernel
theorem dX9_cycle_192 : decode cX9_cycle 192 = .ok (.aload_n 0, 1) := by decide +kernel
theorem dX9_cycle_193 : decode cX9_cycle 193 = .ok (.getfield 38, 3) := by decide +kernel
theorem dX9_cycle_196 : decode cX9_cycle 196 = .ok (.if_icmp .ge 92, 3) := by decide +kernel
theorem dX9_cycle_199 : decode cX9_cycle 199 = .ok (.aload_n 0, 1) := by decide +kernel
theorem dX9_cycle_200 : decode cX9_cycle 200 = .ok (.iload 7, 2) := by decide +kernel
theorem dX9_cycle_202 : decode cX9_cycle 202 = .ok (.invokevirtual 82, 3) := by decide +kernel
theorem dX9_cycle_205 : decode cX9_cycle 205 = .ok (.ifCond .le 14, 3) := by decide +kernel
theorem dX9_cycle_208 : decode cX9_cycle 208 = .ok (.aload_n 0, 1) := by decide +kernel
theorem dX9_cycle_209 : decode cX9_cycle 209 = .ok (.iload_n 1, 1) := by decide +kernel
theorem dX9_cycle_210 : decode cX9_cycle 210 = .ok (.iload 7, 2) := by decide +kernel
theorem dX9_cycle_212 : decode cX9_cycle 212 = .ok (.iconst (-1), 1) := by decide +kernel
theorem dX9_cycle_213 : decode cX9_cycle 213 = .ok (.invokevirtual 85, 3) := by decide +kernel
theorem dX9_cycle_216 : decode cX9_cycle 216 = .ok (.goto 26, 3) := by decide +kernel
theorem dX9_cycle_219 : decode cX9_cycle 219 = .ok (.iload 7, 2) := by decide +kernel
theorem dX9_cycle_221 : decode cX9_cycle 221 = .ok (.iload_n 3, 1) := by decide +kernel
theorem dX9_cycle_222 : decode cX9_cycle 222 = .ok (.if_icmp .ne 8, 3) := by decide +kernel
theorem dX9_cycle_225 : decode cX9_cycle 225 = .ok (.iload 4, 2) := by decide +kernel
theorem dX9_cycle_227 : decode cX9_cycle 227 = .ok (.goto 15, 3) := by decide +kernel
theorem dX9_cycle_230 : decode cX9_cycle 230 = .ok (.aload_n 0, 1) := by decide +kernel
theorem dX9_cycle_231 : decode cX9_cycle 231 = .ok (.getfield 7, 3) := by decide +kernel
theorem dX9_cycle_234 : decode cX9_cycle 234 = .ok (.iload_n 1, 1) := by decide +kernel
theorem dX9_cycle_235 : decode cX9_cycle 235 = .ok (.bipush 8, 2) := by decide +kernel
theorem dX9_cycle_237 : decode cX9_cycle 237 = .ok (.iadd, 1) := by decide +kernel
theorem dX9_cycle_238 : decode cX9_cycle 238 = .ok (.iload 7, 2) := by decide +kernel
theorem dX9_cycle_240 : decode cX9_cycle 240 = .ok (.iadd, 1) := by decide +kernel
theorem dX9_cycle_241 : decode cX9_cycle 241 = .ok (.iaload, 1) := by decide +kernel
theorem dX9_cycle_242 : decode cX9_cycle 242 = .ok (.istore 8, 2) := by decide +kernel
theorem dX9_cycle_244 : decode cX9_cycle 244 = .ok (.iload 8, 2) := by decide +kernel
theorem dX9_cycle_246 : decode cX9_cycle 246 = .ok (.aload_n 0, 1) := by decide +kernel
theorem dX9_cycle_247 : decode cX9_cycle 247 = .ok (.getfield 7, 3) := by decide +kernel
theorem dX9_cycle_250 : decode cX9_cycle 250 = .ok (.iload_n 1, 1) := by decide +kernel
theorem dX9_cycle_251 : decode cX9_cycle 251 = .ok (.bipush 8, 2) := by decide +kernel
theorem dX9_cycle_253 : decode cX9_cycle 253 = .ok (.iadd, 1) := by decide +kernel
theorem dX9_cycle_254 : decode cX9_cycle 254 = .ok (.iload 7, 2) := by decide +kernel
theorem dX9_cycle_256 : decode cX9_cycle 256 = .ok (.iadd, 1) := by decide +kernel
theorem dX9_cycle_257 : decode cX9_cycle 257 = .ok (.iaload, 1) := by decide +kernel
theorem dX9_cycle_258 : decode cX9_cycle 258 = .ok (.if_icmp .eq 24, 3) := by decide +kernel
theorem dX9_cycle_261 : decode cX9_cycle 261 = .ok (.aload_n 0, 1) := by decide +kernel
theorem dX9_cycle_262 : decode cX9_cycle 262 = .ok (.iload_n 1, 1) := by decide +kernel
theorem dX9_cycle_263 : decode cX9_cycle 263 = .ok (.iload 7, 2) := by decide +kernel
theorem dX9_cycle_265 : decode cX9_cycle 265 = .ok (.iload 8, 2) := by decide +kernel
theorem dX9_cycle_267 : decode cX9_cycle 267 = .ok (.invokevirtual 88, 3) := by decide +kernel
theorem dX9_cycle_270 : decode cX9_cycle 270 = .ok (.iload 5, 2) := by decide +kernel
theorem dX9_cycle_272 : decode cX9_cycle 272 = .ok (.iconst 1, 1) := by decide +kernel
theorem dX9_cycle_273 : decode cX9_cycle 273 = .ok (.iload 7, 2) := by decide +kernel
theorem dX9_cycle_275 : decode cX9_cycle 275 = .ok (.ishl, 1) := by decide +kernel
theorem dX9_cycle_276 : decode cX9_cycle 276 = .ok (.ior, 1) := by decide +kernel
theorem dX9_cycle_277 : decode cX9_cycle 277 = .ok (.istore 5, 2) := by decide +kernel
theorem dX9_cycle_279 : decode cX9_cycle 279 = .ok (.iinc 6 1, 3) := by decide +kernel
theorem dX9_cycle_282 : decode cX9_cycle 282 = .ok (.iinc 7 1, 3) := by decide +kernel
theorem dX9_cycle_285 : decode cX9_cycle 285 = .ok (.goto (-95), 3) := by decide +kernel
theorem dX9_cycle_288 : decode cX9_cycle 288 = .ok (.iconst 0, 1) := by decide +kernel
theorem dX9_cycle_289 : decode cX9_cycle 289 = .ok (.istore 7, 2) := by decide +kernel
theorem dX9_cycle_291 : decode cX9_cycle 291 = .ok (.iload 7, 2) := by decide +kernel
theorem dX9_cycle_293 : decode cX9_cycle 293 = .ok (.aload_n 0, 1) := by decide +kernel
theorem dX9_cycle_294 : decode cX9_cycle 294 = .ok (.getfield 45, 3) := by decide +kernel
theorem dX9_cycle_297 : decode cX9_cycle 297 = .ok (.if_icmp .ge 76, 3) := by decide +kernel
theorem dX9_cycle_300 : decode cX9_cycle 300 = .ok (.iconst 0, 1) := by decide +kernel
theorem dX9_cycle_301 : decode cX9_cycle 301 = .ok (.istore 8, 2) := by decide +kernel
theorem dX9_cycle_303 : decode cX9_cycle 303 = .ok (.iconst 0, 1) := by decide +kernel
theorem dX9_cycle_304 : decode cX9_cycle 304 = .ok (.istore 9, 2) := by decide +kernel
theorem dX9_cycle_306 : decode cX9_cycle 306 = .ok (.iload 9, 2) := by decide +kernel
theorem dX9_cycle_308 : decode cX9_cycle 308 = .ok (.aload_n 0, 1) := by decide +kernel
theorem dX9_cycle_309 : decode cX9_cycle 309 = .ok (.getfield 38, 3) := by decide +kernel
theorem dX9_cycle_312 : decode cX9_cycle 312 = .ok (.if_icmp .ge 43, 3) := by decide +kernel
theorem dX9_cycle_315 : decode cX9_cycle 315 = .ok (.iload 8, 2) := by decide +kernel
theorem dX9_cycle_317 : decode cX9_cycle 317 = .ok (.ifCond .ne 25, 3) := by decide +kernel
theorem dX9_cycle_320 : decode cX9_cycle 320 = .ok (.iload 5, 2) := by decide +kernel
theorem dX9_cycle_322 : decode cX9_cycle 322 = .ok (.iload 9, 2) := by decide +kernel
theorem dX9_cycle_324 : decode cX9_cycle 324 = .ok (.ishr, 1) := by decide +kernel
theorem dX9_cycle_325 : decode cX9_cycle 325 = .ok (.iconst 1, 1) := by decide +kernel
theorem dX9_cycle_326 : decode cX9_cycle 326 = .ok (.iand, 1) := by decide +kernel
theorem dX9_cycle_327 : decode cX9_cycle 327 = .ok (.iconst 1, 1) := by decide +kernel
theorem dX9_cycle_328 : decode cX9_cycle 328 = .ok (.if_icmp .ne 18, 3) := by decide +kernel
theorem dX9_cycle_331 : decode cX9_cycle 331 = .ok (.aload_n 0, 1) := by decide +kernel
theorem dX9_cycle_332 : decode cX9_cycle 332 = .ok (.iload 7, 2) := by decide +kernel
theorem dX9_cycle_334 : decode cX9_cycle 334 = .ok (.iload 9, 2) := by decide +kernel
theorem dX9_cycle_336 : decode cX9_cycle 336 = .ok (.invokevirtual 91, 3) := by decide +kernel
theorem dX9_cycle_339 : decode cX9_cycle 339 = .ok (.ifCond .eq 7, 3) := by decide +kernel
theorem dX9_cycle_342 : decode cX9_cycle 342 = .ok (.iconst 1, 1) := by decide +kernel
theorem dX9_cycle_343 : decode cX9_cycle 343 = .ok (.goto 4, 3) := by decide +kernel
theorem dX9_cycle_346 : decode cX9_cycle 346 = .ok (.iconst 0, 1) := by decide +kernel
theorem dX9_cycle_347 : decode cX9_cycle 347 = .ok (.istore 8, 2) := by decide +kernel
theorem dX9_cycle_349 : decode cX9_cycle 349 = .ok (.iinc 9 1, 3) := by decide +kernel
theorem dX9_cycle_352 : decode cX9_cycle 352 = .ok (.goto (-46), 3) := by decide +kernel
theorem dX9_cycle_355 : decode cX9_cycle 355 = .ok (.iload 8, 2) := by decide +kernel
theorem dX9_cycle_357 : decode cX9_cycle 357 = .ok (.ifCond .eq 10, 3) := by decide +kernel
theorem dX9_cycle_360 : decode cX9_cycle 360 = .ok (.aload_n 0, 1) := by decide +kernel
theorem dX9_cycle_361 : decode cX9_cycle 361 = .ok (.iload_n 1, 1) := by decide +kernel
theorem dX9_cycle_362 : decode cX9_cycle 362 = .ok (.iload 7, 2) := by decide +kernel
theorem dX9_cycle_364 : decode cX9_cycle 364 = .ok (.invokevirtual 70, 3) := by decide +kernel
theorem dX9_cycle_367 : decode cX9_cycle 367 = .ok (.iinc 7 1, 3) := by decide +kernel
theorem dX9_cycle_370 : decode cX9_cycle 370 = .ok (.goto (-79), 3) := by decide +kernel
theorem dX9_cycle_373 : decode cX9_cycle 373 = .ok (.iload 6, 2) := by decide +kernel
theorem dX9_cycle_375 : decode cX9_cycle 375 = .ok (.ireturn, 1) := by decide +kernel
theorem dX9_stepIn_0 : decode cX9_stepIn 0 = .ok (.aload_n 0, 1) := by decide +kernel
theorem dX9_stepIn_1 : decode cX9_stepIn 1 = .ok (.iload_n 1, 1) := by decide +kernel
theorem dX9_stepIn_2 : decode cX9_stepIn 2 = .ok (.invokevirtual 95, 3) := by decide +kernel
theorem dX9_stepIn_5 : decode cX9_stepIn 5 = .ok (.istore_n 2, 1) := by decide +kernel
theorem dX9_stepIn_6 : decode cX9_stepIn 6 = .ok (.aload_n 0, 1) := by decide +kernel
theorem dX9_stepIn_7 : decode cX9_stepIn 7 = .ok (.getfield 7, 3) := by decide +kernel
theorem dX9_stepIn_10 : decode cX9_stepIn 10 = .ok (.iload_n 1, 1) := by decide +kernel
theorem dX9_stepIn_11 : decode cX9_stepIn 11 = .ok (.iconst 0, 1) := by decide +kernel
theorem dX9_stepIn_12 : decode cX9_stepIn 12 = .ok (.iadd, 1) := by decide +kernel
theorem dX9_stepIn_13 : decode cX9_stepIn 13 = .ok (.iload_n 2, 1) := by decide +kernel
theorem dX9_stepIn_14 : decode cX9_stepIn 14 = .ok (.aload_n 0, 1) := by decide +kernel
theorem dX9_stepIn_15 : decode cX9_stepIn 15 = .ok (.getfield 7, 3) := by decide +kernel
theorem dX9_stepIn_18 : decode cX9_stepIn 18 = .ok (.iload_n 1, 1) := by decide +kernel
theorem dX9_stepIn_19 : decode cX9_stepIn 19 = .ok (.iconst 0, 1) := by decide +kernel
theorem dX9_stepIn_20 : decode cX9_stepIn 20 = .ok (.iadd, 1) := by decide +kernel
theorem dX9_stepIn_21 : decode cX9_stepIn 21 = .ok (.iaload, 1) := by decide +kernel
theorem dX9_stepIn_22 : decode cX9_stepIn 22 = .ok (.if_icmp .le 7, 3) := by decide +kernel
theorem dX9_stepIn_25 : decode cX9_stepIn 25 = .ok (.iload_n 2, 1) := by decide +kernel
theorem dX9_stepIn_26 : decode cX9_stepIn 26 = .ok (.goto 11, 3) := by decide +kernel
theorem dX9_stepIn_29 : decode cX9_stepIn 29 = .ok (.aload_n 0, 1) := by decide +kernel
theorem dX9_stepIn_30 : decode cX9_stepIn 30 = .ok (.getfield 7, 3) := by decide +kernel
theorem dX9_stepIn_33 : decode cX9_stepIn 33 = .ok (.iload_n 1, 1) := by decide +kernel
theorem dX9_stepIn_34 : decode cX9_stepIn 34 = .ok (.iconst 0, 1) := by decide +kernel
theorem dX9_stepIn_35 : decode cX9_stepIn 35 = .ok (.iadd, 1) := by decide +kernel
theorem dX9_stepIn_36 : decode cX9_stepIn 36 = .ok (.iaload, 1) := by decide +kernel
theorem dX9_stepIn_37 : decode cX9_stepIn 37 = .ok (.iastore, 1) := by decide +kernel
theorem dX9_stepIn_38 : decode cX9_stepIn 38 = .ok (.iconst 0, 1) := by decide +kernel
theorem dX9_stepIn_39 : decode cX9_stepIn 39 = .ok (.istore_n 3, 1) := by decide +kernel
theorem dX9_stepIn_40 : decode cX9_stepIn 40 = .ok (.iload_n 3, 1) := by decide +kernel
theorem dX9_stepIn_41 : decode cX9_stepIn 41 = .ok (.bipush 40, 2) := by decide +kernel
theorem dX9_stepIn_43 : decode cX9_stepIn 43 = .ok (.if_icmp .ge 38, 3) := by decide +kernel
theorem dX9_stepIn_46 : decode cX9_stepIn 46 = .ok (.aload_n 0, 1) := by decide +kernel
theorem dX9_stepIn_47 : decode cX9_stepIn 47 = .ok (.iload_n 1, 1) := by decide +kernel
theorem dX9_stepIn_48 : decode cX9_stepIn 48 = .ok (.invokevirtual 95, 3) := by decide +kernel
theorem dX9_stepIn_51 : decode cX9_stepIn 51 = .ok (.aload_n 0, 1) := by decide +kernel
theorem dX9_stepIn_52 : decode cX9_stepIn 52 = .ok (.getfield 7, 3) := by decide +kernel
theorem dX9_stepIn_55 : decode cX9_stepIn 55 = .ok (.iload_n 1, 1) := by decide +kernel
theorem dX9_stepIn_56 : decode cX9_stepIn 56 = .ok (.iconst 0, 1) := by decide +kernel
theorem dX9_stepIn_57 : decode cX9_stepIn 57 = .ok (.iadd, 1) := by decide +kernel
theorem dX9_stepIn_58 : decode cX9_stepIn 58 = .ok (.iaload, 1) := by decide +kernel
theorem dX9_stepIn_59 : decode cX9_stepIn 59 = .ok (.if_icmp .ne 22, 3) := by decide +kernel
theorem dX9_stepIn_62 : decode cX9_stepIn 62 = .ok (.iload_n 3, 1) := by decide +kernel
theorem dX9_stepIn_63 : decode cX9_stepIn 63 = .ok (.aload_n 0, 1) := by decide +kernel
theorem dX9_stepIn_64 : decode cX9_stepIn 64 = .ok (.iload_n 1, 1) := by decide +kernel
theorem dX9_stepIn_65 : decode cX9_stepIn 65 = .ok (.invokevirtual 98, 3) := by decide +kernel
theorem dX9_stepIn_68 : decode cX9_stepIn 68 = .ok (.ifCond .le 7, 3) := by decide +kernel
theorem dX9_stepIn_71 : decode cX9_stepIn 71 = .ok (.iconst 1, 1) := by decide +kernel
theorem dX9_stepIn_72 : decode cX9_stepIn 72 = .ok (.goto 4, 3) := by decide +kernel
theorem dX9_stepIn_75 : decode cX9_stepIn 75 = .ok (.iconst 0, 1) := by decide +kernel
theorem dX9_stepIn_76 : decode cX9_stepIn 76 = .ok (.iadd, 1) := by decide +kernel
theorem dX9_stepIn_77 : decode cX9_stepIn 77 = .ok (.istore_n 3, 1) := by decide +kernel
theorem dX9_stepIn_78 : decode cX9_stepIn 78 = .ok (.goto (-38), 3) := by decide +kernel
theorem dX9_stepIn_81 : decode cX9_stepIn 81 = .ok (.iload_n 3, 1) := by decide +kernel
theorem dX9_stepIn_82 : decode cX9_stepIn 82 = .ok (.bipush 40, 2) := by decide +kernel
theorem dX9_stepIn_84 : decode cX9_stepIn 84 = .ok (.if_icmp .ne 53, 3) := by decide +kernel
theorem dX9_stepIn_87 : decode cX9_stepIn 87 = .ok (.aload_n 0, 1) := by decide +kernel
theorem dX9_stepIn_88 : decode cX9_stepIn 88 = .ok (.getfield 7, 3) := by decide +kernel
theorem dX9_stepIn_91 : decode cX9_stepIn 91 = .ok (.iload_n 1, 1) := by decide +kernel
theorem dX9_stepIn_92 : decode cX9_stepIn 92 = .ok (.iconst 2, 1) := by decide +kernel
theorem dX9_stepIn_93 : decode cX9_stepIn 93 = .ok (.iadd, 1) := by decide +kernel
theorem dX9_stepIn_94 : decode cX9_stepIn 94 = .ok (.iconst 1, 1) := by decide +kernel
theorem dX9_stepIn_95 : decode cX9_stepIn 95 = .ok (.iastore, 1) := by decide +kernel
theorem dX9_stepIn_96 : decode cX9_stepIn 96 = .ok (.aload_n 0, 1) := by decide +kernel
theorem dX9_stepIn_97 : decode cX9_stepIn 97 = .ok (.getfield 7, 3) := by decide +kernel
theorem dX9_stepIn_100 : decode cX9_stepIn 100 = .ok (.iload_n 1, 1) := by decide +kernel
theorem dX9_stepIn_101 : decode cX9_stepIn 101 = .ok (.iconst 3, 1) := by decide +kernel
theorem dX9_stepIn_102 : decode cX9_stepIn 102 = .ok (.iadd, 1) := by decide +kernel
theorem dX9_stepIn_103 : decode cX9_stepIn 103 = .ok (.iconst 0, 1) := by decide +kernel
theorem dX9_stepIn_104 : decode cX9_stepIn 104 = .ok (.iastore, 1) := by decide +kernel
theorem dX9_stepIn_105 : decode cX9_stepIn 105 = .ok (.iconst 0, 1) := by decide +kernel
theorem dX9_stepIn_106 : decode cX9_stepIn 106 = .ok (.istore 4, 2) := by decide +kernel
theorem dX9_stepIn_108 : decode cX9_stepIn 108 = .ok (.iload 4, 2) := by decide +kernel
theorem dX9_stepIn_110 : decode cX9_stepIn 110 = .ok (.aload_n 0, 1) := by decide +kernel
theorem dX9_stepIn_111 : decode cX9_stepIn 111 = .ok (.getfield 45, 3) := by decide +kernel
theorem dX9_stepIn_114 : decode cX9_stepIn 114 = .ok (.if_icmp .ge 23, 3) := by decide +kernel
theorem dX9_stepIn_117 : decode cX9_stepIn 117 = .ok (.aload_n 0, 1) := by decide +kernel
theorem dX9_stepIn_118 : decode cX9_stepIn 118 = .ok (.getfield 7, 3) := by decide +kernel
theorem dX9_stepIn_121 : decode cX9_stepIn 121 = .ok (.iload_n 1, 1) := by decide +kernel
theorem dX9_stepIn_122 : decode cX9_stepIn 122 = .ok (.sipush 184, 3) := by decide +kernel
theorem dX9_stepIn_125 : decode cX9_stepIn 125 = .ok (.iadd, 1) := by decide +kernel
theorem dX9_stepIn_126 : decode cX9_stepIn 126 = .ok (.iload 4, 2) := by decide +kernel
theorem dX9_stepIn_128 : decode cX9_stepIn 128 = .ok (.iadd, 1) := by decide +kernel
theorem dX9_stepIn_129 : decode cX9_stepIn 129 = .ok (.iconst 0, 1) := by decide +kernel
theorem dX9_stepIn_130 : decode cX9_stepIn 130 = .ok (.iastore, 1) := by decide +kernel
theorem dX9_stepIn_131 : decode cX9_stepIn 131 = .ok (.iinc 4 1, 3) := by decide +kernel
theorem dX9_stepIn_134 : decode cX9_stepIn 134 = .ok (.goto (-26), 3) := by decide +kernel
theorem dX9_stepIn_137 : decode cX9_stepIn 137 = .ok (.return_, 1) := by decide +kernel
theorem dX9_feed_0 : decode cX9_feed 0 = .ok (.iload_n 1, 1) := by decide +kernel
theorem dX9_feed_1 : decode cX9_feed 1 = .ok (.iconst 0, 1) := by decide +kernel
theorem dX9_feed_2 : decode cX9_feed 2 = .ok (.sipush 255, 3) := by decide +kernel
theorem dX9_feed_5 : decode cX9_feed 5 = .ok (.invokestatic 41, 3) := by decide +kernel
theorem dX9_feed_8 : decode cX9_feed 8 = .ok (.ifCond .ne 6, 3) := by decide +kernel
theorem dX9_feed_11 : decode cX9_feed 11 = .ok (.ldc 101, 2) := by decide +kernel
theorem dX9_feed_13 : decode cX9_feed 13 = .ok (.ireturn, 1) := by decide +kernel
theorem dX9_feed_14 : decode cX9_feed 14 = .ok (.aload_n 0, 1) := by decide +kernel
theorem dX9_feed_15 : decode cX9_feed 15 = .ok (.getfield 102, 3) := by decide +kernel
theorem dX9_feed_18 : decode cX9_feed 18 = .ok (.sipush 200, 3) := by decide +kernel
theorem dX9_feed_21 : decode cX9_feed 21 = .ok (.if_icmp .ne 6, 3) := by decide +kernel
theorem dX9_feed_24 : decode cX9_feed 24 = .ok (.ldc 105, 2) := by decide +kernel
theorem dX9_feed_26 : decode cX9_feed 26 = .ok (.ireturn, 1) := by decide +kernel
theorem dX9_feed_27 : decode cX9_feed 27 = .ok (.aload_n 0, 1) := by decide +kernel
theorem dX9_feed_28 : decode cX9_feed 28 = .ok (.getfield 25, 3) := by decide +kernel
theorem dX9_feed_31 : decode cX9_feed 31 = .ok (.aload_n 0, 1) := by decide +kernel
theorem dX9_feed_32 : decode cX9_feed 32 = .ok (.getfield 102, 3) := by decide +kernel
theorem dX9_feed_35 : decode cX9_feed 35 = .ok (.iload_n 1, 1) := by decide +kernel
theorem dX9_feed_36 : decode cX9_feed 36 = .ok (.iastore, 1) := by decide +kernel
end
section
theorem dX9_feed_37 : decode cX9_feed 37 = .ok (.aload_n 0, 1) := by decide +kernel
theorem dX9_feed_38 : decode cX9_feed 38 = .ok (.dup, 1) := by decide +kernel
theorem dX9_feed_39 : decode cX9_feed 39 = .ok (.getfield 102, 3) := by decide +kernel
theorem dX9_feed_42 : decode cX9_feed 42 = .ok (.iconst 1, 1) := by decide +kernel
theorem dX9_feed_43 : decode cX9_feed 43 = .ok (.iadd, 1) := by decide +kernel
theorem dX9_feed_44 : decode cX9_feed 44 = .ok (.putfield 102, 3) := by decide +kernel
theorem dX9_feed_47 : decode cX9_feed 47 = .ok (.aload_n 0, 1) := by decide +kernel
theorem dX9_feed_48 : decode cX9_feed 48 = .ok (.getfield 102, 3) := by decide +kernel
theorem dX9_feed_51 : decode cX9_feed 51 = .ok (.ireturn, 1) := by decide +kernel
theorem dX9_fail_0 : decode cX9_fail 0 = .ok (.aload_n 0, 1) := by decide +kernel
theorem dX9_fail_1 : decode cX9_fail 1 = .ok (.getfield 106, 3) := by decide +kernel
theorem dX9_fail_4 : decode cX9_fail 4 = .ok (.ifCond .ne 13, 3) := by decide +kernel
theorem dX9_fail_7 : decode cX9_fail 7 = .ok (.aload_n 0, 1) := by decide +kernel
theorem dX9_fail_8 : decode cX9_fail 8 = .ok (.iload_n 1, 1) := by decide +kernel
theorem dX9_fail_9 : decode cX9_fail 9 = .ok (.putfield 106, 3) := by decide +kernel
theorem dX9_fail_12 : decode cX9_fail 12 = .ok (.aload_n 0, 1) := by decide +kernel
theorem dX9_fail_13 : decode cX9_fail 13 = .ok (.iload_n 2, 1) := by decide +kernel
theorem dX9_fail_14 : decode cX9_fail 14 = .ok (.putfield 109, 3) := by decide +kernel
theorem dX9_fail_17 : decode cX9_fail 17 = .ok (.return_, 1) := by decide +kernel
theorem dX9_here_0 : decode cX9_here 0 = .ok (.aload_n 0, 1) := by decide +kernel
theorem dX9_here_1 : decode cX9_here 1 = .ok (.getfield 112, 3) := by decide +kernel
theorem dX9_here_4 : decode cX9_here 4 = .ok (.aload_n 0, 1) := by decide +kernel
theorem dX9_here_5 : decode cX9_here 5 = .ok (.getfield 102, 3) := by decide +kernel
theorem dX9_here_8 : decode cX9_here 8 = .ok (.if_icmp .ge 30, 3) := by decide +kernel
theorem dX9_here_11 : decode cX9_here 11 = .ok (.aload_n 0, 1) := by decide +kernel
theorem dX9_here_12 : decode cX9_here 12 = .ok (.getfield 25, 3) := by decide +kernel
theorem dX9_here_15 : decode cX9_here 15 = .ok (.aload_n 0, 1) := by decide +kernel
theorem dX9_here_16 : decode cX9_here 16 = .ok (.getfield 112, 3) := by decide +kernel
theorem dX9_here_19 : decode cX9_here 19 = .ok (.iaload, 1) := by decide +kernel
theorem dX9_here_20 : decode cX9_here 20 = .ok (.bipush 32, 2) := by decide +kernel
theorem dX9_here_22 : decode cX9_here 22 = .ok (.if_icmp .ne 16, 3) := by decide +kernel
theorem dX9_here_25 : decode cX9_here 25 = .ok (.aload_n 0, 1) := by decide +kernel
theorem dX9_here_26 : decode cX9_here 26 = .ok (.dup, 1) := by decide +kernel
theorem dX9_here_27 : decode cX9_here 27 = .ok (.getfield 112, 3) := by decide +kernel
theorem dX9_here_30 : decode cX9_here 30 = .ok (.iconst 1, 1) := by decide +kernel
theorem dX9_here_31 : decode cX9_here 31 = .ok (.iadd, 1) := by decide +kernel
theorem dX9_here_32 : decode cX9_here 32 = .ok (.putfield 112, 3) := by decide +kernel
theorem dX9_here_35 : decode cX9_here 35 = .ok (.goto (-35), 3) := by decide +kernel
theorem dX9_here_38 : decode cX9_here 38 = .ok (.aload_n 0, 1) := by decide +kernel
theorem dX9_here_39 : decode cX9_here 39 = .ok (.getfield 112, 3) := by decide +kernel
theorem dX9_here_42 : decode cX9_here 42 = .ok (.aload_n 0, 1) := by decide +kernel
theorem dX9_here_43 : decode cX9_here 43 = .ok (.getfield 102, 3) := by decide +kernel
theorem dX9_here_46 : decode cX9_here 46 = .ok (.if_icmp .ge 15, 3) := by decide +kernel
theorem dX9_here_49 : decode cX9_here 49 = .ok (.aload_n 0, 1) := by decide +kernel
theorem dX9_here_50 : decode cX9_here 50 = .ok (.getfield 25, 3) := by decide +kernel
theorem dX9_here_53 : decode cX9_here 53 = .ok (.aload_n 0, 1) := by decide +kernel
theorem dX9_here_54 : decode cX9_here 54 = .ok (.getfield 112, 3) := by decide +kernel
theorem dX9_here_57 : decode cX9_here 57 = .ok (.iaload, 1) := by decide +kernel
theorem dX9_here_58 : decode cX9_here 58 = .ok (.goto 4, 3) := by decide +kernel
theorem dX9_here_61 : decode cX9_here 61 = .ok (.iconst (-1), 1) := by decide +kernel
theorem dX9_here_62 : decode cX9_here 62 = .ok (.ireturn, 1) := by decide +kernel
theorem dX9_number_0 : decode cX9_number 0 = .ok (.aload_n 0, 1) := by decide +kernel
theorem dX9_number_1 : decode cX9_number 1 = .ok (.invokevirtual 115, 3) := by decide +kernel
theorem dX9_number_4 : decode cX9_number 4 = .ok (.istore_n 3, 1) := by decide +kernel
theorem dX9_number_5 : decode cX9_number 5 = .ok (.aload_n 0, 1) := by decide +kernel
theorem dX9_number_6 : decode cX9_number 6 = .ok (.getfield 106, 3) := by decide +kernel
theorem dX9_number_9 : decode cX9_number 9 = .ok (.ifCond .ne 14, 3) := by decide +kernel
theorem dX9_number_12 : decode cX9_number 12 = .ok (.iload_n 3, 1) := by decide +kernel
theorem dX9_number_13 : decode cX9_number 13 = .ok (.bipush 48, 2) := by decide +kernel
theorem dX9_number_15 : decode cX9_number 15 = .ok (.bipush 57, 2) := by decide +kernel
theorem dX9_number_17 : decode cX9_number 17 = .ok (.invokestatic 41, 3) := by decide +kernel
theorem dX9_number_20 : decode cX9_number 20 = .ok (.ifCond .ne 14, 3) := by decide +kernel
theorem dX9_number_23 : decode cX9_number 23 = .ok (.aload_n 0, 1) := by decide +kernel
theorem dX9_number_24 : decode cX9_number 24 = .ok (.iconst 1, 1) := by decide +kernel
theorem dX9_number_25 : decode cX9_number 25 = .ok (.aload_n 0, 1) := by decide +kernel
theorem dX9_number_26 : decode cX9_number 26 = .ok (.getfield 112, 3) := by decide +kernel
theorem dX9_number_29 : decode cX9_number 29 = .ok (.invokevirtual 119, 3) := by decide +kernel
theorem dX9_number_32 : decode cX9_number 32 = .ok (.iload_n 1, 1) := by decide +kernel
theorem dX9_number_33 : decode cX9_number 33 = .ok (.ireturn, 1) := by decide +kernel
theorem dX9_number_34 : decode cX9_number 34 = .ok (.aload_n 0, 1) := by decide +kernel
theorem dX9_number_35 : decode cX9_number 35 = .ok (.aload_n 0, 1) := by decide +kernel
theorem dX9_number_36 : decode cX9_number 36 = .ok (.getfield 112, 3) := by decide +kernel
theorem dX9_number_39 : decode cX9_number 39 = .ok (.putfield 122, 3) := by decide +kernel
theorem dX9_number_42 : decode cX9_number 42 = .ok (.iconst 0, 1) := by decide +kernel
theorem dX9_number_43 : decode cX9_number 43 = .ok (.istore 4, 2) := by decide +kernel
theorem dX9_number_45 : decode cX9_number 45 = .ok (.aload_n 0, 1) := by decide +kernel
theorem dX9_number_46 : decode cX9_number 46 = .ok (.getfield 112, 3) := by decide +kernel
theorem dX9_number_49 : decode cX9_number 49 = .ok (.aload_n 0, 1) := by decide +kernel
theorem dX9_number_50 : decode cX9_number 50 = .ok (.getfield 102, 3) := by decide +kernel
theorem dX9_number_53 : decode cX9_number 53 = .ok (.if_icmp .ge 73, 3) := by decide +kernel
theorem dX9_number_56 : decode cX9_number 56 = .ok (.aload_n 0, 1) := by decide +kernel
theorem dX9_number_57 : decode cX9_number 57 = .ok (.getfield 25, 3) := by decide +kernel
theorem dX9_number_60 : decode cX9_number 60 = .ok (.aload_n 0, 1) := by decide +kernel
theorem dX9_number_61 : decode cX9_number 61 = .ok (.getfield 112, 3) := by decide +kernel
theorem dX9_number_64 : decode cX9_number 64 = .ok (.iaload, 1) := by decide +kernel
theorem dX9_number_65 : decode cX9_number 65 = .ok (.bipush 48, 2) := by decide +kernel
theorem dX9_number_67 : decode cX9_number 67 = .ok (.bipush 57, 2) := by decide +kernel
theorem dX9_number_69 : decode cX9_number 69 = .ok (.invokestatic 41, 3) := by decide +kernel
theorem dX9_number_72 : decode cX9_number 72 = .ok (.ifCond .eq 54, 3) := by decide +kernel
theorem dX9_number_75 : decode cX9_number 75 = .ok (.aload_n 0, 1) := by decide +kernel
theorem dX9_number_76 : decode cX9_number 76 = .ok (.getfield 112, 3) := by decide +kernel
theorem dX9_number_79 : decode cX9_number 79 = .ok (.aload_n 0, 1) := by decide +kernel
theorem dX9_number_80 : decode cX9_number 80 = .ok (.getfield 122, 3) := by decide +kernel
theorem dX9_number_83 : decode cX9_number 83 = .ok (.isub, 1) := by decide +kernel
theorem dX9_number_84 : decode cX9_number 84 = .ok (.iconst 2, 1) := by decide +kernel
theorem dX9_number_85 : decode cX9_number 85 = .ok (.if_icmp .ge 24, 3) := by decide +kernel
theorem dX9_number_88 : decode cX9_number 88 = .ok (.bipush 10, 2) := by decide +kernel
theorem dX9_number_90 : decode cX9_number 90 = .ok (.iload 4, 2) := by decide +kernel
theorem dX9_number_92 : decode cX9_number 92 = .ok (.imul, 1) := by decide +kernel
theorem dX9_number_93 : decode cX9_number 93 = .ok (.aload_n 0, 1) := by decide +kernel
theorem dX9_number_94 : decode cX9_number 94 = .ok (.getfield 25, 3) := by decide +kernel
theorem dX9_number_97 : decode cX9_number 97 = .ok (.aload_n 0, 1) := by decide +kernel
theorem dX9_number_98 : decode cX9_number 98 = .ok (.getfield 112, 3) := by decide +kernel
theorem dX9_number_101 : decode cX9_number 101 = .ok (.iaload, 1) := by decide +kernel
theorem dX9_number_102 : decode cX9_number 102 = .ok (.iadd, 1) := by decide +kernel
theorem dX9_number_103 : decode cX9_number 103 = .ok (.bipush 48, 2) := by decide +kernel
theorem dX9_number_105 : decode cX9_number 105 = .ok (.isub, 1) := by decide +kernel
theorem dX9_number_106 : decode cX9_number 106 = .ok (.goto 5, 3) := by decide +kernel
theorem dX9_number_109 : decode cX9_number 109 = .ok (.iload 4, 2) := by decide +kernel
theorem dX9_number_111 : decode cX9_number 111 = .ok (.istore 4, 2) := by decide +kernel
theorem dX9_number_113 : decode cX9_number 113 = .ok (.aload_n 0, 1) := by decide +kernel
theorem dX9_number_114 : decode cX9_number 114 = .ok (.dup, 1) := by decide +kernel
theorem dX9_number_115 : decode cX9_number 115 = .ok (.getfield 112, 3) := by decide +kernel
theorem dX9_number_118 : decode cX9_number 118 = .ok (.iconst 1, 1) := by decide +kernel
theorem dX9_number_119 : decode cX9_number 119 = .ok (.iadd, 1) := by decide +kernel
theorem dX9_number_120 : decode cX9_number 120 = .ok (.putfield 112, 3) := by decide +kernel
theorem dX9_number_123 : decode cX9_number 123 = .ok (.goto (-78), 3) := by decide +kernel
theorem dX9_number_126 : decode cX9_number 126 = .ok (.aload_n 0, 1) := by decide +kernel
theorem dX9_number_127 : decode cX9_number 127 = .ok (.getfield 112, 3) := by decide +kernel
theorem dX9_number_130 : decode cX9_number 130 = .ok (.aload_n 0, 1) := by decide +kernel
theorem dX9_number_131 : decode cX9_number 131 = .ok (.getfield 122, 3) := by decide +kernel
theorem dX9_number_134 : decode cX9_number 134 = .ok (.isub, 1) := by decide +kernel
theorem dX9_number_135 : decode cX9_number 135 = .ok (.iconst 2, 1) := by decide +kernel
theorem dX9_number_136 : decode cX9_number 136 = .ok (.if_icmp .gt 13, 3) := by decide +kernel
theorem dX9_number_139 : decode cX9_number 139 = .ok (.iload 4, 2) := by decide +kernel
theorem dX9_number_141 : decode cX9_number 141 = .ok (.iload_n 1, 1) := by decide +kernel
theorem dX9_number_142 : decode cX9_number 142 = .ok (.iload_n 2, 1) := by decide +kernel
theorem dX9_number_143 : decode cX9_number 143 = .ok (.invokestatic 41, 3) := by decide +kernel
theorem dX9_number_146 : decode cX9_number 146 = .ok (.ifCond .ne 14, 3) := by decide +kernel
theorem dX9_number_149 : decode cX9_number 149 = .ok (.aload_n 0, 1) := by decide +kernel
theorem dX9_number_150 : decode cX9_number 150 = .ok (.iconst 2, 1) := by decide +kernel
theorem dX9_number_151 : decode cX9_number 151 = .ok (.aload_n 0, 1) := by decide +kernel
theorem dX9_number_152 : decode cX9_number 152 = .ok (.getfield 122, 3) := by decide +kernel
theorem dX9_number_155 : decode cX9_number 155 = .ok (.invokevirtual 119, 3) := by decide +kernel
theorem dX9_number_158 : decode cX9_number 158 = .ok (.iload_n 1, 1) := by decide +kernel
theorem dX9_number_159 : decode cX9_number 159 = .ok (.ireturn, 1) := by decide +kernel
theorem dX9_number_160 : decode cX9_number 160 = .ok (.iload 4, 2) := by decide +kernel
theorem dX9_number_162 : decode cX9_number 162 = .ok (.ireturn, 1) := by decide +kernel
theorem dX9_readWire_0 : decode cX9_readWire 0 = .ok (.aload_n 0, 1) := by decide +kernel
theorem dX9_readWire_1 : decode cX9_readWire 1 = .ok (.getfield 125, 3) := by decide +kernel
theorem dX9_readWire_4 : decode cX9_readWire 4 = .ok (.bipush 8, 2) := by decide +kernel
theorem dX9_readWire_6 : decode cX9_readWire 6 = .ok (.if_icmp .ne 10, 3) := by decide +kernel
theorem dX9_readWire_9 : decode cX9_readWire 9 = .ok (.aload_n 0, 1) := by decide +kernel
theorem dX9_readWire_10 : decode cX9_readWire 10 = .ok (.iconst 3, 1) := by decide +kernel
theorem dX9_readWire_11 : decode cX9_readWire 11 = .ok (.iload_n 1, 1) := by decide +kernel
theorem dX9_readWire_12 : decode cX9_readWire 12 = .ok (.invokevirtual 119, 3) := by decide +kernel
theorem dX9_readWire_15 : decode cX9_readWire 15 = .ok (.return_, 1) := by decide +kernel
theorem dX9_readWire_16 : decode cX9_readWire 16 = .ok (.aload_n 0, 1) := by decide +kernel
theorem dX9_readWire_17 : decode cX9_readWire 17 = .ok (.getfield 32, 3) := by decide +kernel
theorem dX9_readWire_20 : decode cX9_readWire 20 = .ok (.aload_n 0, 1) := by decide +kernel
theorem dX9_readWire_21 : decode cX9_readWire 21 = .ok (.getfield 125, 3) := by decide +kernel
theorem dX9_readWire_24 : decode cX9_readWire 24 = .ok (.aload_n 0, 1) := by decide +kernel
theorem dX9_readWire_25 : decode cX9_readWire 25 = .ok (.iconst 0, 1) := by decide +kernel
theorem dX9_readWire_26 : decode cX9_readWire 26 = .ok (.iconst 3, 1) := by decide +kernel
theorem dX9_readWire_27 : decode cX9_readWire 27 = .ok (.invokevirtual 128, 3) := by decide +kernel
theorem dX9_readWire_30 : decode cX9_readWire 30 = .ok (.iastore, 1) := by decide +kernel
theorem dX9_readWire_31 : decode cX9_readWire 31 = .ok (.aload_n 0, 1) := by decide +kernel
theorem dX9_readWire_32 : decode cX9_readWire 32 = .ok (.dup, 1) := by decide +kernel
theorem dX9_readWire_33 : decode cX9_readWire 33 = .ok (.getfield 125, 3) := by decide +kernel
theorem dX9_readWire_36 : decode cX9_readWire 36 = .ok (.iconst 1, 1) := by decide +kernel
theorem dX9_readWire_37 : decode cX9_readWire 37 = .ok (.iadd, 1) := by decide +kernel
theorem dX9_readWire_38 : decode cX9_readWire 38 = .ok (.putfield 125, 3) := by decide +kernel
theorem dX9_readWire_41 : decode cX9_readWire 41 = .ok (.return_, 1) := by decide +kernel
theorem dX9_readGate_0 : decode cX9_readGate 0 = .ok (.aload_n 0, 1) := by decide +kernel
theorem dX9_readGate_1 : decode cX9_readGate 1 = .ok (.getfield 131, 3) := by decide +kernel
theorem dX9_readGate_4 : decode cX9_readGate 4 = .ok (.bipush 8, 2) := by decide +kernel
theorem dX9_readGate_6 : decode cX9_readGate 6 = .ok (.if_icmp .ne 10, 3) := by decide +kernel
theorem dX9_readGate_9 : decode cX9_readGate 9 = .ok (.aload_n 0, 1) := by decide +kernel
theorem dX9_readGate_10 : decode cX9_readGate 10 = .ok (.iconst 3, 1) := by decide +kernel
theorem dX9_readGate_11 : decode cX9_readGate 11 = .ok (.iload_n 1, 1) := by decide +kernel
theorem dX9_readGate_12 : decode cX9_readGate 12 = .ok (.invokevirtual 119, 3) := by decide +kernel
theorem dX9_readGate_15 : decode cX9_readGate 15 = .ok (.return_, 1) := by decide +kernel
theorem dX9_readGate_16 : decode cX9_readGate 16 = .ok (.bipush 6, 2) := by decide +kernel
theorem dX9_readGate_18 : decode cX9_readGate 18 = .ok (.aload_n 0, 1) := by decide +kernel
theorem dX9_readGate_19 : decode cX9_readGate 19 = .ok (.getfield 131, 3) := by decide +kernel
theorem dX9_readGate_22 : decode cX9_readGate 22 = .ok (.imul, 1) := by decide +kernel
theorem dX9_readGate_23 : decode cX9_readGate 23 = .ok (.istore_n 2, 1) := by decide +kernel
theorem dX9_readGate_24 : decode cX9_readGate 24 = .ok (.aload_n 0, 1) := by decide +kernel
theorem dX9_readGate_25 : decode cX9_readGate 25 = .ok (.getfield 35, 3) := by decide +kernel
theorem dX9_readGate_28 : decode cX9_readGate 28 = .ok (.iload_n 2, 1) := by decide +kernel
theorem dX9_readGate_29 : decode cX9_readGate 29 = .ok (.iconst 0, 1) := by decide +kernel
theorem dX9_readGate_30 : decode cX9_readGate 30 = .ok (.iadd, 1) := by decide +kernel
theorem dX9_readGate_31 : decode cX9_readGate 31 = .ok (.aload_n 0, 1) := by decide +kernel
theorem dX9_readGate_32 : decode cX9_readGate 32 = .ok (.iconst 0, 1) := by decide +kernel
theorem dX9_readGate_33 : decode cX9_readGate 33 = .ok (.iconst 5, 1) := by decide +kernel
theorem dX9_readGate_34 : decode cX9_readGate 34 = .ok (.invokevirtual 128, 3) := by decide +kernel
theorem dX9_readGate_37 : decode cX9_readGate 37 = .ok (.iastore, 1) := by decide +kernel
theorem dX9_readGate_38 : decode cX9_readGate 38 = .ok (.aload_n 0, 1) := by decide +kernel
theorem dX9_readGate_39 : decode cX9_readGate 39 = .ok (.getfield 35, 3) := by decide +kernel
theorem dX9_readGate_42 : decode cX9_readGate 42 = .ok (.iload_n 2, 1) := by decide +kernel
theorem dX9_readGate_43 : decode cX9_readGate 43 = .ok (.iconst 1, 1) := by decide +kernel
theorem dX9_readGate_44 : decode cX9_readGate 44 = .ok (.iadd, 1) := by decide +kernel
theorem dX9_readGate_45 : decode cX9_readGate 45 = .ok (.aload_n 0, 1) := by decide +kernel
theorem dX9_readGate_46 : decode cX9_readGate 46 = .ok (.iconst 0, 1) := by decide +kernel
theorem dX9_readGate_47 : decode cX9_readGate 47 = .ok (.aload_n 0, 1) := by decide +kernel
theorem dX9_readGate_48 : decode cX9_readGate 48 = .ok (.getfield 125, 3) := by decide +kernel
theorem dX9_readGate_51 : decode cX9_readGate 51 = .ok (.iconst 1, 1) := by decide +kernel
theorem dX9_readGate_52 : decode cX9_readGate 52 = .ok (.isub, 1) := by decide +kernel
theorem dX9_readGate_53 : decode cX9_readGate 53 = .ok (.invokevirtual 128, 3) := by decide +kernel
theorem dX9_readGate_56 : decode cX9_readGate 56 = .ok (.iastore, 1) := by decide +kernel
theorem dX9_readGate_57 : decode cX9_readGate 57 = .ok (.aload_n 0, 1) := by decide +kernel
theorem dX9_readGate_58 : decode cX9_readGate 58 = .ok (.getfield 35, 3) := by decide +kernel
theorem dX9_readGate_61 : decode cX9_readGate 61 = .ok (.iload_n 2, 1) := by decide +kernel
theorem dX9_readGate_62 : decode cX9_readGate 62 = .ok (.iconst 2, 1) := by decide +kernel
theorem dX9_readGate_63 : decode cX9_readGate 63 = .ok (.iadd, 1) := by decide +kernel
theorem dX9_readGate_64 : decode cX9_readGate 64 = .ok (.aload_n 0, 1) := by decide +kernel
theorem dX9_readGate_65 : decode cX9_readGate 65 = .ok (.iconst 0, 1) := by decide +kernel
theorem dX9_readGate_66 : decode cX9_readGate 66 = .ok (.aload_n 0, 1) := by decide +kernel
theorem dX9_readGate_67 : decode cX9_readGate 67 = .ok (.getfield 125, 3) := by decide +kernel
theorem dX9_readGate_70 : decode cX9_readGate 70 = .ok (.iconst 1, 1) := by decide +kernel
theorem dX9_readGate_71 : decode cX9_readGate 71 = .ok (.isub, 1) := by decide +kernel
theorem dX9_readGate_72 : decode cX9_readGate 72 = .ok (.invokevirtual 128, 3) := by decide +kernel
theorem dX9_readGate_75 : decode cX9_readGate 75 = .ok (.iastore, 1) := by decide +kernel
theorem dX9_readGate_76 : decode cX9_readGate 76 = .ok (.aload_n 0, 1) := by decide +kernel
theorem dX9_readGate_77 : decode cX9_readGate 77 = .ok (.getfield 35, 3) := by decide +kernel
theorem dX9_readGate_80 : decode cX9_readGate 80 = .ok (.iload_n 2, 1) := by decide +kernel
theorem dX9_readGate_81 : decode cX9_readGate 81 = .ok (.iconst 3, 1) := by decide +kernel
theorem dX9_readGate_82 : decode cX9_readGate 82 = .ok (.iadd, 1) := by decide +kernel
theorem dX9_readGate_83 : decode cX9_readGate 83 = .ok (.aload_n 0, 1) := by decide +kernel
theorem dX9_readGate_84 : decode cX9_readGate 84 = .ok (.iconst 0, 1) := by decide +kernel
theorem dX9_readGate_85 : decode cX9_readGate 85 = .ok (.aload_n 0, 1) := by decide +kernel
theorem dX9_readGate_86 : decode cX9_readGate 86 = .ok (.getfield 125, 3) := by decide +kernel
theorem dX9_readGate_89 : decode cX9_readGate 89 = .ok (.iconst 1, 1) := by decide +kernel
theorem dX9_readGate_90 : decode cX9_readGate 90 = .ok (.isub, 1) := by decide +kernel
theorem dX9_readGate_91 : decode cX9_readGate 91 = .ok (.invokevirtual 128, 3) := by decide +kernel
theorem dX9_readGate_94 : decode cX9_readGate 94 = .ok (.iastore, 1) := by decide +kernel
theorem dX9_readGate_95 : decode cX9_readGate 95 = .ok (.aload_n 0, 1) := by decide +kernel
theorem dX9_readGate_96 : decode cX9_readGate 96 = .ok (.getfield 35, 3) := by decide +kernel
theorem dX9_readGate_99 : decode cX9_readGate 99 = .ok (.iload_n 2, 1) := by decide +kernel
theorem dX9_readGate_100 : decode cX9_readGate 100 = .ok (.iconst 4, 1) := by decide +kernel
theorem dX9_readGate_101 : decode cX9_readGate 101 = .ok (.iadd, 1) := by decide +kernel
theorem dX9_readGate_102 : decode cX9_readGate 102 = .ok (.aload_n 0, 1) := by decide +kernel
theorem dX9_readGate_103 : decode cX9_readGate 103 = .ok (.iconst 0, 1) := by decide +kernel
theorem dX9_readGate_104 : decode cX9_readGate 104 = .ok (.bipush 20, 2) := by decide +kernel
theorem dX9_readGate_106 : decode cX9_readGate 106 = .ok (.invokevirtual 128, 3) := by decide +kernel
theorem dX9_readGate_109 : decode cX9_readGate 109 = .ok (.iastore, 1) := by decide +kernel
theorem dX9_readGate_110 : decode cX9_readGate 110 = .ok (.aload_n 0, 1) := by decide +kernel
theorem dX9_readGate_111 : decode cX9_readGate 111 = .ok (.getfield 35, 3) := by decide +kernel
theorem dX9_readGate_114 : decode cX9_readGate 114 = .ok (.iload_n 2, 1) := by decide +kernel
theorem dX9_readGate_115 : decode cX9_readGate 115 = .ok (.iconst 1, 1) := by decide +kernel
theorem dX9_readGate_116 : decode cX9_readGate 116 = .ok (.iadd, 1) := by decide +kernel
theorem dX9_readGate_117 : decode cX9_readGate 117 = .ok (.iaload, 1) := by decide +kernel
theorem dX9_readGate_118 : decode cX9_readGate 118 = .ok (.aload_n 0, 1) := by decide +kernel
theorem dX9_readGate_119 : decode cX9_readGate 119 = .ok (.getfield 35, 3) := by decide +kernel
theorem dX9_readGate_122 : decode cX9_readGate 122 = .ok (.iload_n 2, 1) := by decide +kernel
theorem dX9_readGate_123 : decode cX9_readGate 123 = .ok (.iconst 3, 1) := by decide +kernel
theorem dX9_readGate_124 : decode cX9_readGate 124 = .ok (.iadd, 1) := by decide +kernel
theorem dX9_readGate_125 : decode cX9_readGate 125 = .ok (.iaload, 1) := by decide +kernel
theorem dX9_readGate_126 : decode cX9_readGate 126 = .ok (.if_icmp .eq 33, 3) := by decide +kernel
theorem dX9_readGate_129 : decode cX9_readGate 129 = .ok (.aload_n 0, 1) := by decide +kernel
theorem dX9_readGate_130 : decode cX9_readGate 130 = .ok (.getfield 35, 3) := by decide +kernel
theorem dX9_readGate_133 : decode cX9_readGate 133 = .ok (.iload_n 2, 1) := by decide +kernel
theorem dX9_readGate_134 : decode cX9_readGate 134 = .ok (.iconst 0, 1) := by decide +kernel
theorem dX9_readGate_135 : decode cX9_readGate 135 = .ok (.iadd, 1) := by decide +kernel
theorem dX9_readGate_136 : decode cX9_readGate 136 = .ok (.iaload, 1) := by decide +kernel
theorem dX9_readGate_137 : decode cX9_readGate 137 = .ok (.ifCond .eq 26, 3) := by decide +kernel
theorem dX9_readGate_140 : decode cX9_readGate 140 = .ok (.aload_n 0, 1) := by decide +kernel
theorem dX9_readGate_141 : decode cX9_readGate 141 = .ok (.getfield 35, 3) := by decide +kernel
theorem dX9_readGate_144 : decode cX9_readGate 144 = .ok (.iload_n 2, 1) := by decide +kernel
theorem dX9_readGate_145 : decode cX9_readGate 145 = .ok (.iconst 2, 1) := by decide +kernel
theorem dX9_readGate_146 : decode cX9_readGate 146 = .ok (.iadd, 1) := by decide +kernel
theorem dX9_readGate_147 : decode cX9_readGate 147 = .ok (.iaload, 1) := by decide +kernel
theorem dX9_readGate_148 : decode cX9_readGate 148 = .ok (.aload_n 0, 1) := by decide +kernel
theorem dX9_readGate_149 : decode cX9_readGate 149 = .ok (.getfield 35, 3) := by decide +kernel
theorem dX9_readGate_152 : decode cX9_readGate 152 = .ok (.iload_n 2, 1) := by decide +kernel
theorem dX9_readGate_153 : decode cX9_readGate 153 = .ok (.iconst 3, 1) := by decide +kernel
theorem dX9_readGate_154 : decode cX9_readGate 154 = .ok (.iadd, 1) := by decide +kernel
theorem dX9_readGate_155 : decode cX9_readGate 155 = .ok (.iaload, 1) := by decide +kernel
theorem dX9_readGate_156 : decode cX9_readGate 156 = .ok (.if_icmp .ne 7, 3) := by decide +kernel
theorem dX9_readGate_159 : decode cX9_readGate 159 = .ok (.iconst 1, 1) := by decide +kernel
theorem dX9_readGate_160 : decode cX9_readGate 160 = .ok (.goto 4, 3) := by decide +kernel
theorem dX9_readGate_163 : decode cX9_readGate 163 = .ok (.iconst 0, 1) := by decide +kernel
theorem dX9_readGate_164 : decode cX9_readGate 164 = .ok (.istore_n 3, 1) := by decide +kernel
theorem dX9_readGate_165 : decode cX9_readGate 165 = .ok (.iload_n 3, 1) := by decide +kernel
theorem dX9_readGate_166 : decode cX9_readGate 166 = .ok (.ifCond .eq 23, 3) := by decide +kernel
theorem dX9_readGate_169 : decode cX9_readGate 169 = .ok (.aload_n 0, 1) := by decide +kernel
theorem dX9_readGate_170 : decode cX9_readGate 170 = .ok (.getfield 35, 3) := by decide +kernel
theorem dX9_readGate_173 : decode cX9_readGate 173 = .ok (.iload_n 2, 1) := by decide +kernel
theorem dX9_readGate_174 : decode cX9_readGate 174 = .ok (.iconst 4, 1) := by decide +kernel
theorem dX9_readGate_175 : decode cX9_readGate 175 = .ok (.iadd, 1) := by decide +kernel
theorem dX9_readGate_176 : decode cX9_readGate 176 = .ok (.iaload, 1) := by decide +kernel
theorem dX9_readGate_177 : decode cX9_readGate 177 = .ok (.ifCond .ne 12, 3) := by decide +kernel
theorem dX9_readGate_180 : decode cX9_readGate 180 = .ok (.aload_n 0, 1) := by decide +kernel
theorem dX9_readGate_181 : decode cX9_readGate 181 = .ok (.iconst 4, 1) := by decide +kernel
theorem dX9_readGate_182 : decode cX9_readGate 182 = .ok (.aload_n 0, 1) := by decide +kernel
theorem dX9_readGate_183 : decode cX9_readGate 183 = .ok (.getfield 122, 3) := by decide +kernel
theorem dX9_readGate_186 : decode cX9_readGate 186 = .ok (.invokevirtual 119, 3) := by decide +kernel
theorem dX9_readGate_189 : decode cX9_readGate 189 = .ok (.aload_n 0, 1) := by decide +kernel
theorem dX9_readGate_190 : decode cX9_readGate 190 = .ok (.getfield 35, 3) := by decide +kernel
theorem dX9_readGate_193 : decode cX9_readGate 193 = .ok (.iload_n 2, 1) := by decide +kernel
theorem dX9_readGate_194 : decode cX9_readGate 194 = .ok (.iconst 5, 1) := by decide +kernel
theorem dX9_readGate_195 : decode cX9_readGate 195 = .ok (.iadd, 1) := by decide +kernel
theorem dX9_readGate_196 : decode cX9_readGate 196 = .ok (.aload_n 0, 1) := by decide +kernel
theorem dX9_readGate_197 : decode cX9_readGate 197 = .ok (.iconst 0, 1) := by decide +kernel
theorem dX9_readGate_198 : decode cX9_readGate 198 = .ok (.iconst 1, 1) := by decide +kernel
theorem dX9_readGate_199 : decode cX9_readGate 199 = .ok (.invokevirtual 128, 3) := by decide +kernel
theorem dX9_readGate_202 : decode cX9_readGate 202 = .ok (.iastore, 1) := by decide +kernel
theorem dX9_readGate_203 : decode cX9_readGate 203 = .ok (.aload_n 0, 1) := by decide +kernel
theorem dX9_readGate_204 : decode cX9_readGate 204 = .ok (.dup, 1) := by decide +kernel
theorem dX9_readGate_205 : decode cX9_readGate 205 = .ok (.getfield 131, 3) := by decide +kernel
theorem dX9_readGate_208 : decode cX9_readGate 208 = .ok (.iconst 1, 1) := by decide +kernel
theorem dX9_readGate_209 : decode cX9_readGate 209 = .ok (.iadd, 1) := by decide +kernel
theorem dX9_readGate_210 : decode cX9_readGate 210 = .ok (.putfield 131, 3) := by decide +kernel
theorem dX9_readGate_213 : decode cX9_readGate 213 = .ok (.return_, 1) := by decide +kernel
theorem dX9_readClause_0 : decode cX9_readClause 0 = .ok (.aload_n 0, 1) := by decide +kernel
theorem dX9_readClause_1 : decode cX9_readClause 1 = .ok (.invokevirtual 115, 3) := by decide +kernel
theorem dX9_readClause_4 : decode cX9_readClause 4 = .ok (.istore_n 1, 1) := by decide +kernel
theorem dX9_readClause_5 : decode cX9_readClause 5 = .ok (.aload_n 0, 1) := by decide +kernel
theorem dX9_readClause_6 : decode cX9_readClause 6 = .ok (.getfield 112, 3) := by decide +kernel
theorem dX9_readClause_9 : decode cX9_readClause 9 = .ok (.istore_n 2, 1) := by decide +kernel
theorem dX9_readClause_10 : decode cX9_readClause 10 = .ok (.aload_n 0, 1) := by decide +kernel
theorem dX9_readClause_11 : decode cX9_readClause 11 = .ok (.dup, 1) := by decide +kernel
theorem dX9_readClause_12 : decode cX9_readClause 12 = .ok (.getfield 112, 3) := by decide +kernel
theorem dX9_readClause_15 : decode cX9_readClause 15 = .ok (.iconst 1, 1) := by decide +kernel
theorem dX9_readClause_16 : decode cX9_readClause 16 = .ok (.iadd, 1) := by decide +kernel
theorem dX9_readClause_17 : decode cX9_readClause 17 = .ok (.putfield 112, 3) := by decide +kernel
theorem dX9_readClause_20 : decode cX9_readClause 20 = .ok (.iload_n 1, 1) := by decide +kernel
theorem dX9_readClause_21 : decode cX9_readClause 21 = .ok (.bipush 119, 2) := by decide +kernel
theorem dX9_readClause_23 : decode cX9_readClause 23 = .ok (.if_icmp .ne 11, 3) := by decide +kernel
theorem dX9_readClause_26 : decode cX9_readClause 26 = .ok (.aload_n 0, 1) := by decide +kernel
theorem dX9_readClause_27 : decode cX9_readClause 27 = .ok (.iload_n 2, 1) := by decide +kernel
theorem dX9_readClause_28 : decode cX9_readClause 28 = .ok (.invokevirtual 134, 3) := by decide +kernel
theorem dX9_readClause_31 : decode cX9_readClause 31 = .ok (.goto 23, 3) := by decide +kernel
theorem dX9_readClause_34 : decode cX9_readClause 34 = .ok (.iload_n 1, 1) := by decide +kernel
theorem dX9_readClause_35 : decode cX9_readClause 35 = .ok (.bipush 103, 2) := by decide +kernel
theorem dX9_readClause_37 : decode cX9_readClause 37 = .ok (.if_icmp .ne 11, 3) := by decide +kernel
theorem dX9_readClause_40 : decode cX9_readClause 40 = .ok (.aload_n 0, 1) := by decide +kernel
theorem dX9_readClause_41 : decode cX9_readClause 41 = .ok (.iload_n 2, 1) := by decide +kernel
theorem dX9_readClause_42 : decode cX9_readClause 42 = .ok (.invokevirtual 137, 3) := by decide +kernel
theorem dX9_readClause_45 : decode cX9_readClause 45 = .ok (.goto 9, 3) := by decide +kernel
theorem dX9_readClause_48 : decode cX9_readClause 48 = .ok (.aload_n 0, 1) := by decide +kernel
theorem dX9_readClause_49 : decode cX9_readClause 49 = .ok (.iconst 1, 1) := by decide +kernel
theorem dX9_readClause_50 : decode cX9_readClause 50 = .ok (.iload_n 2, 1) := by decide +kernel
theorem dX9_readClause_51 : decode cX9_readClause 51 = .ok (.invokevirtual 119, 3) := by decide +kernel
theorem dX9_readClause_54 : decode cX9_readClause 54 = .ok (.aload_n 0, 1) := by decide +kernel
theorem dX9_readClause_55 : decode cX9_readClause 55 = .ok (.getfield 106, 3) := by decide +kernel
theorem dX9_readClause_58 : decode cX9_readClause 58 = .ok (.ifCond .ne 21, 3) := by decide +kernel
theorem dX9_readClause_61 : decode cX9_readClause 61 = .ok (.aload_n 0, 1) := by decide +kernel
theorem dX9_readClause_62 : decode cX9_readClause 62 = .ok (.invokevirtual 115, 3) := by decide +kernel
theorem dX9_readClause_65 : decode cX9_readClause 65 = .ok (.bipush 59, 2) := by decide +kernel
theorem dX9_readClause_67 : decode cX9_readClause 67 = .ok (.if_icmp .eq 12, 3) := by decide +kernel
theorem dX9_readClause_70 : decode cX9_readClause 70 = .ok (.aload_n 0, 1) := by decide +kernel
theorem dX9_readClause_71 : decode cX9_readClause 71 = .ok (.iconst 1, 1) := by decide +kernel
theorem dX9_readClause_72 : decode cX9_readClause 72 = .ok (.aload_n 0, 1) := by decide +kernel
theorem dX9_readClause_73 : decode cX9_readClause 73 = .ok (.getfield 112, 3) := by decide +kernel
theorem dX9_readClause_76 : decode cX9_readClause 76 = .ok (.invokevirtual 119, 3) := by decide +kernel
theorem dX9_readClause_79 : decode cX9_readClause 79 = .ok (.aload_n 0, 1) := by decide +kernel
theorem dX9_readClause_80 : decode cX9_readClause 80 = .ok (.dup, 1) := by decide +kernel
theorem dX9_readClause_81 : decode cX9_readClause 81 = .ok (.getfield 112, 3) := by decide +kernel
theorem dX9_readClause_84 : decode cX9_readClause 84 = .ok (.iconst 1, 1) := by decide +kernel
theorem dX9_readClause_85 : decode cX9_readClause 85 = .ok (.iadd, 1) := by decide +kernel
theorem dX9_readClause_86 : decode cX9_readClause 86 = .ok (.putfield 112, 3) := by decide +kernel
theorem dX9_readClause_89 : decode cX9_readClause 89 = .ok (.return_, 1) := by decide +kernel
theorem dX9_begin_0 : decode cX9_begin 0 = .ok (.aload_n 0, 1) := by decide +kernel
theorem dX9_begin_1 : decode cX9_begin 1 = .ok (.aload_n 0, 1) := by decide +kernel
theorem dX9_begin_2 : decode cX9_begin 2 = .ok (.getfield 125, 3) := by decide +kernel
theorem dX9_begin_5 : decode cX9_begin 5 = .ok (.putfield 38, 3) := by decide +kernel
theorem dX9_begin_8 : decode cX9_begin 8 = .ok (.aload_n 0, 1) := by decide +kernel
theorem dX9_begin_9 : decode cX9_begin 9 = .ok (.aload_n 0, 1) := by decide +kernel
theorem dX9_begin_10 : decode cX9_begin 10 = .ok (.getfield 131, 3) := by decide +kernel
theorem dX9_begin_13 : decode cX9_begin 13 = .ok (.putfield 45, 3) := by decide +kernel
theorem dX9_begin_16 : decode cX9_begin 16 = .ok (.iconst 0, 1) := by decide +kernel
theorem dX9_begin_17 : decode cX9_begin 17 = .ok (.istore_n 1, 1) := by decide +kernel
theorem dX9_begin_18 : decode cX9_begin 18 = .ok (.iload_n 1, 1) := by decide +kernel
theorem dX9_begin_19 : decode cX9_begin 19 = .ok (.sipush 344, 3) := by decide +kernel
theorem dX9_begin_22 : decode cX9_begin 22 = .ok (.if_icmp .ge 16, 3) := by decide +kernel
theorem dX9_begin_25 : decode cX9_begin 25 = .ok (.aload_n 0, 1) := by decide +kernel
theorem dX9_begin_26 : decode cX9_begin 26 = .ok (.getfield 7, 3) := by decide +kernel
theorem dX9_begin_29 : decode cX9_begin 29 = .ok (.iload_n 1, 1) := by decide +kernel
theorem dX9_begin_30 : decode cX9_begin 30 = .ok (.iconst 0, 1) := by decide +kernel
theorem dX9_begin_31 : decode cX9_begin 31 = .ok (.iastore, 1) := by decide +kernel
theorem dX9_begin_32 : decode cX9_begin 32 = .ok (.iinc 1 1, 3) := by decide +kernel
theorem dX9_begin_35 : decode cX9_begin 35 = .ok (.goto (-17), 3) := by decide +kernel
theorem dX9_begin_38 : decode cX9_begin 38 = .ok (.iconst 0, 1) := by decide +kernel
theorem dX9_begin_39 : decode cX9_begin 39 = .ok (.istore_n 1, 1) := by decide +kernel
theorem dX9_begin_40 : decode cX9_begin 40 = .ok (.iload_n 1, 1) := by decide +kernel
theorem dX9_begin_41 : decode cX9_begin 41 = .ok (.bipush 8, 2) := by decide +kernel
theorem dX9_begin_43 : decode cX9_begin 43 = .ok (.if_icmp .ge 34, 3) := by decide +kernel
theorem dX9_begin_46 : decode cX9_begin 46 = .ok (.aload_n 0, 1) := by decide +kernel
theorem dX9_begin_47 : decode cX9_begin 47 = .ok (.getfield 7, 3) := by decide +kernel
theorem dX9_begin_50 : decode cX9_begin 50 = .ok (.bipush 8, 2) := by decide +kernel
theorem dX9_begin_52 : decode cX9_begin 52 = .ok (.iload_n 1, 1) := by decide +kernel
theorem dX9_begin_53 : decode cX9_begin 53 = .ok (.iadd, 1) := by decide +kernel
theorem dX9_begin_54 : decode cX9_begin 54 = .ok (.aload_n 0, 1) := by decide +kernel
theorem dX9_begin_55 : decode cX9_begin 55 = .ok (.getfield 32, 3) := by decide +kernel
theorem dX9_begin_58 : decode cX9_begin 58 = .ok (.iload_n 1, 1) := by decide +kernel
theorem dX9_begin_59 : decode cX9_begin 59 = .ok (.iaload, 1) := by decide +kernel
theorem dX9_begin_60 : decode cX9_begin 60 = .ok (.iastore, 1) := by decide +kernel
theorem dX9_begin_61 : decode cX9_begin 61 = .ok (.aload_n 0, 1) := by decide +kernel
theorem dX9_begin_62 : decode cX9_begin 62 = .ok (.getfield 7, 3) := by decide +kernel
theorem dX9_begin_65 : decode cX9_begin 65 = .ok (.bipush 24, 2) := by decide +kernel
theorem dX9_begin_67 : decode cX9_begin 67 = .ok (.iload_n 1, 1) := by decide +kernel
theorem dX9_begin_68 : decode cX9_begin 68 = .ok (.iadd, 1) := by decide +kernel
theorem dX9_begin_69 : decode cX9_begin 69 = .ok (.iconst (-1), 1) := by decide +kernel
theorem dX9_begin_70 : decode cX9_begin 70 = .ok (.iastore, 1) := by decide +kernel
theorem dX9_begin_71 : decode cX9_begin 71 = .ok (.iinc 1 1, 3) := by decide +kernel
theorem dX9_begin_74 : decode cX9_begin 74 = .ok (.goto (-34), 3) := by decide +kernel
theorem dX9_begin_77 : decode cX9_begin 77 = .ok (.iconst 0, 1) := by decide +kernel
theorem dX9_begin_78 : decode cX9_begin 78 = .ok (.istore_n 1, 1) := by decide +kernel
theorem dX9_begin_79 : decode cX9_begin 79 = .ok (.iload_n 1, 1) := by decide +kernel
theorem dX9_begin_80 : decode cX9_begin 80 = .ok (.bipush 6, 2) := by decide +kernel
theorem dX9_begin_82 : decode cX9_begin 82 = .ok (.aload_n 0, 1) := by decide +kernel
theorem dX9_begin_83 : decode cX9_begin 83 = .ok (.getfield 45, 3) := by decide +kernel
theorem dX9_begin_86 : decode cX9_begin 86 = .ok (.imul, 1) := by decide +kernel
theorem dX9_begin_87 : decode cX9_begin 87 = .ok (.if_icmp .ge 21, 3) := by decide +kernel
theorem dX9_begin_90 : decode cX9_begin 90 = .ok (.aload_n 0, 1) := by decide +kernel
theorem dX9_begin_91 : decode cX9_begin 91 = .ok (.getfield 13, 3) := by decide +kernel
theorem dX9_begin_94 : decode cX9_begin 94 = .ok (.iload_n 1, 1) := by decide +kernel
theorem dX9_begin_95 : decode cX9_begin 95 = .ok (.aload_n 0, 1) := by decide +kernel
theorem dX9_begin_96 : decode cX9_begin 96 = .ok (.getfield 35, 3) := by decide +kernel
theorem dX9_begin_99 : decode cX9_begin 99 = .ok (.iload_n 1, 1) := by decide +kernel
theorem dX9_begin_100 : decode cX9_begin 100 = .ok (.iaload, 1) := by decide +kernel
theorem dX9_begin_101 : decode cX9_begin 101 = .ok (.iastore, 1) := by decide +kernel
theorem dX9_begin_102 : decode cX9_begin 102 = .ok (.iinc 1 1, 3) := by decide +kernel
theorem dX9_begin_105 : decode cX9_begin 105 = .ok (.goto (-26), 3) := by decide +kernel
theorem dX9_begin_108 : decode cX9_begin 108 = .ok (.iconst 0, 1) := by decide +kernel
theorem dX9_begin_109 : decode cX9_begin 109 = .ok (.istore_n 1, 1) := by decide +kernel
theorem dX9_begin_110 : decode cX9_begin 110 = .ok (.iload_n 1, 1) := by decide +kernel
theorem dX9_begin_111 : decode cX9_begin 111 = .ok (.aload_n 0, 1) := by decide +kernel
theorem dX9_begin_112 : decode cX9_begin 112 = .ok (.getfield 45, 3) := by decide +kernel
theorem dX9_begin_115 : decode cX9_begin 115 = .ok (.if_icmp .ge 33, 3) := by decide +kernel
theorem dX9_begin_118 : decode cX9_begin 118 = .ok (.aload_n 0, 1) := by decide +kernel
theorem dX9_begin_119 : decode cX9_begin 119 = .ok (.getfield 7, 3) := by decide +kernel
theorem dX9_begin_122 : decode cX9_begin 122 = .ok (.sipush 176, 3) := by decide +kernel
theorem dX9_begin_125 : decode cX9_begin 125 = .ok (.iload_n 1, 1) := by decide +kernel
theorem dX9_begin_126 : decode cX9_begin 126 = .ok (.iadd, 1) := by decide +kernel
theorem dX9_begin_127 : decode cX9_begin 127 = .ok (.aload_n 0, 1) := by decide +kernel
theorem dX9_begin_128 : decode cX9_begin 128 = .ok (.getfield 7, 3) := by decide +kernel
theorem dX9_begin_131 : decode cX9_begin 131 = .ok (.bipush 8, 2) := by decide +kernel
theorem dX9_begin_133 : decode cX9_begin 133 = .ok (.aload_n 0, 1) := by decide +kernel
theorem dX9_begin_134 : decode cX9_begin 134 = .ok (.iload_n 1, 1) := by decide +kernel
theorem dX9_begin_135 : decode cX9_begin 135 = .ok (.iconst 3, 1) := by decide +kernel
theorem dX9_begin_136 : decode cX9_begin 136 = .ok (.invokevirtual 52, 3) := by decide +kernel
theorem dX9_begin_139 : decode cX9_begin 139 = .ok (.iadd, 1) := by decide +kernel
theorem dX9_begin_140 : decode cX9_begin 140 = .ok (.iaload, 1) := by decide +kernel
theorem dX9_begin_141 : decode cX9_begin 141 = .ok (.iastore, 1) := by decide +kernel
theorem dX9_begin_142 : decode cX9_begin 142 = .ok (.iinc 1 1, 3) := by decide +kernel
theorem dX9_begin_145 : decode cX9_begin 145 = .ok (.goto (-35), 3) := by decide +kernel
theorem dX9_begin_148 : decode cX9_begin 148 = .ok (.aload_n 0, 1) := by decide +kernel
theorem dX9_begin_149 : decode cX9_begin 149 = .ok (.iconst 0, 1) := by decide +kernel
theorem dX9_begin_150 : decode cX9_begin 150 = .ok (.invokevirtual 140, 3) := by decide +kernel
theorem dX9_begin_153 : decode cX9_begin 153 = .ok (.aload_n 0, 1) := by decide +kernel
theorem dX9_begin_154 : decode cX9_begin 154 = .ok (.iconst 0, 1) := by decide +kernel
theorem dX9_begin_155 : decode cX9_begin 155 = .ok (.putfield 143, 3) := by decide +kernel
theorem dX9_begin_158 : decode cX9_begin 158 = .ok (.aload_n 0, 1) := by decide +kernel
theorem dX9_begin_159 : decode cX9_begin 159 = .ok (.iconst 0, 1) := by decide +kernel
theorem dX9_begin_160 : decode cX9_begin 160 = .ok (.putfield 146, 3) := by decide +kernel
theorem dX9_begin_163 : decode cX9_begin 163 = .ok (.aload_n 0, 1) := by decide +kernel
theorem dX9_begin_164 : decode cX9_begin 164 = .ok (.iconst 0, 1) := by decide +kernel
theorem dX9_begin_165 : decode cX9_begin 165 = .ok (.putfield 149, 3) := by decide +kernel
theorem dX9_begin_168 : decode cX9_begin 168 = .ok (.return_, 1) := by decide +kernel
theorem dX9_wires_0 : decode cX9_wires 0 = .ok (.aload_n 0, 1) := by decide +kernel
theorem dX9_wires_1 : decode cX9_wires 1 = .ok (.iconst 0, 1) := by decide +kernel
theorem dX9_wires_2 : decode cX9_wires 2 = .ok (.putfield 112, 3) := by decide +kernel
theorem dX9_wires_5 : decode cX9_wires 5 = .ok (.aload_n 0, 1) := by decide +kernel
theorem dX9_wires_6 : decode cX9_wires 6 = .ok (.iconst 0, 1) := by decide +kernel
theorem dX9_wires_7 : decode cX9_wires 7 = .ok (.putfield 106, 3) := by decide +kernel
theorem dX9_wires_10 : decode cX9_wires 10 = .ok (.aload_n 0, 1) := by decide +kernel
theorem dX9_wires_11 : decode cX9_wires 11 = .ok (.iconst 0, 1) := by decide +kernel
theorem dX9_wires_12 : decode cX9_wires 12 = .ok (.putfield 125, 3) := by decide +kernel
theorem dX9_wires_15 : decode cX9_wires 15 = .ok (.aload_n 0, 1) := by decide +kernel
theorem dX9_wires_16 : decode cX9_wires 16 = .ok (.iconst 0, 1) := by decide +kernel
theorem dX9_wires_17 : decode cX9_wires 17 = .ok (.putfield 131, 3) := by decide +kernel
theorem dX9_wires_20 : decode cX9_wires 20 = .ok (.aload_n 0, 1) := by decide +kernel
theorem dX9_wires_21 : decode cX9_wires 21 = .ok (.iconst (-1), 1) := by decide +kernel
theorem dX9_wires_22 : decode cX9_wires 22 = .ok (.putfield 28, 3) := by decide +kernel
theorem dX9_wires_25 : decode cX9_wires 25 = .ok (.aload_n 0, 1) := by decide +kernel
theorem dX9_wires_26 : decode cX9_wires 26 = .ok (.getfield 106, 3) := by decide +kernel
theorem dX9_wires_29 : decode cX9_wires 29 = .ok (.ifCond .ne 18, 3) := by decide +kernel
theorem dX9_wires_32 : decode cX9_wires 32 = .ok (.aload_n 0, 1) := by decide +kernel
theorem dX9_wires_33 : decode cX9_wires 33 = .ok (.invokevirtual 115, 3) := by decide +kernel
theorem dX9_wires_36 : decode cX9_wires 36 = .ok (.iconst (-1), 1) := by decide +kernel
theorem dX9_wires_37 : decode cX9_wires 37 = .ok (.if_icmp .eq 10, 3) := by decide +kernel
theorem dX9_wires_40 : decode cX9_wires 40 = .ok (.aload_n 0, 1) := by decide +kernel
theorem dX9_wires_41 : decode cX9_wires 41 = .ok (.invokevirtual 152, 3) := by decide +kernel
theorem dX9_wires_44 : decode cX9_wires 44 = .ok (.goto (-19), 3) := by decide +kernel
theorem dX9_wires_47 : decode cX9_wires 47 = .ok (.aload_n 0, 1) := by decide +kernel
theorem dX9_wires_48 : decode cX9_wires 48 = .ok (.iconst 0, 1) := by decide +kernel
theorem dX9_wires_49 : decode cX9_wires 49 = .ok (.putfield 102, 3) := by decide +kernel
theorem dX9_wires_52 : decode cX9_wires 52 = .ok (.aload_n 0, 1) := by decide +kernel
theorem dX9_wires_53 : decode cX9_wires 53 = .ok (.getfield 106, 3) := by decide +kernel
theorem dX9_wires_56 : decode cX9_wires 56 = .ok (.ifCond .eq 19, 3) := by decide +kernel
theorem dX9_wires_59 : decode cX9_wires 59 = .ok (.aload_n 0, 1) := by decide +kernel
theorem dX9_wires_60 : decode cX9_wires 60 = .ok (.aload_n 0, 1) := by decide +kernel
theorem dX9_wires_61 : decode cX9_wires 61 = .ok (.getfield 109, 3) := by decide +kernel
theorem dX9_wires_64 : decode cX9_wires 64 = .ok (.putfield 28, 3) := by decide +kernel
theorem dX9_wires_67 : decode cX9_wires 67 = .ok (.bipush (-10), 2) := by decide +kernel
theorem dX9_wires_69 : decode cX9_wires 69 = .ok (.aload_n 0, 1) := by decide +kernel
theorem dX9_wires_70 : decode cX9_wires 70 = .ok (.getfield 106, 3) := by decide +kernel
theorem dX9_wires_73 : decode cX9_wires 73 = .ok (.isub, 1) := by decide +kernel
theorem dX9_wires_74 : decode cX9_wires 74 = .ok (.ireturn, 1) := by decide +kernel
theorem dX9_wires_75 : decode cX9_wires 75 = .ok (.aload_n 0, 1) := by decide +kernel
theorem dX9_wires_76 : decode cX9_wires 76 = .ok (.invokevirtual 155, 3) := by decide +kernel
theorem dX9_wires_79 : decode cX9_wires 79 = .ok (.aload_n 0, 1) := by decide +kernel
theorem dX9_wires_80 : decode cX9_wires 80 = .ok (.getfield 38, 3) := by decide +kernel
theorem dX9_wires_83 : decode cX9_wires 83 = .ok (.ireturn, 1) := by decide +kernel
theorem dX9_fault_0 : decode cX9_fault 0 = .ok (.aload_n 0, 1) := by decide +kernel
theorem dX9_fault_1 : decode cX9_fault 1 = .ok (.getfield 28, 3) := by decide +kernel
theorem dX9_fault_4 : decode cX9_fault 4 = .ok (.ireturn, 1) := by decide +kernel
theorem dX9_isStill_0 : decode cX9_isStill 0 = .ok (.aload_n 0, 1) := by decide +kernel
theorem dX9_isStill_1 : decode cX9_isStill 1 = .ok (.iload_n 1, 1) := by decide +kernel
theorem dX9_isStill_2 : decode cX9_isStill 2 = .ok (.invokevirtual 95, 3) := by decide +kernel
theorem dX9_isStill_5 : decode cX9_isStill 5 = .ok (.iconst (-1), 1) := by decide +kernel
theorem dX9_isStill_6 : decode cX9_isStill 6 = .ok (.if_icmp .ne 7, 3) := by decide +kernel
theorem dX9_isStill_9 : decode cX9_isStill 9 = .ok (.iconst 1, 1) := by decide +kernel
theorem dX9_isStill_10 : decode cX9_isStill 10 = .ok (.goto 4, 3) := by decide +kernel
theorem dX9_isStill_13 : decode cX9_isStill 13 = .ok (.iconst 0, 1) := by decide +kernel
theorem dX9_isStill_14 : decode cX9_isStill 14 = .ok (.ireturn, 1) := by decide +kernel
theorem dX9_holds_0 : decode cX9_holds 0 = .ok (.iconst 0, 1) := by decide +kernel
theorem dX9_holds_1 : decode cX9_holds 1 = .ok (.istore_n 1, 1) := by decide +kernel
theorem dX9_holds_2 : decode cX9_holds 2 = .ok (.iconst 0, 1) := by decide +kernel
theorem dX9_holds_3 : decode cX9_holds 3 = .ok (.istore_n 2, 1) := by decide +kernel
theorem dX9_holds_4 : decode cX9_holds 4 = .ok (.iload_n 2, 1) := by decide +kernel
theorem dX9_holds_5 : decode cX9_holds 5 = .ok (.aload_n 0, 1) := by decide +kernel
theorem dX9_holds_6 : decode cX9_holds 6 = .ok (.getfield 45, 3) := by decide +kernel
theorem dX9_holds_9 : decode cX9_holds 9 = .ok (.if_icmp .ge 38, 3) := by decide +kernel
theorem dX9_holds_12 : decode cX9_holds 12 = .ok (.iload_n 1, 1) := by decide +kernel
theorem dX9_holds_13 : decode cX9_holds 13 = .ok (.aload_n 0, 1) := by decide +kernel
theorem dX9_holds_14 : decode cX9_holds 14 = .ok (.getfield 7, 3) := by decide +kernel
theorem dX9_holds_17 : decode cX9_holds 17 = .ok (.sipush 176, 3) := by decide +kernel
theorem dX9_holds_20 : decode cX9_holds 20 = .ok (.iload_n 2, 1) := by decide +kernel
theorem dX9_holds_21 : decode cX9_holds 21 = .ok (.iadd, 1) := by decide +kernel
theorem dX9_holds_22 : decode cX9_holds 22 = .ok (.iaload, 1) := by decide +kernel
theorem dX9_holds_23 : decode cX9_holds 23 = .ok (.aload_n 0, 1) := by decide +kernel
theorem dX9_holds_24 : decode cX9_holds 24 = .ok (.iconst 0, 1) := by decide +kernel
theorem dX9_holds_25 : decode cX9_holds 25 = .ok (.iload_n 2, 1) := by decide +kernel
theorem dX9_holds_26 : decode cX9_holds 26 = .ok (.invokevirtual 63, 3) := by decide +kernel
theorem dX9_holds_29 : decode cX9_holds 29 = .ok (.if_icmp .ne 9, 3) := by decide +kernel
theorem dX9_holds_32 : decode cX9_holds 32 = .ok (.iconst 1, 1) := by decide +kernel
theorem dX9_holds_33 : decode cX9_holds 33 = .ok (.iload_n 2, 1) := by decide +kernel
theorem dX9_holds_34 : decode cX9_holds 34 = .ok (.ishl, 1) := by decide +kernel
theorem dX9_holds_35 : decode cX9_holds 35 = .ok (.goto 4, 3) := by decide +kernel
theorem dX9_holds_38 : decode cX9_holds 38 = .ok (.iconst 0, 1) := by decide +kernel
theorem dX9_holds_39 : decode cX9_holds 39 = .ok (.ior, 1) := by decide +kernel
theorem dX9_holds_40 : decode cX9_holds 40 = .ok (.istore_n 1, 1) := by decide +kernel
theorem dX9_holds_41 : decode cX9_holds 41 = .ok (.iinc 2 1, 3) := by decide +kernel
theorem dX9_holds_44 : decode cX9_holds 44 = .ok (.goto (-40), 3) := by decide +kernel
theorem dX9_holds_47 : decode cX9_holds 47 = .ok (.iload_n 1, 1) := by decide +kernel
theorem dX9_holds_48 : decode cX9_holds 48 = .ok (.ireturn, 1) := by decide +kernel
theorem dX9_flickers_0 : decode cX9_flickers 0 = .ok (.iconst 0, 1) := by decide +kernel
theorem dX9_flickers_1 : decode cX9_flickers 1 = .ok (.istore_n 1, 1) := by decide +kernel
theorem dX9_flickers_2 : decode cX9_flickers 2 = .ok (.iconst 0, 1) := by decide +kernel
theorem dX9_flickers_3 : decode cX9_flickers 3 = .ok (.istore_n 2, 1) := by decide +kernel
theorem dX9_flickers_4 : decode cX9_flickers 4 = .ok (.iload_n 2, 1) := by decide +kernel
theorem dX9_flickers_5 : decode cX9_flickers 5 = .ok (.aload_n 0, 1) := by decide +kernel
theorem dX9_flickers_6 : decode cX9_flickers 6 = .ok (.getfield 38, 3) := by decide +kernel
theorem dX9_flickers_9 : decode cX9_flickers 9 = .ok (.if_icmp .ge 23, 3) := by decide +kernel
theorem dX9_flickers_12 : decode cX9_flickers 12 = .ok (.iload_n 1, 1) := by decide +kernel
theorem dX9_flickers_13 : decode cX9_flickers 13 = .ok (.aload_n 0, 1) := by decide +kernel
theorem dX9_flickers_14 : decode cX9_flickers 14 = .ok (.getfield 7, 3) := by decide +kernel
theorem dX9_flickers_17 : decode cX9_flickers 17 = .ok (.bipush 32, 2) := by decide +kernel
theorem dX9_flickers_19 : decode cX9_flickers 19 = .ok (.iload_n 2, 1) := by decide +kernel
theorem dX9_flickers_20 : decode cX9_flickers 20 = .ok (.iadd, 1) := by decide +kernel
theorem dX9_flickers_21 : decode cX9_flickers 21 = .ok (.iaload, 1) := by decide +kernel
theorem dX9_flickers_22 : decode cX9_flickers 22 = .ok (.iload_n 2, 1) := by decide +kernel
theorem dX9_flickers_23 : decode cX9_flickers 23 = .ok (.ishl, 1) := by decide +kernel
theorem dX9_flickers_24 : decode cX9_flickers 24 = .ok (.ior, 1) := by decide +kernel
theorem dX9_flickers_25 : decode cX9_flickers 25 = .ok (.istore_n 1, 1) := by decide +kernel
theorem dX9_flickers_26 : decode cX9_flickers 26 = .ok (.iinc 2 1, 3) := by decide +kernel
theorem dX9_flickers_29 : decode cX9_flickers 29 = .ok (.goto (-25), 3) := by decide +kernel
theorem dX9_flickers_32 : decode cX9_flickers 32 = .ok (.iload_n 1, 1) := by decide +kernel
theorem dX9_flickers_33 : decode cX9_flickers 33 = .ok (.ireturn, 1) := by decide +kernel
theorem dX9_settles_0 : decode cX9_settles 0 = .ok (.aload_n 0, 1) := by decide +kernel
theorem dX9_settles_1 : decode cX9_settles 1 = .ok (.iconst 0, 1) := by decide +kernel
theorem dX9_settles_2 : decode cX9_settles 2 = .ok (.sipush 6536, 3) := by decide +kernel
theorem dX9_settles_5 : decode cX9_settles 5 = .ok (.invokevirtual 158, 3) := by decide +kernel
theorem dX9_settles_8 : decode cX9_settles 8 = .ok (.iconst 0, 1) := by decide +kernel
theorem dX9_settles_9 : decode cX9_settles 9 = .ok (.istore_n 1, 1) := by decide +kernel
theorem dX9_settles_10 : decode cX9_settles 10 = .ok (.iload_n 1, 1) := by decide +kernel
theorem dX9_settles_11 : decode cX9_settles 11 = .ok (.bipush 100, 2) := by decide +kernel
theorem dX9_settles_13 : decode cX9_settles 13 = .ok (.if_icmp .gt 39, 3) := by decide +kernel
theorem dX9_settles_16 : decode cX9_settles 16 = .ok (.aload_n 0, 1) := by decide +kernel
theorem dX9_settles_17 : decode cX9_settles 17 = .ok (.getfield 7, 3) := by decide +kernel
theorem dX9_settles_20 : decode cX9_settles 20 = .ok (.sipush 6538, 3) := by decide +kernel
theorem dX9_settles_23 : decode cX9_settles 23 = .ok (.iaload, 1) := by decide +kernel
theorem dX9_settles_24 : decode cX9_settles 24 = .ok (.ifCond .ne 28, 3) := by decide +kernel
theorem dX9_settles_27 : decode cX9_settles 27 = .ok (.aload_n 0, 1) := by decide +kernel
theorem dX9_settles_28 : decode cX9_settles 28 = .ok (.sipush 6536, 3) := by decide +kernel
theorem dX9_settles_31 : decode cX9_settles 31 = .ok (.invokevirtual 161, 3) := by decide +kernel
theorem dX9_settles_34 : decode cX9_settles 34 = .ok (.ifCond .eq 5, 3) := by decide +kernel
theorem dX9_settles_37 : decode cX9_settles 37 = .ok (.iload_n 1, 1) := by decide +kernel
theorem dX9_settles_38 : decode cX9_settles 38 = .ok (.ireturn, 1) := by decide +kernel
theorem dX9_settles_39 : decode cX9_settles 39 = .ok (.aload_n 0, 1) := by decide +kernel
theorem dX9_settles_40 : decode cX9_settles 40 = .ok (.sipush 6536, 3) := by decide +kernel
theorem dX9_settles_43 : decode cX9_settles 43 = .ok (.invokevirtual 165, 3) := by decide +kernel
theorem dX9_settles_46 : decode cX9_settles 46 = .ok (.iinc 1 1, 3) := by decide +kernel
theorem dX9_settles_49 : decode cX9_settles 49 = .ok (.goto (-39), 3) := by decide +kernel
theorem dX9_settles_52 : decode cX9_settles 52 = .ok (.iconst (-1), 1) := by decide +kernel
theorem dX9_settles_53 : decode cX9_settles 53 = .ok (.ireturn, 1) := by decide +kernel
theorem dX9_wrongEntry_0 : decode cX9_wrongEntry 0 = .ok (.iconst 0, 1) := by decide +kernel
theorem dX9_wrongEntry_1 : decode cX9_wrongEntry 1 = .ok (.istore_n 1, 1) := by decide +kernel
theorem dX9_wrongEntry_2 : decode cX9_wrongEntry 2 = .ok (.iload_n 1, 1) := by decide +kernel
theorem dX9_wrongEntry_3 : decode cX9_wrongEntry 3 = .ok (.aload_n 0, 1) := by decide +kernel
theorem dX9_wrongEntry_4 : decode cX9_wrongEntry 4 = .ok (.getfield 149, 3) := by decide +kernel
theorem dX9_wrongEntry_7 : decode cX9_wrongEntry 7 = .ok (.if_icmp .ge 47, 3) := by decide +kernel
theorem dX9_wrongEntry_10 : decode cX9_wrongEntry 10 = .ok (.aload_n 0, 1) := by decide +kernel
theorem dX9_wrongEntry_11 : decode cX9_wrongEntry 11 = .ok (.aload_n 0, 1) := by decide +kernel
theorem dX9_wrongEntry_12 : decode cX9_wrongEntry 12 = .ok (.getfield 19, 3) := by decide +kernel
theorem dX9_wrongEntry_15 : decode cX9_wrongEntry 15 = .ok (.iload_n 1, 1) := by decide +kernel
theorem dX9_wrongEntry_16 : decode cX9_wrongEntry 16 = .ok (.iaload, 1) := by decide +kernel
theorem dX9_wrongEntry_17 : decode cX9_wrongEntry 17 = .ok (.invokevirtual 168, 3) := by decide +kernel
theorem dX9_wrongEntry_20 : decode cX9_wrongEntry 20 = .ok (.ifCond .eq 26, 3) := by decide +kernel
theorem dX9_wrongEntry_23 : decode cX9_wrongEntry 23 = .ok (.aload_n 0, 1) := by decide +kernel
theorem dX9_wrongEntry_24 : decode cX9_wrongEntry 24 = .ok (.getfield 7, 3) := by decide +kernel
theorem dX9_wrongEntry_27 : decode cX9_wrongEntry 27 = .ok (.bipush 8, 2) := by decide +kernel
theorem dX9_wrongEntry_29 : decode cX9_wrongEntry 29 = .ok (.aload_n 0, 1) := by decide +kernel
theorem dX9_wrongEntry_30 : decode cX9_wrongEntry 30 = .ok (.getfield 19, 3) := by decide +kernel
theorem dX9_wrongEntry_33 : decode cX9_wrongEntry 33 = .ok (.iload_n 1, 1) := by decide +kernel
theorem dX9_wrongEntry_34 : decode cX9_wrongEntry 34 = .ok (.iaload, 1) := by decide +kernel
theorem dX9_wrongEntry_35 : decode cX9_wrongEntry 35 = .ok (.iadd, 1) := by decide +kernel
theorem dX9_wrongEntry_36 : decode cX9_wrongEntry 36 = .ok (.iaload, 1) := by decide +kernel
theorem dX9_wrongEntry_37 : decode cX9_wrongEntry 37 = .ok (.aload_n 0, 1) := by decide +kernel
theorem dX9_wrongEntry_38 : decode cX9_wrongEntry 38 = .ok (.getfield 22, 3) := by decide +kernel
theorem dX9_wrongEntry_41 : decode cX9_wrongEntry 41 = .ok (.iload_n 1, 1) := by decide +kernel
theorem dX9_wrongEntry_42 : decode cX9_wrongEntry 42 = .ok (.iaload, 1) := by decide +kernel
theorem dX9_wrongEntry_43 : decode cX9_wrongEntry 43 = .ok (.if_icmp .eq 5, 3) := by decide +kernel
theorem dX9_wrongEntry_46 : decode cX9_wrongEntry 46 = .ok (.iload_n 1, 1) := by decide +kernel
theorem dX9_wrongEntry_47 : decode cX9_wrongEntry 47 = .ok (.ireturn, 1) := by decide +kernel
theorem dX9_wrongEntry_48 : decode cX9_wrongEntry 48 = .ok (.iinc 1 1, 3) := by decide +kernel
theorem dX9_wrongEntry_51 : decode cX9_wrongEntry 51 = .ok (.goto (-49), 3) := by decide +kernel
theorem dX9_wrongEntry_54 : decode cX9_wrongEntry 54 = .ok (.iconst (-1), 1) := by decide +kernel
theorem dX9_wrongEntry_55 : decode cX9_wrongEntry 55 = .ok (.ireturn, 1) := by decide +kernel
theorem dX9_told_0 : decode cX9_told 0 = .ok (.iload_n 1, 1) := by decide +kernel
theorem dX9_told_1 : decode cX9_told 1 = .ok (.tableswitch 158 0 13 #[71, 76, 81, 86, 93, 100, 107, 121, 126, 131, 136, 143, 148, 153], 71) := by decide +kernel
theorem dX9_told_72 : decode cX9_told 72 = .ok (.aload_n 0, 1) := by decide +kernel
theorem dX9_told_73 : decode cX9_told 73 = .ok (.getfield 38, 3) := by decide +kernel
theorem dX9_told_76 : decode cX9_told 76 = .ok (.ireturn, 1) := by decide +kernel
theorem dX9_told_77 : decode cX9_told 77 = .ok (.aload_n 0, 1) := by decide +kernel
theorem dX9_told_78 : decode cX9_told 78 = .ok (.getfield 45, 3) := by decide +kernel
theorem dX9_told_81 : decode cX9_told 81 = .ok (.ireturn, 1) := by decide +kernel
theorem dX9_told_82 : decode cX9_told 82 = .ok (.aload_n 0, 1) := by decide +kernel
theorem dX9_told_83 : decode cX9_told 83 = .ok (.getfield 102, 3) := by decide +kernel
theorem dX9_told_86 : decode cX9_told 86 = .ok (.ireturn, 1) := by decide +kernel
theorem dX9_told_87 : decode cX9_told 87 = .ok (.aload_n 0, 1) := by decide +kernel
theorem dX9_told_88 : decode cX9_told 88 = .ok (.getfield 7, 3) := by decide +kernel
theorem dX9_told_91 : decode cX9_told 91 = .ok (.iconst 0, 1) := by decide +kernel
theorem dX9_told_92 : decode cX9_told 92 = .ok (.iaload, 1) := by decide +kernel
theorem dX9_told_93 : decode cX9_told 93 = .ok (.ireturn, 1) := by decide +kernel
theorem dX9_told_94 : decode cX9_told 94 = .ok (.aload_n 0, 1) := by decide +kernel
theorem dX9_told_95 : decode cX9_told 95 = .ok (.getfield 7, 3) := by decide +kernel
theorem dX9_told_98 : decode cX9_told 98 = .ok (.iconst 1, 1) := by decide +kernel
theorem dX9_told_99 : decode cX9_told 99 = .ok (.iaload, 1) := by decide +kernel
theorem dX9_told_100 : decode cX9_told 100 = .ok (.ireturn, 1) := by decide +kernel
theorem dX9_told_101 : decode cX9_told 101 = .ok (.aload_n 0, 1) := by decide +kernel
theorem dX9_told_102 : decode cX9_told 102 = .ok (.getfield 7, 3) := by decide +kernel
theorem dX9_told_105 : decode cX9_told 105 = .ok (.iconst 2, 1) := by decide +kernel
theorem dX9_told_106 : decode cX9_told 106 = .ok (.iaload, 1) := by decide +kernel
theorem dX9_told_107 : decode cX9_told 107 = .ok (.ireturn, 1) := by decide +kernel
theorem dX9_told_108 : decode cX9_told 108 = .ok (.aload_n 0, 1) := by decide +kernel
theorem dX9_told_109 : decode cX9_told 109 = .ok (.iconst 0, 1) := by decide +kernel
theorem dX9_told_110 : decode cX9_told 110 = .ok (.invokevirtual 161, 3) := by decide +kernel
theorem dX9_told_113 : decode cX9_told 113 = .ok (.ifCond .eq 7, 3) := by decide +kernel
theorem dX9_told_116 : decode cX9_told 116 = .ok (.iconst 1, 1) := by decide +kernel
theorem dX9_told_117 : decode cX9_told 117 = .ok (.goto 4, 3) := by decide +kernel
theorem dX9_told_120 : decode cX9_told 120 = .ok (.iconst 0, 1) := by decide +kernel
theorem dX9_told_121 : decode cX9_told 121 = .ok (.ireturn, 1) := by decide +kernel
theorem dX9_told_122 : decode cX9_told 122 = .ok (.aload_n 0, 1) := by decide +kernel
theorem dX9_told_123 : decode cX9_told 123 = .ok (.invokevirtual 171, 3) := by decide +kernel
theorem dX9_told_126 : decode cX9_told 126 = .ok (.ireturn, 1) := by decide +kernel
theorem dX9_told_127 : decode cX9_told 127 = .ok (.aload_n 0, 1) := by decide +kernel
theorem dX9_told_128 : decode cX9_told 128 = .ok (.invokevirtual 174, 3) := by decide +kernel
theorem dX9_told_131 : decode cX9_told 131 = .ok (.ireturn, 1) := by decide +kernel
theorem dX9_told_132 : decode cX9_told 132 = .ok (.aload_n 0, 1) := by decide +kernel
theorem dX9_told_133 : decode cX9_told 133 = .ok (.invokevirtual 177, 3) := by decide +kernel
theorem dX9_told_136 : decode cX9_told 136 = .ok (.ireturn, 1) := by decide +kernel
theorem dX9_told_137 : decode cX9_told 137 = .ok (.aload_n 0, 1) := by decide +kernel
theorem dX9_told_138 : decode cX9_told 138 = .ok (.getfield 7, 3) := by decide +kernel
theorem dX9_told_141 : decode cX9_told 141 = .ok (.iconst 3, 1) := by decide +kernel
theorem dX9_told_142 : decode cX9_told 142 = .ok (.iaload, 1) := by decide +kernel
theorem dX9_told_143 : decode cX9_told 143 = .ok (.ireturn, 1) := by decide +kernel
theorem dX9_told_144 : decode cX9_told 144 = .ok (.aload_n 0, 1) := by decide +kernel
theorem dX9_told_145 : decode cX9_told 145 = .ok (.getfield 149, 3) := by decide +kernel
theorem dX9_told_148 : decode cX9_told 148 = .ok (.ireturn, 1) := by decide +kernel
theorem dX9_told_149 : decode cX9_told 149 = .ok (.aload_n 0, 1) := by decide +kernel
theorem dX9_told_150 : decode cX9_told 150 = .ok (.invokevirtual 180, 3) := by decide +kernel
theorem dX9_told_153 : decode cX9_told 153 = .ok (.ireturn, 1) := by decide +kernel
theorem dX9_told_154 : decode cX9_told 154 = .ok (.aload_n 0, 1) := by decide +kernel
theorem dX9_told_155 : decode cX9_told 155 = .ok (.getfield 143, 3) := by decide +kernel
theorem dX9_told_158 : decode cX9_told 158 = .ok (.ireturn, 1) := by decide +kernel
theorem dX9_told_159 : decode cX9_told 159 = .ok (.ldc 101, 2) := by decide +kernel
theorem dX9_told_161 : decode cX9_told 161 = .ok (.ireturn, 1) := by decide +kernel
theorem dX9_lookersAt_0 : decode cX9_lookersAt 0 = .ok (.iconst 0, 1) := by decide +kernel
theorem dX9_lookersAt_1 : decode cX9_lookersAt 1 = .ok (.istore_n 2, 1) := by decide +kernel
theorem dX9_lookersAt_2 : decode cX9_lookersAt 2 = .ok (.iconst 0, 1) := by decide +kernel
theorem dX9_lookersAt_3 : decode cX9_lookersAt 3 = .ok (.istore_n 3, 1) := by decide +kernel
theorem dX9_lookersAt_4 : decode cX9_lookersAt 4 = .ok (.iload_n 3, 1) := by decide +kernel
theorem dX9_lookersAt_5 : decode cX9_lookersAt 5 = .ok (.aload_n 0, 1) := by decide +kernel
theorem dX9_lookersAt_6 : decode cX9_lookersAt 6 = .ok (.getfield 45, 3) := by decide +kernel
theorem dX9_lookersAt_9 : decode cX9_lookersAt 9 = .ok (.if_icmp .ge 26, 3) := by decide +kernel
theorem dX9_lookersAt_12 : decode cX9_lookersAt 12 = .ok (.iload_n 2, 1) := by decide +kernel
theorem dX9_lookersAt_13 : decode cX9_lookersAt 13 = .ok (.aload_n 0, 1) := by decide +kernel
theorem dX9_lookersAt_14 : decode cX9_lookersAt 14 = .ok (.iload_n 3, 1) := by decide +kernel
theorem dX9_lookersAt_15 : decode cX9_lookersAt 15 = .ok (.iload_n 1, 1) := by decide +kernel
theorem dX9_lookersAt_16 : decode cX9_lookersAt 16 = .ok (.invokevirtual 91, 3) := by decide +kernel
theorem dX9_lookersAt_19 : decode cX9_lookersAt 19 = .ok (.ifCond .eq 7, 3) := by decide +kernel
theorem dX9_lookersAt_22 : decode cX9_lookersAt 22 = .ok (.iconst 1, 1) := by decide +kernel
theorem dX9_lookersAt_23 : decode cX9_lookersAt 23 = .ok (.goto 4, 3) := by decide +kernel
theorem dX9_lookersAt_26 : decode cX9_lookersAt 26 = .ok (.iconst 0, 1) := by decide +kernel
theorem dX9_lookersAt_27 : decode cX9_lookersAt 27 = .ok (.iadd, 1) := by decide +kernel
theorem dX9_lookersAt_28 : decode cX9_lookersAt 28 = .ok (.istore_n 2, 1) := by decide +kernel
theorem dX9_lookersAt_29 : decode cX9_lookersAt 29 = .ok (.iinc 3 1, 3) := by decide +kernel
theorem dX9_lookersAt_32 : decode cX9_lookersAt 32 = .ok (.goto (-28), 3) := by decide +kernel
theorem dX9_lookersAt_35 : decode cX9_lookersAt 35 = .ok (.iload_n 2, 1) := by decide +kernel
theorem dX9_lookersAt_36 : decode cX9_lookersAt 36 = .ok (.ireturn, 1) := by decide +kernel
theorem dX9_wire_0 : decode cX9_wire 0 = .ok (.aload_n 0, 1) := by decide +kernel
theorem dX9_wire_1 : decode cX9_wire 1 = .ok (.iload_n 1, 1) := by decide +kernel
theorem dX9_wire_2 : decode cX9_wire 2 = .ok (.invokevirtual 168, 3) := by decide +kernel
theorem dX9_wire_5 : decode cX9_wire 5 = .ok (.ifCond .ne 6, 3) := by decide +kernel
theorem dX9_wire_8 : decode cX9_wire 8 = .ok (.ldc 183, 2) := by decide +kernel
theorem dX9_wire_10 : decode cX9_wire 10 = .ok (.ireturn, 1) := by decide +kernel
theorem dX9_wire_11 : decode cX9_wire 11 = .ok (.iload_n 2, 1) := by decide +kernel
theorem dX9_wire_12 : decode cX9_wire 12 = .ok (.tableswitch 78 0 4 #[36, 46, 52, 62, 72], 36) := by decide +kernel
theorem dX9_wire_48 : decode cX9_wire 48 = .ok (.aload_n 0, 1) := by decide +kernel
theorem dX9_wire_49 : decode cX9_wire 49 = .ok (.getfield 7, 3) := by decide +kernel
theorem dX9_wire_52 : decode cX9_wire 52 = .ok (.bipush 8, 2) := by decide +kernel
theorem dX9_wire_54 : decode cX9_wire 54 = .ok (.iload_n 1, 1) := by decide +kernel
theorem dX9_wire_55 : decode cX9_wire 55 = .ok (.iadd, 1) := by decide +kernel
theorem dX9_wire_56 : decode cX9_wire 56 = .ok (.iaload, 1) := by decide +kernel
theorem dX9_wire_57 : decode cX9_wire 57 = .ok (.ireturn, 1) := by decide +kernel
theorem dX9_wire_58 : decode cX9_wire 58 = .ok (.aload_n 0, 1) := by decide +kernel
theorem dX9_wire_59 : decode cX9_wire 59 = .ok (.iload_n 1, 1) := by decide +kernel
theorem dX9_wire_60 : decode cX9_wire 60 = .ok (.invokevirtual 82, 3) := by decide +kernel
theorem dX9_wire_63 : decode cX9_wire 63 = .ok (.ireturn, 1) := by decide +kernel
theorem dX9_wire_64 : decode cX9_wire 64 = .ok (.aload_n 0, 1) := by decide +kernel
theorem dX9_wire_65 : decode cX9_wire 65 = .ok (.getfield 7, 3) := by decide +kernel
theorem dX9_wire_68 : decode cX9_wire 68 = .ok (.bipush 16, 2) := by decide +kernel
theorem dX9_wire_70 : decode cX9_wire 70 = .ok (.iload_n 1, 1) := by decide +kernel
theorem dX9_wire_71 : decode cX9_wire 71 = .ok (.iadd, 1) := by decide +kernel
theorem dX9_wire_72 : decode cX9_wire 72 = .ok (.iaload, 1) := by decide +kernel
theorem dX9_wire_73 : decode cX9_wire 73 = .ok (.ireturn, 1) := by decide +kernel
theorem dX9_wire_74 : decode cX9_wire 74 = .ok (.aload_n 0, 1) := by decide +kernel
theorem dX9_wire_75 : decode cX9_wire 75 = .ok (.getfield 7, 3) := by decide +kernel
theorem dX9_wire_78 : decode cX9_wire 78 = .ok (.bipush 24, 2) := by decide +kernel
theorem dX9_wire_80 : decode cX9_wire 80 = .ok (.iload_n 1, 1) := by decide +kernel
theorem dX9_wire_81 : decode cX9_wire 81 = .ok (.iadd, 1) := by decide +kernel
theorem dX9_wire_82 : decode cX9_wire 82 = .ok (.iaload, 1) := by decide +kernel
theorem dX9_wire_83 : decode cX9_wire 83 = .ok (.ireturn, 1) := by decide +kernel
theorem dX9_wire_84 : decode cX9_wire 84 = .ok (.aload_n 0, 1) := by decide +kernel
theorem dX9_wire_85 : decode cX9_wire 85 = .ok (.iload_n 1, 1) := by decide +kernel
theorem dX9_wire_86 : decode cX9_wire 86 = .ok (.invokevirtual 184, 3) := by decide +kernel
theorem dX9_wire_89 : decode cX9_wire 89 = .ok (.ireturn, 1) := by decide +kernel
theorem dX9_wire_90 : decode cX9_wire 90 = .ok (.ldc 101, 2) := by decide +kernel
theorem dX9_wire_92 : decode cX9_wire 92 = .ok (.ireturn, 1) := by decide +kernel
theorem dX9_wave_0 : decode cX9_wave 0 = .ok (.aload_n 0, 1) := by decide +kernel
theorem dX9_wave_1 : decode cX9_wave 1 = .ok (.iload_n 1, 1) := by decide +kernel
theorem dX9_wave_2 : decode cX9_wave 2 = .ok (.invokevirtual 168, 3) := by decide +kernel
theorem dX9_wave_5 : decode cX9_wave 5 = .ok (.ifCond .ne 6, 3) := by decide +kernel
theorem dX9_wave_8 : decode cX9_wave 8 = .ok (.ldc 183, 2) := by decide +kernel
theorem dX9_wave_10 : decode cX9_wave 10 = .ok (.ireturn, 1) := by decide +kernel
theorem dX9_wave_11 : decode cX9_wave 11 = .ok (.iload_n 3, 1) := by decide +kernel
theorem dX9_wave_12 : decode cX9_wave 12 = .ok (.iconst 0, 1) := by decide +kernel
theorem dX9_wave_13 : decode cX9_wave 13 = .ok (.iconst 1, 1) := by decide +kernel
theorem dX9_wave_14 : decode cX9_wave 14 = .ok (.invokestatic 41, 3) := by decide +kernel
theorem dX9_wave_17 : decode cX9_wave 17 = .ok (.ifCond .ne 6, 3) := by decide +kernel
theorem dX9_wave_20 : decode cX9_wave 20 = .ok (.ldc 101, 2) := by decide +kernel
theorem dX9_wave_22 : decode cX9_wave 22 = .ok (.ireturn, 1) := by decide +kernel
theorem dX9_wave_23 : decode cX9_wave 23 = .ok (.iload_n 2, 1) := by decide +kernel
theorem dX9_wave_24 : decode cX9_wave 24 = .ok (.iconst 0, 1) := by decide +kernel
theorem dX9_wave_25 : decode cX9_wave 25 = .ok (.aload_n 0, 1) := by decide +kernel
theorem dX9_wave_26 : decode cX9_wave 26 = .ok (.getfield 7, 3) := by decide +kernel
theorem dX9_wave_29 : decode cX9_wave 29 = .ok (.bipush 40, 2) := by decide +kernel
theorem dX9_wave_31 : decode cX9_wave 31 = .ok (.iload_n 1, 1) := by decide +kernel
theorem dX9_wave_32 : decode cX9_wave 32 = .ok (.iadd, 1) := by decide +kernel
theorem dX9_wave_33 : decode cX9_wave 33 = .ok (.iaload, 1) := by decide +kernel
theorem dX9_wave_34 : decode cX9_wave 34 = .ok (.iconst 1, 1) := by decide +kernel
theorem dX9_wave_35 : decode cX9_wave 35 = .ok (.isub, 1) := by decide +kernel
theorem dX9_wave_36 : decode cX9_wave 36 = .ok (.invokestatic 41, 3) := by decide +kernel
theorem dX9_wave_39 : decode cX9_wave 39 = .ok (.ifCond .ne 5, 3) := by decide +kernel
theorem dX9_wave_42 : decode cX9_wave 42 = .ok (.iconst (-1), 1) := by decide +kernel
theorem dX9_wave_43 : decode cX9_wave 43 = .ok (.ireturn, 1) := by decide +kernel
theorem dX9_wave_44 : decode cX9_wave 44 = .ok (.aload_n 0, 1) := by decide +kernel
theorem dX9_wave_45 : decode cX9_wave 45 = .ok (.getfield 7, 3) := by decide +kernel
theorem dX9_wave_48 : decode cX9_wave 48 = .ok (.iload_n 3, 1) := by decide +kernel
theorem dX9_wave_49 : decode cX9_wave 49 = .ok (.ifCond .ne 8, 3) := by decide +kernel
theorem dX9_wave_52 : decode cX9_wave 52 = .ok (.bipush 48, 2) := by decide +kernel
theorem dX9_wave_54 : decode cX9_wave 54 = .ok (.goto 5, 3) := by decide +kernel
theorem dX9_wave_57 : decode cX9_wave 57 = .ok (.bipush 112, 2) := by decide +kernel
theorem dX9_wave_59 : decode cX9_wave 59 = .ok (.bipush 8, 2) := by decide +kernel
theorem dX9_wave_61 : decode cX9_wave 61 = .ok (.iload_n 1, 1) := by decide +kernel
theorem dX9_wave_62 : decode cX9_wave 62 = .ok (.imul, 1) := by decide +kernel
theorem dX9_wave_63 : decode cX9_wave 63 = .ok (.iadd, 1) := by decide +kernel
theorem dX9_wave_64 : decode cX9_wave 64 = .ok (.iload_n 2, 1) := by decide +kernel
theorem dX9_wave_65 : decode cX9_wave 65 = .ok (.iadd, 1) := by decide +kernel
theorem dX9_wave_66 : decode cX9_wave 66 = .ok (.iaload, 1) := by decide +kernel
theorem dX9_wave_67 : decode cX9_wave 67 = .ok (.ireturn, 1) := by decide +kernel
theorem dX9_gate_0 : decode cX9_gate 0 = .ok (.aload_n 0, 1) := by decide +kernel
theorem dX9_gate_1 : decode cX9_gate 1 = .ok (.iload_n 1, 1) := by decide +kernel
theorem dX9_gate_2 : decode cX9_gate 2 = .ok (.invokevirtual 187, 3) := by decide +kernel
theorem dX9_gate_5 : decode cX9_gate 5 = .ok (.ifCond .ne 6, 3) := by decide +kernel
theorem dX9_gate_8 : decode cX9_gate 8 = .ok (.ldc 183, 2) := by decide +kernel
theorem dX9_gate_10 : decode cX9_gate 10 = .ok (.ireturn, 1) := by decide +kernel
theorem dX9_gate_11 : decode cX9_gate 11 = .ok (.iload_n 2, 1) := by decide +kernel
theorem dX9_gate_12 : decode cX9_gate 12 = .ok (.tableswitch 105 0 9 #[56, 56, 56, 56, 56, 56, 63, 74, 81, 92], 56) := by decide +kernel
theorem dX9_gate_68 : decode cX9_gate 68 = .ok (.aload_n 0, 1) := by decide +kernel
theorem dX9_gate_69 : decode cX9_gate 69 = .ok (.iload_n 1, 1) := by decide +kernel
theorem dX9_gate_70 : decode cX9_gate 70 = .ok (.iload_n 2, 1) := by decide +kernel
theorem dX9_gate_71 : decode cX9_gate 71 = .ok (.invokevirtual 52, 3) := by decide +kernel
theorem dX9_gate_74 : decode cX9_gate 74 = .ok (.ireturn, 1) := by decide +kernel
theorem dX9_gate_75 : decode cX9_gate 75 = .ok (.aload_n 0, 1) := by decide +kernel
theorem dX9_gate_76 : decode cX9_gate 76 = .ok (.getfield 7, 3) := by decide +kernel
theorem dX9_gate_79 : decode cX9_gate 79 = .ok (.sipush 176, 3) := by decide +kernel
theorem dX9_gate_82 : decode cX9_gate 82 = .ok (.iload_n 1, 1) := by decide +kernel
theorem dX9_gate_83 : decode cX9_gate 83 = .ok (.iadd, 1) := by decide +kernel
theorem dX9_gate_84 : decode cX9_gate 84 = .ok (.iaload, 1) := by decide +kernel
theorem dX9_gate_85 : decode cX9_gate 85 = .ok (.ireturn, 1) := by decide +kernel
theorem dX9_gate_86 : decode cX9_gate 86 = .ok (.aload_n 0, 1) := by decide +kernel
theorem dX9_gate_87 : decode cX9_gate 87 = .ok (.iconst 0, 1) := by decide +kernel
theorem dX9_gate_88 : decode cX9_gate 88 = .ok (.iload_n 1, 1) := by decide +kernel
theorem dX9_gate_89 : decode cX9_gate 89 = .ok (.invokevirtual 63, 3) := by decide +kernel
theorem dX9_gate_92 : decode cX9_gate 92 = .ok (.ireturn, 1) := by decide +kernel
theorem dX9_gate_93 : decode cX9_gate 93 = .ok (.aload_n 0, 1) := by decide +kernel
theorem dX9_gate_94 : decode cX9_gate 94 = .ok (.getfield 7, 3) := by decide +kernel
theorem dX9_gate_97 : decode cX9_gate 97 = .ok (.sipush 184, 3) := by decide +kernel
theorem dX9_gate_100 : decode cX9_gate 100 = .ok (.iload_n 1, 1) := by decide +kernel
theorem dX9_gate_101 : decode cX9_gate 101 = .ok (.iadd, 1) := by decide +kernel
theorem dX9_gate_102 : decode cX9_gate 102 = .ok (.iaload, 1) := by decide +kernel
theorem dX9_gate_103 : decode cX9_gate 103 = .ok (.ireturn, 1) := by decide +kernel
theorem dX9_gate_104 : decode cX9_gate 104 = .ok (.aload_n 0, 1) := by decide +kernel
theorem dX9_gate_105 : decode cX9_gate 105 = .ok (.iconst 0, 1) := by decide +kernel
theorem dX9_gate_106 : decode cX9_gate 106 = .ok (.aload_n 0, 1) := by decide +kernel
theorem dX9_gate_107 : decode cX9_gate 107 = .ok (.iload_n 1, 1) := by decide +kernel
theorem dX9_gate_108 : decode cX9_gate 108 = .ok (.iconst 3, 1) := by decide +kernel
theorem dX9_gate_109 : decode cX9_gate 109 = .ok (.invokevirtual 52, 3) := by decide +kernel
theorem dX9_gate_112 : decode cX9_gate 112 = .ok (.iload_n 1, 1) := by decide +kernel
theorem dX9_gate_113 : decode cX9_gate 113 = .ok (.invokevirtual 85, 3) := by decide +kernel
theorem dX9_gate_116 : decode cX9_gate 116 = .ok (.ireturn, 1) := by decide +kernel
theorem dX9_gate_117 : decode cX9_gate 117 = .ok (.ldc 101, 2) := by decide +kernel
theorem dX9_gate_119 : decode cX9_gate 119 = .ok (.ireturn, 1) := by decide +kernel
theorem dX9_queue_0 : decode cX9_queue 0 = .ok (.aload_n 0, 1) := by decide +kernel
theorem dX9_queue_1 : decode cX9_queue 1 = .ok (.iload_n 1, 1) := by decide +kernel
theorem dX9_queue_2 : decode cX9_queue 2 = .ok (.invokevirtual 187, 3) := by decide +kernel
theorem dX9_queue_5 : decode cX9_queue 5 = .ok (.ifCond .ne 6, 3) := by decide +kernel
theorem dX9_queue_8 : decode cX9_queue 8 = .ok (.ldc 183, 2) := by decide +kernel
theorem dX9_queue_10 : decode cX9_queue 10 = .ok (.ireturn, 1) := by decide +kernel
theorem dX9_queue_11 : decode cX9_queue 11 = .ok (.iload_n 3, 1) := by decide +kernel
theorem dX9_queue_12 : decode cX9_queue 12 = .ok (.iconst 0, 1) := by decide +kernel
theorem dX9_queue_13 : decode cX9_queue 13 = .ok (.iconst 1, 1) := by decide +kernel
theorem dX9_queue_14 : decode cX9_queue 14 = .ok (.invokestatic 41, 3) := by decide +kernel
theorem dX9_queue_17 : decode cX9_queue 17 = .ok (.ifCond .ne 6, 3) := by decide +kernel
theorem dX9_queue_20 : decode cX9_queue 20 = .ok (.ldc 101, 2) := by decide +kernel
theorem dX9_queue_22 : decode cX9_queue 22 = .ok (.ireturn, 1) := by decide +kernel
theorem dX9_queue_23 : decode cX9_queue 23 = .ok (.iload_n 2, 1) := by decide +kernel
theorem dX9_queue_24 : decode cX9_queue 24 = .ok (.iconst 0, 1) := by decide +kernel
theorem dX9_queue_25 : decode cX9_queue 25 = .ok (.aload_n 0, 1) := by decide +kernel
theorem dX9_queue_26 : decode cX9_queue 26 = .ok (.getfield 7, 3) := by decide +kernel
theorem dX9_queue_29 : decode cX9_queue 29 = .ok (.sipush 184, 3) := by decide +kernel
theorem dX9_queue_32 : decode cX9_queue 32 = .ok (.iload_n 1, 1) := by decide +kernel
theorem dX9_queue_33 : decode cX9_queue 33 = .ok (.iadd, 1) := by decide +kernel
theorem dX9_queue_34 : decode cX9_queue 34 = .ok (.iaload, 1) := by decide +kernel
theorem dX9_queue_35 : decode cX9_queue 35 = .ok (.iconst 1, 1) := by decide +kernel
theorem dX9_queue_36 : decode cX9_queue 36 = .ok (.isub, 1) := by decide +kernel
theorem dX9_queue_37 : decode cX9_queue 37 = .ok (.invokestatic 41, 3) := by decide +kernel
theorem dX9_queue_40 : decode cX9_queue 40 = .ok (.ifCond .ne 5, 3) := by decide +kernel
theorem dX9_queue_43 : decode cX9_queue 43 = .ok (.iconst (-1), 1) := by decide +kernel
theorem dX9_queue_44 : decode cX9_queue 44 = .ok (.ireturn, 1) := by decide +kernel
theorem dX9_queue_45 : decode cX9_queue 45 = .ok (.aload_n 0, 1) := by decide +kernel
theorem dX9_queue_46 : decode cX9_queue 46 = .ok (.getfield 7, 3) := by decide +kernel
theorem dX9_queue_49 : decode cX9_queue 49 = .ok (.iload_n 3, 1) := by decide +kernel
theorem dX9_queue_50 : decode cX9_queue 50 = .ok (.ifCond .ne 9, 3) := by decide +kernel
theorem dX9_queue_53 : decode cX9_queue 53 = .ok (.sipush 192, 3) := by decide +kernel
theorem dX9_queue_56 : decode cX9_queue 56 = .ok (.goto 6, 3) := by decide +kernel
theorem dX9_queue_59 : decode cX9_queue 59 = .ok (.sipush 256, 3) := by decide +kernel
theorem dX9_queue_62 : decode cX9_queue 62 = .ok (.bipush 8, 2) := by decide +kernel
theorem dX9_queue_64 : decode cX9_queue 64 = .ok (.iload_n 1, 1) := by decide +kernel
theorem dX9_queue_65 : decode cX9_queue 65 = .ok (.imul, 1) := by decide +kernel
theorem dX9_queue_66 : decode cX9_queue 66 = .ok (.iadd, 1) := by decide +kernel
theorem dX9_queue_67 : decode cX9_queue 67 = .ok (.iload_n 2, 1) := by decide +kernel
theorem dX9_queue_68 : decode cX9_queue 68 = .ok (.iadd, 1) := by decide +kernel
theorem dX9_queue_69 : decode cX9_queue 69 = .ok (.iaload, 1) := by decide +kernel
theorem dX9_queue_70 : decode cX9_queue 70 = .ok (.ireturn, 1) := by decide +kernel
theorem dX9_resolved_0 : decode cX9_resolved 0 = .ok (.iload_n 1, 1) := by decide +kernel
theorem dX9_resolved_1 : decode cX9_resolved 1 = .ok (.invokestatic 190, 3) := by decide +kernel
theorem dX9_resolved_4 : decode cX9_resolved 4 = .ok (.ifCond .eq 18, 3) := by decide +kernel
theorem dX9_resolved_7 : decode cX9_resolved 7 = .ok (.iload_n 2, 1) := by decide +kernel
theorem dX9_resolved_8 : decode cX9_resolved 8 = .ok (.invokestatic 190, 3) := by decide +kernel
theorem dX9_resolved_11 : decode cX9_resolved 11 = .ok (.ifCond .eq 11, 3) := by decide +kernel
theorem dX9_resolved_14 : decode cX9_resolved 14 = .ok (.iload_n 1, 1) := by decide +kernel
theorem dX9_resolved_15 : decode cX9_resolved 15 = .ok (.iload_n 2, 1) := by decide +kernel
theorem dX9_resolved_16 : decode cX9_resolved 16 = .ok (.invokestatic 60, 3) := by decide +kernel
theorem dX9_resolved_19 : decode cX9_resolved 19 = .ok (.goto 5, 3) := by decide +kernel
theorem dX9_resolved_22 : decode cX9_resolved 22 = .ok (.ldc 183, 2) := by decide +kernel
theorem dX9_resolved_24 : decode cX9_resolved 24 = .ok (.ireturn, 1) := by decide +kernel
theorem dX9_comes_0 : decode cX9_comes 0 = .ok (.iload_n 2, 1) := by decide +kernel
theorem dX9_comes_1 : decode cX9_comes 1 = .ok (.invokestatic 190, 3) := by decide +kernel
theorem dX9_comes_4 : decode cX9_comes 4 = .ok (.ifCond .eq 10, 3) := by decide +kernel
theorem dX9_comes_7 : decode cX9_comes 7 = .ok (.iload_n 3, 1) := by decide +kernel
theorem dX9_comes_8 : decode cX9_comes 8 = .ok (.invokestatic 190, 3) := by decide +kernel
theorem dX9_comes_11 : decode cX9_comes 11 = .ok (.ifCond .ne 6, 3) := by decide +kernel
theorem dX9_comes_14 : decode cX9_comes 14 = .ok (.ldc 183, 2) := by decide +kernel
theorem dX9_comes_16 : decode cX9_comes 16 = .ok (.ireturn, 1) := by decide +kernel
theorem dX9_comes_17 : decode cX9_comes 17 = .ok (.iload_n 1, 1) := by decide +kernel
theorem dX9_comes_18 : decode cX9_comes 18 = .ok (.iconst 0, 1) := by decide +kernel
theorem dX9_comes_19 : decode cX9_comes 19 = .ok (.iconst 4, 1) := by decide +kernel
theorem dX9_comes_20 : decode cX9_comes 20 = .ok (.invokestatic 41, 3) := by decide +kernel
theorem dX9_comes_23 : decode cX9_comes 23 = .ok (.ifCond .eq 12, 3) := by decide +kernel
theorem dX9_comes_26 : decode cX9_comes 26 = .ok (.iload_n 1, 1) := by decide +kernel
theorem dX9_comes_27 : decode cX9_comes 27 = .ok (.iload_n 2, 1) := by decide +kernel
theorem dX9_comes_28 : decode cX9_comes 28 = .ok (.iload_n 3, 1) := by decide +kernel
theorem dX9_comes_29 : decode cX9_comes 29 = .ok (.invokestatic 56, 3) := by decide +kernel
theorem dX9_comes_32 : decode cX9_comes 32 = .ok (.goto 5, 3) := by decide +kernel
theorem dX9_comes_35 : decode cX9_comes 35 = .ok (.ldc 101, 2) := by decide +kernel
theorem dX9_comes_37 : decode cX9_comes 37 = .ok (.ireturn, 1) := by decide +kernel
theorem dX9_remember_0 : decode cX9_remember 0 = .ok (.aload_n 0, 1) := by decide +kernel
theorem dX9_remember_1 : decode cX9_remember 1 = .ok (.getfield 143, 3) := by decide +kernel
theorem dX9_remember_4 : decode cX9_remember 4 = .ok (.bipush 16, 2) := by decide +kernel
theorem dX9_remember_6 : decode cX9_remember 6 = .ok (.if_icmp .ne 43, 3) := by decide +kernel
theorem dX9_remember_9 : decode cX9_remember 9 = .ok (.iconst 1, 1) := by decide +kernel
theorem dX9_remember_10 : decode cX9_remember 10 = .ok (.istore_n 1, 1) := by decide +kernel
theorem dX9_remember_11 : decode cX9_remember 11 = .ok (.iload_n 1, 1) := by decide +kernel
theorem dX9_remember_12 : decode cX9_remember 12 = .ok (.bipush 16, 2) := by decide +kernel
theorem dX9_remember_14 : decode cX9_remember 14 = .ok (.if_icmp .ge 25, 3) := by decide +kernel
theorem dX9_remember_17 : decode cX9_remember 17 = .ok (.aload_n 0, 1) := by decide +kernel
theorem dX9_remember_18 : decode cX9_remember 18 = .ok (.sipush 344, 3) := by decide +kernel
theorem dX9_remember_21 : decode cX9_remember 21 = .ok (.iload_n 1, 1) := by decide +kernel
theorem dX9_remember_22 : decode cX9_remember 22 = .ok (.iconst 1, 1) := by decide +kernel
theorem dX9_remember_23 : decode cX9_remember 23 = .ok (.iadd, 1) := by decide +kernel
theorem dX9_remember_24 : decode cX9_remember 24 = .ok (.imul, 1) := by decide +kernel
theorem dX9_remember_25 : decode cX9_remember 25 = .ok (.sipush 344, 3) := by decide +kernel
theorem dX9_remember_28 : decode cX9_remember 28 = .ok (.iload_n 1, 1) := by decide +kernel
theorem dX9_remember_29 : decode cX9_remember 29 = .ok (.imul, 1) := by decide +kernel
theorem dX9_remember_30 : decode cX9_remember 30 = .ok (.invokevirtual 158, 3) := by decide +kernel
theorem dX9_remember_33 : decode cX9_remember 33 = .ok (.iinc 1 1, 3) := by decide +kernel
theorem dX9_remember_36 : decode cX9_remember 36 = .ok (.goto (-25), 3) := by decide +kernel
theorem dX9_remember_39 : decode cX9_remember 39 = .ok (.aload_n 0, 1) := by decide +kernel
theorem dX9_remember_40 : decode cX9_remember 40 = .ok (.dup, 1) := by decide +kernel
theorem dX9_remember_41 : decode cX9_remember 41 = .ok (.getfield 143, 3) := by decide +kernel
theorem dX9_remember_44 : decode cX9_remember 44 = .ok (.iconst 1, 1) := by decide +kernel
theorem dX9_remember_45 : decode cX9_remember 45 = .ok (.isub, 1) := by decide +kernel
theorem dX9_remember_46 : decode cX9_remember 46 = .ok (.putfield 143, 3) := by decide +kernel
theorem dX9_remember_49 : decode cX9_remember 49 = .ok (.aload_n 0, 1) := by decide +kernel
theorem dX9_remember_50 : decode cX9_remember 50 = .ok (.iconst 0, 1) := by decide +kernel
theorem dX9_remember_51 : decode cX9_remember 51 = .ok (.sipush 344, 3) := by decide +kernel
theorem dX9_remember_54 : decode cX9_remember 54 = .ok (.aload_n 0, 1) := by decide +kernel
theorem dX9_remember_55 : decode cX9_remember 55 = .ok (.getfield 143, 3) := by decide +kernel
theorem dX9_remember_58 : decode cX9_remember 58 = .ok (.iconst 1, 1) := by decide +kernel
theorem dX9_remember_59 : decode cX9_remember 59 = .ok (.iadd, 1) := by decide +kernel
theorem dX9_remember_60 : decode cX9_remember 60 = .ok (.imul, 1) := by decide +kernel
theorem dX9_remember_61 : decode cX9_remember 61 = .ok (.invokevirtual 158, 3) := by decide +kernel
theorem dX9_remember_64 : decode cX9_remember 64 = .ok (.aload_n 0, 1) := by decide +kernel
theorem dX9_remember_65 : decode cX9_remember 65 = .ok (.dup, 1) := by decide +kernel
theorem dX9_remember_66 : decode cX9_remember 66 = .ok (.getfield 143, 3) := by decide +kernel
theorem dX9_remember_69 : decode cX9_remember 69 = .ok (.iconst 1, 1) := by decide +kernel
theorem dX9_remember_70 : decode cX9_remember 70 = .ok (.iadd, 1) := by decide +kernel
theorem dX9_remember_71 : decode cX9_remember 71 = .ok (.putfield 143, 3) := by decide +kernel
theorem dX9_remember_74 : decode cX9_remember 74 = .ok (.return_, 1) := by decide +kernel
theorem dX9_step_0 : decode cX9_step 0 = .ok (.aload_n 0, 1) := by decide +kernel
theorem dX9_step_1 : decode cX9_step 1 = .ok (.iconst 0, 1) := by decide +kernel
theorem dX9_step_2 : decode cX9_step 2 = .ok (.invokevirtual 161, 3) := by decide +kernel
theorem dX9_step_5 : decode cX9_step 5 = .ok (.ifCond .ne 13, 3) := by decide +kernel
theorem dX9_step_8 : decode cX9_step 8 = .ok (.aload_n 0, 1) := by decide +kernel
theorem dX9_step_9 : decode cX9_step 9 = .ok (.getfield 7, 3) := by decide +kernel
theorem dX9_step_12 : decode cX9_step 12 = .ok (.iconst 2, 1) := by decide +kernel
theorem dX9_step_13 : decode cX9_step 13 = .ok (.iaload, 1) := by decide +kernel
theorem dX9_step_14 : decode cX9_step 14 = .ok (.iconst 1, 1) := by decide +kernel
theorem dX9_step_15 : decode cX9_step 15 = .ok (.if_icmp .ne 6, 3) := by decide +kernel
theorem dX9_step_18 : decode cX9_step 18 = .ok (.ldc 193, 2) := by decide +kernel
theorem dX9_step_20 : decode cX9_step 20 = .ok (.ireturn, 1) := by decide +kernel
theorem dX9_step_21 : decode cX9_step 21 = .ok (.aload_n 0, 1) := by decide +kernel
theorem dX9_step_22 : decode cX9_step 22 = .ok (.invokevirtual 194, 3) := by decide +kernel
theorem dX9_step_25 : decode cX9_step 25 = .ok (.aload_n 0, 1) := by decide +kernel
theorem dX9_step_26 : decode cX9_step 26 = .ok (.iconst 0, 1) := by decide +kernel
theorem dX9_step_27 : decode cX9_step 27 = .ok (.invokevirtual 165, 3) := by decide +kernel
theorem dX9_step_30 : decode cX9_step 30 = .ok (.aload_n 0, 1) := by decide +kernel
theorem dX9_step_31 : decode cX9_step 31 = .ok (.getfield 7, 3) := by decide +kernel
theorem dX9_step_34 : decode cX9_step 34 = .ok (.iconst 0, 1) := by decide +kernel
theorem dX9_step_35 : decode cX9_step 35 = .ok (.iaload, 1) := by decide +kernel
theorem dX9_step_36 : decode cX9_step 36 = .ok (.ireturn, 1) := by decide +kernel
theorem dX9_run_0 : decode cX9_run 0 = .ok (.iload_n 1, 1) := by decide +kernel
theorem dX9_run_1 : decode cX9_run 1 = .ok (.iconst 1, 1) := by decide +kernel
theorem dX9_run_2 : decode cX9_run 2 = .ok (.sipush 200, 3) := by decide +kernel
theorem dX9_run_5 : decode cX9_run 5 = .ok (.invokestatic 41, 3) := by decide +kernel
theorem dX9_run_8 : decode cX9_run 8 = .ok (.ifCond .ne 6, 3) := by decide +kernel
theorem dX9_run_11 : decode cX9_run 11 = .ok (.ldc 101, 2) := by decide +kernel
theorem dX9_run_13 : decode cX9_run 13 = .ok (.ireturn, 1) := by decide +kernel
theorem dX9_run_14 : decode cX9_run 14 = .ok (.aload_n 0, 1) := by decide +kernel
theorem dX9_run_15 : decode cX9_run 15 = .ok (.getfield 7, 3) := by decide +kernel
theorem dX9_run_18 : decode cX9_run 18 = .ok (.iconst 2, 1) := by decide +kernel
theorem dX9_run_19 : decode cX9_run 19 = .ok (.iaload, 1) := by decide +kernel
theorem dX9_run_20 : decode cX9_run 20 = .ok (.iconst 1, 1) := by decide +kernel
theorem dX9_run_21 : decode cX9_run 21 = .ok (.if_icmp .ne 6, 3) := by decide +kernel
theorem dX9_run_24 : decode cX9_run 24 = .ok (.ldc 193, 2) := by decide +kernel
theorem dX9_run_26 : decode cX9_run 26 = .ok (.ireturn, 1) := by decide +kernel
theorem dX9_run_27 : decode cX9_run 27 = .ok (.aload_n 0, 1) := by decide +kernel
theorem dX9_run_28 : decode cX9_run 28 = .ok (.invokevirtual 194, 3) := by decide +kernel
theorem dX9_run_31 : decode cX9_run 31 = .ok (.aload_n 0, 1) := by decide +kernel
theorem dX9_run_32 : decode cX9_run 32 = .ok (.getfield 7, 3) := by decide +kernel
theorem dX9_run_35 : decode cX9_run 35 = .ok (.iconst 0, 1) := by decide +kernel
theorem dX9_run_36 : decode cX9_run 36 = .ok (.iaload, 1) := by decide +kernel
theorem dX9_run_37 : decode cX9_run 37 = .ok (.iload_n 1, 1) := by decide +kernel
theorem dX9_run_38 : decode cX9_run 38 = .ok (.iadd, 1) := by decide +kernel
theorem dX9_run_39 : decode cX9_run 39 = .ok (.istore_n 2, 1) := by decide +kernel
theorem dX9_run_40 : decode cX9_run 40 = .ok (.iconst 0, 1) := by decide +kernel
theorem dX9_run_41 : decode cX9_run 41 = .ok (.istore_n 3, 1) := by decide +kernel
theorem dX9_run_42 : decode cX9_run 42 = .ok (.aload_n 0, 1) := by decide +kernel
theorem dX9_run_43 : decode cX9_run 43 = .ok (.iconst 0, 1) := by decide +kernel
theorem dX9_run_44 : decode cX9_run 44 = .ok (.invokevirtual 161, 3) := by decide +kernel
theorem dX9_run_47 : decode cX9_run 47 = .ok (.ifCond .ne 23, 3) := by decide +kernel
theorem dX9_run_50 : decode cX9_run 50 = .ok (.aload_n 0, 1) := by decide +kernel
theorem dX9_run_51 : decode cX9_run 51 = .ok (.iconst 0, 1) := by decide +kernel
theorem dX9_run_52 : decode cX9_run 52 = .ok (.invokevirtual 95, 3) := by decide +kernel
theorem dX9_run_55 : decode cX9_run 55 = .ok (.iload_n 2, 1) := by decide +kernel
theorem dX9_run_56 : decode cX9_run 56 = .ok (.if_icmp .gt 14, 3) := by decide +kernel
theorem dX9_run_59 : decode cX9_run 59 = .ok (.aload_n 0, 1) := by decide +kernel
theorem dX9_run_60 : decode cX9_run 60 = .ok (.iconst 0, 1) := by decide +kernel
theorem dX9_run_61 : decode cX9_run 61 = .ok (.invokevirtual 165, 3) := by decide +kernel
theorem dX9_run_64 : decode cX9_run 64 = .ok (.iinc 3 1, 3) := by decide +kernel
theorem dX9_run_67 : decode cX9_run 67 = .ok (.goto (-25), 3) := by decide +kernel
theorem dX9_run_70 : decode cX9_run 70 = .ok (.aload_n 0, 1) := by decide +kernel
theorem dX9_run_71 : decode cX9_run 71 = .ok (.getfield 7, 3) := by decide +kernel
theorem dX9_run_74 : decode cX9_run 74 = .ok (.iconst 0, 1) := by decide +kernel
theorem dX9_run_75 : decode cX9_run 75 = .ok (.aload_n 0, 1) := by decide +kernel
theorem dX9_run_76 : decode cX9_run 76 = .ok (.getfield 7, 3) := by decide +kernel
theorem dX9_run_79 : decode cX9_run 79 = .ok (.iconst 2, 1) := by decide +kernel
theorem dX9_run_80 : decode cX9_run 80 = .ok (.iaload, 1) := by decide +kernel
theorem dX9_run_81 : decode cX9_run 81 = .ok (.iconst 1, 1) := by decide +kernel
theorem dX9_run_82 : decode cX9_run 82 = .ok (.if_icmp .ne 12, 3) := by decide +kernel
theorem dX9_run_85 : decode cX9_run 85 = .ok (.aload_n 0, 1) := by decide +kernel
theorem dX9_run_86 : decode cX9_run 86 = .ok (.getfield 7, 3) := by decide +kernel
theorem dX9_run_89 : decode cX9_run 89 = .ok (.iconst 0, 1) := by decide +kernel
theorem dX9_run_90 : decode cX9_run 90 = .ok (.iaload, 1) := by decide +kernel
theorem dX9_run_91 : decode cX9_run 91 = .ok (.goto 4, 3) := by decide +kernel
theorem dX9_run_94 : decode cX9_run 94 = .ok (.iload_n 2, 1) := by decide +kernel
theorem dX9_run_95 : decode cX9_run 95 = .ok (.iastore, 1) := by decide +kernel
theorem dX9_run_96 : decode cX9_run 96 = .ok (.iload_n 3, 1) := by decide +kernel
theorem dX9_run_97 : decode cX9_run 97 = .ok (.ireturn, 1) := by decide +kernel
theorem dX9_mayBeSet_0 : decode cX9_mayBeSet 0 = .ok (.aload_n 0, 1) := by decide +kernel
theorem dX9_mayBeSet_1 : decode cX9_mayBeSet 1 = .ok (.iload_n 1, 1) := by decide +kernel
theorem dX9_mayBeSet_2 : decode cX9_mayBeSet 2 = .ok (.invokevirtual 82, 3) := by decide +kernel
theorem dX9_mayBeSet_5 : decode cX9_mayBeSet 5 = .ok (.ifCond .gt 13, 3) := by decide +kernel
theorem dX9_mayBeSet_8 : decode cX9_mayBeSet 8 = .ok (.aload_n 0, 1) := by decide +kernel
theorem dX9_mayBeSet_9 : decode cX9_mayBeSet 9 = .ok (.getfield 7, 3) := by decide +kernel
theorem dX9_mayBeSet_12 : decode cX9_mayBeSet 12 = .ok (.iconst 2, 1) := by decide +kernel
theorem dX9_mayBeSet_13 : decode cX9_mayBeSet 13 = .ok (.iaload, 1) := by decide +kernel
theorem dX9_mayBeSet_14 : decode cX9_mayBeSet 14 = .ok (.iconst 1, 1) := by decide +kernel
theorem dX9_mayBeSet_15 : decode cX9_mayBeSet 15 = .ok (.if_icmp .ne 6, 3) := by decide +kernel
theorem dX9_mayBeSet_18 : decode cX9_mayBeSet 18 = .ok (.ldc 193, 2) := by decide +kernel
theorem dX9_mayBeSet_20 : decode cX9_mayBeSet 20 = .ok (.ireturn, 1) := by decide +kernel
theorem dX9_mayBeSet_21 : decode cX9_mayBeSet 21 = .ok (.aload_n 0, 1) := by decide +kernel
theorem dX9_mayBeSet_22 : decode cX9_mayBeSet 22 = .ok (.getfield 7, 3) := by decide +kernel
theorem dX9_mayBeSet_25 : decode cX9_mayBeSet 25 = .ok (.iconst 3, 1) := by decide +kernel
theorem dX9_mayBeSet_26 : decode cX9_mayBeSet 26 = .ok (.iaload, 1) := by decide +kernel
theorem dX9_mayBeSet_27 : decode cX9_mayBeSet 27 = .ok (.bipush 8, 2) := by decide +kernel
theorem dX9_mayBeSet_29 : decode cX9_mayBeSet 29 = .ok (.if_icmp .ne 8, 3) := by decide +kernel
theorem dX9_mayBeSet_32 : decode cX9_mayBeSet 32 = .ok (.ldc 105, 2) := by decide +kernel
theorem dX9_mayBeSet_34 : decode cX9_mayBeSet 34 = .ok (.goto 4, 3) := by decide +kernel
theorem dX9_mayBeSet_37 : decode cX9_mayBeSet 37 = .ok (.iconst 1, 1) := by decide +kernel
theorem dX9_mayBeSet_38 : decode cX9_mayBeSet 38 = .ok (.ireturn, 1) := by decide +kernel
theorem dX9_layHand_0 : decode cX9_layHand 0 = .ok (.aload_n 0, 1) := by decide +kernel
theorem dX9_layHand_1 : decode cX9_layHand 1 = .ok (.getfield 7, 3) := by decide +kernel
theorem dX9_layHand_4 : decode cX9_layHand 4 = .ok (.iconst 3, 1) := by decide +kernel
theorem dX9_layHand_5 : decode cX9_layHand 5 = .ok (.iaload, 1) := by decide +kernel
theorem dX9_layHand_6 : decode cX9_layHand 6 = .ok (.istore 4, 2) := by decide +kernel
theorem dX9_layHand_8 : decode cX9_layHand 8 = .ok (.iload 4, 2) := by decide +kernel
theorem dX9_layHand_10 : decode cX9_layHand 10 = .ok (.ifCond .le 98, 3) := by decide +kernel
theorem dX9_layHand_13 : decode cX9_layHand 13 = .ok (.aload_n 0, 1) := by decide +kernel
theorem dX9_layHand_14 : decode cX9_layHand 14 = .ok (.getfield 7, 3) := by decide +kernel
theorem dX9_layHand_17 : decode cX9_layHand 17 = .ok (.sipush 320, 3) := by decide +kernel
theorem dX9_layHand_20 : decode cX9_layHand 20 = .ok (.iload 4, 2) := by decide +kernel
theorem dX9_layHand_22 : decode cX9_layHand 22 = .ok (.iadd, 1) := by decide +kernel
theorem dX9_layHand_23 : decode cX9_layHand 23 = .ok (.iconst 1, 1) := by decide +kernel
theorem dX9_layHand_24 : decode cX9_layHand 24 = .ok (.isub, 1) := by decide +kernel
theorem dX9_layHand_25 : decode cX9_layHand 25 = .ok (.iaload, 1) := by decide +kernel
theorem dX9_layHand_26 : decode cX9_layHand 26 = .ok (.iload_n 3, 1) := by decide +kernel
theorem dX9_layHand_27 : decode cX9_layHand 27 = .ok (.if_icmp .le 81, 3) := by decide +kernel
theorem dX9_layHand_30 : decode cX9_layHand 30 = .ok (.aload_n 0, 1) := by decide +kernel
theorem dX9_layHand_31 : decode cX9_layHand 31 = .ok (.getfield 7, 3) := by decide +kernel
theorem dX9_layHand_34 : decode cX9_layHand 34 = .ok (.sipush 320, 3) := by decide +kernel
theorem dX9_layHand_37 : decode cX9_layHand 37 = .ok (.iload 4, 2) := by decide +kernel
theorem dX9_layHand_39 : decode cX9_layHand 39 = .ok (.iadd, 1) := by decide +kernel
theorem dX9_layHand_40 : decode cX9_layHand 40 = .ok (.aload_n 0, 1) := by decide +kernel
theorem dX9_layHand_41 : decode cX9_layHand 41 = .ok (.getfield 7, 3) := by decide +kernel
theorem dX9_layHand_44 : decode cX9_layHand 44 = .ok (.sipush 320, 3) := by decide +kernel
theorem dX9_layHand_47 : decode cX9_layHand 47 = .ok (.iload 4, 2) := by decide +kernel
theorem dX9_layHand_49 : decode cX9_layHand 49 = .ok (.iadd, 1) := by decide +kernel
theorem dX9_layHand_50 : decode cX9_layHand 50 = .ok (.iconst 1, 1) := by decide +kernel
theorem dX9_layHand_51 : decode cX9_layHand 51 = .ok (.isub, 1) := by decide +kernel
theorem dX9_layHand_52 : decode cX9_layHand 52 = .ok (.iaload, 1) := by decide +kernel
theorem dX9_layHand_53 : decode cX9_layHand 53 = .ok (.iastore, 1) := by decide +kernel
theorem dX9_layHand_54 : decode cX9_layHand 54 = .ok (.aload_n 0, 1) := by decide +kernel
theorem dX9_layHand_55 : decode cX9_layHand 55 = .ok (.getfield 7, 3) := by decide +kernel
theorem dX9_layHand_58 : decode cX9_layHand 58 = .ok (.sipush 328, 3) := by decide +kernel
theorem dX9_layHand_61 : decode cX9_layHand 61 = .ok (.iload 4, 2) := by decide +kernel
theorem dX9_layHand_63 : decode cX9_layHand 63 = .ok (.iadd, 1) := by decide +kernel
theorem dX9_layHand_64 : decode cX9_layHand 64 = .ok (.aload_n 0, 1) := by decide +kernel
theorem dX9_layHand_65 : decode cX9_layHand 65 = .ok (.getfield 7, 3) := by decide +kernel
theorem dX9_layHand_68 : decode cX9_layHand 68 = .ok (.sipush 328, 3) := by decide +kernel
theorem dX9_layHand_71 : decode cX9_layHand 71 = .ok (.iload 4, 2) := by decide +kernel
theorem dX9_layHand_73 : decode cX9_layHand 73 = .ok (.iadd, 1) := by decide +kernel
theorem dX9_layHand_74 : decode cX9_layHand 74 = .ok (.iconst 1, 1) := by decide +kernel
theorem dX9_layHand_75 : decode cX9_layHand 75 = .ok (.isub, 1) := by decide +kernel
theorem dX9_layHand_76 : decode cX9_layHand 76 = .ok (.iaload, 1) := by decide +kernel
theorem dX9_layHand_77 : decode cX9_layHand 77 = .ok (.iastore, 1) := by decide +kernel
theorem dX9_layHand_78 : decode cX9_layHand 78 = .ok (.aload_n 0, 1) := by decide +kernel
theorem dX9_layHand_79 : decode cX9_layHand 79 = .ok (.getfield 7, 3) := by decide +kernel
theorem dX9_layHand_82 : decode cX9_layHand 82 = .ok (.sipush 336, 3) := by decide +kernel
theorem dX9_layHand_85 : decode cX9_layHand 85 = .ok (.iload 4, 2) := by decide +kernel
theorem dX9_layHand_87 : decode cX9_layHand 87 = .ok (.iadd, 1) := by decide +kernel
theorem dX9_layHand_88 : decode cX9_layHand 88 = .ok (.aload_n 0, 1) := by decide +kernel
theorem dX9_layHand_89 : decode cX9_layHand 89 = .ok (.getfield 7, 3) := by decide +kernel
theorem dX9_layHand_92 : decode cX9_layHand 92 = .ok (.sipush 336, 3) := by decide +kernel
theorem dX9_layHand_95 : decode cX9_layHand 95 = .ok (.iload 4, 2) := by decide +kernel
theorem dX9_layHand_97 : decode cX9_layHand 97 = .ok (.iadd, 1) := by decide +kernel
theorem dX9_layHand_98 : decode cX9_layHand 98 = .ok (.iconst 1, 1) := by decide +kernel
theorem dX9_layHand_99 : decode cX9_layHand 99 = .ok (.isub, 1) := by decide +kernel
theorem dX9_layHand_100 : decode cX9_layHand 100 = .ok (.iaload, 1) := by decide +kernel
theorem dX9_layHand_101 : decode cX9_layHand 101 = .ok (.iastore, 1) := by decide +kernel
theorem dX9_layHand_102 : decode cX9_layHand 102 = .ok (.iinc 4 (-1), 3) := by decide +kernel
theorem dX9_layHand_105 : decode cX9_layHand 105 = .ok (.goto (-97), 3) := by decide +kernel
theorem dX9_layHand_108 : decode cX9_layHand 108 = .ok (.aload_n 0, 1) := by decide +kernel
theorem dX9_layHand_109 : decode cX9_layHand 109 = .ok (.getfield 7, 3) := by decide +kernel
theorem dX9_layHand_112 : decode cX9_layHand 112 = .ok (.sipush 320, 3) := by decide +kernel
theorem dX9_layHand_115 : decode cX9_layHand 115 = .ok (.iload 4, 2) := by decide +kernel
theorem dX9_layHand_117 : decode cX9_layHand 117 = .ok (.iadd, 1) := by decide +kernel
theorem dX9_layHand_118 : decode cX9_layHand 118 = .ok (.iload_n 3, 1) := by decide +kernel
theorem dX9_layHand_119 : decode cX9_layHand 119 = .ok (.iastore, 1) := by decide +kernel
theorem dX9_layHand_120 : decode cX9_layHand 120 = .ok (.aload_n 0, 1) := by decide +kernel
theorem dX9_layHand_121 : decode cX9_layHand 121 = .ok (.getfield 7, 3) := by decide +kernel
theorem dX9_layHand_124 : decode cX9_layHand 124 = .ok (.sipush 328, 3) := by decide +kernel
theorem dX9_layHand_127 : decode cX9_layHand 127 = .ok (.iload 4, 2) := by decide +kernel
theorem dX9_layHand_129 : decode cX9_layHand 129 = .ok (.iadd, 1) := by decide +kernel
theorem dX9_layHand_130 : decode cX9_layHand 130 = .ok (.iload_n 1, 1) := by decide +kernel
theorem dX9_layHand_131 : decode cX9_layHand 131 = .ok (.iastore, 1) := by decide +kernel
theorem dX9_layHand_132 : decode cX9_layHand 132 = .ok (.aload_n 0, 1) := by decide +kernel
theorem dX9_layHand_133 : decode cX9_layHand 133 = .ok (.getfield 7, 3) := by decide +kernel
theorem dX9_layHand_136 : decode cX9_layHand 136 = .ok (.sipush 336, 3) := by decide +kernel
theorem dX9_layHand_139 : decode cX9_layHand 139 = .ok (.iload 4, 2) := by decide +kernel
theorem dX9_layHand_141 : decode cX9_layHand 141 = .ok (.iadd, 1) := by decide +kernel
theorem dX9_layHand_142 : decode cX9_layHand 142 = .ok (.iload_n 2, 1) := by decide +kernel
theorem dX9_layHand_143 : decode cX9_layHand 143 = .ok (.iastore, 1) := by decide +kernel
theorem dX9_layHand_144 : decode cX9_layHand 144 = .ok (.aload_n 0, 1) := by decide +kernel
theorem dX9_layHand_145 : decode cX9_layHand 145 = .ok (.getfield 7, 3) := by decide +kernel
theorem dX9_layHand_148 : decode cX9_layHand 148 = .ok (.iconst 3, 1) := by decide +kernel
theorem dX9_layHand_149 : decode cX9_layHand 149 = .ok (.dup2, 1) := by decide +kernel
theorem dX9_layHand_150 : decode cX9_layHand 150 = .ok (.iaload, 1) := by decide +kernel
theorem dX9_layHand_151 : decode cX9_layHand 151 = .ok (.iconst 1, 1) := by decide +kernel
theorem dX9_layHand_152 : decode cX9_layHand 152 = .ok (.iadd, 1) := by decide +kernel
theorem dX9_layHand_153 : decode cX9_layHand 153 = .ok (.iastore, 1) := by decide +kernel
theorem dX9_layHand_154 : decode cX9_layHand 154 = .ok (.return_, 1) := by decide +kernel
theorem dX9_set_0 : decode cX9_set 0 = .ok (.aload_n 0, 1) := by decide +kernel
theorem dX9_set_1 : decode cX9_set 1 = .ok (.iload_n 1, 1) := by decide +kernel
theorem dX9_set_2 : decode cX9_set 2 = .ok (.invokevirtual 168, 3) := by decide +kernel
theorem dX9_set_5 : decode cX9_set 5 = .ok (.ifCond .eq 10, 3) := by decide +kernel
theorem dX9_set_8 : decode cX9_set 8 = .ok (.iload_n 2, 1) := by decide +kernel
theorem dX9_set_9 : decode cX9_set 9 = .ok (.invokestatic 190, 3) := by decide +kernel
theorem dX9_set_12 : decode cX9_set 12 = .ok (.ifCond .ne 6, 3) := by decide +kernel
theorem dX9_set_15 : decode cX9_set 15 = .ok (.ldc 183, 2) := by decide +kernel
theorem dX9_set_17 : decode cX9_set 17 = .ok (.ireturn, 1) := by decide +kernel
theorem dX9_set_18 : decode cX9_set 18 = .ok (.iload_n 3, 1) := by decide +kernel
theorem dX9_set_19 : decode cX9_set 19 = .ok (.iconst 0, 1) := by decide +kernel
theorem dX9_set_20 : decode cX9_set 20 = .ok (.bipush 20, 2) := by decide +kernel
theorem dX9_set_22 : decode cX9_set 22 = .ok (.invokestatic 41, 3) := by decide +kernel
theorem dX9_set_25 : decode cX9_set 25 = .ok (.ifCond .ne 6, 3) := by decide +kernel
theorem dX9_set_28 : decode cX9_set 28 = .ok (.ldc 101, 2) := by decide +kernel
theorem dX9_set_30 : decode cX9_set 30 = .ok (.ireturn, 1) := by decide +kernel
theorem dX9_set_31 : decode cX9_set 31 = .ok (.aload_n 0, 1) := by decide +kernel
theorem dX9_set_32 : decode cX9_set 32 = .ok (.iload_n 1, 1) := by decide +kernel
theorem dX9_set_33 : decode cX9_set 33 = .ok (.invokevirtual 197, 3) := by decide +kernel
theorem dX9_set_36 : decode cX9_set 36 = .ok (.istore 4, 2) := by decide +kernel
theorem dX9_set_38 : decode cX9_set 38 = .ok (.iload 4, 2) := by decide +kernel
theorem dX9_set_40 : decode cX9_set 40 = .ok (.iconst 1, 1) := by decide +kernel
theorem dX9_set_41 : decode cX9_set 41 = .ok (.if_icmp .eq 6, 3) := by decide +kernel
theorem dX9_set_44 : decode cX9_set 44 = .ok (.iload 4, 2) := by decide +kernel
theorem dX9_set_46 : decode cX9_set 46 = .ok (.ireturn, 1) := by decide +kernel
theorem dX9_set_47 : decode cX9_set 47 = .ok (.aload_n 0, 1) := by decide +kernel
theorem dX9_set_48 : decode cX9_set 48 = .ok (.invokevirtual 194, 3) := by decide +kernel
theorem dX9_set_51 : decode cX9_set 51 = .ok (.aload_n 0, 1) := by decide +kernel
theorem dX9_set_52 : decode cX9_set 52 = .ok (.iload_n 1, 1) := by decide +kernel
theorem dX9_set_53 : decode cX9_set 53 = .ok (.iload_n 2, 1) := by decide +kernel
theorem dX9_set_54 : decode cX9_set 54 = .ok (.aload_n 0, 1) := by decide +kernel
theorem dX9_set_55 : decode cX9_set 55 = .ok (.getfield 7, 3) := by decide +kernel
theorem dX9_set_58 : decode cX9_set 58 = .ok (.iconst 0, 1) := by decide +kernel
theorem dX9_set_59 : decode cX9_set 59 = .ok (.iaload, 1) := by decide +kernel
theorem dX9_set_60 : decode cX9_set 60 = .ok (.iload_n 3, 1) := by decide +kernel
theorem dX9_set_61 : decode cX9_set 61 = .ok (.iadd, 1) := by decide +kernel
theorem dX9_set_62 : decode cX9_set 62 = .ok (.invokevirtual 200, 3) := by decide +kernel
theorem dX9_set_65 : decode cX9_set 65 = .ok (.aload_n 0, 1) := by decide +kernel
theorem dX9_set_66 : decode cX9_set 66 = .ok (.getfield 7, 3) := by decide +kernel
theorem dX9_set_69 : decode cX9_set 69 = .ok (.iconst 3, 1) := by decide +kernel
theorem dX9_set_70 : decode cX9_set 70 = .ok (.iaload, 1) := by decide +kernel
theorem dX9_set_71 : decode cX9_set 71 = .ok (.ireturn, 1) := by decide +kernel
theorem dX9_calm_0 : decode cX9_calm 0 = .ok (.aload_n 0, 1) := by decide +kernel
theorem dX9_calm_1 : decode cX9_calm 1 = .ok (.getfield 7, 3) := by decide +kernel
theorem dX9_calm_4 : decode cX9_calm 4 = .ok (.iconst 2, 1) := by decide +kernel
theorem dX9_calm_5 : decode cX9_calm 5 = .ok (.iaload, 1) := by decide +kernel
theorem dX9_calm_6 : decode cX9_calm 6 = .ok (.ifCond .ne 6, 3) := by decide +kernel
theorem dX9_calm_9 : decode cX9_calm 9 = .ok (.ldc 193, 2) := by decide +kernel
theorem dX9_calm_11 : decode cX9_calm 11 = .ok (.ireturn, 1) := by decide +kernel
theorem dX9_calm_12 : decode cX9_calm 12 = .ok (.aload_n 0, 1) := by decide +kernel
theorem dX9_calm_13 : decode cX9_calm 13 = .ok (.invokevirtual 194, 3) := by decide +kernel
theorem dX9_calm_16 : decode cX9_calm 16 = .ok (.aload_n 0, 1) := by decide +kernel
theorem dX9_calm_17 : decode cX9_calm 17 = .ok (.getfield 7, 3) := by decide +kernel
theorem dX9_calm_20 : decode cX9_calm 20 = .ok (.iconst 2, 1) := by decide +kernel
theorem dX9_calm_21 : decode cX9_calm 21 = .ok (.iconst 0, 1) := by decide +kernel
theorem dX9_calm_22 : decode cX9_calm 22 = .ok (.iastore, 1) := by decide +kernel
theorem dX9_calm_23 : decode cX9_calm 23 = .ok (.aload_n 0, 1) := by decide +kernel
theorem dX9_calm_24 : decode cX9_calm 24 = .ok (.iconst 0, 1) := by decide +kernel
theorem dX9_calm_25 : decode cX9_calm 25 = .ok (.invokevirtual 140, 3) := by decide +kernel
theorem dX9_calm_28 : decode cX9_calm 28 = .ok (.aload_n 0, 1) := by decide +kernel
theorem dX9_calm_29 : decode cX9_calm 29 = .ok (.getfield 7, 3) := by decide +kernel
theorem dX9_calm_32 : decode cX9_calm 32 = .ok (.iconst 0, 1) := by decide +kernel
end
section
theorem dX9_calm_33 : decode cX9_calm 33 = .ok (.iaload, 1) := by decide +kernel
theorem dX9_calm_34 : decode cX9_calm 34 = .ok (.ireturn, 1) := by decide +kernel
theorem dX9_draw_0 : decode cX9_draw 0 = .ok (.aload_n 0, 1) := by decide +kernel
theorem dX9_draw_1 : decode cX9_draw 1 = .ok (.getfield 203, 3) := by decide +kernel
theorem dX9_draw_4 : decode cX9_draw 4 = .ok (.i2l, 1) := by decide +kernel
theorem dX9_draw_5 : decode cX9_draw 5 = .ok (.ldc2_w 206, 3) := by decide +kernel
theorem dX9_draw_8 : decode cX9_draw 8 = .ok (.lmul, 1) := by decide +kernel
theorem dX9_draw_9 : decode cX9_draw 9 = .ok (.ldc2_w 208, 3) := by decide +kernel
theorem dX9_draw_12 : decode cX9_draw 12 = .ok (.ladd, 1) := by decide +kernel
theorem dX9_draw_13 : decode cX9_draw 13 = .ok (.ldc2_w 210, 3) := by decide +kernel
theorem dX9_draw_16 : decode cX9_draw 16 = .ok (.lrem, 1) := by decide +kernel
theorem dX9_draw_17 : decode cX9_draw 17 = .ok (.lstore_n 2, 1) := by decide +kernel
theorem dX9_draw_18 : decode cX9_draw 18 = .ok (.aload_n 0, 1) := by decide +kernel
theorem dX9_draw_19 : decode cX9_draw 19 = .ok (.lload_n 2, 1) := by decide +kernel
theorem dX9_draw_20 : decode cX9_draw 20 = .ok (.l2i, 1) := by decide +kernel
theorem dX9_draw_21 : decode cX9_draw 21 = .ok (.putfield 203, 3) := by decide +kernel
theorem dX9_draw_24 : decode cX9_draw 24 = .ok (.aload_n 0, 1) := by decide +kernel
theorem dX9_draw_25 : decode cX9_draw 25 = .ok (.getfield 203, 3) := by decide +kernel
theorem dX9_draw_28 : decode cX9_draw 28 = .ok (.ldc 212, 2) := by decide +kernel
theorem dX9_draw_30 : decode cX9_draw 30 = .ok (.idiv, 1) := by decide +kernel
theorem dX9_draw_31 : decode cX9_draw 31 = .ok (.iload_n 1, 1) := by decide +kernel
theorem dX9_draw_32 : decode cX9_draw 32 = .ok (.irem, 1) := by decide +kernel
theorem dX9_draw_33 : decode cX9_draw 33 = .ok (.ireturn, 1) := by decide +kernel
theorem dX9_time_0 : decode cX9_time 0 = .ok (.aload_n 0, 1) := by decide +kernel
theorem dX9_time_1 : decode cX9_time 1 = .ok (.aload_n 0, 1) := by decide +kernel
theorem dX9_time_2 : decode cX9_time 2 = .ok (.getfield 38, 3) := by decide +kernel
theorem dX9_time_5 : decode cX9_time 5 = .ok (.invokevirtual 213, 3) := by decide +kernel
theorem dX9_time_8 : decode cX9_time 8 = .ok (.istore_n 1, 1) := by decide +kernel
theorem dX9_time_9 : decode cX9_time 9 = .ok (.aload_n 0, 1) := by decide +kernel
theorem dX9_time_10 : decode cX9_time 10 = .ok (.iconst 4, 1) := by decide +kernel
theorem dX9_time_11 : decode cX9_time 11 = .ok (.invokevirtual 213, 3) := by decide +kernel
theorem dX9_time_14 : decode cX9_time 14 = .ok (.istore_n 2, 1) := by decide +kernel
theorem dX9_time_15 : decode cX9_time 15 = .ok (.aload_n 0, 1) := by decide +kernel
theorem dX9_time_16 : decode cX9_time 16 = .ok (.bipush 21, 2) := by decide +kernel
theorem dX9_time_18 : decode cX9_time 18 = .ok (.invokevirtual 213, 3) := by decide +kernel
theorem dX9_time_21 : decode cX9_time 21 = .ok (.istore_n 3, 1) := by decide +kernel
theorem dX9_time_22 : decode cX9_time 22 = .ok (.aload_n 0, 1) := by decide +kernel
theorem dX9_time_23 : decode cX9_time 23 = .ok (.iload_n 1, 1) := by decide +kernel
theorem dX9_time_24 : decode cX9_time 24 = .ok (.invokevirtual 197, 3) := by decide +kernel
theorem dX9_time_27 : decode cX9_time 27 = .ok (.iconst 1, 1) := by decide +kernel
theorem dX9_time_28 : decode cX9_time 28 = .ok (.if_icmp .ne 17, 3) := by decide +kernel
theorem dX9_time_31 : decode cX9_time 31 = .ok (.aload_n 0, 1) := by decide +kernel
theorem dX9_time_32 : decode cX9_time 32 = .ok (.iload_n 1, 1) := by decide +kernel
theorem dX9_time_33 : decode cX9_time 33 = .ok (.iload_n 2, 1) := by decide +kernel
theorem dX9_time_34 : decode cX9_time 34 = .ok (.aload_n 0, 1) := by decide +kernel
theorem dX9_time_35 : decode cX9_time 35 = .ok (.getfield 7, 3) := by decide +kernel
theorem dX9_time_38 : decode cX9_time 38 = .ok (.iconst 0, 1) := by decide +kernel
theorem dX9_time_39 : decode cX9_time 39 = .ok (.iaload, 1) := by decide +kernel
theorem dX9_time_40 : decode cX9_time 40 = .ok (.iload_n 3, 1) := by decide +kernel
theorem dX9_time_41 : decode cX9_time 41 = .ok (.iadd, 1) := by decide +kernel
theorem dX9_time_42 : decode cX9_time 42 = .ok (.invokevirtual 200, 3) := by decide +kernel
theorem dX9_time_45 : decode cX9_time 45 = .ok (.aload_n 0, 1) := by decide +kernel
theorem dX9_time_46 : decode cX9_time 46 = .ok (.iconst 0, 1) := by decide +kernel
theorem dX9_time_47 : decode cX9_time 47 = .ok (.invokevirtual 161, 3) := by decide +kernel
theorem dX9_time_50 : decode cX9_time 50 = .ok (.ifCond .ne 17, 3) := by decide +kernel
theorem dX9_time_53 : decode cX9_time 53 = .ok (.aload_n 0, 1) := by decide +kernel
theorem dX9_time_54 : decode cX9_time 54 = .ok (.getfield 7, 3) := by decide +kernel
theorem dX9_time_57 : decode cX9_time 57 = .ok (.iconst 2, 1) := by decide +kernel
theorem dX9_time_58 : decode cX9_time 58 = .ok (.iaload, 1) := by decide +kernel
theorem dX9_time_59 : decode cX9_time 59 = .ok (.ifCond .ne 8, 3) := by decide +kernel
theorem dX9_time_62 : decode cX9_time 62 = .ok (.aload_n 0, 1) := by decide +kernel
theorem dX9_time_63 : decode cX9_time 63 = .ok (.iconst 0, 1) := by decide +kernel
theorem dX9_time_64 : decode cX9_time 64 = .ok (.invokevirtual 165, 3) := by decide +kernel
theorem dX9_time_67 : decode cX9_time 67 = .ok (.return_, 1) := by decide +kernel
theorem dX9_drift_0 : decode cX9_drift 0 = .ok (.iload_n 1, 1) := by decide +kernel
theorem dX9_drift_1 : decode cX9_drift 1 = .ok (.iconst 1, 1) := by decide +kernel
theorem dX9_drift_2 : decode cX9_drift 2 = .ok (.bipush 16, 2) := by decide +kernel
theorem dX9_drift_4 : decode cX9_drift 4 = .ok (.invokestatic 41, 3) := by decide +kernel
theorem dX9_drift_7 : decode cX9_drift 7 = .ok (.ifCond .ne 6, 3) := by decide +kernel
theorem dX9_drift_10 : decode cX9_drift 10 = .ok (.ldc 101, 2) := by decide +kernel
theorem dX9_drift_12 : decode cX9_drift 12 = .ok (.ireturn, 1) := by decide +kernel
theorem dX9_drift_13 : decode cX9_drift 13 = .ok (.iconst 0, 1) := by decide +kernel
theorem dX9_drift_14 : decode cX9_drift 14 = .ok (.istore_n 2, 1) := by decide +kernel
theorem dX9_drift_15 : decode cX9_drift 15 = .ok (.iload_n 2, 1) := by decide +kernel
theorem dX9_drift_16 : decode cX9_drift 16 = .ok (.iload_n 1, 1) := by decide +kernel
theorem dX9_drift_17 : decode cX9_drift 17 = .ok (.if_icmp .ge 24, 3) := by decide +kernel
theorem dX9_drift_20 : decode cX9_drift 20 = .ok (.aload_n 0, 1) := by decide +kernel
theorem dX9_drift_21 : decode cX9_drift 21 = .ok (.getfield 38, 3) := by decide +kernel
theorem dX9_drift_24 : decode cX9_drift 24 = .ok (.ifCond .le 17, 3) := by decide +kernel
theorem dX9_drift_27 : decode cX9_drift 27 = .ok (.aload_n 0, 1) := by decide +kernel
theorem dX9_drift_28 : decode cX9_drift 28 = .ok (.invokevirtual 194, 3) := by decide +kernel
theorem dX9_drift_31 : decode cX9_drift 31 = .ok (.aload_n 0, 1) := by decide +kernel
theorem dX9_drift_32 : decode cX9_drift 32 = .ok (.invokevirtual 216, 3) := by decide +kernel
theorem dX9_drift_35 : decode cX9_drift 35 = .ok (.iinc 2 1, 3) := by decide +kernel
theorem dX9_drift_38 : decode cX9_drift 38 = .ok (.goto (-23), 3) := by decide +kernel
theorem dX9_drift_41 : decode cX9_drift 41 = .ok (.aload_n 0, 1) := by decide +kernel
theorem dX9_drift_42 : decode cX9_drift 42 = .ok (.getfield 7, 3) := by decide +kernel
theorem dX9_drift_45 : decode cX9_drift 45 = .ok (.iconst 0, 1) := by decide +kernel
theorem dX9_drift_46 : decode cX9_drift 46 = .ok (.iaload, 1) := by decide +kernel
theorem dX9_drift_47 : decode cX9_drift 47 = .ok (.ireturn, 1) := by decide +kernel
theorem dX9_undo_0 : decode cX9_undo 0 = .ok (.iload_n 1, 1) := by decide +kernel
theorem dX9_undo_1 : decode cX9_undo 1 = .ok (.iconst 1, 1) := by decide +kernel
theorem dX9_undo_2 : decode cX9_undo 2 = .ok (.bipush 16, 2) := by decide +kernel
theorem dX9_undo_4 : decode cX9_undo 4 = .ok (.invokestatic 41, 3) := by decide +kernel
theorem dX9_undo_7 : decode cX9_undo 7 = .ok (.ifCond .ne 6, 3) := by decide +kernel
theorem dX9_undo_10 : decode cX9_undo 10 = .ok (.ldc 101, 2) := by decide +kernel
theorem dX9_undo_12 : decode cX9_undo 12 = .ok (.ireturn, 1) := by decide +kernel
theorem dX9_undo_13 : decode cX9_undo 13 = .ok (.iload_n 1, 1) := by decide +kernel
theorem dX9_undo_14 : decode cX9_undo 14 = .ok (.aload_n 0, 1) := by decide +kernel
theorem dX9_undo_15 : decode cX9_undo 15 = .ok (.getfield 143, 3) := by decide +kernel
theorem dX9_undo_18 : decode cX9_undo 18 = .ok (.if_icmp .le 6, 3) := by decide +kernel
theorem dX9_undo_21 : decode cX9_undo 21 = .ok (.ldc 193, 2) := by decide +kernel
theorem dX9_undo_23 : decode cX9_undo 23 = .ok (.ireturn, 1) := by decide +kernel
theorem dX9_undo_24 : decode cX9_undo 24 = .ok (.aload_n 0, 1) := by decide +kernel
theorem dX9_undo_25 : decode cX9_undo 25 = .ok (.dup, 1) := by decide +kernel
theorem dX9_undo_26 : decode cX9_undo 26 = .ok (.getfield 143, 3) := by decide +kernel
theorem dX9_undo_29 : decode cX9_undo 29 = .ok (.iload_n 1, 1) := by decide +kernel
theorem dX9_undo_30 : decode cX9_undo 30 = .ok (.isub, 1) := by decide +kernel
theorem dX9_undo_31 : decode cX9_undo 31 = .ok (.putfield 143, 3) := by decide +kernel
theorem dX9_undo_34 : decode cX9_undo 34 = .ok (.aload_n 0, 1) := by decide +kernel
theorem dX9_undo_35 : decode cX9_undo 35 = .ok (.sipush 344, 3) := by decide +kernel
theorem dX9_undo_38 : decode cX9_undo 38 = .ok (.aload_n 0, 1) := by decide +kernel
theorem dX9_undo_39 : decode cX9_undo 39 = .ok (.getfield 143, 3) := by decide +kernel
theorem dX9_undo_42 : decode cX9_undo 42 = .ok (.iconst 1, 1) := by decide +kernel
theorem dX9_undo_43 : decode cX9_undo 43 = .ok (.iadd, 1) := by decide +kernel
theorem dX9_undo_44 : decode cX9_undo 44 = .ok (.imul, 1) := by decide +kernel
theorem dX9_undo_45 : decode cX9_undo 45 = .ok (.iconst 0, 1) := by decide +kernel
theorem dX9_undo_46 : decode cX9_undo 46 = .ok (.invokevirtual 158, 3) := by decide +kernel
theorem dX9_undo_49 : decode cX9_undo 49 = .ok (.aload_n 0, 1) := by decide +kernel
theorem dX9_undo_50 : decode cX9_undo 50 = .ok (.getfield 7, 3) := by decide +kernel
theorem dX9_undo_53 : decode cX9_undo 53 = .ok (.iconst 0, 1) := by decide +kernel
theorem dX9_undo_54 : decode cX9_undo 54 = .ok (.iaload, 1) := by decide +kernel
theorem dX9_undo_55 : decode cX9_undo 55 = .ok (.ireturn, 1) := by decide +kernel
theorem dX9_write_0 : decode cX9_write 0 = .ok (.aload_n 0, 1) := by decide +kernel
theorem dX9_write_1 : decode cX9_write 1 = .ok (.iload_n 1, 1) := by decide +kernel
theorem dX9_write_2 : decode cX9_write 2 = .ok (.invokevirtual 168, 3) := by decide +kernel
theorem dX9_write_5 : decode cX9_write 5 = .ok (.ifCond .eq 10, 3) := by decide +kernel
theorem dX9_write_8 : decode cX9_write 8 = .ok (.iload_n 2, 1) := by decide +kernel
theorem dX9_write_9 : decode cX9_write 9 = .ok (.invokestatic 190, 3) := by decide +kernel
theorem dX9_write_12 : decode cX9_write 12 = .ok (.ifCond .ne 6, 3) := by decide +kernel
theorem dX9_write_15 : decode cX9_write 15 = .ok (.ldc 183, 2) := by decide +kernel
theorem dX9_write_17 : decode cX9_write 17 = .ok (.ireturn, 1) := by decide +kernel
theorem dX9_write_18 : decode cX9_write 18 = .ok (.aload_n 0, 1) := by decide +kernel
theorem dX9_write_19 : decode cX9_write 19 = .ok (.getfield 149, 3) := by decide +kernel
theorem dX9_write_22 : decode cX9_write 22 = .ok (.bipush 20, 2) := by decide +kernel
theorem dX9_write_24 : decode cX9_write 24 = .ok (.if_icmp .ne 6, 3) := by decide +kernel
theorem dX9_write_27 : decode cX9_write 27 = .ok (.ldc 105, 2) := by decide +kernel
theorem dX9_write_29 : decode cX9_write 29 = .ok (.ireturn, 1) := by decide +kernel
theorem dX9_write_30 : decode cX9_write 30 = .ok (.aload_n 0, 1) := by decide +kernel
theorem dX9_write_31 : decode cX9_write 31 = .ok (.getfield 19, 3) := by decide +kernel
theorem dX9_write_34 : decode cX9_write 34 = .ok (.aload_n 0, 1) := by decide +kernel
theorem dX9_write_35 : decode cX9_write 35 = .ok (.getfield 149, 3) := by decide +kernel
theorem dX9_write_38 : decode cX9_write 38 = .ok (.iload_n 1, 1) := by decide +kernel
theorem dX9_write_39 : decode cX9_write 39 = .ok (.iastore, 1) := by decide +kernel
theorem dX9_write_40 : decode cX9_write 40 = .ok (.aload_n 0, 1) := by decide +kernel
theorem dX9_write_41 : decode cX9_write 41 = .ok (.getfield 22, 3) := by decide +kernel
theorem dX9_write_44 : decode cX9_write 44 = .ok (.aload_n 0, 1) := by decide +kernel
theorem dX9_write_45 : decode cX9_write 45 = .ok (.getfield 149, 3) := by decide +kernel
theorem dX9_write_48 : decode cX9_write 48 = .ok (.iload_n 2, 1) := by decide +kernel
theorem dX9_write_49 : decode cX9_write 49 = .ok (.iastore, 1) := by decide +kernel
theorem dX9_write_50 : decode cX9_write 50 = .ok (.aload_n 0, 1) := by decide +kernel
theorem dX9_write_51 : decode cX9_write 51 = .ok (.dup, 1) := by decide +kernel
theorem dX9_write_52 : decode cX9_write 52 = .ok (.getfield 149, 3) := by decide +kernel
theorem dX9_write_55 : decode cX9_write 55 = .ok (.iconst 1, 1) := by decide +kernel
theorem dX9_write_56 : decode cX9_write 56 = .ok (.iadd, 1) := by decide +kernel
theorem dX9_write_57 : decode cX9_write 57 = .ok (.putfield 149, 3) := by decide +kernel
theorem dX9_write_60 : decode cX9_write 60 = .ok (.aload_n 0, 1) := by decide +kernel
theorem dX9_write_61 : decode cX9_write 61 = .ok (.getfield 149, 3) := by decide +kernel
theorem dX9_write_64 : decode cX9_write 64 = .ok (.ireturn, 1) := by decide +kernel
theorem dX9_tear_0 : decode cX9_tear 0 = .ok (.aload_n 0, 1) := by decide +kernel
theorem dX9_tear_1 : decode cX9_tear 1 = .ok (.getfield 149, 3) := by decide +kernel
theorem dX9_tear_4 : decode cX9_tear 4 = .ok (.istore_n 1, 1) := by decide +kernel
theorem dX9_tear_5 : decode cX9_tear 5 = .ok (.aload_n 0, 1) := by decide +kernel
theorem dX9_tear_6 : decode cX9_tear 6 = .ok (.iconst 0, 1) := by decide +kernel
theorem dX9_tear_7 : decode cX9_tear 7 = .ok (.putfield 149, 3) := by decide +kernel
theorem dX9_tear_10 : decode cX9_tear 10 = .ok (.iload_n 1, 1) := by decide +kernel
theorem dX9_tear_11 : decode cX9_tear 11 = .ok (.ireturn, 1) := by decide +kernel
theorem dX9_seed_0 : decode cX9_seed 0 = .ok (.iload_n 1, 1) := by decide +kernel
theorem dX9_seed_1 : decode cX9_seed 1 = .ok (.ifCond .ge 6, 3) := by decide +kernel
theorem dX9_seed_4 : decode cX9_seed 4 = .ok (.ldc 101, 2) := by decide +kernel
theorem dX9_seed_6 : decode cX9_seed 6 = .ok (.ireturn, 1) := by decide +kernel
theorem dX9_seed_7 : decode cX9_seed 7 = .ok (.aload_n 0, 1) := by decide +kernel
theorem dX9_seed_8 : decode cX9_seed 8 = .ok (.getfield 203, 3) := by decide +kernel
theorem dX9_seed_11 : decode cX9_seed 11 = .ok (.istore_n 2, 1) := by decide +kernel
theorem dX9_seed_12 : decode cX9_seed 12 = .ok (.aload_n 0, 1) := by decide +kernel
theorem dX9_seed_13 : decode cX9_seed 13 = .ok (.iload_n 1, 1) := by decide +kernel
theorem dX9_seed_14 : decode cX9_seed 14 = .ok (.putfield 203, 3) := by decide +kernel
theorem dX9_seed_17 : decode cX9_seed 17 = .ok (.iload_n 2, 1) := by decide +kernel
theorem dX9_seed_18 : decode cX9_seed 18 = .ok (.ireturn, 1) := by decide +kernel
theorem dX9_keep_0 : decode cX9_keep 0 = .ok (.iload_n 1, 1) := by decide +kernel
theorem dX9_keep_1 : decode cX9_keep 1 = .ok (.iconst 0, 1) := by decide +kernel
theorem dX9_keep_2 : decode cX9_keep 2 = .ok (.iconst 1, 1) := by decide +kernel
theorem dX9_keep_3 : decode cX9_keep 3 = .ok (.invokestatic 41, 3) := by decide +kernel
theorem dX9_keep_6 : decode cX9_keep 6 = .ok (.ifCond .ne 6, 3) := by decide +kernel
theorem dX9_keep_9 : decode cX9_keep 9 = .ok (.ldc 183, 2) := by decide +kernel
theorem dX9_keep_11 : decode cX9_keep 11 = .ok (.ireturn, 1) := by decide +kernel
theorem dX9_keep_12 : decode cX9_keep 12 = .ok (.aload_n 0, 1) := by decide +kernel
theorem dX9_keep_13 : decode cX9_keep 13 = .ok (.iconst 0, 1) := by decide +kernel
theorem dX9_keep_14 : decode cX9_keep 14 = .ok (.sipush 5848, 3) := by decide +kernel
theorem dX9_keep_17 : decode cX9_keep 17 = .ok (.sipush 344, 3) := by decide +kernel
theorem dX9_keep_20 : decode cX9_keep 20 = .ok (.iload_n 1, 1) := by decide +kernel
theorem dX9_keep_21 : decode cX9_keep 21 = .ok (.imul, 1) := by decide +kernel
theorem dX9_keep_22 : decode cX9_keep 22 = .ok (.iadd, 1) := by decide +kernel
theorem dX9_keep_23 : decode cX9_keep 23 = .ok (.invokevirtual 158, 3) := by decide +kernel
theorem dX9_keep_26 : decode cX9_keep 26 = .ok (.aload_n 0, 1) := by decide +kernel
theorem dX9_keep_27 : decode cX9_keep 27 = .ok (.getfield 16, 3) := by decide +kernel
theorem dX9_keep_30 : decode cX9_keep 30 = .ok (.iload_n 1, 1) := by decide +kernel
theorem dX9_keep_31 : decode cX9_keep 31 = .ok (.aload_n 0, 1) := by decide +kernel
theorem dX9_keep_32 : decode cX9_keep 32 = .ok (.getfield 203, 3) := by decide +kernel
theorem dX9_keep_35 : decode cX9_keep 35 = .ok (.iastore, 1) := by decide +kernel
theorem dX9_keep_36 : decode cX9_keep 36 = .ok (.aload_n 0, 1) := by decide +kernel
theorem dX9_keep_37 : decode cX9_keep 37 = .ok (.dup, 1) := by decide +kernel
theorem dX9_keep_38 : decode cX9_keep 38 = .ok (.getfield 146, 3) := by decide +kernel
theorem dX9_keep_41 : decode cX9_keep 41 = .ok (.iconst 1, 1) := by decide +kernel
theorem dX9_keep_42 : decode cX9_keep 42 = .ok (.iload_n 1, 1) := by decide +kernel
theorem dX9_keep_43 : decode cX9_keep 43 = .ok (.ishl, 1) := by decide +kernel
theorem dX9_keep_44 : decode cX9_keep 44 = .ok (.ior, 1) := by decide +kernel
theorem dX9_keep_45 : decode cX9_keep 45 = .ok (.putfield 146, 3) := by decide +kernel
theorem dX9_keep_48 : decode cX9_keep 48 = .ok (.aload_n 0, 1) := by decide +kernel
theorem dX9_keep_49 : decode cX9_keep 49 = .ok (.iconst 0, 1) := by decide +kernel
theorem dX9_keep_50 : decode cX9_keep 50 = .ok (.putfield 143, 3) := by decide +kernel
theorem dX9_keep_53 : decode cX9_keep 53 = .ok (.iconst 1, 1) := by decide +kernel
theorem dX9_keep_54 : decode cX9_keep 54 = .ok (.ireturn, 1) := by decide +kernel
theorem dX9_goBack_0 : decode cX9_goBack 0 = .ok (.iload_n 1, 1) := by decide +kernel
theorem dX9_goBack_1 : decode cX9_goBack 1 = .ok (.iconst 0, 1) := by decide +kernel
theorem dX9_goBack_2 : decode cX9_goBack 2 = .ok (.iconst 1, 1) := by decide +kernel
theorem dX9_goBack_3 : decode cX9_goBack 3 = .ok (.invokestatic 41, 3) := by decide +kernel
theorem dX9_goBack_6 : decode cX9_goBack 6 = .ok (.ifCond .ne 6, 3) := by decide +kernel
theorem dX9_goBack_9 : decode cX9_goBack 9 = .ok (.ldc 183, 2) := by decide +kernel
theorem dX9_goBack_11 : decode cX9_goBack 11 = .ok (.ireturn, 1) := by decide +kernel
theorem dX9_goBack_12 : decode cX9_goBack 12 = .ok (.aload_n 0, 1) := by decide +kernel
theorem dX9_goBack_13 : decode cX9_goBack 13 = .ok (.getfield 146, 3) := by decide +kernel
theorem dX9_goBack_16 : decode cX9_goBack 16 = .ok (.iload_n 1, 1) := by decide +kernel
theorem dX9_goBack_17 : decode cX9_goBack 17 = .ok (.ishr, 1) := by decide +kernel
theorem dX9_goBack_18 : decode cX9_goBack 18 = .ok (.iconst 1, 1) := by decide +kernel
theorem dX9_goBack_19 : decode cX9_goBack 19 = .ok (.iand, 1) := by decide +kernel
theorem dX9_goBack_20 : decode cX9_goBack 20 = .ok (.ifCond .ne 6, 3) := by decide +kernel
theorem dX9_goBack_23 : decode cX9_goBack 23 = .ok (.ldc 193, 2) := by decide +kernel
theorem dX9_goBack_25 : decode cX9_goBack 25 = .ok (.ireturn, 1) := by decide +kernel
theorem dX9_goBack_26 : decode cX9_goBack 26 = .ok (.aload_n 0, 1) := by decide +kernel
theorem dX9_goBack_27 : decode cX9_goBack 27 = .ok (.sipush 5848, 3) := by decide +kernel
theorem dX9_goBack_30 : decode cX9_goBack 30 = .ok (.sipush 344, 3) := by decide +kernel
theorem dX9_goBack_33 : decode cX9_goBack 33 = .ok (.iload_n 1, 1) := by decide +kernel
theorem dX9_goBack_34 : decode cX9_goBack 34 = .ok (.imul, 1) := by decide +kernel
theorem dX9_goBack_35 : decode cX9_goBack 35 = .ok (.iadd, 1) := by decide +kernel
theorem dX9_goBack_36 : decode cX9_goBack 36 = .ok (.iconst 0, 1) := by decide +kernel
theorem dX9_goBack_37 : decode cX9_goBack 37 = .ok (.invokevirtual 158, 3) := by decide +kernel
theorem dX9_goBack_40 : decode cX9_goBack 40 = .ok (.aload_n 0, 1) := by decide +kernel
theorem dX9_goBack_41 : decode cX9_goBack 41 = .ok (.aload_n 0, 1) := by decide +kernel
theorem dX9_goBack_42 : decode cX9_goBack 42 = .ok (.getfield 16, 3) := by decide +kernel
theorem dX9_goBack_45 : decode cX9_goBack 45 = .ok (.iload_n 1, 1) := by decide +kernel
theorem dX9_goBack_46 : decode cX9_goBack 46 = .ok (.iaload, 1) := by decide +kernel
theorem dX9_goBack_47 : decode cX9_goBack 47 = .ok (.putfield 203, 3) := by decide +kernel
theorem dX9_goBack_50 : decode cX9_goBack 50 = .ok (.aload_n 0, 1) := by decide +kernel
theorem dX9_goBack_51 : decode cX9_goBack 51 = .ok (.iconst 0, 1) := by decide +kernel
theorem dX9_goBack_52 : decode cX9_goBack 52 = .ok (.putfield 143, 3) := by decide +kernel
theorem dX9_goBack_55 : decode cX9_goBack 55 = .ok (.iconst 1, 1) := by decide +kernel
theorem dX9_goBack_56 : decode cX9_goBack 56 = .ok (.ireturn, 1) := by decide +kernel
end
section
theorem dL_law_0 : decode cL_law 0 = .ok (.new 7, 3) := by decide +kernel
theorem dL_law_3 : decode cL_law 3 = .ok (.dup, 1) := by decide +kernel
theorem dL_law_4 : decode cL_law 4 = .ok (.invokespecial 9, 3) := by decide +kernel
theorem dL_law_7 : decode cL_law 7 = .ok (.astore_n 1, 1) := by decide +kernel
theorem dL_law_8 : decode cL_law 8 = .ok (.new 10, 3) := by decide +kernel
theorem dL_law_11 : decode cL_law 11 = .ok (.dup, 1) := by decide +kernel
theorem dL_law_12 : decode cL_law 12 = .ok (.invokespecial 12, 3) := by decide +kernel
theorem dL_law_15 : decode cL_law 15 = .ok (.astore_n 2, 1) := by decide +kernel
theorem dL_law_16 : decode cL_law 16 = .ok (.iconst 0, 1) := by decide +kernel
theorem dL_law_17 : decode cL_law 17 = .ok (.istore_n 3, 1) := by decide +kernel
theorem dL_law_18 : decode cL_law 18 = .ok (.iload_n 3, 1) := by decide +kernel
theorem dL_law_19 : decode cL_law 19 = .ok (.aload_n 0, 1) := by decide +kernel
theorem dL_law_20 : decode cL_law 20 = .ok (.arraylength, 1) := by decide +kernel
theorem dL_law_21 : decode cL_law 21 = .ok (.iconst 4, 1) := by decide +kernel
theorem dL_law_22 : decode cL_law 22 = .ok (.isub, 1) := by decide +kernel
theorem dL_law_23 : decode cL_law 23 = .ok (.if_icmp .gt 668, 3) := by decide +kernel
theorem dL_law_26 : decode cL_law 26 = .ok (.aload_n 0, 1) := by decide +kernel
theorem dL_law_27 : decode cL_law 27 = .ok (.iload_n 3, 1) := by decide +kernel
theorem dL_law_28 : decode cL_law 28 = .ok (.iaload, 1) := by decide +kernel
theorem dL_law_29 : decode cL_law 29 = .ok (.bipush 31, 2) := by decide +kernel
theorem dL_law_31 : decode cL_law 31 = .ok (.iand, 1) := by decide +kernel
theorem dL_law_32 : decode cL_law 32 = .ok (.tableswitch 653 0 20 #[100, 123, 136, 149, 172, 205, 248, 281, 324, 357, 400, 413, 436, 479, 492, 515, 538, 571, 584, 607, 630], 100) := by decide +kernel
theorem dL_law_132 : decode cL_law 132 = .ok (.aload_n 1, 1) := by decide +kernel
theorem dL_law_133 : decode cL_law 133 = .ok (.aload_n 0, 1) := by decide +kernel
theorem dL_law_134 : decode cL_law 134 = .ok (.iload_n 3, 1) := by decide +kernel
theorem dL_law_135 : decode cL_law 135 = .ok (.iconst 1, 1) := by decide +kernel
theorem dL_law_136 : decode cL_law 136 = .ok (.iadd, 1) := by decide +kernel
theorem dL_law_137 : decode cL_law 137 = .ok (.iaload, 1) := by decide +kernel
theorem dL_law_138 : decode cL_law 138 = .ok (.invokevirtual 13, 3) := by decide +kernel
theorem dL_law_141 : decode cL_law 141 = .ok (.aload_n 2, 1) := by decide +kernel
theorem dL_law_142 : decode cL_law 142 = .ok (.aload_n 0, 1) := by decide +kernel
theorem dL_law_143 : decode cL_law 143 = .ok (.iload_n 3, 1) := by decide +kernel
theorem dL_law_144 : decode cL_law 144 = .ok (.iconst 1, 1) := by decide +kernel
theorem dL_law_145 : decode cL_law 145 = .ok (.iadd, 1) := by decide +kernel
theorem dL_law_146 : decode cL_law 146 = .ok (.iaload, 1) := by decide +kernel
theorem dL_law_147 : decode cL_law 147 = .ok (.invokevirtual 17, 3) := by decide +kernel
theorem dL_law_150 : decode cL_law 150 = .ok (.if_icmp .eq 535, 3) := by decide +kernel
theorem dL_law_153 : decode cL_law 153 = .ok (.iconst 0, 1) := by decide +kernel
theorem dL_law_154 : decode cL_law 154 = .ok (.ireturn, 1) := by decide +kernel
theorem dL_law_155 : decode cL_law 155 = .ok (.aload_n 1, 1) := by decide +kernel
theorem dL_law_156 : decode cL_law 156 = .ok (.invokevirtual 18, 3) := by decide +kernel
theorem dL_law_159 : decode cL_law 159 = .ok (.aload_n 2, 1) := by decide +kernel
theorem dL_law_160 : decode cL_law 160 = .ok (.invokevirtual 22, 3) := by decide +kernel
theorem dL_law_163 : decode cL_law 163 = .ok (.if_icmp .eq 522, 3) := by decide +kernel
theorem dL_law_166 : decode cL_law 166 = .ok (.iconst 0, 1) := by decide +kernel
theorem dL_law_167 : decode cL_law 167 = .ok (.ireturn, 1) := by decide +kernel
theorem dL_law_168 : decode cL_law 168 = .ok (.aload_n 1, 1) := by decide +kernel
theorem dL_law_169 : decode cL_law 169 = .ok (.invokevirtual 23, 3) := by decide +kernel
theorem dL_law_172 : decode cL_law 172 = .ok (.aload_n 2, 1) := by decide +kernel
theorem dL_law_173 : decode cL_law 173 = .ok (.invokevirtual 26, 3) := by decide +kernel
theorem dL_law_176 : decode cL_law 176 = .ok (.if_icmp .eq 509, 3) := by decide +kernel
theorem dL_law_179 : decode cL_law 179 = .ok (.iconst 0, 1) := by decide +kernel
theorem dL_law_180 : decode cL_law 180 = .ok (.ireturn, 1) := by decide +kernel
theorem dL_law_181 : decode cL_law 181 = .ok (.aload_n 1, 1) := by decide +kernel
theorem dL_law_182 : decode cL_law 182 = .ok (.aload_n 0, 1) := by decide +kernel
theorem dL_law_183 : decode cL_law 183 = .ok (.iload_n 3, 1) := by decide +kernel
theorem dL_law_184 : decode cL_law 184 = .ok (.iconst 1, 1) := by decide +kernel
theorem dL_law_185 : decode cL_law 185 = .ok (.iadd, 1) := by decide +kernel
theorem dL_law_186 : decode cL_law 186 = .ok (.iaload, 1) := by decide +kernel
theorem dL_law_187 : decode cL_law 187 = .ok (.invokevirtual 27, 3) := by decide +kernel
theorem dL_law_190 : decode cL_law 190 = .ok (.aload_n 2, 1) := by decide +kernel
theorem dL_law_191 : decode cL_law 191 = .ok (.aload_n 0, 1) := by decide +kernel
theorem dL_law_192 : decode cL_law 192 = .ok (.iload_n 3, 1) := by decide +kernel
theorem dL_law_193 : decode cL_law 193 = .ok (.iconst 1, 1) := by decide +kernel
theorem dL_law_194 : decode cL_law 194 = .ok (.iadd, 1) := by decide +kernel
theorem dL_law_195 : decode cL_law 195 = .ok (.iaload, 1) := by decide +kernel
theorem dL_law_196 : decode cL_law 196 = .ok (.invokevirtual 30, 3) := by decide +kernel
theorem dL_law_199 : decode cL_law 199 = .ok (.if_icmp .eq 486, 3) := by decide +kernel
theorem dL_law_202 : decode cL_law 202 = .ok (.iconst 0, 1) := by decide +kernel
theorem dL_law_203 : decode cL_law 203 = .ok (.ireturn, 1) := by decide +kernel
theorem dL_law_204 : decode cL_law 204 = .ok (.aload_n 1, 1) := by decide +kernel
theorem dL_law_205 : decode cL_law 205 = .ok (.aload_n 0, 1) := by decide +kernel
theorem dL_law_206 : decode cL_law 206 = .ok (.iload_n 3, 1) := by decide +kernel
theorem dL_law_207 : decode cL_law 207 = .ok (.iconst 1, 1) := by decide +kernel
theorem dL_law_208 : decode cL_law 208 = .ok (.iadd, 1) := by decide +kernel
theorem dL_law_209 : decode cL_law 209 = .ok (.iaload, 1) := by decide +kernel
theorem dL_law_210 : decode cL_law 210 = .ok (.aload_n 0, 1) := by decide +kernel
theorem dL_law_211 : decode cL_law 211 = .ok (.iload_n 3, 1) := by decide +kernel
theorem dL_law_212 : decode cL_law 212 = .ok (.iconst 2, 1) := by decide +kernel
theorem dL_law_213 : decode cL_law 213 = .ok (.iadd, 1) := by decide +kernel
theorem dL_law_214 : decode cL_law 214 = .ok (.iaload, 1) := by decide +kernel
theorem dL_law_215 : decode cL_law 215 = .ok (.invokevirtual 31, 3) := by decide +kernel
theorem dL_law_218 : decode cL_law 218 = .ok (.aload_n 2, 1) := by decide +kernel
theorem dL_law_219 : decode cL_law 219 = .ok (.aload_n 0, 1) := by decide +kernel
theorem dL_law_220 : decode cL_law 220 = .ok (.iload_n 3, 1) := by decide +kernel
theorem dL_law_221 : decode cL_law 221 = .ok (.iconst 1, 1) := by decide +kernel
theorem dL_law_222 : decode cL_law 222 = .ok (.iadd, 1) := by decide +kernel
theorem dL_law_223 : decode cL_law 223 = .ok (.iaload, 1) := by decide +kernel
theorem dL_law_224 : decode cL_law 224 = .ok (.aload_n 0, 1) := by decide +kernel
theorem dL_law_225 : decode cL_law 225 = .ok (.iload_n 3, 1) := by decide +kernel
theorem dL_law_226 : decode cL_law 226 = .ok (.iconst 2, 1) := by decide +kernel
theorem dL_law_227 : decode cL_law 227 = .ok (.iadd, 1) := by decide +kernel
theorem dL_law_228 : decode cL_law 228 = .ok (.iaload, 1) := by decide +kernel
theorem dL_law_229 : decode cL_law 229 = .ok (.invokevirtual 35, 3) := by decide +kernel
theorem dL_law_232 : decode cL_law 232 = .ok (.if_icmp .eq 453, 3) := by decide +kernel
theorem dL_law_235 : decode cL_law 235 = .ok (.iconst 0, 1) := by decide +kernel
theorem dL_law_236 : decode cL_law 236 = .ok (.ireturn, 1) := by decide +kernel
theorem dL_law_237 : decode cL_law 237 = .ok (.aload_n 1, 1) := by decide +kernel
theorem dL_law_238 : decode cL_law 238 = .ok (.aload_n 0, 1) := by decide +kernel
theorem dL_law_239 : decode cL_law 239 = .ok (.iload_n 3, 1) := by decide +kernel
theorem dL_law_240 : decode cL_law 240 = .ok (.iconst 1, 1) := by decide +kernel
theorem dL_law_241 : decode cL_law 241 = .ok (.iadd, 1) := by decide +kernel
theorem dL_law_242 : decode cL_law 242 = .ok (.iaload, 1) := by decide +kernel
theorem dL_law_243 : decode cL_law 243 = .ok (.aload_n 0, 1) := by decide +kernel
theorem dL_law_244 : decode cL_law 244 = .ok (.iload_n 3, 1) := by decide +kernel
theorem dL_law_245 : decode cL_law 245 = .ok (.iconst 2, 1) := by decide +kernel
theorem dL_law_246 : decode cL_law 246 = .ok (.iadd, 1) := by decide +kernel
theorem dL_law_247 : decode cL_law 247 = .ok (.iaload, 1) := by decide +kernel
theorem dL_law_248 : decode cL_law 248 = .ok (.aload_n 0, 1) := by decide +kernel
theorem dL_law_249 : decode cL_law 249 = .ok (.iload_n 3, 1) := by decide +kernel
theorem dL_law_250 : decode cL_law 250 = .ok (.iconst 3, 1) := by decide +kernel
theorem dL_law_251 : decode cL_law 251 = .ok (.iadd, 1) := by decide +kernel
theorem dL_law_252 : decode cL_law 252 = .ok (.iaload, 1) := by decide +kernel
theorem dL_law_253 : decode cL_law 253 = .ok (.invokevirtual 36, 3) := by decide +kernel
theorem dL_law_256 : decode cL_law 256 = .ok (.aload_n 2, 1) := by decide +kernel
theorem dL_law_257 : decode cL_law 257 = .ok (.aload_n 0, 1) := by decide +kernel
theorem dL_law_258 : decode cL_law 258 = .ok (.iload_n 3, 1) := by decide +kernel
theorem dL_law_259 : decode cL_law 259 = .ok (.iconst 1, 1) := by decide +kernel
theorem dL_law_260 : decode cL_law 260 = .ok (.iadd, 1) := by decide +kernel
theorem dL_law_261 : decode cL_law 261 = .ok (.iaload, 1) := by decide +kernel
theorem dL_law_262 : decode cL_law 262 = .ok (.aload_n 0, 1) := by decide +kernel
theorem dL_law_263 : decode cL_law 263 = .ok (.iload_n 3, 1) := by decide +kernel
theorem dL_law_264 : decode cL_law 264 = .ok (.iconst 2, 1) := by decide +kernel
theorem dL_law_265 : decode cL_law 265 = .ok (.iadd, 1) := by decide +kernel
theorem dL_law_266 : decode cL_law 266 = .ok (.iaload, 1) := by decide +kernel
theorem dL_law_267 : decode cL_law 267 = .ok (.aload_n 0, 1) := by decide +kernel
theorem dL_law_268 : decode cL_law 268 = .ok (.iload_n 3, 1) := by decide +kernel
theorem dL_law_269 : decode cL_law 269 = .ok (.iconst 3, 1) := by decide +kernel
theorem dL_law_270 : decode cL_law 270 = .ok (.iadd, 1) := by decide +kernel
theorem dL_law_271 : decode cL_law 271 = .ok (.iaload, 1) := by decide +kernel
theorem dL_law_272 : decode cL_law 272 = .ok (.invokevirtual 40, 3) := by decide +kernel
theorem dL_law_275 : decode cL_law 275 = .ok (.if_icmp .eq 410, 3) := by decide +kernel
theorem dL_law_278 : decode cL_law 278 = .ok (.iconst 0, 1) := by decide +kernel
theorem dL_law_279 : decode cL_law 279 = .ok (.ireturn, 1) := by decide +kernel
theorem dL_law_280 : decode cL_law 280 = .ok (.aload_n 1, 1) := by decide +kernel
theorem dL_law_281 : decode cL_law 281 = .ok (.aload_n 0, 1) := by decide +kernel
theorem dL_law_282 : decode cL_law 282 = .ok (.iload_n 3, 1) := by decide +kernel
theorem dL_law_283 : decode cL_law 283 = .ok (.iconst 1, 1) := by decide +kernel
theorem dL_law_284 : decode cL_law 284 = .ok (.iadd, 1) := by decide +kernel
theorem dL_law_285 : decode cL_law 285 = .ok (.iaload, 1) := by decide +kernel
theorem dL_law_286 : decode cL_law 286 = .ok (.aload_n 0, 1) := by decide +kernel
theorem dL_law_287 : decode cL_law 287 = .ok (.iload_n 3, 1) := by decide +kernel
theorem dL_law_288 : decode cL_law 288 = .ok (.iconst 2, 1) := by decide +kernel
theorem dL_law_289 : decode cL_law 289 = .ok (.iadd, 1) := by decide +kernel
theorem dL_law_290 : decode cL_law 290 = .ok (.iaload, 1) := by decide +kernel
theorem dL_law_291 : decode cL_law 291 = .ok (.invokevirtual 41, 3) := by decide +kernel
theorem dL_law_294 : decode cL_law 294 = .ok (.aload_n 2, 1) := by decide +kernel
theorem dL_law_295 : decode cL_law 295 = .ok (.aload_n 0, 1) := by decide +kernel
theorem dL_law_296 : decode cL_law 296 = .ok (.iload_n 3, 1) := by decide +kernel
theorem dL_law_297 : decode cL_law 297 = .ok (.iconst 1, 1) := by decide +kernel
theorem dL_law_298 : decode cL_law 298 = .ok (.iadd, 1) := by decide +kernel
theorem dL_law_299 : decode cL_law 299 = .ok (.iaload, 1) := by decide +kernel
theorem dL_law_300 : decode cL_law 300 = .ok (.aload_n 0, 1) := by decide +kernel
theorem dL_law_301 : decode cL_law 301 = .ok (.iload_n 3, 1) := by decide +kernel
theorem dL_law_302 : decode cL_law 302 = .ok (.iconst 2, 1) := by decide +kernel
theorem dL_law_303 : decode cL_law 303 = .ok (.iadd, 1) := by decide +kernel
theorem dL_law_304 : decode cL_law 304 = .ok (.iaload, 1) := by decide +kernel
theorem dL_law_305 : decode cL_law 305 = .ok (.invokevirtual 44, 3) := by decide +kernel
theorem dL_law_308 : decode cL_law 308 = .ok (.if_icmp .eq 377, 3) := by decide +kernel
theorem dL_law_311 : decode cL_law 311 = .ok (.iconst 0, 1) := by decide +kernel
theorem dL_law_312 : decode cL_law 312 = .ok (.ireturn, 1) := by decide +kernel
theorem dL_law_313 : decode cL_law 313 = .ok (.aload_n 1, 1) := by decide +kernel
theorem dL_law_314 : decode cL_law 314 = .ok (.aload_n 0, 1) := by decide +kernel
theorem dL_law_315 : decode cL_law 315 = .ok (.iload_n 3, 1) := by decide +kernel
theorem dL_law_316 : decode cL_law 316 = .ok (.iconst 1, 1) := by decide +kernel
theorem dL_law_317 : decode cL_law 317 = .ok (.iadd, 1) := by decide +kernel
theorem dL_law_318 : decode cL_law 318 = .ok (.iaload, 1) := by decide +kernel
theorem dL_law_319 : decode cL_law 319 = .ok (.aload_n 0, 1) := by decide +kernel
theorem dL_law_320 : decode cL_law 320 = .ok (.iload_n 3, 1) := by decide +kernel
theorem dL_law_321 : decode cL_law 321 = .ok (.iconst 2, 1) := by decide +kernel
theorem dL_law_322 : decode cL_law 322 = .ok (.iadd, 1) := by decide +kernel
theorem dL_law_323 : decode cL_law 323 = .ok (.iaload, 1) := by decide +kernel
theorem dL_law_324 : decode cL_law 324 = .ok (.aload_n 0, 1) := by decide +kernel
theorem dL_law_325 : decode cL_law 325 = .ok (.iload_n 3, 1) := by decide +kernel
theorem dL_law_326 : decode cL_law 326 = .ok (.iconst 3, 1) := by decide +kernel
theorem dL_law_327 : decode cL_law 327 = .ok (.iadd, 1) := by decide +kernel
theorem dL_law_328 : decode cL_law 328 = .ok (.iaload, 1) := by decide +kernel
theorem dL_law_329 : decode cL_law 329 = .ok (.invokevirtual 45, 3) := by decide +kernel
theorem dL_law_332 : decode cL_law 332 = .ok (.aload_n 2, 1) := by decide +kernel
theorem dL_law_333 : decode cL_law 333 = .ok (.aload_n 0, 1) := by decide +kernel
theorem dL_law_334 : decode cL_law 334 = .ok (.iload_n 3, 1) := by decide +kernel
theorem dL_law_335 : decode cL_law 335 = .ok (.iconst 1, 1) := by decide +kernel
theorem dL_law_336 : decode cL_law 336 = .ok (.iadd, 1) := by decide +kernel
theorem dL_law_337 : decode cL_law 337 = .ok (.iaload, 1) := by decide +kernel
theorem dL_law_338 : decode cL_law 338 = .ok (.aload_n 0, 1) := by decide +kernel
theorem dL_law_339 : decode cL_law 339 = .ok (.iload_n 3, 1) := by decide +kernel
theorem dL_law_340 : decode cL_law 340 = .ok (.iconst 2, 1) := by decide +kernel
theorem dL_law_341 : decode cL_law 341 = .ok (.iadd, 1) := by decide +kernel
theorem dL_law_342 : decode cL_law 342 = .ok (.iaload, 1) := by decide +kernel
theorem dL_law_343 : decode cL_law 343 = .ok (.aload_n 0, 1) := by decide +kernel
theorem dL_law_344 : decode cL_law 344 = .ok (.iload_n 3, 1) := by decide +kernel
theorem dL_law_345 : decode cL_law 345 = .ok (.iconst 3, 1) := by decide +kernel
theorem dL_law_346 : decode cL_law 346 = .ok (.iadd, 1) := by decide +kernel
theorem dL_law_347 : decode cL_law 347 = .ok (.iaload, 1) := by decide +kernel
theorem dL_law_348 : decode cL_law 348 = .ok (.invokevirtual 48, 3) := by decide +kernel
theorem dL_law_351 : decode cL_law 351 = .ok (.if_icmp .eq 334, 3) := by decide +kernel
theorem dL_law_354 : decode cL_law 354 = .ok (.iconst 0, 1) := by decide +kernel
theorem dL_law_355 : decode cL_law 355 = .ok (.ireturn, 1) := by decide +kernel
theorem dL_law_356 : decode cL_law 356 = .ok (.aload_n 1, 1) := by decide +kernel
theorem dL_law_357 : decode cL_law 357 = .ok (.aload_n 0, 1) := by decide +kernel
theorem dL_law_358 : decode cL_law 358 = .ok (.iload_n 3, 1) := by decide +kernel
theorem dL_law_359 : decode cL_law 359 = .ok (.iconst 1, 1) := by decide +kernel
theorem dL_law_360 : decode cL_law 360 = .ok (.iadd, 1) := by decide +kernel
theorem dL_law_361 : decode cL_law 361 = .ok (.iaload, 1) := by decide +kernel
theorem dL_law_362 : decode cL_law 362 = .ok (.aload_n 0, 1) := by decide +kernel
theorem dL_law_363 : decode cL_law 363 = .ok (.iload_n 3, 1) := by decide +kernel
theorem dL_law_364 : decode cL_law 364 = .ok (.iconst 2, 1) := by decide +kernel
theorem dL_law_365 : decode cL_law 365 = .ok (.iadd, 1) := by decide +kernel
theorem dL_law_366 : decode cL_law 366 = .ok (.iaload, 1) := by decide +kernel
theorem dL_law_367 : decode cL_law 367 = .ok (.invokevirtual 49, 3) := by decide +kernel
theorem dL_law_370 : decode cL_law 370 = .ok (.aload_n 2, 1) := by decide +kernel
theorem dL_law_371 : decode cL_law 371 = .ok (.aload_n 0, 1) := by decide +kernel
theorem dL_law_372 : decode cL_law 372 = .ok (.iload_n 3, 1) := by decide +kernel
theorem dL_law_373 : decode cL_law 373 = .ok (.iconst 1, 1) := by decide +kernel
theorem dL_law_374 : decode cL_law 374 = .ok (.iadd, 1) := by decide +kernel
theorem dL_law_375 : decode cL_law 375 = .ok (.iaload, 1) := by decide +kernel
theorem dL_law_376 : decode cL_law 376 = .ok (.aload_n 0, 1) := by decide +kernel
theorem dL_law_377 : decode cL_law 377 = .ok (.iload_n 3, 1) := by decide +kernel
theorem dL_law_378 : decode cL_law 378 = .ok (.iconst 2, 1) := by decide +kernel
theorem dL_law_379 : decode cL_law 379 = .ok (.iadd, 1) := by decide +kernel
theorem dL_law_380 : decode cL_law 380 = .ok (.iaload, 1) := by decide +kernel
theorem dL_law_381 : decode cL_law 381 = .ok (.invokevirtual 52, 3) := by decide +kernel
theorem dL_law_384 : decode cL_law 384 = .ok (.if_icmp .eq 301, 3) := by decide +kernel
theorem dL_law_387 : decode cL_law 387 = .ok (.iconst 0, 1) := by decide +kernel
theorem dL_law_388 : decode cL_law 388 = .ok (.ireturn, 1) := by decide +kernel
theorem dL_law_389 : decode cL_law 389 = .ok (.aload_n 1, 1) := by decide +kernel
theorem dL_law_390 : decode cL_law 390 = .ok (.aload_n 0, 1) := by decide +kernel
theorem dL_law_391 : decode cL_law 391 = .ok (.iload_n 3, 1) := by decide +kernel
theorem dL_law_392 : decode cL_law 392 = .ok (.iconst 1, 1) := by decide +kernel
theorem dL_law_393 : decode cL_law 393 = .ok (.iadd, 1) := by decide +kernel
theorem dL_law_394 : decode cL_law 394 = .ok (.iaload, 1) := by decide +kernel
theorem dL_law_395 : decode cL_law 395 = .ok (.aload_n 0, 1) := by decide +kernel
theorem dL_law_396 : decode cL_law 396 = .ok (.iload_n 3, 1) := by decide +kernel
theorem dL_law_397 : decode cL_law 397 = .ok (.iconst 2, 1) := by decide +kernel
theorem dL_law_398 : decode cL_law 398 = .ok (.iadd, 1) := by decide +kernel
theorem dL_law_399 : decode cL_law 399 = .ok (.iaload, 1) := by decide +kernel
theorem dL_law_400 : decode cL_law 400 = .ok (.aload_n 0, 1) := by decide +kernel
theorem dL_law_401 : decode cL_law 401 = .ok (.iload_n 3, 1) := by decide +kernel
theorem dL_law_402 : decode cL_law 402 = .ok (.iconst 3, 1) := by decide +kernel
theorem dL_law_403 : decode cL_law 403 = .ok (.iadd, 1) := by decide +kernel
theorem dL_law_404 : decode cL_law 404 = .ok (.iaload, 1) := by decide +kernel
theorem dL_law_405 : decode cL_law 405 = .ok (.invokevirtual 53, 3) := by decide +kernel
theorem dL_law_408 : decode cL_law 408 = .ok (.aload_n 2, 1) := by decide +kernel
theorem dL_law_409 : decode cL_law 409 = .ok (.aload_n 0, 1) := by decide +kernel
theorem dL_law_410 : decode cL_law 410 = .ok (.iload_n 3, 1) := by decide +kernel
theorem dL_law_411 : decode cL_law 411 = .ok (.iconst 1, 1) := by decide +kernel
theorem dL_law_412 : decode cL_law 412 = .ok (.iadd, 1) := by decide +kernel
theorem dL_law_413 : decode cL_law 413 = .ok (.iaload, 1) := by decide +kernel
theorem dL_law_414 : decode cL_law 414 = .ok (.aload_n 0, 1) := by decide +kernel
theorem dL_law_415 : decode cL_law 415 = .ok (.iload_n 3, 1) := by decide +kernel
theorem dL_law_416 : decode cL_law 416 = .ok (.iconst 2, 1) := by decide +kernel
theorem dL_law_417 : decode cL_law 417 = .ok (.iadd, 1) := by decide +kernel
theorem dL_law_418 : decode cL_law 418 = .ok (.iaload, 1) := by decide +kernel
theorem dL_law_419 : decode cL_law 419 = .ok (.aload_n 0, 1) := by decide +kernel
theorem dL_law_420 : decode cL_law 420 = .ok (.iload_n 3, 1) := by decide +kernel
theorem dL_law_421 : decode cL_law 421 = .ok (.iconst 3, 1) := by decide +kernel
theorem dL_law_422 : decode cL_law 422 = .ok (.iadd, 1) := by decide +kernel
theorem dL_law_423 : decode cL_law 423 = .ok (.iaload, 1) := by decide +kernel
theorem dL_law_424 : decode cL_law 424 = .ok (.invokevirtual 56, 3) := by decide +kernel
theorem dL_law_427 : decode cL_law 427 = .ok (.if_icmp .eq 258, 3) := by decide +kernel
theorem dL_law_430 : decode cL_law 430 = .ok (.iconst 0, 1) := by decide +kernel
theorem dL_law_431 : decode cL_law 431 = .ok (.ireturn, 1) := by decide +kernel
theorem dL_law_432 : decode cL_law 432 = .ok (.aload_n 1, 1) := by decide +kernel
theorem dL_law_433 : decode cL_law 433 = .ok (.invokevirtual 57, 3) := by decide +kernel
theorem dL_law_436 : decode cL_law 436 = .ok (.aload_n 2, 1) := by decide +kernel
theorem dL_law_437 : decode cL_law 437 = .ok (.invokevirtual 60, 3) := by decide +kernel
theorem dL_law_440 : decode cL_law 440 = .ok (.if_icmp .eq 245, 3) := by decide +kernel
theorem dL_law_443 : decode cL_law 443 = .ok (.iconst 0, 1) := by decide +kernel
theorem dL_law_444 : decode cL_law 444 = .ok (.ireturn, 1) := by decide +kernel
theorem dL_law_445 : decode cL_law 445 = .ok (.aload_n 1, 1) := by decide +kernel
theorem dL_law_446 : decode cL_law 446 = .ok (.aload_n 0, 1) := by decide +kernel
theorem dL_law_447 : decode cL_law 447 = .ok (.iload_n 3, 1) := by decide +kernel
theorem dL_law_448 : decode cL_law 448 = .ok (.iconst 1, 1) := by decide +kernel
theorem dL_law_449 : decode cL_law 449 = .ok (.iadd, 1) := by decide +kernel
theorem dL_law_450 : decode cL_law 450 = .ok (.iaload, 1) := by decide +kernel
theorem dL_law_451 : decode cL_law 451 = .ok (.invokevirtual 61, 3) := by decide +kernel
theorem dL_law_454 : decode cL_law 454 = .ok (.aload_n 2, 1) := by decide +kernel
theorem dL_law_455 : decode cL_law 455 = .ok (.aload_n 0, 1) := by decide +kernel
theorem dL_law_456 : decode cL_law 456 = .ok (.iload_n 3, 1) := by decide +kernel
theorem dL_law_457 : decode cL_law 457 = .ok (.iconst 1, 1) := by decide +kernel
theorem dL_law_458 : decode cL_law 458 = .ok (.iadd, 1) := by decide +kernel
theorem dL_law_459 : decode cL_law 459 = .ok (.iaload, 1) := by decide +kernel
theorem dL_law_460 : decode cL_law 460 = .ok (.invokevirtual 64, 3) := by decide +kernel
theorem dL_law_463 : decode cL_law 463 = .ok (.if_icmp .eq 222, 3) := by decide +kernel
theorem dL_law_466 : decode cL_law 466 = .ok (.iconst 0, 1) := by decide +kernel
theorem dL_law_467 : decode cL_law 467 = .ok (.ireturn, 1) := by decide +kernel
theorem dL_law_468 : decode cL_law 468 = .ok (.aload_n 1, 1) := by decide +kernel
theorem dL_law_469 : decode cL_law 469 = .ok (.aload_n 0, 1) := by decide +kernel
theorem dL_law_470 : decode cL_law 470 = .ok (.iload_n 3, 1) := by decide +kernel
theorem dL_law_471 : decode cL_law 471 = .ok (.iconst 1, 1) := by decide +kernel
theorem dL_law_472 : decode cL_law 472 = .ok (.iadd, 1) := by decide +kernel
theorem dL_law_473 : decode cL_law 473 = .ok (.iaload, 1) := by decide +kernel
theorem dL_law_474 : decode cL_law 474 = .ok (.aload_n 0, 1) := by decide +kernel
theorem dL_law_475 : decode cL_law 475 = .ok (.iload_n 3, 1) := by decide +kernel
theorem dL_law_476 : decode cL_law 476 = .ok (.iconst 2, 1) := by decide +kernel
theorem dL_law_477 : decode cL_law 477 = .ok (.iadd, 1) := by decide +kernel
theorem dL_law_478 : decode cL_law 478 = .ok (.iaload, 1) := by decide +kernel
theorem dL_law_479 : decode cL_law 479 = .ok (.aload_n 0, 1) := by decide +kernel
theorem dL_law_480 : decode cL_law 480 = .ok (.iload_n 3, 1) := by decide +kernel
theorem dL_law_481 : decode cL_law 481 = .ok (.iconst 3, 1) := by decide +kernel
theorem dL_law_482 : decode cL_law 482 = .ok (.iadd, 1) := by decide +kernel
theorem dL_law_483 : decode cL_law 483 = .ok (.iaload, 1) := by decide +kernel
theorem dL_law_484 : decode cL_law 484 = .ok (.invokevirtual 65, 3) := by decide +kernel
theorem dL_law_487 : decode cL_law 487 = .ok (.aload_n 2, 1) := by decide +kernel
theorem dL_law_488 : decode cL_law 488 = .ok (.aload_n 0, 1) := by decide +kernel
theorem dL_law_489 : decode cL_law 489 = .ok (.iload_n 3, 1) := by decide +kernel
theorem dL_law_490 : decode cL_law 490 = .ok (.iconst 1, 1) := by decide +kernel
theorem dL_law_491 : decode cL_law 491 = .ok (.iadd, 1) := by decide +kernel
theorem dL_law_492 : decode cL_law 492 = .ok (.iaload, 1) := by decide +kernel
theorem dL_law_493 : decode cL_law 493 = .ok (.aload_n 0, 1) := by decide +kernel
theorem dL_law_494 : decode cL_law 494 = .ok (.iload_n 3, 1) := by decide +kernel
theorem dL_law_495 : decode cL_law 495 = .ok (.iconst 2, 1) := by decide +kernel
theorem dL_law_496 : decode cL_law 496 = .ok (.iadd, 1) := by decide +kernel
theorem dL_law_497 : decode cL_law 497 = .ok (.iaload, 1) := by decide +kernel
theorem dL_law_498 : decode cL_law 498 = .ok (.aload_n 0, 1) := by decide +kernel
theorem dL_law_499 : decode cL_law 499 = .ok (.iload_n 3, 1) := by decide +kernel
theorem dL_law_500 : decode cL_law 500 = .ok (.iconst 3, 1) := by decide +kernel
theorem dL_law_501 : decode cL_law 501 = .ok (.iadd, 1) := by decide +kernel
theorem dL_law_502 : decode cL_law 502 = .ok (.iaload, 1) := by decide +kernel
theorem dL_law_503 : decode cL_law 503 = .ok (.invokevirtual 68, 3) := by decide +kernel
theorem dL_law_506 : decode cL_law 506 = .ok (.if_icmp .eq 179, 3) := by decide +kernel
theorem dL_law_509 : decode cL_law 509 = .ok (.iconst 0, 1) := by decide +kernel
theorem dL_law_510 : decode cL_law 510 = .ok (.ireturn, 1) := by decide +kernel
theorem dL_law_511 : decode cL_law 511 = .ok (.aload_n 1, 1) := by decide +kernel
theorem dL_law_512 : decode cL_law 512 = .ok (.invokevirtual 69, 3) := by decide +kernel
theorem dL_law_515 : decode cL_law 515 = .ok (.aload_n 2, 1) := by decide +kernel
theorem dL_law_516 : decode cL_law 516 = .ok (.invokevirtual 72, 3) := by decide +kernel
theorem dL_law_519 : decode cL_law 519 = .ok (.if_icmp .eq 166, 3) := by decide +kernel
theorem dL_law_522 : decode cL_law 522 = .ok (.iconst 0, 1) := by decide +kernel
theorem dL_law_523 : decode cL_law 523 = .ok (.ireturn, 1) := by decide +kernel
theorem dL_law_524 : decode cL_law 524 = .ok (.aload_n 1, 1) := by decide +kernel
theorem dL_law_525 : decode cL_law 525 = .ok (.aload_n 0, 1) := by decide +kernel
theorem dL_law_526 : decode cL_law 526 = .ok (.iload_n 3, 1) := by decide +kernel
theorem dL_law_527 : decode cL_law 527 = .ok (.iconst 1, 1) := by decide +kernel
theorem dL_law_528 : decode cL_law 528 = .ok (.iadd, 1) := by decide +kernel
theorem dL_law_529 : decode cL_law 529 = .ok (.iaload, 1) := by decide +kernel
theorem dL_law_530 : decode cL_law 530 = .ok (.invokevirtual 73, 3) := by decide +kernel
theorem dL_law_533 : decode cL_law 533 = .ok (.aload_n 2, 1) := by decide +kernel
theorem dL_law_534 : decode cL_law 534 = .ok (.aload_n 0, 1) := by decide +kernel
theorem dL_law_535 : decode cL_law 535 = .ok (.iload_n 3, 1) := by decide +kernel
theorem dL_law_536 : decode cL_law 536 = .ok (.iconst 1, 1) := by decide +kernel
theorem dL_law_537 : decode cL_law 537 = .ok (.iadd, 1) := by decide +kernel
theorem dL_law_538 : decode cL_law 538 = .ok (.iaload, 1) := by decide +kernel
theorem dL_law_539 : decode cL_law 539 = .ok (.invokevirtual 76, 3) := by decide +kernel
theorem dL_law_542 : decode cL_law 542 = .ok (.if_icmp .eq 143, 3) := by decide +kernel
theorem dL_law_545 : decode cL_law 545 = .ok (.iconst 0, 1) := by decide +kernel
theorem dL_law_546 : decode cL_law 546 = .ok (.ireturn, 1) := by decide +kernel
theorem dL_law_547 : decode cL_law 547 = .ok (.aload_n 1, 1) := by decide +kernel
theorem dL_law_548 : decode cL_law 548 = .ok (.aload_n 0, 1) := by decide +kernel
theorem dL_law_549 : decode cL_law 549 = .ok (.iload_n 3, 1) := by decide +kernel
theorem dL_law_550 : decode cL_law 550 = .ok (.iconst 1, 1) := by decide +kernel
theorem dL_law_551 : decode cL_law 551 = .ok (.iadd, 1) := by decide +kernel
theorem dL_law_552 : decode cL_law 552 = .ok (.iaload, 1) := by decide +kernel
theorem dL_law_553 : decode cL_law 553 = .ok (.invokevirtual 77, 3) := by decide +kernel
theorem dL_law_556 : decode cL_law 556 = .ok (.aload_n 2, 1) := by decide +kernel
theorem dL_law_557 : decode cL_law 557 = .ok (.aload_n 0, 1) := by decide +kernel
theorem dL_law_558 : decode cL_law 558 = .ok (.iload_n 3, 1) := by decide +kernel
theorem dL_law_559 : decode cL_law 559 = .ok (.iconst 1, 1) := by decide +kernel
theorem dL_law_560 : decode cL_law 560 = .ok (.iadd, 1) := by decide +kernel
theorem dL_law_561 : decode cL_law 561 = .ok (.iaload, 1) := by decide +kernel
theorem dL_law_562 : decode cL_law 562 = .ok (.invokevirtual 80, 3) := by decide +kernel
theorem dL_law_565 : decode cL_law 565 = .ok (.if_icmp .eq 120, 3) := by decide +kernel
theorem dL_law_568 : decode cL_law 568 = .ok (.iconst 0, 1) := by decide +kernel
theorem dL_law_569 : decode cL_law 569 = .ok (.ireturn, 1) := by decide +kernel
theorem dL_law_570 : decode cL_law 570 = .ok (.aload_n 1, 1) := by decide +kernel
theorem dL_law_571 : decode cL_law 571 = .ok (.aload_n 0, 1) := by decide +kernel
theorem dL_law_572 : decode cL_law 572 = .ok (.iload_n 3, 1) := by decide +kernel
theorem dL_law_573 : decode cL_law 573 = .ok (.iconst 1, 1) := by decide +kernel
theorem dL_law_574 : decode cL_law 574 = .ok (.iadd, 1) := by decide +kernel
theorem dL_law_575 : decode cL_law 575 = .ok (.iaload, 1) := by decide +kernel
theorem dL_law_576 : decode cL_law 576 = .ok (.aload_n 0, 1) := by decide +kernel
theorem dL_law_577 : decode cL_law 577 = .ok (.iload_n 3, 1) := by decide +kernel
theorem dL_law_578 : decode cL_law 578 = .ok (.iconst 2, 1) := by decide +kernel
theorem dL_law_579 : decode cL_law 579 = .ok (.iadd, 1) := by decide +kernel
theorem dL_law_580 : decode cL_law 580 = .ok (.iaload, 1) := by decide +kernel
theorem dL_law_581 : decode cL_law 581 = .ok (.invokevirtual 81, 3) := by decide +kernel
theorem dL_law_584 : decode cL_law 584 = .ok (.aload_n 2, 1) := by decide +kernel
theorem dL_law_585 : decode cL_law 585 = .ok (.aload_n 0, 1) := by decide +kernel
theorem dL_law_586 : decode cL_law 586 = .ok (.iload_n 3, 1) := by decide +kernel
theorem dL_law_587 : decode cL_law 587 = .ok (.iconst 1, 1) := by decide +kernel
theorem dL_law_588 : decode cL_law 588 = .ok (.iadd, 1) := by decide +kernel
theorem dL_law_589 : decode cL_law 589 = .ok (.iaload, 1) := by decide +kernel
theorem dL_law_590 : decode cL_law 590 = .ok (.aload_n 0, 1) := by decide +kernel
theorem dL_law_591 : decode cL_law 591 = .ok (.iload_n 3, 1) := by decide +kernel
theorem dL_law_592 : decode cL_law 592 = .ok (.iconst 2, 1) := by decide +kernel
theorem dL_law_593 : decode cL_law 593 = .ok (.iadd, 1) := by decide +kernel
theorem dL_law_594 : decode cL_law 594 = .ok (.iaload, 1) := by decide +kernel
theorem dL_law_595 : decode cL_law 595 = .ok (.invokevirtual 84, 3) := by decide +kernel
theorem dL_law_598 : decode cL_law 598 = .ok (.if_icmp .eq 87, 3) := by decide +kernel
theorem dL_law_601 : decode cL_law 601 = .ok (.iconst 0, 1) := by decide +kernel
theorem dL_law_602 : decode cL_law 602 = .ok (.ireturn, 1) := by decide +kernel
theorem dL_law_603 : decode cL_law 603 = .ok (.aload_n 1, 1) := by decide +kernel
theorem dL_law_604 : decode cL_law 604 = .ok (.invokevirtual 85, 3) := by decide +kernel
theorem dL_law_607 : decode cL_law 607 = .ok (.aload_n 2, 1) := by decide +kernel
theorem dL_law_608 : decode cL_law 608 = .ok (.invokevirtual 88, 3) := by decide +kernel
theorem dL_law_611 : decode cL_law 611 = .ok (.if_icmp .eq 74, 3) := by decide +kernel
theorem dL_law_614 : decode cL_law 614 = .ok (.iconst 0, 1) := by decide +kernel
theorem dL_law_615 : decode cL_law 615 = .ok (.ireturn, 1) := by decide +kernel
theorem dL_law_616 : decode cL_law 616 = .ok (.aload_n 1, 1) := by decide +kernel
theorem dL_law_617 : decode cL_law 617 = .ok (.aload_n 0, 1) := by decide +kernel
theorem dL_law_618 : decode cL_law 618 = .ok (.iload_n 3, 1) := by decide +kernel
theorem dL_law_619 : decode cL_law 619 = .ok (.iconst 1, 1) := by decide +kernel
theorem dL_law_620 : decode cL_law 620 = .ok (.iadd, 1) := by decide +kernel
theorem dL_law_621 : decode cL_law 621 = .ok (.iaload, 1) := by decide +kernel
theorem dL_law_622 : decode cL_law 622 = .ok (.invokevirtual 89, 3) := by decide +kernel
theorem dL_law_625 : decode cL_law 625 = .ok (.aload_n 2, 1) := by decide +kernel
theorem dL_law_626 : decode cL_law 626 = .ok (.aload_n 0, 1) := by decide +kernel
theorem dL_law_627 : decode cL_law 627 = .ok (.iload_n 3, 1) := by decide +kernel
theorem dL_law_628 : decode cL_law 628 = .ok (.iconst 1, 1) := by decide +kernel
theorem dL_law_629 : decode cL_law 629 = .ok (.iadd, 1) := by decide +kernel
theorem dL_law_630 : decode cL_law 630 = .ok (.iaload, 1) := by decide +kernel
theorem dL_law_631 : decode cL_law 631 = .ok (.invokevirtual 92, 3) := by decide +kernel
theorem dL_law_634 : decode cL_law 634 = .ok (.if_icmp .eq 51, 3) := by decide +kernel
theorem dL_law_637 : decode cL_law 637 = .ok (.iconst 0, 1) := by decide +kernel
theorem dL_law_638 : decode cL_law 638 = .ok (.ireturn, 1) := by decide +kernel
theorem dL_law_639 : decode cL_law 639 = .ok (.aload_n 1, 1) := by decide +kernel
theorem dL_law_640 : decode cL_law 640 = .ok (.aload_n 0, 1) := by decide +kernel
theorem dL_law_641 : decode cL_law 641 = .ok (.iload_n 3, 1) := by decide +kernel
theorem dL_law_642 : decode cL_law 642 = .ok (.iconst 1, 1) := by decide +kernel
theorem dL_law_643 : decode cL_law 643 = .ok (.iadd, 1) := by decide +kernel
theorem dL_law_644 : decode cL_law 644 = .ok (.iaload, 1) := by decide +kernel
theorem dL_law_645 : decode cL_law 645 = .ok (.invokevirtual 93, 3) := by decide +kernel
theorem dL_law_648 : decode cL_law 648 = .ok (.aload_n 2, 1) := by decide +kernel
theorem dL_law_649 : decode cL_law 649 = .ok (.aload_n 0, 1) := by decide +kernel
theorem dL_law_650 : decode cL_law 650 = .ok (.iload_n 3, 1) := by decide +kernel
theorem dL_law_651 : decode cL_law 651 = .ok (.iconst 1, 1) := by decide +kernel
theorem dL_law_652 : decode cL_law 652 = .ok (.iadd, 1) := by decide +kernel
theorem dL_law_653 : decode cL_law 653 = .ok (.iaload, 1) := by decide +kernel
theorem dL_law_654 : decode cL_law 654 = .ok (.invokevirtual 96, 3) := by decide +kernel
theorem dL_law_657 : decode cL_law 657 = .ok (.if_icmp .eq 28, 3) := by decide +kernel
theorem dL_law_660 : decode cL_law 660 = .ok (.iconst 0, 1) := by decide +kernel
theorem dL_law_661 : decode cL_law 661 = .ok (.ireturn, 1) := by decide +kernel
theorem dL_law_662 : decode cL_law 662 = .ok (.aload_n 1, 1) := by decide +kernel
theorem dL_law_663 : decode cL_law 663 = .ok (.aload_n 0, 1) := by decide +kernel
theorem dL_law_664 : decode cL_law 664 = .ok (.iload_n 3, 1) := by decide +kernel
theorem dL_law_665 : decode cL_law 665 = .ok (.iconst 1, 1) := by decide +kernel
theorem dL_law_666 : decode cL_law 666 = .ok (.iadd, 1) := by decide +kernel
theorem dL_law_667 : decode cL_law 667 = .ok (.iaload, 1) := by decide +kernel
theorem dL_law_668 : decode cL_law 668 = .ok (.invokevirtual 97, 3) := by decide +kernel
theorem dL_law_671 : decode cL_law 671 = .ok (.aload_n 2, 1) := by decide +kernel
theorem dL_law_672 : decode cL_law 672 = .ok (.aload_n 0, 1) := by decide +kernel
theorem dL_law_673 : decode cL_law 673 = .ok (.iload_n 3, 1) := by decide +kernel
theorem dL_law_674 : decode cL_law 674 = .ok (.iconst 1, 1) := by decide +kernel
theorem dL_law_675 : decode cL_law 675 = .ok (.iadd, 1) := by decide +kernel
theorem dL_law_676 : decode cL_law 676 = .ok (.iaload, 1) := by decide +kernel
theorem dL_law_677 : decode cL_law 677 = .ok (.invokevirtual 100, 3) := by decide +kernel
theorem dL_law_680 : decode cL_law 680 = .ok (.if_icmp .eq 5, 3) := by decide +kernel
theorem dL_law_683 : decode cL_law 683 = .ok (.iconst 0, 1) := by decide +kernel
theorem dL_law_684 : decode cL_law 684 = .ok (.ireturn, 1) := by decide +kernel
theorem dL_law_685 : decode cL_law 685 = .ok (.iinc 3 4, 3) := by decide +kernel
theorem dL_law_688 : decode cL_law 688 = .ok (.goto (-670), 3) := by decide +kernel
theorem dL_law_691 : decode cL_law 691 = .ok (.iconst 1, 1) := by decide +kernel
theorem dL_law_692 : decode cL_law 692 = .ok (.ireturn, 1) := by decide +kernel
end
section
def nstL : List (String × Nat × MethodName × String) := [(RX8, 9, yX7_init, RX8), (RX8, 18, yX6_init, RX8), (RX8, 28, yX4_init, RX8), (RX5, 17, yX4_init, RX8), (RX8, 45, yX2_init, RX8), (RX2, 9, yX4_init, RX8), (RX8, 55, yX0_init, RX8), (RX8, 62, yX1_init, RX8)]
/-- which slots of which class hold references -/
def e_isT : List (List Bool) := [[true, true, false], [false], [true, false, false], [false, false, false, false, true, true, true, true, true, true, true, true, true, true, false, true, true, true], [true, false, false], [false, false, true, true, true, true, true, true, true], [true, false, false, false, false, false], [true, true, true, true, true, true, true, true, true, true], [true, false, false, true, false, false, false, true, true, true, false, true, false, false, false, false, false, false, false, false, true, true]]
def e_isR (ci k : Nat) : Bool := (e_isT.getD ci []).getD k false
end
section
/-! ===== THE CALCULUS: a judgement E over an abstract heap, sound for the machine ===== -/
-- the words that every method may use: the tables' words that stay
def WL : List Cond := lw_tbl.filter goodWord
theorem WL_in {w : Cond} (h : w ∈ lw_tbl) (g : goodWord w = true) : w ∈ WL := List.mem_filter.mpr ⟨h, g⟩
theorem WL_ok {w : Cond} (h : w ∈ WL) : (w.onTables && w.keeps) = true ∨ ∃ ty, w = .arrayClass ty := good_of_word (List.mem_filter.mp h).2
theorem WL_tbl {w : Cond} (h : w ∈ WL) : w ∈ lw_tbl := (List.mem_filter.mp h).1
theorem WL_p {q : MethodName × Nat} (i : Nat) (h : lw_privs[i]? = some q) : Cond.selects q.1.cls q.1 q.1 ∈ WL := WL_in (show _ ∈ k2_sels lw_privs ++ tables_1 from List.mem_append_left _ (List.mem_map.mpr ⟨q, List.mem_of_getElem? h, rfl⟩)) rfl
-- the links between nest mates
def nstW : List Cond := nstL.map fun q => Cond.methodLinkNest q.1 q.2.1 q.2.2.1 q.2.2.2
theorem nst_form {w : Cond} (h : w ∈ nstW) : ∃ (a : String) (i : Nat) (x : MethodName) (k : String), w = .methodLinkNest a i x k := by
  obtain ⟨q, -, rfl⟩ := List.mem_map.mp h
  exact ⟨_, _, _, _, rfl⟩
theorem nst_mem {a : String} {i : Nat} {x : MethodName} {k : String} (j : Nat) (h : nstL[j]? = some (a, i, x, k)) : Cond.methodLinkNest a i x k ∈ nstW := List.mem_map.mpr ⟨_, List.mem_of_getElem? h, rfl⟩
-- a method: name, code, locals, answer, frames and words below it
abbrev MI : Type := MethodName × ByteArray × Nat × Option FieldType × Nat × Nat
-- the abstract heap: next address; what each cell is (1 object of a class, 2 ints, 3 references; how long); references; and the ints
abbrev Zt : Type := Nat × (Nat → Nat × Nat) × (Nat → Nat → Nat)
abbrev It : Type := Nat → Nat → Int32
def e_ad (b b0 a : Nat) : Nat := if a = 0 then b else b0 + a
def e_tv (b b0 : Nat) (v : Value) : Value := match v with
  | .ref a => .ref (e_ad b b0 a)
  | w => w
def e_rv (x : Nat) : Value := if x = 0 then .null else .ref x
theorem e_ad_pos {b b0 a : Nat} (h : 0 < a) : e_ad b b0 a = b0 + a := if_neg (by omega)
theorem e_tv_cat (b b0 : Nat) (v : Value) : (e_tv b b0 v).category = v.category := by cases v <;> rfl
theorem e_rv_pos {x : Nat} (h : x ≠ 0) : e_rv x = .ref x := if_neg h
def e_fv (b b0 : Nat) (z : Zt) (I : It) (a ci k : Nat) : Value := if e_isR ci k = true then e_tv b b0 (e_rv (z.2.2 a k)) else .int (I a k)
def e_at (b b0 : Nat) (D : va_G) (cI cM : ClassId) (z : Zt) (I : It) (a : Nat) (H : Heap) : Prop :=
  ((z.2.1 a).1 = 1 → ∃ r : vw_C, vwCl[(z.2.1 a).2]? = some r ∧ t_OB (b0 + a) (D.1 (z.2.1 a).2) r.2.2 (D.2 (z.2.1 a).2) H (e_fv b b0 z I a (z.2.1 a).2)) ∧
  ((z.2.1 a).1 = 2 → H[b0 + a]? = some (arrV cI (z.2.1 a).2 (fun j => .int (I a j)))) ∧
  ((z.2.1 a).1 = 3 → H[b0 + a]? = some (arrV cM (z.2.1 a).2 (fun j => e_tv b b0 (e_rv (z.2.2 a j)))))
def e_K (D : va_G) (cI cM : ClassId) (U : State) : Prop := va_K D vwCl [(cI, .int), (cM, .object RX4)] U ∧ va_AO RX4 U ∧ ∀ w ∈ nstW, va_Nw w U
def e_H (b b0 : Nat) (D : va_G) (cI cM : ClassId) (z : Zt) (I : It) (U : State) (H : Heap) : Prop :=
  H.size = b0 + z.1 ∧ 0 < z.1 ∧ (∀ a, 0 < a → e_at b b0 D cI cM z I a H) ∧ (z.2.1 0).1 = 2 ∧ va_X b (z.2.1 0).2 (I 0) U H
def e_C (M : MI) (b b0 : Nat) (D : va_G) (cI cM : ClassId) (p : Program) (R : Room) (s : State) (m : MethodId) (args : Array Value) (meth : Method) (c : Code) : Prop :=
  p.tables.exec = Jvm.exec ∧ c.code = M.2.1 ∧ meth.sig.returnType = M.2.2.2.1 ∧ c.maxLocals = M.2.2.1 ∧ s.vm.findClass M.1.cls = some m.cls ∧ (∀ w ∈ WL, w.before args s = true) ∧ meth.locks = false ∧ meth.name = M.1.name ∧ e_K D cI cM s ∧ (b ≤ b0 ∧ b0 < s.heap.size) ∧ M.2.2.2.2.1 ≤ R.frames ∧ M.2.2.2.2.2 ≤ R.locals
def e_L (b b0 nL : Nat) (ls : List (Option Value)) (lsA : Array Slot) : Prop := lsA.size = nL ∧ lv_wf lsA ∧ ∀ (i : Nat) (v : Value), ls[i]? = some (some v) → lsA[i]? = some (.val (e_tv b b0 v))
def e_Q (b b0 : Nat) (D : va_G) (cI cM : ClassId) (Q : Option Value → Zt → It → Prop) : Array Value → State → Outcome → State → Prop := fun _ st oc t =>
  (∃ (r : Option Value) (z : Zt) (I : It), oc = .returned (r.map (e_tv b b0)) ∧ e_H b b0 D cI cM z I t t.heap ∧ Q r z I) ∧ va_F (fun q => b0 < q) st t
/-- THE JUDGEMENT: method M, at pc, with locals ls and stack st, over the heap (z, I), comes to its end with Q; mc cells of ms slots may still come -/
def E (M : MI) (mc ms pc : Nat) (ls : List (Option Value)) (st : List Value) (z : Zt) (I : It) (Q : Option Value → Zt → It → Prop) : Prop :=
  ∀ (b b0 : Nat) (D : va_G) (cI cM : ClassId) (p : Program) (l : Launch) (e : Env) (R : Room) (s : State) (m : MethodId) (args : Array Value) (below : List Frame) (meth : Method) (c : Code), e_C M b b0 D cI cM p R s m args meth c →
  ∀ (H : Heap) (locs : List Loc) (cells slots : Nat) (lsA : Array Slot), e_H b b0 D cI cM z I s H → va_S (fun q => b0 < q) s.heap H locs → cells + mc ≤ R.cells → slots + ms ≤ R.slots → e_L b b0 M.2.2.1 ls lsA →
  W p l e R s m args below meth c H locs cells slots (MQ below (e_Q b b0 D cI cM Q) args s R.cells R.slots (fun q => b0 < q)) (F0 m pc lsA (st.map (e_tv b b0)))
theorem E.mono {M : MI} {mc ms pc : Nat} {ls : List (Option Value)} {st : List Value} {z : Zt} {I : It} {Q Q' : Option Value → Zt → It → Prop} (h : E M mc ms pc ls st z I Q) (hq : ∀ r z I, Q r z I → Q' r z I) : E M mc ms pc ls st z I Q' := by
  intro b b0 D cI cM p l e R s m args below meth c C H locs cells slots lsA hH hS hc hs hL T hT X
  obtain ⟨t, a, o, b1, b2, ⟨⟨r, z', I', e1, e2, e3⟩, e4⟩, b4⟩ := h b b0 D cI cM p l e R s m args below meth c C H locs cells slots lsA hH hS hc hs hL T hT X
  exact ⟨t, a, o, b1, b2, ⟨⟨r, z', I', e1, e2, hq r z' I' e3⟩, e4⟩, b4⟩
theorem e_at.kept {b b0 : Nat} {D : va_G} {cI cM : ClassId} {z : Zt} {I : It} {a : Nat} {H H1 : Heap} (h : e_at b b0 D cI cM z I a H) (hq : H1[b0 + a]? = H[b0 + a]?) : e_at b b0 D cI cM z I a H1 :=
  ⟨fun q => by obtain ⟨r, h1, h2⟩ := h.1 q; exact ⟨r, h1, h2.kept hq⟩, fun q => hq.trans (h.2.1 q), fun q => hq.trans (h.2.2 q)⟩
theorem e_at.to {b b0 : Nat} {D : va_G} {cI cM : ClassId} {z z' : Zt} {I I' : It} {a : Nat} {H : Heap} (h : e_at b b0 D cI cM z I a H) (h1 : z'.2.1 a = z.2.1 a) (h2 : z'.2.2 a = z.2.2 a) (h3 : I' a = I a) : e_at b b0 D cI cM z' I' a H := by
  unfold e_at e_fv at *
  rw [h1, h2, h3]
  exact h
theorem e_H.pos {b b0 : Nat} {D : va_G} {cI cM : ClassId} {z : Zt} {I : It} {U : State} {H : Heap} (h : e_H b b0 D cI cM z I U H) {a k n : Nat} (hS : z.2.1 a = (k, n)) (hk : k ≠ 2) : 0 < a := by
  rcases Nat.eq_zero_or_pos a with e | e
  · subst e
    exact absurd (by have h2 := h.2.2.2.1; rw [hS] at h2; exact h2) hk
  · exact e
theorem e_H.moved {b b0 : Nat} {D : va_G} {cI cM : ClassId} {z : Zt} {I : It} {u U : State} {H : Heap} (hvm : u.vm.Alike U.vm) (h : e_H b b0 D cI cM z I u H) : e_H b b0 D cI cM z I U H := ⟨h.1, h.2.1, h.2.2.1, h.2.2.2.1, h.2.2.2.2.moved hvm⟩
theorem e_K.moved {D : va_G} {cI cM : ClassId} {s U : State} (hW : s.WarmedH U.vm) (h : e_K D cI cM s) : e_K D cI cM U := ⟨h.1.moved hW.alike, h.2.1.moved hW.alike, fun w hw => by
  obtain ⟨a, i, x, k, rfl⟩ := nst_form hw
  exact va_Nw.warmM hW (h.2.2 _ hw)⟩
theorem e_K.same {D : va_G} {cI cM : ClassId} {u U : State} (h : u.vm = U.vm) (hk : e_K D cI cM u) : e_K D cI cM U := ⟨hk.1.moved (by rw [h]; exact Vm.Alike.refl _), hk.2.1.moved (by rw [h]; exact Vm.Alike.refl _), fun w hw => by
  obtain ⟨a, i, x, k, rfl⟩ := nst_form hw
  exact va_Nw.same rfl h (hk.2.2 _ hw)⟩
-- ints are stored
def e_st (I : It) (a k : Nat) (v : Int32) : It := fun a' k' => if a' = a ∧ k' = k then v else I a' k'
theorem e_st_same (I : It) (a k : Nat) (v : Int32) : e_st I a k v a k = v := if_pos ⟨rfl, rfl⟩
theorem e_st_a {I : It} {a k : Nat} {v : Int32} {a' : Nat} (h : a' ≠ a) : e_st I a k v a' = I a' := funext fun k' => if_neg fun q => h q.1
theorem e_st_k {I : It} {a k : Nat} {v : Int32} {a' k' : Nat} (h : k' ≠ k) : e_st I a k v a' k' = I a' k' := if_neg fun q => h q.2
theorem e_st_row (I : It) (a k : Nat) (v : Int32) : e_st I a k v a = upd (I a) k v := funext fun k' => by unfold e_st upd; by_cases h : k' = k <;> simp [h]
-- references are stored
def z_rf (z : Zt) (a k x : Nat) : Zt := (z.1, z.2.1, fun a' k' => if a' = a ∧ k' = k then x else z.2.2 a' k')
-- a cell comes
def z_nw (z : Zt) (s : Nat × Nat) : Zt := (z.1 + 1, fun a => if a = z.1 then s else z.2.1 a, fun a k => if a = z.1 then 0 else z.2.2 a k)
def i_nw (z : Zt) (I : It) : It := fun a k => if a = z.1 then 0 else I a k
/-- a class as the tables have it -/
def e_cl (ci : Nat) (C : String) (T : u_T) (N : Nat) (ty : Nat → FieldType) : Prop := vwCl[ci]? = some (C, T, N) ∧ (∀ w ∈ u_ws C T N, w ∈ WL) ∧ (∀ k, k < N → parseFieldDescriptor (T k).2.2.1 = some (ty k)) ∧ (∀ a, a < N → ∀ b, b < N → a ≠ b → (T a).2.1 ≠ (T b).2.1) ∧ (∀ k, k < N → (T k).1 = C) ∧ (∀ k, k < N → if e_isR ci k = true then defaultValue (ty k) = .null else defaultValue (ty k) = .int 0)
theorem E_iconst {M : MI} {mc ms pc : Nat} {ls : List (Option Value)} {st : List Value} {z : Zt} {I : It} {Q : Option Value → Zt → It → Prop} {n : Int} {v : Int32} (hd : decode M.2.1 pc = .ok (.iconst n, 1)) (hv : Int32.ofInt n = v) (k : E M mc ms (pc + 1) ls (.int v :: st) z I Q) : E M mc ms pc ls (st) z I Q := fun b b0 D cI cM p l e R s m args below meth c C H locs cells slots lsA hH hS hc hs hL => lv_iconst C.1 C.2.1 hd hv (k b b0 D cI cM p l e R s m args below meth c C H locs cells slots lsA hH hS hc hs hL)
theorem E_bipush {M : MI} {mc ms pc : Nat} {ls : List (Option Value)} {st : List Value} {z : Zt} {I : It} {Q : Option Value → Zt → It → Prop} {n : Int} {v : Int32} (hd : decode M.2.1 pc = .ok (.bipush n, 2)) (hv : (Int8.ofInt n).toInt32 = v) (k : E M mc ms (pc + 2) ls (.int v :: st) z I Q) : E M mc ms pc ls (st) z I Q := fun b b0 D cI cM p l e R s m args below meth c C H locs cells slots lsA hH hS hc hs hL => lv_bipush C.1 C.2.1 hd hv (k b b0 D cI cM p l e R s m args below meth c C H locs cells slots lsA hH hS hc hs hL)
theorem E_sipush {M : MI} {mc ms pc : Nat} {ls : List (Option Value)} {st : List Value} {z : Zt} {I : It} {Q : Option Value → Zt → It → Prop} {n : Int} {v : Int32} (hd : decode M.2.1 pc = .ok (.sipush n, 3)) (hv : (Int16.ofInt n).toInt32 = v) (k : E M mc ms (pc + 3) ls (.int v :: st) z I Q) : E M mc ms pc ls (st) z I Q := fun b b0 D cI cM p l e R s m args below meth c C H locs cells slots lsA hH hS hc hs hL => lv_sipush C.1 C.2.1 hd hv (k b b0 D cI cM p l e R s m args below meth c C H locs cells slots lsA hH hS hc hs hL)
theorem E_iload_n {M : MI} {mc ms pc : Nat} {ls : List (Option Value)} {st : List Value} {z : Zt} {I : It} {Q : Option Value → Zt → It → Prop} {j : Fin 4} {i : Nat} {x : Int32} (hd : decode M.2.1 pc = .ok (.iload_n j, 1)) (hi : (j : Nat) = i) (hl : ls[i]? = some (some (.int x))) (k : E M mc ms (pc + 1) ls (.int x :: st) z I Q) : E M mc ms pc ls (st) z I Q := fun b b0 D cI cM p l e R s m args below meth c C H locs cells slots lsA hH hS hc hs hL => lv_iload_n C.1 C.2.1 hd hi (hL.2.2 i _ hl) (k b b0 D cI cM p l e R s m args below meth c C H locs cells slots lsA hH hS hc hs hL)
theorem E_iload {M : MI} {mc ms pc : Nat} {ls : List (Option Value)} {st : List Value} {z : Zt} {I : It} {Q : Option Value → Zt → It → Prop} {i : Nat} {x : Int32} (hd : decode M.2.1 pc = .ok (.iload i, 2)) (hl : ls[i]? = some (some (.int x))) (k : E M mc ms (pc + 2) ls (.int x :: st) z I Q) : E M mc ms pc ls (st) z I Q := fun b b0 D cI cM p l e R s m args below meth c C H locs cells slots lsA hH hS hc hs hL => lv_iload C.1 C.2.1 hd (hL.2.2 i _ hl) (k b b0 D cI cM p l e R s m args below meth c C H locs cells slots lsA hH hS hc hs hL)
theorem E_aload_n {M : MI} {mc ms pc : Nat} {ls : List (Option Value)} {st : List Value} {z : Zt} {I : It} {Q : Option Value → Zt → It → Prop} {j : Fin 4} {i : Nat} {x : Nat} (hd : decode M.2.1 pc = .ok (.aload_n j, 1)) (hi : (j : Nat) = i) (hl : ls[i]? = some (some (.ref x))) (k : E M mc ms (pc + 1) ls (.ref x :: st) z I Q) : E M mc ms pc ls (st) z I Q := fun b b0 D cI cM p l e R s m args below meth c C H locs cells slots lsA hH hS hc hs hL => lv_aload_n C.1 C.2.1 hd hi (hL.2.2 i _ hl) (k b b0 D cI cM p l e R s m args below meth c C H locs cells slots lsA hH hS hc hs hL)
theorem E_aload {M : MI} {mc ms pc : Nat} {ls : List (Option Value)} {st : List Value} {z : Zt} {I : It} {Q : Option Value → Zt → It → Prop} {i : Nat} {x : Nat} (hd : decode M.2.1 pc = .ok (.aload i, 2)) (hl : ls[i]? = some (some (.ref x))) (k : E M mc ms (pc + 2) ls (.ref x :: st) z I Q) : E M mc ms pc ls (st) z I Q := fun b b0 D cI cM p l e R s m args below meth c C H locs cells slots lsA hH hS hc hs hL => lv_aload C.1 C.2.1 hd (hL.2.2 i _ hl) (k b b0 D cI cM p l e R s m args below meth c C H locs cells slots lsA hH hS hc hs hL)
theorem E_lload_n {M : MI} {mc ms pc : Nat} {ls : List (Option Value)} {st : List Value} {z : Zt} {I : It} {Q : Option Value → Zt → It → Prop} {j : Fin 4} {i : Nat} {x : Int64} (hd : decode M.2.1 pc = .ok (.lload_n j, 1)) (hi : (j : Nat) = i) (hl : ls[i]? = some (some (.long x))) (k : E M mc ms (pc + 1) ls (.long x :: st) z I Q) : E M mc ms pc ls (st) z I Q := fun b b0 D cI cM p l e R s m args below meth c C H locs cells slots lsA hH hS hc hs hL => lv_lload_n C.1 C.2.1 hd hi (hL.2.2 i _ hl) (k b b0 D cI cM p l e R s m args below meth c C H locs cells slots lsA hH hS hc hs hL)
theorem E_lload {M : MI} {mc ms pc : Nat} {ls : List (Option Value)} {st : List Value} {z : Zt} {I : It} {Q : Option Value → Zt → It → Prop} {i : Nat} {x : Int64} (hd : decode M.2.1 pc = .ok (.lload i, 2)) (hl : ls[i]? = some (some (.long x))) (k : E M mc ms (pc + 2) ls (.long x :: st) z I Q) : E M mc ms pc ls (st) z I Q := fun b b0 D cI cM p l e R s m args below meth c C H locs cells slots lsA hH hS hc hs hL => lv_lload C.1 C.2.1 hd (hL.2.2 i _ hl) (k b b0 D cI cM p l e R s m args below meth c C H locs cells slots lsA hH hS hc hs hL)
theorem E_iadd {M : MI} {mc ms pc : Nat} {ls : List (Option Value)} {st : List Value} {z : Zt} {I : It} {Q : Option Value → Zt → It → Prop} {x y : Int32} (hd : decode M.2.1 pc = .ok (.iadd, 1))  (k : E M mc ms (pc + 1) ls (.int (x + y) :: st) z I Q) : E M mc ms pc ls (.int y :: .int x :: st) z I Q := fun b b0 D cI cM p l e R s m args below meth c C H locs cells slots lsA hH hS hc hs hL => lv_iadd C.1 C.2.1 hd  (k b b0 D cI cM p l e R s m args below meth c C H locs cells slots lsA hH hS hc hs hL)
theorem E_isub {M : MI} {mc ms pc : Nat} {ls : List (Option Value)} {st : List Value} {z : Zt} {I : It} {Q : Option Value → Zt → It → Prop} {x y : Int32} (hd : decode M.2.1 pc = .ok (.isub, 1))  (k : E M mc ms (pc + 1) ls (.int (x - y) :: st) z I Q) : E M mc ms pc ls (.int y :: .int x :: st) z I Q := fun b b0 D cI cM p l e R s m args below meth c C H locs cells slots lsA hH hS hc hs hL => lv_isub C.1 C.2.1 hd  (k b b0 D cI cM p l e R s m args below meth c C H locs cells slots lsA hH hS hc hs hL)
theorem E_imul {M : MI} {mc ms pc : Nat} {ls : List (Option Value)} {st : List Value} {z : Zt} {I : It} {Q : Option Value → Zt → It → Prop} {x y : Int32} (hd : decode M.2.1 pc = .ok (.imul, 1))  (k : E M mc ms (pc + 1) ls (.int (x * y) :: st) z I Q) : E M mc ms pc ls (.int y :: .int x :: st) z I Q := fun b b0 D cI cM p l e R s m args below meth c C H locs cells slots lsA hH hS hc hs hL => lv_imul C.1 C.2.1 hd  (k b b0 D cI cM p l e R s m args below meth c C H locs cells slots lsA hH hS hc hs hL)
theorem E_iand {M : MI} {mc ms pc : Nat} {ls : List (Option Value)} {st : List Value} {z : Zt} {I : It} {Q : Option Value → Zt → It → Prop} {x y : Int32} (hd : decode M.2.1 pc = .ok (.iand, 1))  (k : E M mc ms (pc + 1) ls (.int (x &&& y) :: st) z I Q) : E M mc ms pc ls (.int y :: .int x :: st) z I Q := fun b b0 D cI cM p l e R s m args below meth c C H locs cells slots lsA hH hS hc hs hL => lv_iand C.1 C.2.1 hd  (k b b0 D cI cM p l e R s m args below meth c C H locs cells slots lsA hH hS hc hs hL)
theorem E_ior {M : MI} {mc ms pc : Nat} {ls : List (Option Value)} {st : List Value} {z : Zt} {I : It} {Q : Option Value → Zt → It → Prop} {x y : Int32} (hd : decode M.2.1 pc = .ok (.ior, 1))  (k : E M mc ms (pc + 1) ls (.int (x ||| y) :: st) z I Q) : E M mc ms pc ls (.int y :: .int x :: st) z I Q := fun b b0 D cI cM p l e R s m args below meth c C H locs cells slots lsA hH hS hc hs hL => lv_ior C.1 C.2.1 hd  (k b b0 D cI cM p l e R s m args below meth c C H locs cells slots lsA hH hS hc hs hL)
theorem E_ixor {M : MI} {mc ms pc : Nat} {ls : List (Option Value)} {st : List Value} {z : Zt} {I : It} {Q : Option Value → Zt → It → Prop} {x y : Int32} (hd : decode M.2.1 pc = .ok (.ixor, 1))  (k : E M mc ms (pc + 1) ls (.int (x ^^^ y) :: st) z I Q) : E M mc ms pc ls (.int y :: .int x :: st) z I Q := fun b b0 D cI cM p l e R s m args below meth c C H locs cells slots lsA hH hS hc hs hL => lv_ixor C.1 C.2.1 hd  (k b b0 D cI cM p l e R s m args below meth c C H locs cells slots lsA hH hS hc hs hL)
theorem E_ishl {M : MI} {mc ms pc : Nat} {ls : List (Option Value)} {st : List Value} {z : Zt} {I : It} {Q : Option Value → Zt → It → Prop} {x y : Int32} (hd : decode M.2.1 pc = .ok (.ishl, 1))  (k : E M mc ms (pc + 1) ls (.int (x <<< (y &&& 31)) :: st) z I Q) : E M mc ms pc ls (.int y :: .int x :: st) z I Q := fun b b0 D cI cM p l e R s m args below meth c C H locs cells slots lsA hH hS hc hs hL => lv_ishl C.1 C.2.1 hd  (k b b0 D cI cM p l e R s m args below meth c C H locs cells slots lsA hH hS hc hs hL)
theorem E_ishr {M : MI} {mc ms pc : Nat} {ls : List (Option Value)} {st : List Value} {z : Zt} {I : It} {Q : Option Value → Zt → It → Prop} {x y : Int32} (hd : decode M.2.1 pc = .ok (.ishr, 1))  (k : E M mc ms (pc + 1) ls (.int (x >>> (y &&& 31)) :: st) z I Q) : E M mc ms pc ls (.int y :: .int x :: st) z I Q := fun b b0 D cI cM p l e R s m args below meth c C H locs cells slots lsA hH hS hc hs hL => lv_ishr C.1 C.2.1 hd  (k b b0 D cI cM p l e R s m args below meth c C H locs cells slots lsA hH hS hc hs hL)
theorem E_idiv {M : MI} {mc ms pc : Nat} {ls : List (Option Value)} {st : List Value} {z : Zt} {I : It} {Q : Option Value → Zt → It → Prop} {x y : Int32} (hd : decode M.2.1 pc = .ok (.idiv, 1)) (hn : ¬ y = 0) (k : E M mc ms (pc + 1) ls (.int (x / y) :: st) z I Q) : E M mc ms pc ls (.int y :: .int x :: st) z I Q := fun b b0 D cI cM p l e R s m args below meth c C H locs cells slots lsA hH hS hc hs hL => lv_idiv C.1 C.2.1 hd hn (k b b0 D cI cM p l e R s m args below meth c C H locs cells slots lsA hH hS hc hs hL)
theorem E_irem {M : MI} {mc ms pc : Nat} {ls : List (Option Value)} {st : List Value} {z : Zt} {I : It} {Q : Option Value → Zt → It → Prop} {x y : Int32} (hd : decode M.2.1 pc = .ok (.irem, 1)) (hn : ¬ y = 0) (k : E M mc ms (pc + 1) ls (.int (x - x / y * y) :: st) z I Q) : E M mc ms pc ls (.int y :: .int x :: st) z I Q := fun b b0 D cI cM p l e R s m args below meth c C H locs cells slots lsA hH hS hc hs hL => lv_irem C.1 C.2.1 hd hn (k b b0 D cI cM p l e R s m args below meth c C H locs cells slots lsA hH hS hc hs hL)
theorem E_ladd {M : MI} {mc ms pc : Nat} {ls : List (Option Value)} {st : List Value} {z : Zt} {I : It} {Q : Option Value → Zt → It → Prop} {x y : Int64} (hd : decode M.2.1 pc = .ok (.ladd, 1))  (k : E M mc ms (pc + 1) ls (.long (x + y) :: st) z I Q) : E M mc ms pc ls (.long y :: .long x :: st) z I Q := fun b b0 D cI cM p l e R s m args below meth c C H locs cells slots lsA hH hS hc hs hL => lv_ladd C.1 C.2.1 hd  (k b b0 D cI cM p l e R s m args below meth c C H locs cells slots lsA hH hS hc hs hL)
theorem E_lmul {M : MI} {mc ms pc : Nat} {ls : List (Option Value)} {st : List Value} {z : Zt} {I : It} {Q : Option Value → Zt → It → Prop} {x y : Int64} (hd : decode M.2.1 pc = .ok (.lmul, 1))  (k : E M mc ms (pc + 1) ls (.long (x * y) :: st) z I Q) : E M mc ms pc ls (.long y :: .long x :: st) z I Q := fun b b0 D cI cM p l e R s m args below meth c C H locs cells slots lsA hH hS hc hs hL => lv_lmul C.1 C.2.1 hd  (k b b0 D cI cM p l e R s m args below meth c C H locs cells slots lsA hH hS hc hs hL)
theorem E_land {M : MI} {mc ms pc : Nat} {ls : List (Option Value)} {st : List Value} {z : Zt} {I : It} {Q : Option Value → Zt → It → Prop} {x y : Int64} (hd : decode M.2.1 pc = .ok (.land, 1))  (k : E M mc ms (pc + 1) ls (.long (x &&& y) :: st) z I Q) : E M mc ms pc ls (.long y :: .long x :: st) z I Q := fun b b0 D cI cM p l e R s m args below meth c C H locs cells slots lsA hH hS hc hs hL => lv_land C.1 C.2.1 hd  (k b b0 D cI cM p l e R s m args below meth c C H locs cells slots lsA hH hS hc hs hL)
theorem E_lrem {M : MI} {mc ms pc : Nat} {ls : List (Option Value)} {st : List Value} {z : Zt} {I : It} {Q : Option Value → Zt → It → Prop} {x y : Int64} (hd : decode M.2.1 pc = .ok (.lrem, 1)) (hn : ¬ y = 0) (k : E M mc ms (pc + 1) ls (.long (x - x / y * y) :: st) z I Q) : E M mc ms pc ls (.long y :: .long x :: st) z I Q := fun b b0 D cI cM p l e R s m args below meth c C H locs cells slots lsA hH hS hc hs hL => lv_lrem C.1 C.2.1 hd hn (k b b0 D cI cM p l e R s m args below meth c C H locs cells slots lsA hH hS hc hs hL)
theorem E_i2l {M : MI} {mc ms pc : Nat} {ls : List (Option Value)} {st : List Value} {z : Zt} {I : It} {Q : Option Value → Zt → It → Prop} {x : Int32} (hd : decode M.2.1 pc = .ok (.i2l, 1))  (k : E M mc ms (pc + 1) ls (.long x.toInt64 :: st) z I Q) : E M mc ms pc ls (.int x :: st) z I Q := fun b b0 D cI cM p l e R s m args below meth c C H locs cells slots lsA hH hS hc hs hL => lv_i2l C.1 C.2.1 hd rfl (k b b0 D cI cM p l e R s m args below meth c C H locs cells slots lsA hH hS hc hs hL)
theorem E_l2i {M : MI} {mc ms pc : Nat} {ls : List (Option Value)} {st : List Value} {z : Zt} {I : It} {Q : Option Value → Zt → It → Prop} {x : Int64} (hd : decode M.2.1 pc = .ok (.l2i, 1))  (k : E M mc ms (pc + 1) ls (.int x.toInt32 :: st) z I Q) : E M mc ms pc ls (.long x :: st) z I Q := fun b b0 D cI cM p l e R s m args below meth c C H locs cells slots lsA hH hS hc hs hL => lv_l2i C.1 C.2.1 hd rfl (k b b0 D cI cM p l e R s m args below meth c C H locs cells slots lsA hH hS hc hs hL)
theorem E_dupi {M : MI} {mc ms pc : Nat} {ls : List (Option Value)} {st : List Value} {z : Zt} {I : It} {Q : Option Value → Zt → It → Prop} {x : Int32} (hd : decode M.2.1 pc = .ok (.dup, 1))  (k : E M mc ms (pc + 1) ls (.int x :: .int x :: st) z I Q) : E M mc ms pc ls (.int x :: st) z I Q := fun b b0 D cI cM p l e R s m args below meth c C H locs cells slots lsA hH hS hc hs hL => lv_dup C.1 C.2.1 hd rfl (k b b0 D cI cM p l e R s m args below meth c C H locs cells slots lsA hH hS hc hs hL)
theorem E_dupr {M : MI} {mc ms pc : Nat} {ls : List (Option Value)} {st : List Value} {z : Zt} {I : It} {Q : Option Value → Zt → It → Prop} {x : Nat} (hd : decode M.2.1 pc = .ok (.dup, 1))  (k : E M mc ms (pc + 1) ls (.ref x :: .ref x :: st) z I Q) : E M mc ms pc ls (.ref x :: st) z I Q := fun b b0 D cI cM p l e R s m args below meth c C H locs cells slots lsA hH hS hc hs hL => lv_dup C.1 C.2.1 hd rfl (k b b0 D cI cM p l e R s m args below meth c C H locs cells slots lsA hH hS hc hs hL)
theorem E_dup2 {M : MI} {mc ms pc : Nat} {ls : List (Option Value)} {st : List Value} {z : Zt} {I : It} {Q : Option Value → Zt → It → Prop} {x : Int32} {a : Nat} (hd : decode M.2.1 pc = .ok (.dup2, 1))  (k : E M mc ms (pc + 1) ls (.int x :: .ref a :: .int x :: .ref a :: st) z I Q) : E M mc ms pc ls (.int x :: .ref a :: st) z I Q := fun b b0 D cI cM p l e R s m args below meth c C H locs cells slots lsA hH hS hc hs hL => lv_dup2_11 C.1 C.2.1 hd rfl rfl (k b b0 D cI cM p l e R s m args below meth c C H locs cells slots lsA hH hS hc hs hL)
theorem E_popi {M : MI} {mc ms pc : Nat} {ls : List (Option Value)} {st : List Value} {z : Zt} {I : It} {Q : Option Value → Zt → It → Prop} {x : Int32} (hd : decode M.2.1 pc = .ok (.pop, 1))  (k : E M mc ms (pc + 1) ls (st) z I Q) : E M mc ms pc ls (.int x :: st) z I Q := fun b b0 D cI cM p l e R s m args below meth c C H locs cells slots lsA hH hS hc hs hL => lv_pop C.1 C.2.1 hd rfl (k b b0 D cI cM p l e R s m args below meth c C H locs cells slots lsA hH hS hc hs hL)
theorem E_null {M : MI} {mc ms pc : Nat} {ls : List (Option Value)} {st : List Value} {z : Zt} {I : It} {Q : Option Value → Zt → It → Prop}  (hd : decode M.2.1 pc = .ok (.aconst_null, 1))  (k : E M mc ms (pc + 1) ls (.null :: st) z I Q) : E M mc ms pc ls (st) z I Q := fun b b0 D cI cM p l e R s m args below meth c C H locs cells slots lsA hH hS hc hs hL => lv_null C.1 C.2.1 hd  (k b b0 D cI cM p l e R s m args below meth c C H locs cells slots lsA hH hS hc hs hL)
theorem E_goto {M : MI} {mc ms pc : Nat} {ls : List (Option Value)} {st : List Value} {z : Zt} {I : It} {Q : Option Value → Zt → It → Prop} {off : Int} {tgt : Nat} (hd : decode M.2.1 pc = .ok (.goto off, 3)) (ht : (pc : Int) + off = (tgt : Int)) (k : E M mc ms tgt ls st z I Q) : E M mc ms pc ls st z I Q := fun b b0 D cI cM p l e R s m args below meth c C H locs cells slots lsA hH hS hc hs hL => lv_goto C.1 C.2.1 hd ht (k b b0 D cI cM p l e R s m args below meth c C H locs cells slots lsA hH hS hc hs hL)
theorem E_if_eq {M : MI} {mc ms pc : Nat} {ls : List (Option Value)} {st : List Value} {z : Zt} {I : It} {Q : Option Value → Zt → It → Prop} {x : Int32} {off : Int} {tgt : Nat} (hd : decode M.2.1 pc = .ok (.ifCond .eq off, 3)) (ht : (pc : Int) + off = (tgt : Int)) (kt : x = 0 → E M mc ms tgt ls st z I Q) (kf : ¬ x = 0 → E M mc ms (pc + 3) ls st z I Q) : E M mc ms pc ls (.int x :: st) z I Q := fun b b0 D cI cM p l e R s m args below meth c C H locs cells slots lsA hH hS hc hs hL => lv_if_eq C.1 C.2.1 hd ht (fun h => kt h b b0 D cI cM p l e R s m args below meth c C H locs cells slots lsA hH hS hc hs hL) (fun h => kf h b b0 D cI cM p l e R s m args below meth c C H locs cells slots lsA hH hS hc hs hL)
theorem E_icmp_eq {M : MI} {mc ms pc : Nat} {ls : List (Option Value)} {st : List Value} {z : Zt} {I : It} {Q : Option Value → Zt → It → Prop} {x y : Int32} {off : Int} {tgt : Nat} (hd : decode M.2.1 pc = .ok (.if_icmp .eq off, 3)) (ht : (pc : Int) + off = (tgt : Int)) (kt : x = y → E M mc ms tgt ls st z I Q) (kf : ¬ x = y → E M mc ms (pc + 3) ls st z I Q) : E M mc ms pc ls (.int y :: .int x :: st) z I Q := fun b b0 D cI cM p l e R s m args below meth c C H locs cells slots lsA hH hS hc hs hL => lv_icmp_eq C.1 C.2.1 hd ht (fun h => kt h b b0 D cI cM p l e R s m args below meth c C H locs cells slots lsA hH hS hc hs hL) (fun h => kf h b b0 D cI cM p l e R s m args below meth c C H locs cells slots lsA hH hS hc hs hL)
theorem E_if_ne {M : MI} {mc ms pc : Nat} {ls : List (Option Value)} {st : List Value} {z : Zt} {I : It} {Q : Option Value → Zt → It → Prop} {x : Int32} {off : Int} {tgt : Nat} (hd : decode M.2.1 pc = .ok (.ifCond .ne off, 3)) (ht : (pc : Int) + off = (tgt : Int)) (kt : ¬ x = 0 → E M mc ms tgt ls st z I Q) (kf : x = 0 → E M mc ms (pc + 3) ls st z I Q) : E M mc ms pc ls (.int x :: st) z I Q := fun b b0 D cI cM p l e R s m args below meth c C H locs cells slots lsA hH hS hc hs hL => lv_if_ne C.1 C.2.1 hd ht (fun h => kt h b b0 D cI cM p l e R s m args below meth c C H locs cells slots lsA hH hS hc hs hL) (fun h => kf h b b0 D cI cM p l e R s m args below meth c C H locs cells slots lsA hH hS hc hs hL)
theorem E_icmp_ne {M : MI} {mc ms pc : Nat} {ls : List (Option Value)} {st : List Value} {z : Zt} {I : It} {Q : Option Value → Zt → It → Prop} {x y : Int32} {off : Int} {tgt : Nat} (hd : decode M.2.1 pc = .ok (.if_icmp .ne off, 3)) (ht : (pc : Int) + off = (tgt : Int)) (kt : ¬ x = y → E M mc ms tgt ls st z I Q) (kf : x = y → E M mc ms (pc + 3) ls st z I Q) : E M mc ms pc ls (.int y :: .int x :: st) z I Q := fun b b0 D cI cM p l e R s m args below meth c C H locs cells slots lsA hH hS hc hs hL => lv_icmp_ne C.1 C.2.1 hd ht (fun h => kt h b b0 D cI cM p l e R s m args below meth c C H locs cells slots lsA hH hS hc hs hL) (fun h => kf h b b0 D cI cM p l e R s m args below meth c C H locs cells slots lsA hH hS hc hs hL)
theorem E_if_lt {M : MI} {mc ms pc : Nat} {ls : List (Option Value)} {st : List Value} {z : Zt} {I : It} {Q : Option Value → Zt → It → Prop} {x : Int32} {off : Int} {tgt : Nat} (hd : decode M.2.1 pc = .ok (.ifCond .lt off, 3)) (ht : (pc : Int) + off = (tgt : Int)) (kt : x < 0 → E M mc ms tgt ls st z I Q) (kf : ¬ x < 0 → E M mc ms (pc + 3) ls st z I Q) : E M mc ms pc ls (.int x :: st) z I Q := fun b b0 D cI cM p l e R s m args below meth c C H locs cells slots lsA hH hS hc hs hL => lv_if_lt C.1 C.2.1 hd ht (fun h => kt h b b0 D cI cM p l e R s m args below meth c C H locs cells slots lsA hH hS hc hs hL) (fun h => kf h b b0 D cI cM p l e R s m args below meth c C H locs cells slots lsA hH hS hc hs hL)
theorem E_icmp_lt {M : MI} {mc ms pc : Nat} {ls : List (Option Value)} {st : List Value} {z : Zt} {I : It} {Q : Option Value → Zt → It → Prop} {x y : Int32} {off : Int} {tgt : Nat} (hd : decode M.2.1 pc = .ok (.if_icmp .lt off, 3)) (ht : (pc : Int) + off = (tgt : Int)) (kt : x < y → E M mc ms tgt ls st z I Q) (kf : ¬ x < y → E M mc ms (pc + 3) ls st z I Q) : E M mc ms pc ls (.int y :: .int x :: st) z I Q := fun b b0 D cI cM p l e R s m args below meth c C H locs cells slots lsA hH hS hc hs hL => lv_icmp_lt C.1 C.2.1 hd ht (fun h => kt h b b0 D cI cM p l e R s m args below meth c C H locs cells slots lsA hH hS hc hs hL) (fun h => kf h b b0 D cI cM p l e R s m args below meth c C H locs cells slots lsA hH hS hc hs hL)
theorem E_if_ge {M : MI} {mc ms pc : Nat} {ls : List (Option Value)} {st : List Value} {z : Zt} {I : It} {Q : Option Value → Zt → It → Prop} {x : Int32} {off : Int} {tgt : Nat} (hd : decode M.2.1 pc = .ok (.ifCond .ge off, 3)) (ht : (pc : Int) + off = (tgt : Int)) (kt : 0 ≤ x → E M mc ms tgt ls st z I Q) (kf : ¬ 0 ≤ x → E M mc ms (pc + 3) ls st z I Q) : E M mc ms pc ls (.int x :: st) z I Q := fun b b0 D cI cM p l e R s m args below meth c C H locs cells slots lsA hH hS hc hs hL => lv_if_ge C.1 C.2.1 hd ht (fun h => kt h b b0 D cI cM p l e R s m args below meth c C H locs cells slots lsA hH hS hc hs hL) (fun h => kf h b b0 D cI cM p l e R s m args below meth c C H locs cells slots lsA hH hS hc hs hL)
theorem E_icmp_ge {M : MI} {mc ms pc : Nat} {ls : List (Option Value)} {st : List Value} {z : Zt} {I : It} {Q : Option Value → Zt → It → Prop} {x y : Int32} {off : Int} {tgt : Nat} (hd : decode M.2.1 pc = .ok (.if_icmp .ge off, 3)) (ht : (pc : Int) + off = (tgt : Int)) (kt : y ≤ x → E M mc ms tgt ls st z I Q) (kf : ¬ y ≤ x → E M mc ms (pc + 3) ls st z I Q) : E M mc ms pc ls (.int y :: .int x :: st) z I Q := fun b b0 D cI cM p l e R s m args below meth c C H locs cells slots lsA hH hS hc hs hL => lv_icmp_ge C.1 C.2.1 hd ht (fun h => kt h b b0 D cI cM p l e R s m args below meth c C H locs cells slots lsA hH hS hc hs hL) (fun h => kf h b b0 D cI cM p l e R s m args below meth c C H locs cells slots lsA hH hS hc hs hL)
theorem E_if_gt {M : MI} {mc ms pc : Nat} {ls : List (Option Value)} {st : List Value} {z : Zt} {I : It} {Q : Option Value → Zt → It → Prop} {x : Int32} {off : Int} {tgt : Nat} (hd : decode M.2.1 pc = .ok (.ifCond .gt off, 3)) (ht : (pc : Int) + off = (tgt : Int)) (kt : 0 < x → E M mc ms tgt ls st z I Q) (kf : ¬ 0 < x → E M mc ms (pc + 3) ls st z I Q) : E M mc ms pc ls (.int x :: st) z I Q := fun b b0 D cI cM p l e R s m args below meth c C H locs cells slots lsA hH hS hc hs hL => lv_if_gt C.1 C.2.1 hd ht (fun h => kt h b b0 D cI cM p l e R s m args below meth c C H locs cells slots lsA hH hS hc hs hL) (fun h => kf h b b0 D cI cM p l e R s m args below meth c C H locs cells slots lsA hH hS hc hs hL)
theorem E_icmp_gt {M : MI} {mc ms pc : Nat} {ls : List (Option Value)} {st : List Value} {z : Zt} {I : It} {Q : Option Value → Zt → It → Prop} {x y : Int32} {off : Int} {tgt : Nat} (hd : decode M.2.1 pc = .ok (.if_icmp .gt off, 3)) (ht : (pc : Int) + off = (tgt : Int)) (kt : y < x → E M mc ms tgt ls st z I Q) (kf : ¬ y < x → E M mc ms (pc + 3) ls st z I Q) : E M mc ms pc ls (.int y :: .int x :: st) z I Q := fun b b0 D cI cM p l e R s m args below meth c C H locs cells slots lsA hH hS hc hs hL => lv_icmp_gt C.1 C.2.1 hd ht (fun h => kt h b b0 D cI cM p l e R s m args below meth c C H locs cells slots lsA hH hS hc hs hL) (fun h => kf h b b0 D cI cM p l e R s m args below meth c C H locs cells slots lsA hH hS hc hs hL)
theorem E_if_le {M : MI} {mc ms pc : Nat} {ls : List (Option Value)} {st : List Value} {z : Zt} {I : It} {Q : Option Value → Zt → It → Prop} {x : Int32} {off : Int} {tgt : Nat} (hd : decode M.2.1 pc = .ok (.ifCond .le off, 3)) (ht : (pc : Int) + off = (tgt : Int)) (kt : x ≤ 0 → E M mc ms tgt ls st z I Q) (kf : ¬ x ≤ 0 → E M mc ms (pc + 3) ls st z I Q) : E M mc ms pc ls (.int x :: st) z I Q := fun b b0 D cI cM p l e R s m args below meth c C H locs cells slots lsA hH hS hc hs hL => lv_if_le C.1 C.2.1 hd ht (fun h => kt h b b0 D cI cM p l e R s m args below meth c C H locs cells slots lsA hH hS hc hs hL) (fun h => kf h b b0 D cI cM p l e R s m args below meth c C H locs cells slots lsA hH hS hc hs hL)
theorem E_icmp_le {M : MI} {mc ms pc : Nat} {ls : List (Option Value)} {st : List Value} {z : Zt} {I : It} {Q : Option Value → Zt → It → Prop} {x y : Int32} {off : Int} {tgt : Nat} (hd : decode M.2.1 pc = .ok (.if_icmp .le off, 3)) (ht : (pc : Int) + off = (tgt : Int)) (kt : x ≤ y → E M mc ms tgt ls st z I Q) (kf : ¬ x ≤ y → E M mc ms (pc + 3) ls st z I Q) : E M mc ms pc ls (.int y :: .int x :: st) z I Q := fun b b0 D cI cM p l e R s m args below meth c C H locs cells slots lsA hH hS hc hs hL => lv_icmp_le C.1 C.2.1 hd ht (fun h => kt h b b0 D cI cM p l e R s m args below meth c C H locs cells slots lsA hH hS hc hs hL) (fun h => kf h b b0 D cI cM p l e R s m args below meth c C H locs cells slots lsA hH hS hc hs hL)
theorem E_ifnonnull {M : MI} {mc ms pc : Nat} {ls : List (Option Value)} {st : List Value} {z : Zt} {I : It} {Q : Option Value → Zt → It → Prop} {x : Nat} {off : Int} {tgt : Nat} (hd : decode M.2.1 pc = .ok (.ifnonnull off, 3)) (ht : (pc : Int) + off = (tgt : Int)) (k : E M mc ms tgt ls st z I Q) : E M mc ms pc ls (.ref x :: st) z I Q := fun b b0 D cI cM p l e R s m args below meth c C H locs cells slots lsA hH hS hc hs hL => lv_ifnonnull C.1 C.2.1 hd ht (k b b0 D cI cM p l e R s m args below meth c C H locs cells slots lsA hH hS hc hs hL)
theorem E_ifnull {M : MI} {mc ms pc : Nat} {ls : List (Option Value)} {st : List Value} {z : Zt} {I : It} {Q : Option Value → Zt → It → Prop} {x : Nat} {off : Int} (hd : decode M.2.1 pc = .ok (.ifnull off, 3)) (k : E M mc ms (pc + 3) ls st z I Q) : E M mc ms pc ls (.ref x :: st) z I Q := fun b b0 D cI cM p l e R s m args below meth c C H locs cells slots lsA hH hS hc hs hL => lv_ifnull C.1 C.2.1 hd (k b b0 D cI cM p l e R s m args below meth c C H locs cells slots lsA hH hS hc hs hL)
theorem E_ifnonnullN {M : MI} {mc ms pc : Nat} {ls : List (Option Value)} {st : List Value} {z : Zt} {I : It} {Q : Option Value → Zt → It → Prop} {off : Int} (hd : decode M.2.1 pc = .ok (.ifnonnull off, 3)) (k : E M mc ms (pc + 3) ls st z I Q) : E M mc ms pc ls (.null :: st) z I Q := fun b b0 D cI cM p l e R s m args below meth c C H locs cells slots lsA hH hS hc hs hL => lv_ifnonnullN C.1 C.2.1 hd (k b b0 D cI cM p l e R s m args below meth c C H locs cells slots lsA hH hS hc hs hL)
theorem E_ifnullN {M : MI} {mc ms pc : Nat} {ls : List (Option Value)} {st : List Value} {z : Zt} {I : It} {Q : Option Value → Zt → It → Prop} {off : Int} {tgt : Nat} (hd : decode M.2.1 pc = .ok (.ifnull off, 3)) (ht : (pc : Int) + off = (tgt : Int)) (k : E M mc ms tgt ls st z I Q) : E M mc ms pc ls (.null :: st) z I Q := fun b b0 D cI cM p l e R s m args below meth c C H locs cells slots lsA hH hS hc hs hL => lv_ifnullN C.1 C.2.1 hd ht (k b b0 D cI cM p l e R s m args below meth c C H locs cells slots lsA hH hS hc hs hL)
theorem E_aload_nN {M : MI} {mc ms pc : Nat} {ls : List (Option Value)} {st : List Value} {z : Zt} {I : It} {Q : Option Value → Zt → It → Prop} {j : Fin 4} {i : Nat} (hd : decode M.2.1 pc = .ok (.aload_n j, 1)) (hi : (j : Nat) = i) (hl : ls[i]? = some (some .null)) (k : E M mc ms (pc + 1) ls (.null :: st) z I Q) : E M mc ms pc ls (st) z I Q := fun b b0 D cI cM p l e R s m args below meth c C H locs cells slots lsA hH hS hc hs hL => lv_aload_nN C.1 C.2.1 hd hi (hL.2.2 i _ hl) (k b b0 D cI cM p l e R s m args below meth c C H locs cells slots lsA hH hS hc hs hL)
theorem E_tswIn {M : MI} {mc ms pc : Nat} {ls : List (Option Value)} {st : List Value} {z : Zt} {I : It} {Q : Option Value → Zt → It → Prop} {dflt lo hi : Int} {offs : Array Int} {len : Nat} {x : Int32} {v off : Int} {tgt : Nat} (hd : decode M.2.1 pc = .ok (.tableswitch dflt lo hi offs, len)) (hx : x.toInt = v) (h1 : ¬ v < lo) (h2 : ¬ hi < v) (ho : offs[(v - lo).toNat]? = some off) (ht : (pc : Int) + off = (tgt : Int)) (k : E M mc ms tgt ls st z I Q) : E M mc ms pc ls (.int x :: st) z I Q := fun b b0 D cI cM p l e R s m args below meth c C H locs cells slots lsA hH hS hc hs hL => lv_tableIn C.1 C.2.1 hd (by rw [hx]; exact h1) (by rw [hx]; exact h2) (by rw [hx]; exact ho) ht (k b b0 D cI cM p l e R s m args below meth c C H locs cells slots lsA hH hS hc hs hL)
theorem E_tswOut {M : MI} {mc ms pc : Nat} {ls : List (Option Value)} {st : List Value} {z : Zt} {I : It} {Q : Option Value → Zt → It → Prop} {dflt lo hi : Int} {offs : Array Int} {len : Nat} {x : Int32} {tgt : Nat} (hd : decode M.2.1 pc = .ok (.tableswitch dflt lo hi offs, len)) (h : x.toInt < lo ∨ hi < x.toInt) (ht : (pc : Int) + dflt = (tgt : Int)) (k : E M mc ms tgt ls st z I Q) : E M mc ms pc ls (.int x :: st) z I Q := fun b b0 D cI cM p l e R s m args below meth c C H locs cells slots lsA hH hS hc hs hL => lv_tableOut C.1 C.2.1 hd h ht (k b b0 D cI cM p l e R s m args below meth c C H locs cells slots lsA hH hS hc hs hL)
theorem E_lsw {M : MI} {mc ms pc : Nat} {ls : List (Option Value)} {st : List Value} {z : Zt} {I : It} {Q : Option Value → Zt → It → Prop} {dflt : Int} {ps : Array (Int × Int)} {len : Nat} {x : Int32} {off : Int} {tgt : Nat} (hd : decode M.2.1 pc = .ok (.lookupswitch dflt ps, len)) (hp : (ps.toList.zip (ps.toList.drop 1)).all (fun (a, next) => a.1 < next.1) = true) (ho : Op.lookupswitch.offset ps.toList dflt x.toInt = off) (ht : (pc : Int) + off = (tgt : Int)) (k : E M mc ms tgt ls st z I Q) : E M mc ms pc ls (.int x :: st) z I Q := fun b b0 D cI cM p l e R s m args below meth c C H locs cells slots lsA hH hS hc hs hL => lv_lookup C.1 C.2.1 hd hp ho ht (k b b0 D cI cM p l e R s m args below meth c C H locs cells slots lsA hH hS hc hs hL)
theorem E_ldc {M : MI} {mc ms pc : Nat} {ls : List (Option Value)} {st : List Value} {z : Zt} {I : It} {Q : Option Value → Zt → It → Prop} {v : Int32} {index : Nat} (hd : decode M.2.1 pc = .ok (.ldc index, 2)) (hw : Cond.constant M.1.cls index v ∈ WL) (k : E M mc ms (pc + 2) ls (.int v :: st) z I Q) : E M mc ms pc ls (st) z I Q := fun b b0 D cI cM p l e R s m args below meth c C H locs cells slots lsA hH hS hc hs hL => lv_ldc C.1 C.2.1 C.2.2.2.2.1 (C.2.2.2.2.2.1 _ hw) hd (k b b0 D cI cM p l e R s m args below meth c C H locs cells slots lsA hH hS hc hs hL)
theorem E_ldc2 {M : MI} {mc ms pc : Nat} {ls : List (Option Value)} {st : List Value} {z : Zt} {I : It} {Q : Option Value → Zt → It → Prop} {v : Int64} {index : Nat} (hd : decode M.2.1 pc = .ok (.ldc2_w index, 3)) (hw : Cond.constantLong M.1.cls index v ∈ WL) (k : E M mc ms (pc + 3) ls (.long v :: st) z I Q) : E M mc ms pc ls (st) z I Q := fun b b0 D cI cM p l e R s m args below meth c C H locs cells slots lsA hH hS hc hs hL => lv_ldc2 C.1 C.2.1 C.2.2.2.2.1 (C.2.2.2.2.2.1 _ hw) hd (k b b0 D cI cM p l e R s m args below meth c C H locs cells slots lsA hH hS hc hs hL)
end
section
/-! ===== locals are stored, fields, arrays ===== -/
def e_c1 (o : Option Value) : Bool := match o with
  | some v => v.category == 1
  | none => true
def e_as (b b0 : Nat) (ls : List (Option Value)) : List (Nat × Value) := (List.range ls.length).filterMap fun i => match ls[i]? with
  | some (some v) => some (i, e_tv b b0 v)
  | _ => none
theorem e_as_mem {b b0 : Nat} {ls : List (Option Value)} {q : Nat × Value} : q ∈ e_as b b0 ls ↔ ∃ v, ls[q.1]? = some (some v) ∧ q.2 = e_tv b b0 v := by
  unfold e_as
  rw [List.mem_filterMap]
  constructor
  · rintro ⟨i, hi, h⟩
    split at h
    next v hv =>
      cases h
      exact ⟨v, hv, rfl⟩
    next => cases h
  · rintro ⟨v, hv, h⟩
    refine ⟨q.1, List.mem_range.mpr (List.getElem?_eq_some_iff.mp hv).1, ?_⟩
    rw [hv]
    obtain ⟨i, w⟩ := q
    simp only at h ⊢
    rw [h]
theorem e_L.has {b b0 nL : Nat} {ls : List (Option Value)} {lsA : Array Slot} (h : e_L b b0 nL ls lsA) : lv_has lsA nL (e_as b b0 ls) := ⟨h.1, h.2.1, fun q hq => by
  obtain ⟨v, h1, h2⟩ := e_as_mem.mp hq
  rw [h2]
  exact h.2.2 q.1 v h1⟩
theorem e_L.of1 {b b0 nL : Nat} {ls : List (Option Value)} {lsA : Array Slot} {i : Nat} {v : Value} (hc : ls.all e_c1 = true) (h : lv_has lsA nL ((i, e_tv b b0 v) :: (e_as b b0 ls).filter (fun q => !(q.1 == i) && !(q.1 + 1 == i && q.2.category == 2)))) : e_L b b0 nL (ls.set i (some v)) lsA := by
  refine ⟨h.1, h.2.1, fun j w hj => ?_⟩
  by_cases e : j = i
  · subst e
    have hl : j < (ls.set j (some v)).length := (List.getElem?_eq_some_iff.mp hj).1
    rw [List.length_set] at hl
    rw [List.getElem?_set_self hl] at hj
    cases hj
    exact h.2.2 (j, e_tv b b0 v) List.mem_cons_self
  · rw [List.getElem?_set_ne (fun q => e q.symm)] at hj
    have hw : e_c1 (some w) = true := List.all_eq_true.mp hc (some w) (List.mem_of_getElem? hj)
    have hw1 : w.category = 1 := by simpa [e_c1] using hw
    refine h.2.2 (j, e_tv b b0 w) (List.mem_cons_of_mem _ (List.mem_filter.mpr ⟨e_as_mem.mpr ⟨w, hj, rfl⟩, ?_⟩))
    simp [e, e_tv_cat, hw1]
theorem e_L.of2 {b b0 nL : Nat} {ls : List (Option Value)} {lsA : Array Slot} {i : Nat} {v : Value} (hc : ls.all e_c1 = true) (h : lv_has lsA nL ((i, e_tv b b0 v) :: (e_as b b0 ls).filter (fun q => !(q.1 == i) && (!(q.1 == i + 1) && !(q.1 + 1 == i && q.2.category == 2))))) : e_L b b0 nL ((ls.set i (some v)).set (i + 1) none) lsA := by
  refine ⟨h.1, h.2.1, fun j w hj => ?_⟩
  by_cases e1 : j = i + 1
  · subst e1
    have hl := (List.getElem?_eq_some_iff.mp hj).1
    rw [List.length_set] at hl
    rw [List.getElem?_set_self hl] at hj
    cases hj
  · rw [List.getElem?_set_ne (fun q => e1 q.symm)] at hj
    by_cases e : j = i
    · subst e
      have hl : j < (ls.set j (some v)).length := (List.getElem?_eq_some_iff.mp hj).1
      rw [List.length_set] at hl
      rw [List.getElem?_set_self hl] at hj
      cases hj
      exact h.2.2 (j, e_tv b b0 v) List.mem_cons_self
    · rw [List.getElem?_set_ne (fun q => e q.symm)] at hj
      have hw : e_c1 (some w) = true := List.all_eq_true.mp hc (some w) (List.mem_of_getElem? hj)
      have hw1 : w.category = 1 := by simpa [e_c1] using hw
      refine h.2.2 (j, e_tv b b0 w) (List.mem_cons_of_mem _ (List.mem_filter.mpr ⟨e_as_mem.mpr ⟨w, hj, rfl⟩, ?_⟩))
      simp [e, e1, e_tv_cat, hw1]
section STORES
variable {M : MI} {mc ms pc : Nat} {ls ls' : List (Option Value)} {st : List Value} {z : Zt} {I : It} {Q : Option Value → Zt → It → Prop}
theorem E_istore_n {j : Fin 4} {i : Nat} {x : Int32} (hd : decode M.2.1 pc = .ok (.istore_n j, 1)) (hi : (j : Nat) = i) (hn : i < M.2.2.1) (hc : ls.all e_c1 = true) (hl : ls.set i (some (.int x)) = ls') (k : E M mc ms (pc + 1) ls' st z I Q) : E M mc ms pc ls (.int x :: st) z I Q := fun b b0 D cI cM p l e R s m args below meth c C H locs cells slots lsA hH hS hc1 hs hL =>
  lv_istore_n C.1 C.2.1 hd hi hL.has hn rfl (fun lsB hB => k b b0 D cI cM p l e R s m args below meth c C H locs cells slots lsB hH hS hc1 hs (hl ▸ e_L.of1 (v := .int x) hc hB))
theorem E_istore {i : Nat} {x : Int32} (hd : decode M.2.1 pc = .ok (.istore i, 2)) (hn : i < M.2.2.1) (hc : ls.all e_c1 = true) (hl : ls.set i (some (.int x)) = ls') (k : E M mc ms (pc + 2) ls' st z I Q) : E M mc ms pc ls (.int x :: st) z I Q := fun b b0 D cI cM p l e R s m args below meth c C H locs cells slots lsA hH hS hc1 hs hL =>
  lv_istore C.1 C.2.1 hd hL.has hn rfl (fun lsB hB => k b b0 D cI cM p l e R s m args below meth c C H locs cells slots lsB hH hS hc1 hs (hl ▸ e_L.of1 (v := .int x) hc hB))
theorem E_astore_n {j : Fin 4} {i : Nat} {x : Nat} (hd : decode M.2.1 pc = .ok (.astore_n j, 1)) (hi : (j : Nat) = i) (hn : i < M.2.2.1) (hc : ls.all e_c1 = true) (hl : ls.set i (some (.ref x)) = ls') (k : E M mc ms (pc + 1) ls' st z I Q) : E M mc ms pc ls (.ref x :: st) z I Q := fun b b0 D cI cM p l e R s m args below meth c C H locs cells slots lsA hH hS hc1 hs hL =>
  lv_astore_n C.1 C.2.1 hd hi hL.has hn rfl (fun lsB hB => k b b0 D cI cM p l e R s m args below meth c C H locs cells slots lsB hH hS hc1 hs (hl ▸ e_L.of1 (v := .ref x) hc hB))
theorem E_astore_nN {j : Fin 4} {i : Nat} (hd : decode M.2.1 pc = .ok (.astore_n j, 1)) (hi : (j : Nat) = i) (hn : i < M.2.2.1) (hc : ls.all e_c1 = true) (hl : ls.set i (some .null) = ls') (k : E M mc ms (pc + 1) ls' st z I Q) : E M mc ms pc ls (.null :: st) z I Q := fun b b0 D cI cM p l e R s m args below meth c C H locs cells slots lsA hH hS hc1 hs hL =>
  lv_astore_nN C.1 C.2.1 hd hi hL.has hn rfl (fun lsB hB => k b b0 D cI cM p l e R s m args below meth c C H locs cells slots lsB hH hS hc1 hs (hl ▸ e_L.of1 (v := .null) hc hB))
theorem E_lstore_n {j : Fin 4} {i : Nat} {x : Int64} (hd : decode M.2.1 pc = .ok (.lstore_n j, 1)) (hi : (j : Nat) = i) (hn : i + 1 < M.2.2.1) (hc : ls.all e_c1 = true) (hl : (ls.set i (some (.long x))).set (i + 1) none = ls') (k : E M mc ms (pc + 1) ls' st z I Q) : E M mc ms pc ls (.long x :: st) z I Q := fun b b0 D cI cM p l e R s m args below meth c C H locs cells slots lsA hH hS hc1 hs hL =>
  lv_lstore_n C.1 C.2.1 hd hi hL.has hn rfl (fun lsB hB => k b b0 D cI cM p l e R s m args below meth c C H locs cells slots lsB hH hS hc1 hs (hl ▸ e_L.of2 (v := .long x) hc hB))
theorem E_iinc {i : Nat} {n : Int} {x v : Int32} (hd : decode M.2.1 pc = .ok (.iinc i n, 3)) (hx : ls[i]? = some (some (.int x))) (hv : x + Int32.ofInt n = v) (hn : i < M.2.2.1) (hc : ls.all e_c1 = true) (hl : ls.set i (some (.int v)) = ls') (k : E M mc ms (pc + 3) ls' st z I Q) : E M mc ms pc ls st z I Q := fun b b0 D cI cM p l e R s m args below meth c C H locs cells slots lsA hH hS hc1 hs hL => by
  obtain ⟨j, hj⟩ := List.getElem?_of_mem (e_as_mem (b := b) (b0 := b0) (q := (i, .int x)).mpr ⟨_, hx, rfl⟩)
  exact lv_iinc C.1 C.2.1 hd hL.has hj hv hn rfl (fun lsB hB => k b b0 D cI cM p l e R s m args below meth c C H locs cells slots lsB hH hS hc1 hs (hl ▸ e_L.of1 (v := .int v) hc hB))
end STORES
section FIELDS
variable {M : MI} {mc ms pc : Nat} {ls ls' : List (Option Value)} {st : List Value} {z : Zt} {I : It} {Q : Option Value → Zt → It → Prop} {ci : Nat} {C0 : String} {T0 : u_T} {N0 : Nat} {ty0 : Nat → FieldType} {a idx : Nat}
theorem E_get {v : Value} (hd : decode M.2.1 pc = .ok (.getfield idx, 3)) (hE : e_cl ci C0 T0 N0 ty0) (k : Nat) (hk : k < N0) (hl : Cond.fieldLink M.1.cls idx C0 (T0 k).2.1 (T0 k).2.2.1 ∈ WL) (hS0 : z.2.1 a = (1, ci)) (hv : ∀ b b0, e_fv b b0 z I a ci k = e_tv b b0 v) (kk : E M mc ms (pc + 3) ls (v :: st) z I Q) : E M mc ms pc ls (.ref a :: st) z I Q := by
  intro b b0 D cI cM p l e R s m args below meth c C H locs cells slots lsA hH hS hc1 hs hL
  have ha := hH.pos hS0 (by decide)
  have hat := (hH.2.2.1 a ha).1 (by rw [hS0])
  rw [hS0] at hat
  obtain ⟨r, h1, cell, q1, q2, q3, q4⟩ := hat
  obtain ⟨hcl, hin, hty, hnm, hown, -⟩ := hE
  have hr : r = (C0, T0, N0) := Option.some.inj (h1.symm.trans hcl)
  subst hr
  obtain ⟨hSl, hfc, kC, hkC, hkind⟩ := C.2.2.2.2.2.2.2.2.1.1.1 ci _ hcl
  obtain ⟨cf, kf, fi, f, hi, hsl⟩ := hSl k hk
  have hi' : s.fieldFound? C0 (T0 k).2.1 (T0 k).2.2.1 = some (cf, kf, fi, f) := by rw [← hown k hk]; exact hi
  have hpos : e_ad b b0 a = b0 + a := e_ad_pos ha
  show W p l e R s m args below meth c H locs cells slots _ (F0 m pc lsA (.ref (e_ad b b0 a) :: st.map (e_tv b b0)))
  rw [hpos]
  refine W.getf C.1 C.2.1 C.2.2.2.2.1 (C.2.2.2.2.2.1 _ hl) hi' (u_facts hfc hkC (u_lays C.2.2.2.2.2.1 hin hk) hi).1 q1 (by rw [q3]; exact fun h => by cases h) (v := e_tv b b0 v) ?_ rfl rfl hd (kk b b0 D cI cM p l e R s m args below meth c C H locs cells slots lsA hH hS hc1 hs hL)
  rw [hsl, q4 k hk, ← hv]
theorem E_getI (hd : decode M.2.1 pc = .ok (.getfield idx, 3)) (hE : e_cl ci C0 T0 N0 ty0) (k : Nat) (hk : k < N0) (hr : e_isR ci k = false) (hl : Cond.fieldLink M.1.cls idx C0 (T0 k).2.1 (T0 k).2.2.1 ∈ WL) (hS0 : z.2.1 a = (1, ci)) (kk : E M mc ms (pc + 3) ls (.int (I a k) :: st) z I Q) : E M mc ms pc ls (.ref a :: st) z I Q :=
  E_get hd hE k hk hl hS0 (fun b b0 => by unfold e_fv; rw [if_neg (by rw [hr]; decide)]; rfl) kk
theorem E_getR {x : Nat} (hd : decode M.2.1 pc = .ok (.getfield idx, 3)) (hE : e_cl ci C0 T0 N0 ty0) (k : Nat) (hk : k < N0) (hr : e_isR ci k = true) (hl : Cond.fieldLink M.1.cls idx C0 (T0 k).2.1 (T0 k).2.2.1 ∈ WL) (hS0 : z.2.1 a = (1, ci)) (hx : z.2.2 a k = x) (hx0 : x ≠ 0) (kk : E M mc ms (pc + 3) ls (.ref x :: st) z I Q) : E M mc ms pc ls (.ref a :: st) z I Q :=
  E_get hd hE k hk hl hS0 (fun b b0 => by unfold e_fv; rw [if_pos hr, hx, e_rv_pos hx0]) kk
theorem e_put_H {b b0 : Nat} {D : va_G} {cI cM : ClassId} {z z' : Zt} {I I' : It} {U : State} {H H' : Heap} (hH : e_H b b0 D cI cM z I U H) (hb : b ≤ b0) {a : Nat} (ha : 0 < a) (hz : z'.1 = z.1) (hz1 : z'.2.1 = z.2.1) (hz2 : ∀ a', a' ≠ a → z'.2.2 a' = z.2.2 a') (hI : ∀ a', a' ≠ a → I' a' = I a') (hsz : H'.size = H.size) (hq : ∀ q, q ≠ b0 + a → H'[q]? = H[q]?) (hat : e_at b b0 D cI cM z' I' a H') : e_H b b0 D cI cM z' I' U H' := by
  refine ⟨by rw [hsz, hz]; exact hH.1, by rw [hz]; exact hH.2.1, fun a' ha' => ?_, by rw [hz1]; exact hH.2.2.2.1, ?_⟩
  · by_cases e : a' = a
    · subst e; exact hat
    · exact ((hH.2.2.1 a' ha').kept (hq _ (by omega))).to (by rw [hz1]) (hz2 a' e) (hI a' e)
  · rw [hz1, hI 0 (by omega)]
    exact hH.2.2.2.2.kept (hq _ (by omega))
theorem E_put {z' : Zt} {I' : It} {v : Value} (hd : decode M.2.1 pc = .ok (.putfield idx, 3)) (hE : e_cl ci C0 T0 N0 ty0) (k : Nat) (hk : k < N0) (hl : Cond.fieldLink M.1.cls idx C0 (T0 k).2.1 (T0 k).2.2.1 ∈ WL) (hS0 : z.2.1 a = (1, ci)) (hfin : (T0 k).2.2.2 = false) (hn : ∀ b b0, narrow (ty0 k) (e_tv b b0 v) = e_tv b b0 v) (hfit : ∀ b b0, fits (ty0 k) (e_tv b b0 v) = true)
    (hz : z'.1 = z.1) (hz1 : z'.2.1 = z.2.1) (hz2 : ∀ a', a' ≠ a → z'.2.2 a' = z.2.2 a') (hI : ∀ a', a' ≠ a → I' a' = I a') (hv : ∀ b b0 j, e_fv b b0 z' I' a ci j = updV (e_fv b b0 z I a ci) k (e_tv b b0 v) j) (kk : E M mc ms (pc + 3) ls st z' I' Q) : E M mc ms pc ls (v :: .ref a :: st) z I Q := by
  intro b b0 D cI cM p l e R s m args below meth c C H locs cells slots lsA hH hS hc1 hs hL
  have ha := hH.pos hS0 (by decide)
  have hat := (hH.2.2.1 a ha).1 (by rw [hS0])
  rw [hS0] at hat
  obtain ⟨r, h1, cell, q1, q2, q3, q4⟩ := hat
  obtain ⟨hcl, hin, hty, hnm, hown, -⟩ := hE
  have hr : r = (C0, T0, N0) := Option.some.inj (h1.symm.trans hcl)
  subst hr
  have hap := va_apart (own := C0) C.2.2.2.2.2.1 hin ty0 hty hnm C.2.2.2.2.2.2.2.2.1.1 hcl
  obtain ⟨hSl, hfc, kC, hkC, hkind⟩ := C.2.2.2.2.2.2.2.2.1.1.1 ci _ hcl
  obtain ⟨cf, kf, fi, f, hi, hsl⟩ := hSl k hk
  have hi' : s.fieldFound? C0 (T0 k).2.1 (T0 k).2.2.1 = some (cf, kf, fi, f) := by rw [← hown k hk]; exact hi
  have hlay := C.2.2.2.2.2.1 _ (hin _ (u_in_lay hk))
  unfold u_lay at hlay
  rw [if_neg (by rw [hfin]; decide)] at hlay
  have hst := (u_facts hfc hkC (u_lays C.2.2.2.2.2.1 hin hk) hi).1
  have h6 := u_store hfc hkC hkind hlay hi (hty k hk) (hn b b0) (hfit b b0)
  have hpos : e_ad b b0 a = b0 + a := e_ad_pos ha
  show W p l e R s m args below meth c H locs cells slots _ (F0 m pc lsA (e_tv b b0 v :: .ref (e_ad b b0 a) :: st.map (e_tv b b0)))
  rw [hpos]
  refine W.putK C.1 C.2.1 (f := f) ⟨C.2.2.2.2.1, C.2.2.2.2.2.1 _ hl, ⟨_, _, _, hi'⟩, hst⟩ (by rw [q2]; exact h6) q1 q3 (by rw [hsl]; exact k2_hasslot (q4 k hk)) rfl rfl hd fun H' e1 e2 e3 => ?_
  rw [hsl] at e1 ⊢
  refine kk b b0 D cI cM p l e R s m args below meth c C H' _ cells slots lsA (e_put_H hH C.2.2.2.2.2.2.2.2.2.1.1 ha hz hz1 hz2 hI e2 e3 ?_) (hS.put e2 e3 (by show b0 < b0 + a; omega)) hc1 hs hL
  refine ⟨fun _ => ?_, fun h => ?_, fun h => ?_⟩
  · rw [hz1, hS0]
    exact ⟨_, hcl, t_OB.to (V := updV (e_fv b b0 z I a ci) k (e_tv b b0 v)) ⟨_, e1, q2, q3, t_set q4 hap hk (e_tv b b0 v)⟩ (fun j _ => (hv b b0 j).symm)⟩
  · rw [hz1, hS0] at h; cases h
  · rw [hz1, hS0] at h; cases h
theorem E_putF {z' : Zt} {I' : It} {v : Value} (hd : decode M.2.1 pc = .ok (.putfield idx, 3)) (hE : e_cl ci C0 T0 N0 ty0) (k : Nat) (hk : k < N0) (hl : Cond.fieldLink M.1.cls idx C0 (T0 k).2.1 (T0 k).2.2.1 ∈ WL) (hS0 : z.2.1 a = (1, ci)) (hfin : (T0 k).2.2.2 = true) (hin2 : M.1.name = "<init>") (hcls : C0 = M.1.cls) (hn : ∀ b b0, narrow (ty0 k) (e_tv b b0 v) = e_tv b b0 v) (hfit : ∀ b b0, fits (ty0 k) (e_tv b b0 v) = true)
    (hz : z'.1 = z.1) (hz1 : z'.2.1 = z.2.1) (hz2 : ∀ a', a' ≠ a → z'.2.2 a' = z.2.2 a') (hI : ∀ a', a' ≠ a → I' a' = I a') (hv : ∀ b b0 j, e_fv b b0 z' I' a ci j = updV (e_fv b b0 z I a ci) k (e_tv b b0 v) j) (kk : E M mc ms (pc + 3) ls st z' I' Q) : E M mc ms pc ls (v :: .ref a :: st) z I Q := by
  intro b b0 D cI cM p l e R s m args below meth c C H locs cells slots lsA hH hS hc1 hs hL
  have ha := hH.pos hS0 (by decide)
  have hat := (hH.2.2.1 a ha).1 (by rw [hS0])
  rw [hS0] at hat
  obtain ⟨r, h1, cell, q1, q2, q3, q4⟩ := hat
  obtain ⟨hcl, hin, hty, hnm, hown, -⟩ := hE
  have hr : r = (C0, T0, N0) := Option.some.inj (h1.symm.trans hcl)
  subst hr
  have hap := va_apart (own := C0) C.2.2.2.2.2.1 hin ty0 hty hnm C.2.2.2.2.2.2.2.2.1.1 hcl
  obtain ⟨hSl, hfc, kC, hkC, hkind⟩ := C.2.2.2.2.2.2.2.2.1.1.1 ci _ hcl
  obtain ⟨cf, kf, fi, f, hi, hsl⟩ := hSl k hk
  have hi' : s.fieldFound? C0 (T0 k).2.1 (T0 k).2.2.1 = some (cf, kf, fi, f) := by rw [← hown k hk]; exact hi
  have hlay := C.2.2.2.2.2.1 _ (hin _ (u_in_lay hk))
  unfold u_lay at hlay
  rw [if_pos hfin] at hlay
  have hst := (u_facts hfc hkC (u_lays C.2.2.2.2.2.1 hin hk) hi).1
  have hcf : m.cls = cf := by
    obtain ⟨_, _, c', _, _, _, -, -, hf', -, -, -, hown2, -⟩ := Cond.laysFinal_spec hlay
    have e1 : c' = cf := by have := hi.symm.trans hf'; simp at this; exact this.1.symm
    rw [hown k hk, hcls] at hown2
    rw [← e1]; exact Option.some.inj (C.2.2.2.2.1.symm.trans hown2)
  have h6 := u_fits hfc hkC hkind (Or.inr hlay) hi (hty k hk) (hn b b0) (hfit b b0)
  have hpos : e_ad b b0 a = b0 + a := e_ad_pos ha
  show W p l e R s m args below meth c H locs cells slots _ (F0 m pc lsA (e_tv b b0 v :: .ref (e_ad b b0 a) :: st.map (e_tv b b0)))
  rw [hpos]
  refine W.putFinK C.1 C.2.1 C.2.2.2.2.1 (C.2.2.2.2.2.1 _ hl) hi' hst hcf (C.2.2.2.2.2.2.2.1.trans hin2) (by rw [q2]; exact h6) q1 q3 (by rw [hsl]; exact k2_hasslot (q4 k hk)) rfl rfl hd fun H' e1 e2 e3 => ?_
  rw [hsl] at e1 ⊢
  refine kk b b0 D cI cM p l e R s m args below meth c C H' _ cells slots lsA (e_put_H hH C.2.2.2.2.2.2.2.2.2.1.1 ha hz hz1 hz2 hI e2 e3 ?_) (hS.put e2 e3 (by show b0 < b0 + a; omega)) hc1 hs hL
  refine ⟨fun _ => ?_, fun h => ?_, fun h => ?_⟩
  · rw [hz1, hS0]
    exact ⟨_, hcl, t_OB.to (V := updV (e_fv b b0 z I a ci) k (e_tv b b0 v)) ⟨_, e1, q2, q3, t_set q4 hap hk (e_tv b b0 v)⟩ (fun j _ => (hv b b0 j).symm)⟩
  · rw [hz1, hS0] at h; cases h
  · rw [hz1, hS0] at h; cases h
theorem e_fv_I {z : Zt} {I : It} {k : Nat} {x : Int32} (hr : e_isR ci k = false) (b b0 j : Nat) : e_fv b b0 z (e_st I a k x) a ci j = updV (e_fv b b0 z I a ci) k (e_tv b b0 (.int x)) j := by
  unfold e_fv updV
  by_cases e : j = k
  · subst e; simp [hr, e_st, e_tv]
  · simp [e_st, e]
theorem e_fv_R {z : Zt} {I : It} {k x : Nat} (hr : e_isR ci k = true) (hx : x ≠ 0) (b b0 j : Nat) : e_fv b b0 (z_rf z a k x) I a ci j = updV (e_fv b b0 z I a ci) k (e_tv b b0 (.ref x)) j := by
  unfold e_fv updV
  by_cases e : j = k
  · subst e; simp [hr, z_rf, e_rv_pos hx]
  · simp [z_rf, e]
theorem E_putI {x : Int32} (hd : decode M.2.1 pc = .ok (.putfield idx, 3)) (hE : e_cl ci C0 T0 N0 ty0) (k : Nat) (hk : k < N0) (hr : e_isR ci k = false) (hl : Cond.fieldLink M.1.cls idx C0 (T0 k).2.1 (T0 k).2.2.1 ∈ WL) (hS0 : z.2.1 a = (1, ci)) (hfin : (T0 k).2.2.2 = false) (hty : ty0 k = .int) (kk : E M mc ms (pc + 3) ls st z (e_st I a k x) Q) : E M mc ms pc ls (.int x :: .ref a :: st) z I Q :=
  E_put (z' := z) (I' := e_st I a k x) hd hE k hk hl hS0 hfin (fun b b0 => by rw [hty]; rfl) (fun b b0 => by rw [hty]; rfl) rfl rfl (fun _ _ => rfl) (fun a' h => e_st_a h) (fun b b0 j => e_fv_I hr b b0 j) kk
theorem E_putZ {x : Int32} (hd : decode M.2.1 pc = .ok (.putfield idx, 3)) (hE : e_cl ci C0 T0 N0 ty0) (k : Nat) (hk : k < N0) (hr : e_isR ci k = false) (hl : Cond.fieldLink M.1.cls idx C0 (T0 k).2.1 (T0 k).2.2.1 ∈ WL) (hS0 : z.2.1 a = (1, ci)) (hfin : (T0 k).2.2.2 = false) (hty : ty0 k = .boolean) (hx : x = 0 ∨ x = 1) (kk : E M mc ms (pc + 3) ls st z (e_st I a k x) Q) : E M mc ms pc ls (.int x :: .ref a :: st) z I Q :=
  E_put (z' := z) (I' := e_st I a k x) hd hE k hk hl hS0 hfin (fun b b0 => by rw [hty]; rcases hx with rfl | rfl <;> rfl) (fun b b0 => by rw [hty]; rcases hx with rfl | rfl <;> rfl) rfl rfl (fun _ _ => rfl) (fun a' h => e_st_a h) (fun b b0 j => e_fv_I hr b b0 j) kk
theorem E_putR {x : Nat} (hd : decode M.2.1 pc = .ok (.putfield idx, 3)) (hE : e_cl ci C0 T0 N0 ty0) (k : Nat) (hk : k < N0) (hr : e_isR ci k = true) (hl : Cond.fieldLink M.1.cls idx C0 (T0 k).2.1 (T0 k).2.2.1 ∈ WL) (hS0 : z.2.1 a = (1, ci)) (hfin : (T0 k).2.2.2 = false) (hn : ∀ y, narrow (ty0 k) (.ref y) = .ref y) (hfit : ∀ y, fits (ty0 k) (.ref y) = true) (hx : x ≠ 0) (kk : E M mc ms (pc + 3) ls st (z_rf z a k x) I Q) : E M mc ms pc ls (.ref x :: .ref a :: st) z I Q :=
  E_put (z' := z_rf z a k x) (I' := I) hd hE k hk hl hS0 hfin (fun b b0 => hn _) (fun b b0 => hfit _) rfl rfl (fun a' h => funext fun k' => if_neg fun q => h q.1) (fun _ _ => rfl) (fun b b0 j => e_fv_R hr hx b b0 j) kk
theorem E_putFR {x : Nat} (hd : decode M.2.1 pc = .ok (.putfield idx, 3)) (hE : e_cl ci C0 T0 N0 ty0) (k : Nat) (hk : k < N0) (hr : e_isR ci k = true) (hl : Cond.fieldLink M.1.cls idx C0 (T0 k).2.1 (T0 k).2.2.1 ∈ WL) (hS0 : z.2.1 a = (1, ci)) (hfin : (T0 k).2.2.2 = true) (hin2 : M.1.name = "<init>") (hcls : C0 = M.1.cls) (hn : ∀ y, narrow (ty0 k) (.ref y) = .ref y) (hfit : ∀ y, fits (ty0 k) (.ref y) = true) (hx : x ≠ 0) (kk : E M mc ms (pc + 3) ls st (z_rf z a k x) I Q) : E M mc ms pc ls (.ref x :: .ref a :: st) z I Q :=
  E_putF (z' := z_rf z a k x) (I' := I) hd hE k hk hl hS0 hfin hin2 hcls (fun b b0 => hn _) (fun b b0 => hfit _) rfl rfl (fun a' h => funext fun k' => if_neg fun q => h q.1) (fun _ _ => rfl) (fun b b0 j => e_fv_R hr hx b b0 j) kk
end FIELDS
section ARRAYS
variable {M : MI} {mc ms pc : Nat} {ls ls' : List (Option Value)} {st : List Value} {z : Zt} {I : It} {Q : Option Value → Zt → It → Prop} {a n idx : Nat}
theorem E_iald {i : Int32} (hd : decode M.2.1 pc = .ok (.iaload, 1)) (hS0 : z.2.1 a = (2, n)) (hin : vp_in i n) (kk : E M mc ms (pc + 1) ls (.int (I a i.toNatClampNeg) :: st) z I Q) : E M mc ms pc ls (.int i :: .ref a :: st) z I Q := by
  intro b b0 D cI cM p l e R s m args below meth c C H locs cells slots lsA hH hS hc1 hs hL
  have hlt : i.toNatClampNeg < n := Nat.not_le.mp fun q => hin (Or.inr q)
  have kk' := kk b b0 D cI cM p l e R s m args below meth c C H locs cells slots lsA hH hS hc1 hs hL
  show W p l e R s m args below meth c H locs cells slots _ (F0 m pc lsA (.int i :: .ref (e_ad b b0 a) :: st.map (e_tv b b0)))
  rcases Nat.eq_zero_or_pos a with e0 | ha
  · subst e0
    obtain ⟨scr, h1, h2, h3, h4, h5⟩ := hH.2.2.2.2
    rw [hS0] at h4 h5
    exact W.iald (v := .int (I 0 i.toNatClampNeg)) C.1 C.2.1 h1 h2 h3 (by rw [h4]; exact hin) (h5 _ hlt) rfl rfl hd kk'
  · rw [e_ad_pos ha]
    have hat := (hH.2.2.1 a ha).2.1 (by rw [hS0])
    rw [hS0] at hat
    exact W.iald (v := .int (I a i.toNatClampNeg)) C.1 C.2.1 hat ((C.2.2.2.2.2.2.2.2.1.1.2 0 _ rfl).1 n (fun j => .int (I a j))) (fun q => by cases q) (by show ¬ (i < 0 ∨ (arrV _ _ _).slots.size ≤ _); rw [arrV_size]; exact hin) (by show (arrV _ _ _).slots[_]? = _; rw [arrV_read _ _ hlt]) rfl rfl hd kk'
theorem E_alen (hd : decode M.2.1 pc = .ok (.arraylength, 1)) (hS0 : z.2.1 a = (2, n)) (kk : E M mc ms (pc + 1) ls (.int (Int32.ofNat n) :: st) z I Q) : E M mc ms pc ls (.ref a :: st) z I Q := by
  intro b b0 D cI cM p l e R s m args below meth c C H locs cells slots lsA hH hS hc1 hs hL
  have kk' := kk b b0 D cI cM p l e R s m args below meth c C H locs cells slots lsA hH hS hc1 hs hL
  show W p l e R s m args below meth c H locs cells slots _ (F0 m pc lsA (.ref (e_ad b b0 a) :: st.map (e_tv b b0)))
  rcases Nat.eq_zero_or_pos a with e0 | ha
  · subst e0
    obtain ⟨scr, h1, h2, h3, h4, h5⟩ := hH.2.2.2.2
    rw [hS0] at h4
    exact W.alen (n := Int32.ofNat n) C.1 C.2.1 h1 h2 (by rw [h4] <;> rfl) rfl rfl hd kk'
  · rw [e_ad_pos ha]
    have hat := (hH.2.2.1 a ha).2.1 (by rw [hS0])
    rw [hS0] at hat
    exact W.alen (n := Int32.ofNat n) C.1 C.2.1 hat ((C.2.2.2.2.2.2.2.2.1.1.2 0 _ rfl).1 n (fun j => .int (I a j))) (by rw [arrV_size] <;> rfl) rfl rfl hd kk'
theorem E_iast {i x : Int32} (hd : decode M.2.1 pc = .ok (.iastore, 1)) (hS0 : z.2.1 a = (2, n)) (ha : a ≠ 0) (hin : vp_in i n) (kk : E M mc ms (pc + 1) ls st z (e_st I a i.toNatClampNeg x) Q) : E M mc ms pc ls (.int x :: .int i :: .ref a :: st) z I Q := by
  intro b b0 D cI cM p l e R s m args below meth c C H locs cells slots lsA hH hS hc1 hs hL
  have ha : 0 < a := Nat.pos_of_ne_zero ha
  have hat := (hH.2.2.1 a ha).2.1 (by rw [hS0])
  rw [hS0] at hat
  show W p l e R s m args below meth c H locs cells slots _ (F0 m pc lsA (.int x :: .int i :: .ref (e_ad b b0 a) :: st.map (e_tv b b0)))
  rw [e_ad_pos ha]
  refine W.iast C.1 C.2.1 hat ((C.2.2.2.2.2.2.2.2.1.1.2 0 _ rfl).1 n (fun j => .int (I a j))) (fun q => by cases q) (by show ¬ (i < 0 ∨ (arrV _ _ _).slots.size ≤ _); rw [arrV_size]; exact hin) rfl rfl hd fun H1 e1 e2 e3 => ?_
  refine kk b b0 D cI cM p l e R s m args below meth c C H1 _ cells slots lsA (e_put_H hH C.2.2.2.2.2.2.2.2.2.1.1 ha rfl rfl (fun _ _ => rfl) (fun a' h => e_st_a h) e2 e3 ?_) (hS.put e2 e3 (by show b0 < b0 + a; omega)) hc1 hs hL
  refine ⟨fun h => ?_, fun h => ?_, fun h => ?_⟩
  · rw [hS0] at h; cases h
  · rw [hS0, e1, arrV_store]
    congr 2
    funext q
    by_cases hq : q = i.toNatClampNeg
    · subst hq; simp [updV, e_st]
    · simp [updV, e_st, hq]
  · rw [hS0] at h; cases h
theorem E_aald {i : Int32} {x : Nat} (hd : decode M.2.1 pc = .ok (.aaload, 1)) (hS0 : z.2.1 a = (3, n)) (hin : vp_in i n) (hx : z.2.2 a i.toNatClampNeg = x) (hx0 : x ≠ 0) (kk : E M mc ms (pc + 1) ls (.ref x :: st) z I Q) : E M mc ms pc ls (.int i :: .ref a :: st) z I Q := by
  intro b b0 D cI cM p l e R s m args below meth c C H locs cells slots lsA hH hS hc1 hs hL
  have hlt : i.toNatClampNeg < n := Nat.not_le.mp fun q => hin (Or.inr q)
  have kk' := kk b b0 D cI cM p l e R s m args below meth c C H locs cells slots lsA hH hS hc1 hs hL
  have ha := hH.pos hS0 (by decide)
  have hat := (hH.2.2.1 a ha).2.2 (by rw [hS0])
  rw [hS0] at hat
  show W p l e R s m args below meth c H locs cells slots _ (F0 m pc lsA (.int i :: .ref (e_ad b b0 a) :: st.map (e_tv b b0)))
  rw [e_ad_pos ha]
  exact W.aald (v := e_tv b b0 (.ref x)) (ty := .object RX4) C.1 C.2.1 hat ((C.2.2.2.2.2.2.2.2.1.1.2 1 _ rfl).1 n (fun j => e_tv b b0 (e_rv (z.2.2 a j)))) rfl (fun q => by cases q) (by show ¬ (i < 0 ∨ (arrV _ _ _).slots.size ≤ _); rw [arrV_size]; exact hin) (by show (arrV _ _ _).slots[_]? = _; rw [arrV_read _ _ hlt, hx, e_rv_pos hx0]) rfl rfl hd kk'
theorem E_aast {i : Int32} {x : Nat} (hd : decode M.2.1 pc = .ok (.aastore, 1)) (hS0 : z.2.1 a = (3, n)) (hin : vp_in i n) (hx : z.2.1 x = (1, 3)) (kk : E M mc ms (pc + 1) ls st (z_rf z a i.toNatClampNeg x) I Q) : E M mc ms pc ls (.ref x :: .int i :: .ref a :: st) z I Q := by
  intro b b0 D cI cM p l e R s m args below meth c C H locs cells slots lsA hH hS hc1 hs hL
  have hlt : i.toNatClampNeg < n := Nat.not_le.mp fun q => hin (Or.inr q)
  have h0 : ¬ i < 0 := fun q => hin (Or.inl q)
  have ha := hH.pos hS0 (by decide)
  have hxp := hH.pos hx (by decide)
  have hat := (hH.2.2.1 a ha).2.2 (by rw [hS0])
  rw [hS0] at hat
  have hatx := (hH.2.2.1 x hxp).1 (by rw [hx])
  rw [hx] at hatx
  obtain ⟨r', hr', cellV, g1, g2, g3, -⟩ := hatx
  have hcls := (C.2.2.2.2.2.2.2.2.1.1.1 3 _ rfl).2
  obtain ⟨kA, comp, k1, k2, k3, -⟩ := (C.2.2.2.2.2.2.2.2.1.1.2 1 _ rfl).2
  have hcomp : comp = D.1 3 := Option.some.inj (k3.symm.trans hcls.1)
  subst hcomp
  have hasg := va_assign (s := s) hcls
  obtain ⟨kC, hkC, -⟩ := hcls.2
  show W p l e R s m args below meth c H locs cells slots _ (F0 m pc lsA (.ref (e_ad b b0 x) :: .int i :: .ref (e_ad b b0 a) :: st.map (e_tv b b0)))
  rw [e_ad_pos ha, e_ad_pos hxp]
  refine W.aast C.1 C.2.1 hat (fun q h => by cases h) (fun h => by cases h) k1 k2 rfl hkC ⟨h0, by show _ < (arrV _ _ _).slots.size; rw [arrV_size]; exact hlt⟩ g1 (fun q h => by rw [g3] at h; cases h) (by rw [g2]; exact hkC) (by rw [g2]; exact hasg) rfl rfl hd fun H1 e1 e2 e3 => ?_
  refine kk b b0 D cI cM p l e R s m args below meth c C H1 _ cells slots lsA (e_put_H hH C.2.2.2.2.2.2.2.2.2.1.1 ha rfl rfl (fun a' h => funext fun k' => if_neg fun q => h q.1) (fun _ _ => rfl) e2 e3 ?_) (hS.put e2 e3 (by show b0 < b0 + a; omega)) hc1 hs hL
  refine ⟨fun h => ?_, fun h => ?_, fun h => ?_⟩
  · change (z.2.1 a).1 = 1 at h; rw [hS0] at h; cases h
  · change (z.2.1 a).1 = 2 at h; rw [hS0] at h; cases h
  · show H1[b0 + a]? = some (arrV cM (z.2.1 a).2 _)
    rw [hS0, e1, arrV_store]
    congr 2
    funext q
    by_cases hq : q = i.toNatClampNeg
    · subst hq; simp [updV, z_rf, e_rv_pos (Nat.pos_iff_ne_zero.mp hxp), e_tv, e_ad_pos hxp]
    · simp [updV, z_rf, hq]
/-- the frame behind a new cell -/
theorem e_new_H {b b0 : Nat} {D : va_G} {cI cM : ClassId} {z : Zt} {I : It} {U : State} {H H1 : Heap} (hH : e_H b b0 D cI cM z I U H) (hb : b ≤ b0) (sh : Nat × Nat) (hsz : H1.size = H.size + 1) (hq : ∀ q, q < H.size → H1[q]? = H[q]?) (hat : e_at b b0 D cI cM (z_nw z sh) (i_nw z I) z.1 H1) : e_H b b0 D cI cM (z_nw z sh) (i_nw z I) U H1 := by
  have hz0 : ¬ 0 = z.1 := by have := hH.2.1; omega
  refine ⟨by show H1.size = b0 + (z.1 + 1); rw [hsz, hH.1]; omega, Nat.succ_pos _, fun a ha => ?_, ?_, ?_⟩
  · by_cases e : a = z.1
    · subst e; exact hat
    · have hl : e_at b b0 D cI cM z I a H1 := by
        rcases Nat.lt_or_ge a z.1 with h | h
        · exact (hH.2.2.1 a ha).kept (hq _ (by rw [hH.1]; omega))
        · have hat0 := hH.2.2.1 a ha
          have hno : H[b0 + a]? = none := by
            apply Array.getElem?_eq_none
            rw [hH.1]; omega
          refine ⟨fun g => ?_, fun g => ?_, fun g => ?_⟩
          · obtain ⟨r, h1, cell, h2, -⟩ := hat0.1 g
            rw [hno] at h2; cases h2
          · have h2 := hat0.2.1 g
            rw [hno] at h2; cases h2
          · have h2 := hat0.2.2 g
            rw [hno] at h2; cases h2
      exact hl.to (by simp [z_nw, e]) (by funext k; simp [z_nw, e]) (by funext k; simp [i_nw, e])
  · simp [z_nw, hz0, hH.2.2.2.1]
  · have h1 : (z_nw z sh).2.1 0 = z.2.1 0 := by simp [z_nw, hz0]
    have h2 : i_nw z I 0 = I 0 := by funext k; simp [i_nw, hz0]
    rw [h1, h2]
    refine hH.2.2.2.2.kept (hq _ ?_)
    have := hH.1
    have := hH.2.1
    omega
theorem e_new_S {b0 : Nat} {H0 H H1 : Heap} {locs : List Loc} (hS : va_S (fun q => b0 < q) H0 H locs) (hsz : H1.size = H.size + 1) (hq : ∀ q, q < H.size → H1[q]? = H[q]?) : va_S (fun q => b0 < q) H0 H1 locs :=
  ⟨Nat.le_trans hS.1 (by omega), fun x h1 h2 => (hq x (Nat.lt_of_lt_of_le h1 hS.1)).trans (hS.2.1 x h1 h2), hS.2.2⟩
theorem E_new {ci : Nat} {C0 : String} {T0 : u_T} {N0 : Nat} {ty0 : Nat → FieldType} (hd : decode M.2.1 pc = .ok (.new idx, 3)) (hE : e_cl ci C0 T0 N0 ty0) (hl : Cond.classLink M.1.cls idx C0 ∈ WL) (hi : Cond.instantiable C0 N0 ∈ WL) (hni : Cond.initialized C0 ∈ WL) (kk : E M mc ms (pc + 3) ls (.ref z.1 :: st) (z_nw z (1, ci)) (i_nw z I) Q) : E M (mc + 1) (ms + N0) pc ls st z I Q := by
  intro b b0 D cI cM p l e R s m args below meth c C H locs cells slots lsA hH hS hc1 hs hL
  obtain ⟨hcl, hin, hty, hnm, hown, hdef⟩ := hE
  have hKn := C.2.2.2.2.2.2.2.2.1.1.1 ci _ hcl
  refine W.newcK C.1 C.2.1 C.2.2.2.2.1 (C.2.2.2.2.2.1 _ hl) (C.2.2.2.2.2.1 _ hi) (C.2.2.2.2.2.1 _ hni) rfl hd (by omega) (by omega) hKn.2.1 hH.1 fun H1 kC hkC e1 z1 o1 => ?_
  have e2 : H1.size = H.size + 1 := by rw [z1, hH.1]
  have o2 : ∀ q, q < H.size → H1[q]? = H[q]? := fun q h => o1 q (by rw [← hH.1]; exact h)
  have kk' := kk b b0 D cI cM p l e R s m args below meth c C H1 locs (cells + 1) (slots + N0) lsA (e_new_H hH C.2.2.2.2.2.2.2.2.2.1.1 (1, ci) e2 o2 ?_) (e_new_S hS e2 o2) (by omega) (by omega) hL
  · have hz : e_tv b b0 (.ref z.1) = .ref (b0 + z.1) := by show Value.ref (e_ad b b0 z.1) = _; rw [e_ad_pos hH.2.1]
    rw [List.map_cons, hz] at kk'
    exact kk'
  · refine ⟨fun _ => ?_, fun h => ?_, fun h => ?_⟩
    · have hs1 : (z_nw z (1, ci)).2.1 z.1 = (1, ci) := by simp [z_nw]
      rw [hs1]
      refine ⟨_, hcl, (u_born ty0 C.2.2.2.2.2.1 hin hKn hkC e1 hty).to fun k hk => ?_⟩
      have hk2 := hdef k hk
      unfold e_fv
      by_cases hr : e_isR ci k = true
      · rw [if_pos hr] at hk2 ⊢
        rw [hk2]
        simp [z_nw, e_rv, e_tv]
      · rw [if_neg hr] at hk2 ⊢
        rw [hk2]
        simp [i_nw]
    · simp [z_nw] at h
    · simp [z_nw] at h
theorem E_newa {n0 : Int32} {N : Nat} (hd : decode M.2.1 pc = .ok (.newarray .int, 2)) (hw : Cond.arrayClass .int ∈ WL) (hn : ¬ n0 < 0) (hN : n0.toNatClampNeg = N) (hb : N * 4 ≤ 536870912) (kk : E M mc ms (pc + 2) ls (.ref z.1 :: st) (z_nw z (2, N)) (i_nw z I) Q) : E M (mc + 1) (ms + N) pc ls (.int n0 :: st) z I Q := by
  intro b b0 D cI cM p l e R s m args below meth c C H locs cells slots lsA hH hS hc1 hs hL
  refine va_newaK (atype := .int) C.1 C.2.1 (C.2.2.2.2.2.1 _ hw) rfl hd rfl hn hN hb (by omega) (by omega) hH.1 fun H1 cA e1 z1 o1 hAr hNm => ?_
  have e2 : H1.size = H.size + 1 := by rw [z1, hH.1]
  have o2 : ∀ q, q < H.size → H1[q]? = H[q]? := fun q h => o1 q (by rw [← hH.1]; exact h)
  have hcA : cA = cI := by
    have h2 := (C.2.2.2.2.2.2.2.2.1.1.2 0 _ rfl).2
    exact Option.some.inj (hNm.symm.trans h2)
  subst hcA
  have kk' := kk b b0 D cA cM p l e R s m args below meth c C H1 locs (cells + 1) (slots + N) lsA (e_new_H hH C.2.2.2.2.2.2.2.2.2.1.1 (2, N) e2 o2 ?_) (e_new_S hS e2 o2) (by omega) (by omega) hL
  · have hz : e_tv b b0 (.ref z.1) = .ref (b0 + z.1) := by show Value.ref (e_ad b b0 z.1) = _; rw [e_ad_pos hH.2.1]
    rw [List.map_cons, hz] at kk'
    exact kk'
  · refine ⟨fun h => ?_, fun h => ?_, fun h => ?_⟩
    · simp [z_nw] at h
    · have hs1 : (z_nw z (2, N)).2.1 z.1 = (2, N) := by simp [z_nw]
      rw [hs1, e1]
      congr 2
      funext j
      simp [i_nw, newarray.typeOf, defaultValue]
    · simp [z_nw] at h
theorem E_anewa {n0 : Int32} {N : Nat} (hd : decode M.2.1 pc = .ok (.anewarray idx, 3)) (hl : Cond.classLink M.1.cls idx RX4 ∈ WL) (hn : ¬ n0 < 0) (hN : n0.toNatClampNeg = N) (hb : N * 4 ≤ 536870912) (kk : E M mc ms (pc + 3) ls (.ref z.1 :: st) (z_nw z (3, N)) (i_nw z I) Q) : E M (mc + 1) (ms + N) pc ls (.int n0 :: st) z I Q := by
  intro b b0 D cI cM p l e R s m args below meth c C H locs cells slots lsA hH hS hc1 hs hL
  subst hN
  refine W.anew C.1 C.2.1 C.2.2.2.2.1 (C.2.2.2.2.2.1 _ hl) (va_AO.use C.2.2.2.2.2.2.2.2.1.2.1) rfl hd rfl hn hb (by omega) (by omega) fun cA kA comp f1 f2 f3 f4 => ?_
  generalize hH1 : H.push ({ cls := cA, slots := Array.replicate n0.toNatClampNeg .null, vm := .none } : Cell) = H1
  have e2 : H1.size = H.size + 1 := by rw [← hH1, Array.size_push]
  have e1 : H1[H.size]? = some (arrV cA n0.toNatClampNeg (fun _ => .null)) := by rw [← hH1, Array.getElem?_push_size, ← arrV_new]
  have o2 : ∀ q : Nat, q < H.size → H1[q]? = H[q]? := fun q hq => by rw [← hH1, Array.getElem?_push, if_neg (Nat.ne_of_lt hq)]
  have hcA : cA = cM := by
    obtain ⟨_, _, -, -, -, h2⟩ := (C.2.2.2.2.2.2.2.2.1.1.2 1 _ rfl).2
    exact Option.some.inj (f1.symm.trans h2)
  subst hcA
  have kk' := kk b b0 D cI cA p l e R s m args below meth c C H1 locs (cells + 1) (slots + n0.toNatClampNeg) lsA (e_new_H hH C.2.2.2.2.2.2.2.2.2.1.1 (3, n0.toNatClampNeg) e2 o2 ?_) (e_new_S hS e2 o2) (by omega) (by omega) hL
  · have hz : e_tv b b0 (.ref z.1) = .ref H.size := by show Value.ref (e_ad b b0 z.1) = _; rw [e_ad_pos hH.2.1, hH.1]
    rw [List.map_cons, hz] at kk'
    exact kk'
  · refine ⟨fun h => ?_, fun h => ?_, fun h => ?_⟩
    · simp [z_nw] at h
    · simp [z_nw] at h
    · have hs1 : (z_nw z (3, n0.toNatClampNeg)).2.1 z.1 = (3, n0.toNatClampNeg) := by simp [z_nw]
      rw [hs1, ← hH.1, e1]
      congr 2
      funext j
      simp [z_nw, e_rv, e_tv]
end ARRAYS
end
section
/-! ===== returns and calls ===== -/
section RETS
variable {M : MI} {mc ms pc : Nat} {ls ls' : List (Option Value)} {st : List Value} {z : Zt} {I : It} {Q : Option Value → Zt → It → Prop}
theorem E_iret {v : Int32} (hd : decode M.2.1 pc = .ok (.ireturn, 1)) (hr : M.2.2.2.1 = some .int) (q : Q (some (.int v)) z I) : E M mc ms pc ls [.int v] z I Q := by
  intro b b0 D cI cM p l e R s m args below meth c C H locs cells slots lsA hH hS hc1 hs hL
  refine W.widen (k := R.cells) (n := R.slots) (by omega) (by omega) ?_
  exact W.iret (v := v) C.1 C.2.1 (C.2.2.1.trans hr) (fun t ht hW => ⟨⟨some (.int v), z, I, rfl, by rw [ht]; exact hH.moved hW.alike, q⟩, hS.F ht⟩) hS.2.2 hd C.2.2.2.2.2.2.1
theorem E_zret {v : Int32} (hd : decode M.2.1 pc = .ok (.ireturn, 1)) (hr : M.2.2.2.1 = some .boolean) (hv : v = 0 ∨ v = 1) (q : Q (some (.int v)) z I) : E M mc ms pc ls [.int v] z I Q := by
  intro b b0 D cI cM p l e R s m args below meth c C H locs cells slots lsA hH hS hc1 hs hL
  refine W.widen (k := R.cells) (n := R.slots) (by omega) (by omega) ?_
  exact W.zret (v := v) (ty := .boolean) C.1 C.2.1 (C.2.2.1.trans hr) (by rcases hv with rfl | rfl <;> rfl) (fun t ht hW => ⟨⟨some (.int v), z, I, rfl, by rw [ht]; exact hH.moved hW.alike, q⟩, hS.F ht⟩) hS.2.2 hd C.2.2.2.2.2.2.1
theorem E_vret (hd : decode M.2.1 pc = .ok (.return_, 1)) (hr : M.2.2.2.1 = none) (q : Q none z I) : E M mc ms pc ls [] z I Q := by
  intro b b0 D cI cM p l e R s m args below meth c C H locs cells slots lsA hH hS hc1 hs hL
  refine W.widen (k := R.cells) (n := R.slots) (by omega) (by omega) ?_
  exact W.vret C.1 C.2.1 (C.2.2.1.trans hr) (fun t ht hW => ⟨⟨none, z, I, rfl, by rw [ht]; exact hH.moved hW.alike, q⟩, hS.F ht⟩) hS.2.2 hd C.2.2.2.2.2.2.1
theorem E_aret {x : Nat} {C0 : String} (hd : decode M.2.1 pc = .ok (.areturn, 1)) (hr : M.2.2.2.1 = some (.object C0)) (q : Q (some (.ref x)) z I) : E M mc ms pc ls [.ref x] z I Q := by
  intro b b0 D cI cM p l e R s m args below meth c C H locs cells slots lsA hH hS hc1 hs hL
  refine W.widen (k := R.cells) (n := R.slots) (by omega) (by omega) ?_
  exact W.aret (v := .ref (e_ad b b0 x)) C.1 C.2.1 (C.2.2.1.trans hr) (Or.inl ⟨_, rfl⟩) (Or.inr ⟨_, rfl⟩) (fun t ht hW => ⟨⟨some (.ref x), z, I, rfl, by rw [ht]; exact hH.moved hW.alike, q⟩, hS.F ht⟩) hS.2.2 hd C.2.2.2.2.2.2.1
theorem E_aretN {C0 : String} (hd : decode M.2.1 pc = .ok (.areturn, 1)) (hr : M.2.2.2.1 = some (.object C0)) (q : Q (some .null) z I) : E M mc ms pc ls [.null] z I Q := by
  intro b b0 D cI cM p l e R s m args below meth c C H locs cells slots lsA hH hS hc1 hs hL
  refine W.widen (k := R.cells) (n := R.slots) (by omega) (by omega) ?_
  exact W.aret (v := .null) C.1 C.2.1 (C.2.2.1.trans hr) (Or.inl ⟨_, rfl⟩) (Or.inl rfl) (fun t ht hW => ⟨⟨some .null, z, I, rfl, by rw [ht]; exact hH.moved hW.alike, q⟩, hS.F ht⟩) hS.2.2 hd C.2.2.2.2.2.2.1
end RETS
-- a method's words and start
def e_ws (M : MI) : List Cond := .code M.1 M.2.1 M.2.2.1 M.2.2.2.1 :: WL
def e_P (b b0 : Nat) (D : va_G) (cI cM : ClassId) (av : List Value) (z : Zt) (I : It) : Array Value → State → Prop := fun v U => v = (av.map (e_tv b b0)).toArray ∧ e_K D cI cM U ∧ e_H b b0 D cI cM z I U U.heap ∧ b ≤ b0
def e_en (M : MI) (av : List Value) : List (Option Value) := av.map some ++ List.replicate (M.2.2.1 - av.length) none
def e_rm (M : MI) (mc ms : Nat) : Room := { frames := M.2.2.2.2.1, cells := mc, slots := ms, locals := M.2.2.2.2.2 }
theorem e_sl {vs : List Value} (h : ∀ v ∈ vs, v.category = 1) : lg_sl vs = vs.map Slot.val := by
  unfold lg_sl
  induction vs with
  | nil => rfl
  | cons a vs ih =>
    rw [List.flatMap_cons, List.map_cons, ih (fun v hv => h v (List.mem_cons_of_mem _ hv)), if_neg (by rw [h a List.mem_cons_self]; decide)]
    rfl
theorem e_L.entry {M : MI} {b b0 : Nat} {av : List Value} (hc : ∀ v ∈ av, v.category = 1) (hn : av.length ≤ M.2.2.1) : e_L b b0 M.2.2.1 (e_en M av) ((lg_sl (av.map (e_tv b b0)) ++ List.replicate (M.2.2.1 - (lg_sl (av.map (e_tv b b0))).length) Slot.unset).toArray) := by
  have hc' : ∀ v ∈ av.map (e_tv b b0), v.category = 1 := by
    intro v hv
    obtain ⟨w, hw, rfl⟩ := List.mem_map.mp hv
    rw [e_tv_cat]; exact hc w hw
  have hl := lv_entry (av.map (e_tv b b0)) (n := M.2.2.1) (by rw [e_sl hc']; simpa using hn)
  refine ⟨hl.1, hl.2.1, fun i v hi => ?_⟩
  rw [e_sl hc']
  unfold e_en at hi
  have hlt : i < (av.map some).length := by
    rcases Nat.lt_or_ge i (av.map some).length with h | h
    · exact h
    · rw [List.getElem?_append_right h] at hi
      have := List.mem_of_getElem? hi
      rw [List.mem_replicate] at this
      cases this.2
  rw [List.getElem?_append_left hlt, List.getElem?_map] at hi
  rw [List.getElem?_toArray, List.getElem?_append_left (by simpa using hlt), List.getElem?_map, List.getElem?_map]
  cases hx : av[i]? with
  | none => rw [hx] at hi; cases hi
  | some w => rw [hx] at hi; cases hi; rfl
theorem E.met {M : MI} {mc ms : Nat} {av : List Value} {z : Zt} {I : It} {Q : Option Value → Zt → It → Prop} (h : E M mc ms 0 (e_en M av) [] z I Q) (hy : plainFor M.1 = true) (hc : ∀ v ∈ av, v.category = 1) (hn : av.length ≤ M.2.2.1) (l : Launch) (b b0 : Nat) (D : va_G) (cI cM : ClassId) : Met l M.1 (e_ws M) (e_rm M mc ms) (e_P b b0 D cI cM av z I) (e_Q b b0 D cI cM Q) mc ms (fun q => b0 < q) := by
  refine va_MetF (cc := M.2.1) (maxL := M.2.2.1) (ret := M.2.2.2.1) hy rfl ?_
  intro p e s m args below meth c s₁ B hml hv
  obtain ⟨rfl, hK, hH, hb⟩ := hv
  have hts := atoms_spec (ws := e_ws M) B.pre
  rw [lg_entry_eq]
  have hsz : b0 < s.heap.size := by have h1 := hH.1; have h2 := hH.2.1; omega
  exact h b b0 D cI cM p l e (headSpec (e_ws M) (e_rm M mc ms)).room s m _ below meth c ⟨B.exec, B.bytes, B.returns, hml, findClass_of_methodNamed B.named, fun w hw => hts w (List.mem_cons_of_mem _ hw), B.notSynchronized, (name_of_methodNamed B.named B.method).1, hK, ⟨hb, hsz⟩, Nat.le_refl _, Nat.le_refl _⟩ s.heap [] 0 0 _ hH va_S.rf (Nat.le_of_eq (Nat.zero_add _)) (Nat.le_of_eq (Nat.zero_add _)) (e_L.entry hc hn)
theorem e_P.blind {b b0 : Nat} {D : va_G} {cI cM : ClassId} {av : List Value} {z : Zt} {I : It} : FrameBlind (e_P b b0 D cI cM av z I) := by
  intro a U g mk h
  obtain ⟨h1, h2, h3, h4⟩ := h
  exact ⟨h1, e_K.same (u := U) (U := U.calling g mk a) rfl h2, e_H.moved (u := U) (U := U.calling g mk a) (Vm.Alike.refl U.vm) h3, h4⟩
/-- what a call needs of the callee -/
def e_mt (M : MI) (n : Nat) : Prop := Cond.code M.1 M.2.1 M.2.2.1 M.2.2.2.1 ∈ WL ∧ Cond.initialized M.1.cls ∈ WL ∧ (M.1.cls ≠ "java/lang/invoke/MethodHandle" ∧ M.1.cls ≠ "java/lang/invoke/VarHandle") ∧ (parseMethodDescriptor M.1.desc).map (fun d => d.parameters.length) = some n ∧ plainFor M.1 = true
def e_mV (M : MI) (n : Nat) : Prop := e_mt M n ∧ Cond.instanceMethod M.1 ∈ WL ∧ Cond.selects M.1.cls M.1 M.1 ∈ WL
def e_mS (M : MI) (n : Nat) : Prop := e_mt M n ∧ Cond.static M.1 ∈ WL
def e_mI (M : MI) (n : Nat) : Prop := e_mt M n ∧ Cond.instanceMethod M.1 ∈ WL ∧ M.1.name = "<init>" ∧ M.2.2.2.1 = none
def e_rf (M M' : MI) : Prop := M'.2.2.2.2.1 + 1 ≤ M.2.2.2.2.1 ∧ 8 + (M'.2.2.1 + 11) + M'.2.2.2.2.2 ≤ M.2.2.2.2.2
theorem e_cat {b b0 : Nat} {st : List Value} : ((st.map (e_tv b b0)).map fun v => v.category) = st.map fun v => v.category := by
  rw [List.map_map]
  apply List.map_congr_left
  intro v _
  exact e_tv_cat b b0 v
section CALLS
variable {M M' : MI} {mc ms mc1 ms1 pc idx n : Nat} {ls : List (Option Value)} {st : List Value} {z : Zt} {I : It} {Q : Option Value → Zt → It → Prop} {av : List Value}
theorem e_words {b b0 : Nat} {D : va_G} {cI cM : ClassId} {p : Program} {R : Room} {s : State} {m : MethodId} {args : Array Value} {meth : Method} {c : Code} (C : e_C M b b0 D cI cM p R s m args meth c) (hm : e_mt M' n) : ∀ w ∈ e_ws M', ∀ (a' : Array Value) (U : State), s.WarmedH U.vm → w.before a' U = true := by
  intro w hw a' U hW
  have hin : w ∈ WL := by
    rcases List.mem_cons.mp hw with rfl | h
    · exact hm.1
    · exact h
  exact word_at hW (WL_ok hin) (C.2.2.2.2.2.1 w hin)
theorem e_callB {b b0 : Nat} {D : va_G} {cI cM : ClassId} {p : Program} {R : Room} {s : State} {m : MethodId} {args : Array Value} {meth : Method} {c : Code} (C : e_C M b b0 D cI cM p R s m args meth c) (hm : e_mt M' n) (hr : e_rf M M') (hl : Cond.methodLink M.1.cls idx M'.1 ∈ WL) : CallB R s args M.1.cls idx M'.1 M'.2.1 M'.2.2.1 M'.2.2.2.1 (e_ws M') (e_rm M' mc1 ms1) mc1 ms1 n := by
  refine ⟨rfl, rfl, Nat.le_trans hr.1 C.2.2.2.2.2.2.2.2.2.2.1, Nat.le_trans hr.2 C.2.2.2.2.2.2.2.2.2.2.2, e_words C hm, List.mem_cons_self, C.2.2.2.2.2.1 _ hm.1, C.2.2.2.2.2.1 _ hm.2.1, hm.2.2.1, fun sig h => ?_, C.2.2.2.2.2.1 _ hl⟩
  have h2 := hm.2.2.2.1
  rw [h] at h2
  exact (Option.some.inj h2).symm
theorem e_pre {b b0 : Nat} {D : va_G} {cI cM : ClassId} {p : Program} {R : Room} {s : State} {m : MethodId} {args : Array Value} {meth : Method} {c : Code} (C : e_C M b b0 D cI cM p R s m args meth c) {H : Heap} (hH : e_H b b0 D cI cM z I s H) : ∀ U : State, U.heap = H → s.WarmedH U.vm → e_P b b0 D cI cM av z I (av.map (e_tv b b0)).toArray U :=
  fun U hU hW => ⟨rfl, C.2.2.2.2.2.2.2.2.1.moved hW, by rw [hU]; exact hH.moved hW.alike, C.2.2.2.2.2.2.2.2.2.1.1⟩
theorem e_go {b b0 : Nat} {D : va_G} {cI cM : ClassId} {p : Program} {l : Launch} {e : Env} {R : Room} {s : State} {m : MethodId} {args : Array Value} {below : List Frame} {meth : Method} {c : Code} (C : e_C M b b0 D cI cM p R s m args meth c) {H : Heap} {locs : List Loc} {cells slots : Nat} {lsA : Array Slot} {stk : List Value} {a' : Array Value} (hS : va_S (fun q => b0 < q) s.heap H locs) (hc1 : cells + (mc1 + mc) ≤ R.cells) (hs : slots + (ms1 + ms) ≤ R.slots) (hL : e_L b b0 M.2.2.1 ls lsA)
    (hr : va_Run p l e R s m args below meth c H locs cells slots mc1 ms1 (F0 m pc lsA stk) (st.map (e_tv b b0)) (e_Q b b0 D cI cM (fun r z' I' => E M mc ms (pc + 3) ls (r.toList ++ st) z' I' Q) a') (fun q => b0 < q)) : W p l e R s m args below meth c H locs cells slots (MQ below (e_Q b b0 D cI cM Q) args s R.cells R.slots (fun q => b0 < q)) (F0 m pc lsA stk) := by
  intro T hT X
  obtain ⟨v, st₀, t, T', L, h0, X', hLf, e1, e2, ⟨⟨r, z', I', hv, hH', hE⟩, hz, hk⟩, stp⟩ := hr T hT X
  cases hv
  rw [h0] at hz hk
  have hvm : t.vm.Alike s.vm := by rw [← e2]; exact X'.warmed.alike.symm
  have hH2 : e_H b b0 D cI cM z' I' s T'.heap := by rw [e1]; exact hH'.moved hvm
  have hS2 : va_S (fun q => b0 < q) s.heap T'.heap (locs ++ L) := ⟨Nat.le_trans hS.1 (by rw [e1]; exact hz), fun q h1 h2 => by rw [e1, hk q (Nat.lt_of_lt_of_le h1 hS.1) h2]; exact hS.2.1 q h1 h2, fun q hq => by
    rcases List.mem_append.mp hq with h | h
    · exact hS.2.2 q h
    · exact hLf q h⟩
  obtain ⟨t2, a1, b1⟩ := hE b b0 D cI cM p l e R s m args below meth c C T'.heap (locs ++ L) (cells + mc1) (slots + ms1) lsA hH2 hS2 (by omega) (by omega) hL T' rfl X'
  refine ⟨t2, stp t2 ?_, b1⟩
  have hst : (r.toList ++ st).map (e_tv b b0) = (Option.map (e_tv b b0) r).toList ++ st.map (e_tv b b0) := by cases r <;> simp
  rw [hst] at a1
  exact a1
theorem E_callV {a ci : Nat} {As : List Value} {C0 : String} {T0 : u_T} {N0 : Nat} (hd : decode M.2.1 pc = .ok (.invokevirtual idx, 3)) (hm : e_mV M' n) (hr : e_rf M M') (hl : Cond.methodLink M.1.cls idx M'.1 ∈ WL) (hcl : vwCl[ci]? = some (C0, T0, N0)) (hC : C0 = M'.1.cls) (hS0 : z.2.1 a = (1, ci)) {stk : List Value} (hst : stk = As.reverse ++ .ref a :: st) (hn : As.length = n) (hnl : n < M'.2.2.1 + 0) (hca : ∀ v ∈ As, v.category = 1) (hrm : (st.map fun v => v.category).sum ≤ 8)
    (k : E M' 0 0 0 (e_en M' (.ref a :: As)) [] z I (fun r z' I' => E M mc ms (pc + 3) ls (r.toList ++ st) z' I' Q)) : E M mc ms pc ls stk z I Q := by
  intro b b0 D cI cM p l e R s m args below meth c C H locs cells slots lsA hH hS hc1 hs hL
  have ha := hH.pos hS0 (by decide)
  subst hC
  have hat := (hH.2.2.1 a ha).1 (by rw [hS0])
  rw [hS0] at hat
  obtain ⟨r, h1, cell, q1, q2, q3, q4⟩ := hat
  have hKn := C.2.2.2.2.2.2.2.2.1.1.1 ci _ hcl
  have hM : Met l M'.1 (e_ws M') (e_rm M' 0 0) (e_P b b0 D cI cM (.ref a :: As) z I) (e_Q b b0 D cI cM (fun r z' I' => E M mc ms (pc + 3) ls (r.toList ++ st) z' I' Q)) 0 0 (fun q => b0 < q) := k.met hm.1.2.2.2.2 (fun v hv => (List.mem_cons.mp hv).elim (fun q => by rw [q]; rfl) (hca v)) (by simp only [List.length_cons]; omega) l b b0 D cI cM
  have hrun := va_runV (p := p) (e := e) (below := below) (meth := meth) (locs := locs) (cells := cells) (slots := slots) (b := b0 + a) (As := As.map (e_tv b b0)) (rest := st.map (e_tv b b0)) (g := F0 m pc lsA (stk.map (e_tv b b0))) (C := M'.1.cls) (index := idx) (H := H) (R := R) (cc := M.2.1) (nL := M.2.2.1) (Ts := WL) (own := M.1.cls) (n := n) (bytes := M'.2.1) (maxL := M'.2.2.1) (ret := M'.2.2.2.1) ⟨C.1, C.2.1, C.2.2.2.1, C.2.2.2.2.1, C.2.2.2.2.2.1⟩ hM ⟨e_callB C hm.1 hr hl, C.2.2.2.2.2.1 _ hm.2.1, C.2.2.2.2.2.1 _ hm.2.2⟩
    ⟨e_P.blind, ⟨cell, q1, by rw [q3]; rfl, by rw [q2]; exact hKn.2.1⟩, fun U hU hW => by
      have hp := e_pre (av := .ref a :: As) C hH U hU hW
      rw [List.map_cons, show e_tv b b0 (.ref a) = .ref (b0 + a) by show Value.ref (e_ad b b0 a) = _; rw [e_ad_pos ha]] at hp
      exact hp⟩ rfl (by simpa using hn) hL.1 (by
      show stk.map (e_tv b b0) = _
      rw [hst, List.map_append, List.map_reverse, List.map_cons, show e_tv b b0 (.ref a) = .ref (b0 + a) by show Value.ref (e_ad b b0 a) = _; rw [e_ad_pos ha]]) (lv_room (by rw [e_cat]; exact hrm)) hd ⟨by omega, by omega⟩
  exact e_go C hS (by omega) (by omega) hL hrun
theorem E_callS {As : List Value} (hd : decode M.2.1 pc = .ok (.invokestatic idx, 3)) (hm : e_mS M' n) (hr : e_rf M M') (hl : Cond.methodLink M.1.cls idx M'.1 ∈ WL) {stk : List Value} (hst : stk = As.reverse ++ st) (hn : As.length = n) (hnl : n ≤ M'.2.2.1) (hca : ∀ v ∈ As, v.category = 1) (hrm : (st.map fun v => v.category).sum ≤ 8)
    (k : E M' 0 0 0 (e_en M' As) [] z I (fun r z' I' => E M mc ms (pc + 3) ls (r.toList ++ st) z' I' Q)) : E M mc ms pc ls stk z I Q := by
  intro b b0 D cI cM p l e R s m args below meth c C H locs cells slots lsA hH hS hc1 hs hL
  have hM : Met l M'.1 (e_ws M') (e_rm M' 0 0) (e_P b b0 D cI cM As z I) (e_Q b b0 D cI cM (fun r z' I' => E M mc ms (pc + 3) ls (r.toList ++ st) z' I' Q)) 0 0 (fun q => b0 < q) := k.met hm.1.2.2.2.2 hca (by omega) l b b0 D cI cM
  have hrun := va_runS (p := p) (e := e) (below := below) (meth := meth) (locs := locs) (cells := cells) (slots := slots) (As := As.map (e_tv b b0)) (rest := st.map (e_tv b b0)) (g := F0 m pc lsA (stk.map (e_tv b b0))) (index := idx) (H := H) (R := R) (cc := M.2.1) (nL := M.2.2.1) (Ts := WL) (own := M.1.cls) (n := n) (bytes := M'.2.1) (maxL := M'.2.2.1) (ret := M'.2.2.2.1) ⟨C.1, C.2.1, C.2.2.2.1, C.2.2.2.2.1, C.2.2.2.2.2.1⟩ hM ⟨e_callB C hm.1 hr hl, C.2.2.2.2.2.1 _ hm.2⟩
    ⟨e_P.blind, e_pre C hH⟩ rfl (by simpa using hn) hL.1 (by
      show stk.map (e_tv b b0) = _
      rw [hst, List.map_append, List.map_reverse]) (lv_room (by rw [e_cat]; exact hrm)) hd ⟨by omega, by omega⟩
  exact e_go C hS (by omega) (by omega) hL hrun
/-- a constructor of the same class or a public one -/
theorem E_callI {a : Nat} {As : List Value} (hd : decode M.2.1 pc = .ok (.invokespecial idx, 3)) (hm : e_mI M' n) (hr : e_rf M M') (hl : Cond.methodLink M.1.cls idx M'.1 ∈ WL) (ha : a ≠ 0) {stk : List Value} (hst : stk = As.reverse ++ .ref a :: st) (hn : As.length = n) (hnl : n < M'.2.2.1) (hca : ∀ v ∈ As, v.category = 1) (hrm : (st.map fun v => v.category).sum ≤ 8)
    (k : E M' mc1 ms1 0 (e_en M' (.ref a :: As)) [] z I (fun r z' I' => E M mc ms (pc + 3) ls (r.toList ++ st) z' I' Q)) : E M (mc1 + mc) (ms1 + ms) pc ls stk z I Q := by
  intro b b0 D cI cM p l e R s m args below meth c C H locs cells slots lsA hH hS hc1 hs hL
  have ha := Nat.pos_of_ne_zero ha
  have hM : Met l M'.1 (e_ws M') (e_rm M' mc1 ms1) (e_P b b0 D cI cM (.ref a :: As) z I) (e_Q b b0 D cI cM (fun r z' I' => E M mc ms (pc + 3) ls (r.toList ++ st) z' I' Q)) mc1 ms1 (fun q => b0 < q) := k.met hm.1.2.2.2.2 (fun v hv => (List.mem_cons.mp hv).elim (fun q => by rw [q]; rfl) (hca v)) (by simp only [List.length_cons]; omega) l b b0 D cI cM
  have hcb := e_callB (mc1 := mc1) (ms1 := ms1) C hm.1 hr hl
  rw [hm.2.2.2] at hcb
  have hrun := va_runI (p := p) (e := e) (below := below) (meth := meth) (locs := locs) (cells := cells) (slots := slots) (b := b0 + a) (As := As.map (e_tv b b0)) (rest := st.map (e_tv b b0)) (g := F0 m pc lsA (stk.map (e_tv b b0))) (index := idx) (H := H) (R := R) (cc := M.2.1) (nL := M.2.2.1) (Ts := WL) (own := M.1.cls) (n := n) (bytes := M'.2.1) (maxL := M'.2.2.1) ⟨C.1, C.2.1, C.2.2.2.1, C.2.2.2.2.1, C.2.2.2.2.2.1⟩ hM ⟨hcb, hm.2.2.1, C.2.2.2.2.2.1 _ hm.2.1⟩
    ⟨e_P.blind, fun U hU hW => by
      have hp := e_pre (av := .ref a :: As) C hH U hU hW
      rw [List.map_cons, show e_tv b b0 (.ref a) = .ref (b0 + a) by show Value.ref (e_ad b b0 a) = _; rw [e_ad_pos ha]] at hp
      exact hp⟩ rfl (by simpa using hn) hL.1 (by
      show stk.map (e_tv b b0) = _
      rw [hst, List.map_append, List.map_reverse, List.map_cons, show e_tv b b0 (.ref a) = .ref (b0 + a) by show Value.ref (e_ad b b0 a) = _; rw [e_ad_pos ha]]) (lv_room (by rw [e_cat]; exact hrm)) hd ⟨by omega, by omega⟩
  exact e_go C hS (by omega) (by omega) hL hrun
/-- a private constructor of a nest mate -/
theorem E_callIN {a : Nat} {As : List Value} {host : String} (hd : decode M.2.1 pc = .ok (.invokespecial idx, 3)) (hm : e_mI M' n) (hr : e_rf M M') (hl : Cond.methodLinkNest M.1.cls idx M'.1 host ∈ nstW) (ha : a ≠ 0) {stk : List Value} (hst : stk = As.reverse ++ .ref a :: st) (hn : As.length = n) (hnl : n < M'.2.2.1) (hca : ∀ v ∈ As, v.category = 1) (hrm : (st.map fun v => v.category).sum ≤ 8)
    (k : E M' mc1 ms1 0 (e_en M' (.ref a :: As)) [] z I (fun r z' I' => E M mc ms (pc + 3) ls (r.toList ++ st) z' I' Q)) : E M (mc1 + mc) (ms1 + ms) pc ls stk z I Q := by
  intro b b0 D cI cM p l e R s m args below meth c C H locs cells slots lsA hH hS hc1 hs hL
  have ha := Nat.pos_of_ne_zero ha
  have hM : Met l M'.1 (e_ws M') (e_rm M' mc1 ms1) (e_P b b0 D cI cM (.ref a :: As) z I) (e_Q b b0 D cI cM (fun r z' I' => E M mc ms (pc + 3) ls (r.toList ++ st) z' I' Q)) mc1 ms1 (fun q => b0 < q) := k.met hm.1.2.2.2.2 (fun v hv => (List.mem_cons.mp hv).elim (fun q => by rw [q]; rfl) (hca v)) (by simp only [List.length_cons]; omega) l b b0 D cI cM
  have hcn : va_CN R s args M.1.cls idx M'.1 host M'.2.1 M'.2.2.1 M'.2.2.2.1 (e_ws M') (e_rm M' mc1 ms1) mc1 ms1 n := by
    refine ⟨⟨rfl, rfl, Nat.le_trans hr.1 C.2.2.2.2.2.2.2.2.2.2.1, Nat.le_trans hr.2 C.2.2.2.2.2.2.2.2.2.2.2, e_words C hm.1, List.mem_cons_self⟩, C.2.2.2.2.2.1 _ hm.1.1, C.2.2.2.2.2.1 _ hm.1.2.1, hm.1.2.2.1, fun sig h => ?_, va_Nw.use rfl (C.2.2.2.2.2.2.2.2.1.2.2 _ hl)⟩
    have h2 := hm.1.2.2.2.1
    rw [h] at h2
    exact (Option.some.inj h2).symm
  rw [hm.2.2.2] at hcn
  have hrun := va_runIN (p := p) (e := e) (below := below) (meth := meth) (locs := locs) (cells := cells) (slots := slots) (b := b0 + a) (As := As.map (e_tv b b0)) (rest := st.map (e_tv b b0)) (g := F0 m pc lsA (stk.map (e_tv b b0))) (index := idx) (H := H) (R := R) (cc := M.2.1) (nL := M.2.2.1) (Ts := WL) (own := M.1.cls) (n := n) (bytes := M'.2.1) (maxL := M'.2.2.1) ⟨C.1, C.2.1, C.2.2.2.1, C.2.2.2.2.1, C.2.2.2.2.2.1⟩ hM ⟨hcn, hm.2.2.1, C.2.2.2.2.2.1 _ hm.2.1⟩
    ⟨e_P.blind, fun U hU hW => by
      have hp := e_pre (av := .ref a :: As) C hH U hU hW
      rw [List.map_cons, show e_tv b b0 (.ref a) = .ref (b0 + a) by show Value.ref (e_ad b b0 a) = _; rw [e_ad_pos ha]] at hp
      exact hp⟩ rfl (by simpa using hn) hL.1 (by
      show stk.map (e_tv b b0) = _
      rw [hst, List.map_append, List.map_reverse, List.map_cons, show e_tv b b0 (.ref a) = .ref (b0 + a) by show Value.ref (e_ad b b0 a) = _; rw [e_ad_pos ha]]) (lv_room (by rw [e_cat]; exact hrm)) hd ⟨by omega, by omega⟩
  exact e_go C hS (by omega) (by omega) hL hrun
theorem E_obj {a : Nat} (hd : decode M.2.1 pc = .ok (.invokespecial idx, 3)) (hl : Cond.methodLink M.1.cls idx objectInit ∈ WL) (hi : Cond.instanceMethod objectInit ∈ WL) (hco : Cond.code objectInit ⟨#[0xb1]⟩ 1 none ∈ WL) (hf : 1 ≤ M.2.2.2.2.1) (hlo : (st.map fun v => v.category).sum + 12 ≤ M.2.2.2.2.2) (k : E M mc ms (pc + 3) ls st z I Q) : E M mc ms pc ls (.ref a :: st) z I Q := by
  intro b b0 D cI cM p l e R s m args below meth c C H locs cells slots lsA hH hS hc1 hs hL
  refine W.objInit C.1 C.2.1 C.2.2.2.2.1 (C.2.2.2.2.2.1 _ hl) (C.2.2.2.2.2.1 _ hi) (C.2.2.2.2.2.1 _ hco) rfl (by rw [C.2.2.2.1]; exact hL.1) rfl hd (Nat.le_trans hf C.2.2.2.2.2.2.2.2.2.2.1) ?_ (k b b0 D cI cM p l e R s m args below meth c C H locs cells slots lsA hH hS hc1 hs hL)
  show 2 * 0 + _ + 12 ≤ _
  rw [e_cat]
  have := C.2.2.2.2.2.2.2.2.2.2.2
  omega
theorem E_mmin {x y : Int32} (hd : decode M.2.1 pc = .ok (.invokestatic idx, 3)) (hl : Cond.methodLink M.1.cls idx Lib.Math.min.name ∈ WL) (hst : Cond.static Lib.Math.min.name ∈ WL) (hi : Cond.initialized "java/lang/Math" ∈ WL) (hco : Cond.code Lib.Math.min.name Lib.Math.min.code 2 (some .int) ∈ WL) (hf : 1 ≤ M.2.2.2.2.1) (hlo : (st.map fun v => v.category).sum + 13 ≤ M.2.2.2.2.2) (k : E M mc ms (pc + 3) ls (.int (if y < x then y else x) :: st) z I Q) : E M mc ms pc ls (.int y :: .int x :: st) z I Q := by
  intro b b0 D cI cM p l e R s m args below meth c C H locs cells slots lsA hH hS hc1 hs hL
  refine va_mmin C.1 C.2.1 (by rw [C.2.2.2.1]; exact hL.1.symm) C.2.2.2.2.1 (C.2.2.2.2.2.1 _ hl) (C.2.2.2.2.2.1 _ hst) (C.2.2.2.2.2.1 _ hi) (C.2.2.2.2.2.1 _ hco) (Nat.le_trans hf C.2.2.2.2.2.2.2.2.2.2.1) ?_ (by omega) (by omega) hd (k b b0 D cI cM p l e R s m args below meth c C H locs cells slots lsA hH hS hc1 hs hL)
  rw [e_cat]
  have := C.2.2.2.2.2.2.2.2.2.2.2
  omega
theorem E_mmax {x y : Int32} (hd : decode M.2.1 pc = .ok (.invokestatic idx, 3)) (hl : Cond.methodLink M.1.cls idx Lib.Math.max.name ∈ WL) (hst : Cond.static Lib.Math.max.name ∈ WL) (hi : Cond.initialized "java/lang/Math" ∈ WL) (hco : Cond.code Lib.Math.max.name Lib.Math.max.code 2 (some .int) ∈ WL) (hf : 1 ≤ M.2.2.2.2.1) (hlo : (st.map fun v => v.category).sum + 13 ≤ M.2.2.2.2.2) (k : E M mc ms (pc + 3) ls (.int (if x < y then y else x) :: st) z I Q) : E M mc ms pc ls (.int y :: .int x :: st) z I Q := by
  intro b b0 D cI cM p l e R s m args below meth c C H locs cells slots lsA hH hS hc1 hs hL
  refine va_mmax C.1 C.2.1 (by rw [C.2.2.2.1]; exact hL.1.symm) C.2.2.2.2.1 (C.2.2.2.2.2.1 _ hl) (C.2.2.2.2.2.1 _ hst) (C.2.2.2.2.2.1 _ hi) (C.2.2.2.2.2.1 _ hco) (Nat.le_trans hf C.2.2.2.2.2.2.2.2.2.2.1) ?_ (by omega) (by omega) hd (k b b0 D cI cM p l e R s m args below meth c C H locs cells slots lsA hH hS hc1 hs hL)
  rw [e_cat]
  have := C.2.2.2.2.2.2.2.2.2.2.2
  omega
def e_cp (I : It) (a a' : Nat) (n : Nat) : It := fun q k => if q = a' ∧ k < n then I a k else I q k
theorem E_copy {a a' n0 n1 : Nat} {n : Int32} (hd : decode M.2.1 pc = .ok (.invokestatic idx, 3)) (hl : Cond.methodLink M.1.cls idx arraycopyName ∈ WL) (hnat : Cond.native arraycopyName ∈ WL) (hst : Cond.static arraycopyName ∈ WL) (hi : Cond.initialized "java/lang/System" ∈ WL) (hf : 1 ≤ M.2.2.2.2.1) (hlo : (st.map fun v => v.category).sum + (nativeFrameWords "java/lang/System" "arraycopy" 5 + 11) ≤ M.2.2.2.2.2)
    (hS0 : z.2.1 a = (2, n0)) (hS1 : z.2.1 a' = (2, n1)) (ha : a ≠ 0) (ha' : a' ≠ 0) (h3 : ¬ n < 0) (h4 : n.toNatClampNeg ≤ n0) (h5 : n.toNatClampNeg ≤ n1) (k : E M mc ms (pc + 3) ls st z (e_cp I a a' n.toNatClampNeg) Q) : E M mc ms pc ls (.int n :: .int 0 :: .ref a' :: .int 0 :: .ref a :: st) z I Q := by
  intro b b0 D cI cM p l e R s m args below meth c C H locs cells slots lsA hH hS hc1 hs hL
  have ha := Nat.pos_of_ne_zero ha
  have ha' := Nat.pos_of_ne_zero ha'
  have hat := (hH.2.2.1 a ha).2.1 (by rw [hS0])
  have hat' := (hH.2.2.1 a' ha').2.1 (by rw [hS1])
  rw [hS0] at hat
  rw [hS1] at hat'
  have nn : ∀ z : Int32, ¬ z < 0 → z.toInt = (z.toNatClampNeg : Int) := by
    intro z hz
    have hz0 : (0 : Int) ≤ z.toInt := by
      have := Int32.not_lt.mp hz
      simpa using Int32.le_iff_toInt_le.mp this
    show z.toInt = ((z.toInt.toNat : Nat) : Int)
    omega
  have h1 : ¬ (0 : Int32) < 0 := by decide
  have z0 : (0 : Int32).toNatClampNeg = 0 := by decide
  intro T hT X
  obtain ⟨-, k0, hk0, cm0, hkk0⟩ := (C.2.2.2.2.2.2.2.2.1.1.2 0 _ rfl).1 n0 (fun j => .int (I a j))
  obtain ⟨-, k1, hk1, cm1, hkk1⟩ := (C.2.2.2.2.2.2.2.2.1.1.2 0 _ rfl).1 n1 (fun j => .int (I a' j))
  obtain ⟨vm', X', step⟩ := X.arraycopy C.1 C.2.2.2.2.1 (C.2.2.2.2.2.1 _ hl) (C.2.2.2.2.2.1 _ hnat) (C.2.2.2.2.2.1 _ hst) (C.2.2.2.2.2.1 _ hi) (src := b0 + a) (dst := b0 + a') (cs := arrV cI n0 (fun j => .int (I a j))) (cd := arrV cI n1 (fun j => .int (I a' j))) (srcPos := 0) (destPos := 0) (n := n) (by rw [hT]; exact hat) (by rw [hT]; exact hat')
    (fun _ h => by cases h) (fun _ h => by cases h) (fun h => by cases h) (fun h => by cases h) hk0 hk1 hkk0 hkk1 (by simp [refKind]) h1 h1 h3
    (by rw [nn 0 h1, nn n h3]; show ¬ _ > ((arrV cI n0 (fun j => .int (I a j))).slots.size : Int); rw [arrV_size, z0]; omega)
    (by rw [nn 0 h1, nn n h3]; show ¬ _ > ((arrV cI n1 (fun j => .int (I a' j))).slots.size : Int); rw [arrV_size, z0]; omega)
    (fun vm₁ _ i hi => by
      have e : (arrV cI n0 (fun j => .int (I a j))).slots.getD ((0 : Int32).toNatClampNeg + i) .null = .int (I a ((0 : Int32).toNatClampNeg + i)) := by
        rw [Array.getD_eq_getD_getElem?, arrV_read _ _ (by rw [z0]; omega)]
        rfl
      refine ⟨?_, ?_⟩
      · rw [e]
        rfl
      · rw [e]
        exact trivial)
    (g := F0 m pc lsA ((.int n :: .int 0 :: .ref a' :: .int 0 :: .ref a :: st).map (e_tv b b0))) rfl (by rw [C.2.2.2.1]; exact hL.1) (rest := st.map (e_tv b b0)) (by
      show [Value.int n, .int 0, .ref (e_ad b b0 a'), .int 0, .ref (e_ad b b0 a)] ++ st.map (e_tv b b0) = _
      rw [e_ad_pos ha, e_ad_pos ha']; rfl) (by rw [C.2.1]; exact hd) (Nat.le_trans hf C.2.2.2.2.2.2.2.2.2.2.1) (by
      show 2 * 0 + _ + _ ≤ _
      rw [e_cat]
      have := C.2.2.2.2.2.2.2.2.2.2.2
      omega)
  have e1 : copied (arrV cI n0 (fun j => .int (I a j))) (arrV cI n1 (fun j => .int (I a' j))) 0 0 n = arrV cI n1 (fun j => .int (va_cpy (I a) (I a') 0 0 n.toNatClampNeg j)) := va_copied (fun z => .int z) cI cI (I a) (I a') (by omega)
  rw [e1] at X' step
  have hl' : b0 + a' < H.size := (Array.getElem?_eq_some_iff.mp hat').1
  generalize hCell : arrV cI n1 (fun j => .int (va_cpy (I a) (I a') 0 0 n.toNatClampNeg j)) = cellN at X' step
  have hheap : ((T.setVm vm').setCell (b0 + a') cellN).heap = H.setIfInBounds (b0 + a') cellN := by rw [← hT]; rfl
  have e2 : (H.setIfInBounds (b0 + a') cellN).size = H.size := by simp
  have e3 : ∀ q : Nat, q ≠ b0 + a' → (H.setIfInBounds (b0 + a') cellN)[q]? = H[q]? := fun q hq => by simp [Array.getElem?_setIfInBounds, Ne.symm hq]
  have e4 : (H.setIfInBounds (b0 + a') cellN)[b0 + a']? = some cellN := by simp [Array.getElem?_setIfInBounds, hl']
  have hH' : e_H b b0 D cI cM z (e_cp I a a' n.toNatClampNeg) s (H.setIfInBounds (b0 + a') cellN) := by
    refine e_put_H hH C.2.2.2.2.2.2.2.2.2.1.1 ha' rfl rfl (fun _ _ => rfl) (fun q h => funext fun k' => if_neg fun g => h g.1) e2 e3 ⟨fun h => ?_, fun h => ?_, fun h => ?_⟩
    · rw [hS1] at h; cases h
    · rw [hS1, e4, ← hCell]
      congr 2
      funext j
      by_cases hj : j < n.toNatClampNeg
      · simp [va_cpy, e_cp, hj]
      · simp [va_cpy, e_cp, hj]
    · rw [hS1] at h; cases h
  obtain ⟨t, a1, b1⟩ := k b b0 D cI cM p l e R s m args below meth c C (H.setIfInBounds (b0 + a') cellN) _ cells slots lsA hH' ⟨by rw [e2]; exact hS.1, fun q g1 g2 => by
      rw [e3 q (fun h => g2 (by rw [h]; show b0 < b0 + a'; omega))]
      exact hS.2.1 q g1 g2, fun q hq => by
      rcases List.mem_append.mp hq with h | h
      · exact hS.2.2 q h
      · obtain ⟨z, -, hz⟩ := List.mem_map.mp h
        rw [← hz]
        show b0 < b0 + a'
        omega⟩ hc1 hs hL _ hheap X'
  exact ⟨t, step t a1, b1⟩
end CALLS
end
section
theorem WL_t1 {w : Cond} (i : Nat) (h : tables_1_1[i]? = some w) (g : goodWord w = true) : w ∈ WL := WL_in (show w ∈ k2_sels lw_privs ++ tables_1 from List.mem_append_right _ (show w ∈ tables_1 from List.mem_append_left _ (List.mem_of_getElem? h))) g
theorem WL_t2 {w : Cond} (i : Nat) (h : tables_1_2[i]? = some w) (g : goodWord w = true) : w ∈ WL := WL_in (show w ∈ k2_sels lw_privs ++ tables_1 from List.mem_append_right _ (show w ∈ tables_1 from List.mem_append_right _ (List.mem_append_left _ (List.mem_of_getElem? h)))) g
theorem WL_t3 {w : Cond} (i : Nat) (h : tables_1_3[i]? = some w) (g : goodWord w = true) : w ∈ WL := WL_in (show w ∈ k2_sels lw_privs ++ tables_1 from List.mem_append_right _ (show w ∈ tables_1 from List.mem_append_right _ (List.mem_append_right _ (List.mem_append_left _ (List.mem_of_getElem? h))))) g
theorem WL_t4 {w : Cond} (i : Nat) (h : tables_1_4[i]? = some w) (g : goodWord w = true) : w ∈ WL := WL_in (show w ∈ k2_sels lw_privs ++ tables_1 from List.mem_append_right _ (show w ∈ tables_1 from List.mem_append_right _ (List.mem_append_right _ (List.mem_append_right _ (List.mem_append_left _ (List.mem_of_getElem? h)))))) g
theorem WL_t5 {w : Cond} (i : Nat) (h : tables_1_5[i]? = some w) (g : goodWord w = true) : w ∈ WL := WL_in (show w ∈ k2_sels lw_privs ++ tables_1 from List.mem_append_right _ (show w ∈ tables_1 from List.mem_append_right _ (List.mem_append_right _ (List.mem_append_right _ (List.mem_append_right _ (List.mem_of_getElem? h)))))) g
theorem w_1_0 : Cond.initialized RL ∈ WL := WL_t1 0 rfl rfl
theorem w_1_1 : Cond.initialized RX8 ∈ WL := WL_t1 1 rfl rfl
theorem w_1_2 : Cond.initialized RX7 ∈ WL := WL_t1 2 rfl rfl
theorem w_1_3 : Cond.initialized RX6 ∈ WL := WL_t1 3 rfl rfl
theorem w_1_4 : Cond.initialized RX4 ∈ WL := WL_t1 4 rfl rfl
theorem w_1_5 : Cond.initialized RX5 ∈ WL := WL_t1 5 rfl rfl
theorem w_1_6 : Cond.initialized RX2 ∈ WL := WL_t1 6 rfl rfl
theorem w_1_7 : Cond.initialized RX0 ∈ WL := WL_t1 7 rfl rfl
theorem w_1_8 : Cond.initialized RX1 ∈ WL := WL_t1 8 rfl rfl
theorem w_1_9 : Cond.initialized RX9 ∈ WL := WL_t1 9 rfl rfl
theorem w_1_10 : Cond.initialized RX3 ∈ WL := WL_t1 10 rfl rfl
theorem w_1_11 : Cond.initialized RJ9 ∈ WL := WL_t1 11 rfl rfl
theorem w_1_12 : Cond.initialized RJ10 ∈ WL := WL_t1 12 rfl rfl
theorem w_1_13 : Cond.classLink RL 7 RX8 ∈ WL := WL_t1 13 rfl rfl
theorem w_1_14 : Cond.instantiable RX8 10 ∈ WL := WL_t1 14 rfl rfl
theorem w_1_15 : Cond.methodLink RL 9 yX8_init ∈ WL := WL_t1 15 rfl rfl
theorem w_1_16 : Cond.instanceMethod yX8_init ∈ WL := WL_t1 16 rfl rfl
theorem w_1_17 : Cond.code yX8_init cX8_init 1 none ∈ WL := WL_t1 17 rfl rfl
theorem w_1_18 : Cond.methodLink RX8 1 objectInit ∈ WL := WL_t1 18 rfl rfl
theorem w_1_19 : Cond.instanceMethod objectInit ∈ WL := WL_t1 19 rfl rfl
theorem w_1_20 : Cond.code objectInit ⟨#[0xb1]⟩ 1 none ∈ WL := WL_t1 20 rfl rfl
theorem w_1_21 : Cond.classLink RX8 7 RX7 ∈ WL := WL_t1 21 rfl rfl
theorem w_1_22 : Cond.instantiable RX7 6 ∈ WL := WL_t1 22 rfl rfl
theorem w_1_24 : Cond.instanceMethod yX7_init ∈ WL := WL_t1 24 rfl rfl
theorem w_1_25 : Cond.code yX7_init cX7_init 1 none ∈ WL := WL_t1 25 rfl rfl
theorem w_1_26 : Cond.methodLink RX7 3 objectInit ∈ WL := WL_t1 26 rfl rfl
theorem w_1_27 : Cond.fieldLink RX7 11 RX7 "text" "[I" ∈ WL := WL_t1 27 rfl rfl
theorem w_1_28 : Cond.fieldLink RX7 19 RX7 "length" "I" ∈ WL := WL_t1 28 rfl rfl
theorem w_1_29 : Cond.fieldLink RX8 100 RX7 "length" "I" ∈ WL := WL_t1 29 rfl rfl
theorem w_1_30 : Cond.fieldLink RX7 15 RX7 "faultPlace" "I" ∈ WL := WL_t1 30 rfl rfl
theorem w_1_31 : Cond.fieldLink RX8 94 RX7 "faultPlace" "I" ∈ WL := WL_t1 31 rfl rfl
theorem w_1_32 : Cond.fieldLink RX7 28 RX7 "faultNumber" "I" ∈ WL := WL_t1 32 rfl rfl
theorem w_1_33 : Cond.fieldLink RX7 31 RX7 "place" "I" ∈ WL := WL_t1 33 rfl rfl
theorem w_1_34 : Cond.fieldLink RX7 92 RX7 "numberPlace" "I" ∈ WL := WL_t1 34 rfl rfl
theorem w_1_35 : Cond.laysFinal RX7 RX7 "text" "[I" ∈ WL := WL_t1 35 rfl rfl
theorem w_1_37 : Cond.lays RX7 RX7 "length" "I" ∈ WL := WL_t1 37 rfl rfl
theorem w_1_39 : Cond.lays RX7 RX7 "faultPlace" "I" ∈ WL := WL_t1 39 rfl rfl
theorem w_1_41 : Cond.lays RX7 RX7 "faultNumber" "I" ∈ WL := WL_t1 41 rfl rfl
theorem w_1_43 : Cond.lays RX7 RX7 "place" "I" ∈ WL := WL_t1 43 rfl rfl
theorem w_1_45 : Cond.lays RX7 RX7 "numberPlace" "I" ∈ WL := WL_t1 45 rfl rfl
theorem w_1_48 : Cond.arrayClass .int ∈ WL := WL_t1 48 rfl rfl
theorem w_1_49 : Cond.classLink RX8 16 RX6 ∈ WL := WL_t1 49 rfl rfl
theorem w_1_50 : Cond.instantiable RX6 9 ∈ WL := WL_t1 50 rfl rfl
theorem w_1_52 : Cond.instanceMethod yX6_init ∈ WL := WL_t1 52 rfl rfl
theorem w_1_53 : Cond.code yX6_init cX6_init 1 none ∈ WL := WL_t1 53 rfl rfl
theorem w_1_54 : Cond.methodLink RX6 3 objectInit ∈ WL := WL_t1 54 rfl rfl
theorem w_1_55 : Cond.fieldLink RX6 33 RX6 "wireCount" "I" ∈ WL := WL_t1 55 rfl rfl
theorem w_1_56 : Cond.fieldLink RX8 90 RX6 "wireCount" "I" ∈ WL := WL_t1 56 rfl rfl
theorem w_1_57 : Cond.fieldLink RX7 55 RX6 "wireCount" "I" ∈ WL := WL_t1 57 rfl rfl
theorem w_1_58 : Cond.fieldLink RX4 184 RX6 "wireCount" "I" ∈ WL := WL_t1 58 rfl rfl
theorem w_1_59 : Cond.fieldLink RX6 37 RX6 "gateCount" "I" ∈ WL := WL_t1 59 rfl rfl
theorem w_1_60 : Cond.fieldLink RX4 92 RX6 "gateCount" "I" ∈ WL := WL_t1 60 rfl rfl
theorem w_1_61 : Cond.fieldLink RX8 97 RX6 "gateCount" "I" ∈ WL := WL_t1 61 rfl rfl
theorem w_1_62 : Cond.fieldLink RX7 69 RX6 "gateCount" "I" ∈ WL := WL_t1 62 rfl rfl
theorem w_1_63 : Cond.fieldLink RX6 9 RX6 "firstLevel" "[I" ∈ WL := WL_t1 63 rfl rfl
theorem w_1_64 : Cond.fieldLink RX4 87 RX6 "firstLevel" "[I" ∈ WL := WL_t1 64 rfl rfl
theorem w_1_65 : Cond.fieldLink RX6 15 RX6 "kind" "[I" ∈ WL := WL_t1 65 rfl rfl
theorem w_1_66 : Cond.fieldLink RX4 107 RX6 "kind" "[I" ∈ WL := WL_t1 66 rfl rfl
theorem w_1_67 : Cond.fieldLink RX7 72 RX6 "kind" "[I" ∈ WL := WL_t1 67 rfl rfl
theorem w_1_68 : Cond.fieldLink RX8 169 RX6 "kind" "[I" ∈ WL := WL_t1 68 rfl rfl
theorem w_1_69 : Cond.fieldLink RX6 18 RX6 "first" "[I" ∈ WL := WL_t1 69 rfl rfl
theorem w_1_70 : Cond.fieldLink RX4 110 RX6 "first" "[I" ∈ WL := WL_t1 70 rfl rfl
theorem w_1_71 : Cond.fieldLink RX7 77 RX6 "first" "[I" ∈ WL := WL_t1 71 rfl rfl
theorem w_1_72 : Cond.fieldLink RX8 172 RX6 "first" "[I" ∈ WL := WL_t1 72 rfl rfl
theorem w_1_73 : Cond.fieldLink RX6 21 RX6 "second" "[I" ∈ WL := WL_t1 73 rfl rfl
theorem w_1_74 : Cond.fieldLink RX4 113 RX6 "second" "[I" ∈ WL := WL_t1 74 rfl rfl
theorem w_1_75 : Cond.fieldLink RX7 80 RX6 "second" "[I" ∈ WL := WL_t1 75 rfl rfl
theorem w_1_76 : Cond.fieldLink RX8 175 RX6 "second" "[I" ∈ WL := WL_t1 76 rfl rfl
theorem w_1_77 : Cond.fieldLink RX6 24 RX6 "target" "[I" ∈ WL := WL_t1 77 rfl rfl
theorem w_1_78 : Cond.fieldLink RX4 95 RX6 "target" "[I" ∈ WL := WL_t1 78 rfl rfl
theorem w_1_79 : Cond.fieldLink RX7 83 RX6 "target" "[I" ∈ WL := WL_t1 79 rfl rfl
theorem w_1_80 : Cond.fieldLink RX8 178 RX6 "target" "[I" ∈ WL := WL_t1 80 rfl rfl
theorem w_1_81 : Cond.fieldLink RX6 27 RX6 "delay" "[I" ∈ WL := WL_t1 81 rfl rfl
theorem w_1_82 : Cond.fieldLink RX7 86 RX6 "delay" "[I" ∈ WL := WL_t1 82 rfl rfl
theorem w_1_83 : Cond.fieldLink RX8 181 RX6 "delay" "[I" ∈ WL := WL_t1 83 rfl rfl
theorem w_1_84 : Cond.fieldLink RX4 154 RX6 "delay" "[I" ∈ WL := WL_t1 84 rfl rfl
theorem w_1_85 : Cond.fieldLink RX6 30 RX6 "mode" "[I" ∈ WL := WL_t1 85 rfl rfl
theorem w_1_86 : Cond.fieldLink RX7 95 RX6 "mode" "[I" ∈ WL := WL_t1 86 rfl rfl
theorem w_1_87 : Cond.fieldLink RX8 184 RX6 "mode" "[I" ∈ WL := WL_t1 87 rfl rfl
theorem w_1_88 : Cond.fieldLink RX4 157 RX6 "mode" "[I" ∈ WL := WL_t1 88 rfl rfl
theorem w_1_89 : Cond.lays RX6 RX6 "wireCount" "I" ∈ WL := WL_t1 89 rfl rfl
theorem w_1_91 : Cond.lays RX6 RX6 "gateCount" "I" ∈ WL := WL_t1 91 rfl rfl
theorem w_1_93 : Cond.laysFinal RX6 RX6 "firstLevel" "[I" ∈ WL := WL_t1 93 rfl rfl
theorem w_1_95 : Cond.laysFinal RX6 RX6 "kind" "[I" ∈ WL := WL_t1 95 rfl rfl
theorem w_1_97 : Cond.laysFinal RX6 RX6 "first" "[I" ∈ WL := WL_t1 97 rfl rfl
theorem w_1_99 : Cond.laysFinal RX6 RX6 "second" "[I" ∈ WL := WL_t1 99 rfl rfl
theorem w_1_101 : Cond.laysFinal RX6 RX6 "target" "[I" ∈ WL := WL_t1 101 rfl rfl
theorem w_1_103 : Cond.laysFinal RX6 RX6 "delay" "[I" ∈ WL := WL_t1 103 rfl rfl
theorem w_1_105 : Cond.laysFinal RX6 RX6 "mode" "[I" ∈ WL := WL_t1 105 rfl rfl
theorem w_1_108 : Cond.classLink RX8 26 RX4 ∈ WL := WL_t1 108 rfl rfl
theorem w_1_109 : Cond.instantiable RX4 18 ∈ WL := WL_t1 109 rfl rfl
theorem w_1_111 : Cond.instanceMethod yX4_init ∈ WL := WL_t1 111 rfl rfl
theorem w_1_112 : Cond.code yX4_init cX4_init 1 none ∈ WL := WL_t1 112 rfl rfl
theorem w_1_113 : Cond.methodLink RX4 3 objectInit ∈ WL := WL_t1 113 rfl rfl
theorem w_1_114 : Cond.fieldLink RX4 51 RX4 "time" "I" ∈ WL := WL_t1 114 rfl rfl
theorem w_1_115 : Cond.fieldLink RX8 103 RX4 "time" "I" ∈ WL := WL_t1 115 rfl rfl
theorem w_1_116 : Cond.fieldLink RX4 55 RX4 "cycles" "I" ∈ WL := WL_t1 116 rfl rfl
theorem w_1_117 : Cond.fieldLink RX8 106 RX4 "cycles" "I" ∈ WL := WL_t1 117 rfl rfl
theorem w_1_118 : Cond.fieldLink RX4 58 RX4 "endless" "Z" ∈ WL := WL_t1 118 rfl rfl
theorem w_1_119 : Cond.fieldLink RX8 109 RX4 "endless" "Z" ∈ WL := WL_t1 119 rfl rfl
theorem w_1_120 : Cond.fieldLink RX4 62 RX4 "flickering" "I" ∈ WL := WL_t1 120 rfl rfl
theorem w_1_121 : Cond.fieldLink RX8 120 RX4 "flickering" "I" ∈ WL := WL_t1 121 rfl rfl
theorem w_1_122 : Cond.fieldLink RX4 9 RX4 "level" "[I" ∈ WL := WL_t1 122 rfl rfl
theorem w_1_123 : Cond.fieldLink RX0 29 RX4 "level" "[I" ∈ WL := WL_t1 123 rfl rfl
theorem w_1_124 : Cond.fieldLink RX8 143 RX4 "level" "[I" ∈ WL := WL_t1 124 rfl rfl
theorem w_1_125 : Cond.fieldLink RX4 15 RX4 "changes" "[I" ∈ WL := WL_t1 125 rfl rfl
theorem w_1_126 : Cond.fieldLink RX8 150 RX4 "changes" "[I" ∈ WL := WL_t1 126 rfl rfl
theorem w_1_127 : Cond.fieldLink RX4 18 RX4 "lastChange" "[I" ∈ WL := WL_t1 127 rfl rfl
theorem w_1_128 : Cond.fieldLink RX8 153 RX4 "lastChange" "[I" ∈ WL := WL_t1 128 rfl rfl
theorem w_1_129 : Cond.fieldLink RX4 21 RX4 "waveEnd" "[I" ∈ WL := WL_t1 129 rfl rfl
theorem w_1_130 : Cond.fieldLink RX4 24 RX4 "waveTime" "[I" ∈ WL := WL_t1 130 rfl rfl
theorem w_1_131 : Cond.fieldLink RX4 27 RX4 "waveLevel" "[I" ∈ WL := WL_t1 131 rfl rfl
theorem w_1_132 : Cond.fieldLink RX4 30 RX4 "drive" "[I" ∈ WL := WL_t1 132 rfl rfl
theorem w_1_133 : Cond.fieldLink RX8 187 RX4 "drive" "[I" ∈ WL := WL_t1 133 rfl rfl
theorem w_1_134 : Cond.fieldLink RX4 33 RX4 "waiting" "[I" ∈ WL := WL_t1 134 rfl rfl
theorem w_1_135 : Cond.fieldLink RX8 194 RX4 "waiting" "[I" ∈ WL := WL_t1 135 rfl rfl
theorem w_1_136 : Cond.fieldLink RX4 36 RX4 "dueTime" "[I" ∈ WL := WL_t1 136 rfl rfl
theorem w_1_137 : Cond.fieldLink RX4 39 RX4 "dueLevel" "[I" ∈ WL := WL_t1 137 rfl rfl
theorem w_1_138 : Cond.fieldLink RX4 65 RX4 "handCount" "I" ∈ WL := WL_t1 138 rfl rfl
theorem w_1_139 : Cond.fieldLink RX8 127 RX4 "handCount" "I" ∈ WL := WL_t1 139 rfl rfl
theorem w_1_140 : Cond.fieldLink RX4 42 RX4 "handTime" "[I" ∈ WL := WL_t1 140 rfl rfl
theorem w_1_141 : Cond.fieldLink RX4 45 RX4 "handWire" "[I" ∈ WL := WL_t1 141 rfl rfl
theorem w_1_142 : Cond.fieldLink RX4 48 RX4 "handLevel" "[I" ∈ WL := WL_t1 142 rfl rfl
theorem w_1_143 : Cond.lays RX4 RX4 "time" "I" ∈ WL := WL_t1 143 rfl rfl
theorem w_1_145 : Cond.lays RX4 RX4 "cycles" "I" ∈ WL := WL_t1 145 rfl rfl
theorem w_1_147 : Cond.lays RX4 RX4 "endless" "Z" ∈ WL := WL_t1 147 rfl rfl
theorem w_1_149 : Cond.lays RX4 RX4 "flickering" "I" ∈ WL := WL_t1 149 rfl rfl
theorem w_1_151 : Cond.laysFinal RX4 RX4 "level" "[I" ∈ WL := WL_t1 151 rfl rfl
theorem w_1_153 : Cond.laysFinal RX4 RX4 "changes" "[I" ∈ WL := WL_t1 153 rfl rfl
theorem w_1_155 : Cond.laysFinal RX4 RX4 "lastChange" "[I" ∈ WL := WL_t1 155 rfl rfl
theorem w_1_157 : Cond.laysFinal RX4 RX4 "waveEnd" "[I" ∈ WL := WL_t1 157 rfl rfl
theorem w_1_159 : Cond.laysFinal RX4 RX4 "waveTime" "[I" ∈ WL := WL_t1 159 rfl rfl
theorem w_1_161 : Cond.laysFinal RX4 RX4 "waveLevel" "[I" ∈ WL := WL_t1 161 rfl rfl
theorem w_1_163 : Cond.laysFinal RX4 RX4 "drive" "[I" ∈ WL := WL_t1 163 rfl rfl
theorem w_1_165 : Cond.laysFinal RX4 RX4 "waiting" "[I" ∈ WL := WL_t1 165 rfl rfl
theorem w_1_167 : Cond.laysFinal RX4 RX4 "dueTime" "[I" ∈ WL := WL_t1 167 rfl rfl
theorem w_1_169 : Cond.laysFinal RX4 RX4 "dueLevel" "[I" ∈ WL := WL_t1 169 rfl rfl
theorem w_1_171 : Cond.lays RX4 RX4 "handCount" "I" ∈ WL := WL_t1 171 rfl rfl
theorem w_1_173 : Cond.laysFinal RX4 RX4 "handTime" "[I" ∈ WL := WL_t1 173 rfl rfl
theorem w_1_175 : Cond.laysFinal RX4 RX4 "handWire" "[I" ∈ WL := WL_t1 175 rfl rfl
theorem w_1_177 : Cond.laysFinal RX4 RX4 "handLevel" "[I" ∈ WL := WL_t1 177 rfl rfl
theorem w_1_180 : Cond.classLink RX8 36 RX5 ∈ WL := WL_t1 180 rfl rfl
theorem w_1_181 : Cond.instantiable RX5 3 ∈ WL := WL_t1 181 rfl rfl
theorem w_1_182 : Cond.methodLink RX8 38 yX5_init ∈ WL := WL_t1 182 rfl rfl
theorem w_1_183 : Cond.instanceMethod yX5_init ∈ WL := WL_t1 183 rfl rfl
theorem w_1_184 : Cond.code yX5_init cX5_init 2 none ∈ WL := WL_t1 184 rfl rfl
theorem w_1_185 : Cond.methodLink RX5 3 objectInit ∈ WL := WL_t1 185 rfl rfl
theorem w_1_186 : Cond.classLink RX5 9 RX4 ∈ WL := WL_t1 186 rfl rfl
theorem w_1_189 : Cond.fieldLink RX5 11 RX5 "row" "[LDeltaCycles$Moment;" ∈ WL := WL_t1 189 rfl rfl
theorem w_1_190 : Cond.fieldLink RX5 22 RX5 "end" "I" ∈ WL := WL_t1 190 rfl rfl
theorem w_1_191 : Cond.fieldLink RX5 18 RX5 "count" "I" ∈ WL := WL_t1 191 rfl rfl
theorem w_1_192 : Cond.fieldLink RX8 137 RX5 "count" "I" ∈ WL := WL_t1 192 rfl rfl
theorem w_1_193 : Cond.laysFinal RX5 RX5 "row" "[LDeltaCycles$Moment;" ∈ WL := WL_t1 193 rfl rfl
theorem w_1_195 : Cond.lays RX5 RX5 "end" "I" ∈ WL := WL_t1 195 rfl rfl
theorem w_1_197 : Cond.lays RX5 RX5 "count" "I" ∈ WL := WL_t1 197 rfl rfl
theorem w_1_200 : Cond.classLink RX8 43 RX2 ∈ WL := WL_t1 200 rfl rfl
theorem w_1_201 : Cond.instantiable RX2 3 ∈ WL := WL_t1 201 rfl rfl
theorem w_1_203 : Cond.instanceMethod yX2_init ∈ WL := WL_t1 203 rfl rfl
theorem w_1_204 : Cond.code yX2_init cX2_init 1 none ∈ WL := WL_t1 204 rfl rfl
theorem w_1_205 : Cond.methodLink RX2 1 objectInit ∈ WL := WL_t1 205 rfl rfl
theorem w_1_206 : Cond.classLink RX2 7 RX4 ∈ WL := WL_t1 206 rfl rfl
theorem w_1_208 : Cond.fieldLink RX2 10 RX2 "moment" "LDeltaCycles$Moment;" ∈ WL := WL_t1 208 rfl rfl
theorem w_1_209 : Cond.fieldLink RX2 30 RX2 "drawState" "I" ∈ WL := WL_t1 209 rfl rfl
theorem w_1_210 : Cond.fieldLink RX2 16 RX2 "isKept" "Z" ∈ WL := WL_t1 210 rfl rfl
theorem w_1_211 : Cond.fieldLink RX8 265 RX2 "isKept" "Z" ∈ WL := WL_t1 211 rfl rfl
theorem w_1_212 : Cond.laysFinal RX2 RX2 "moment" "LDeltaCycles$Moment;" ∈ WL := WL_t1 212 rfl rfl
theorem w_1_214 : Cond.lays RX2 RX2 "drawState" "I" ∈ WL := WL_t1 214 rfl rfl
theorem w_1_216 : Cond.lays RX2 RX2 "isKept" "Z" ∈ WL := WL_t1 216 rfl rfl
theorem w_1_219 : Cond.classLink RX8 53 RX0 ∈ WL := WL_t1 219 rfl rfl
theorem w_1_220 : Cond.instantiable RX0 3 ∈ WL := WL_t1 220 rfl rfl
theorem w_1_222 : Cond.instanceMethod yX0_init ∈ WL := WL_t1 222 rfl rfl
theorem w_1_223 : Cond.code yX0_init cX0_init 1 none ∈ WL := WL_t1 223 rfl rfl
theorem w_1_224 : Cond.methodLink RX0 3 objectInit ∈ WL := WL_t1 224 rfl rfl
theorem w_1_225 : Cond.fieldLink RX0 11 RX0 "entryWire" "[I" ∈ WL := WL_t1 225 rfl rfl
theorem w_1_226 : Cond.fieldLink RX0 15 RX0 "entryLevel" "[I" ∈ WL := WL_t1 226 rfl rfl
theorem w_1_227 : Cond.fieldLink RX0 18 RX0 "count" "I" ∈ WL := WL_t1 227 rfl rfl
theorem w_1_228 : Cond.fieldLink RX8 130 RX0 "count" "I" ∈ WL := WL_t1 228 rfl rfl
theorem w_1_229 : Cond.laysFinal RX0 RX0 "entryWire" "[I" ∈ WL := WL_t1 229 rfl rfl
theorem w_1_231 : Cond.laysFinal RX0 RX0 "entryLevel" "[I" ∈ WL := WL_t1 231 rfl rfl
theorem w_1_233 : Cond.lays RX0 RX0 "count" "I" ∈ WL := WL_t1 233 rfl rfl
theorem w_1_236 : Cond.classLink RX8 60 RX1 ∈ WL := WL_t1 236 rfl rfl
theorem w_1_237 : Cond.instantiable RX1 1 ∈ WL := WL_t1 237 rfl rfl
theorem w_1_239 : Cond.instanceMethod yX1_init ∈ WL := WL_t1 239 rfl rfl
theorem w_2_0 : Cond.code yX1_init cX1_init 1 none ∈ WL := WL_t2 0 rfl rfl
theorem w_2_1 : Cond.methodLink RX1 1 objectInit ∈ WL := WL_t2 1 rfl rfl
theorem w_2_2 : Cond.fieldLink RX1 7 RX1 "state" "I" ∈ WL := WL_t2 2 rfl rfl
theorem w_2_3 : Cond.fieldLink RX2 24 RX1 "state" "I" ∈ WL := WL_t2 3 rfl rfl
theorem w_2_4 : Cond.fieldLink RX8 254 RX1 "state" "I" ∈ WL := WL_t2 4 rfl rfl
theorem w_2_5 : Cond.lays RX1 RX1 "state" "I" ∈ WL := WL_t2 5 rfl rfl
theorem w_2_8 : Cond.fieldLink RX8 10 RX8 "reader" "LDeltaCycles$Reader;" ∈ WL := WL_t2 8 rfl rfl
theorem w_2_9 : Cond.fieldLink RX8 19 RX8 "plan" "LDeltaCycles$Plan;" ∈ WL := WL_t2 9 rfl rfl
theorem w_2_10 : Cond.fieldLink RX8 23 RX8 "sparePlan" "LDeltaCycles$Plan;" ∈ WL := WL_t2 10 rfl rfl
theorem w_2_11 : Cond.fieldLink RX8 29 RX8 "now" "LDeltaCycles$Moment;" ∈ WL := WL_t2 11 rfl rfl
theorem w_2_12 : Cond.fieldLink RX8 33 RX8 "trial" "LDeltaCycles$Moment;" ∈ WL := WL_t2 12 rfl rfl
theorem w_2_13 : Cond.fieldLink RX8 39 RX8 "past" "LDeltaCycles$Past;" ∈ WL := WL_t2 13 rfl rfl
theorem w_2_14 : Cond.fieldLink RX8 46 RX8 "firstImage" "LDeltaCycles$Image;" ∈ WL := WL_t2 14 rfl rfl
theorem w_2_15 : Cond.fieldLink RX8 50 RX8 "secondImage" "LDeltaCycles$Image;" ∈ WL := WL_t2 15 rfl rfl
theorem w_2_16 : Cond.fieldLink RX8 56 RX8 "book" "LDeltaCycles$Book;" ∈ WL := WL_t2 16 rfl rfl
theorem w_2_17 : Cond.fieldLink RX8 63 RX8 "draws" "LDeltaCycles$Draws;" ∈ WL := WL_t2 17 rfl rfl
theorem w_2_18 : Cond.laysFinal RX8 RX8 "reader" "LDeltaCycles$Reader;" ∈ WL := WL_t2 18 rfl rfl
theorem w_2_20 : Cond.lays RX8 RX8 "plan" "LDeltaCycles$Plan;" ∈ WL := WL_t2 20 rfl rfl
theorem w_2_22 : Cond.lays RX8 RX8 "sparePlan" "LDeltaCycles$Plan;" ∈ WL := WL_t2 22 rfl rfl
theorem w_2_24 : Cond.laysFinal RX8 RX8 "now" "LDeltaCycles$Moment;" ∈ WL := WL_t2 24 rfl rfl
theorem w_2_26 : Cond.laysFinal RX8 RX8 "trial" "LDeltaCycles$Moment;" ∈ WL := WL_t2 26 rfl rfl
theorem w_2_28 : Cond.laysFinal RX8 RX8 "past" "LDeltaCycles$Past;" ∈ WL := WL_t2 28 rfl rfl
theorem w_2_30 : Cond.laysFinal RX8 RX8 "firstImage" "LDeltaCycles$Image;" ∈ WL := WL_t2 30 rfl rfl
theorem w_2_32 : Cond.laysFinal RX8 RX8 "secondImage" "LDeltaCycles$Image;" ∈ WL := WL_t2 32 rfl rfl
theorem w_2_34 : Cond.laysFinal RX8 RX8 "book" "LDeltaCycles$Book;" ∈ WL := WL_t2 34 rfl rfl
theorem w_2_36 : Cond.laysFinal RX8 RX8 "draws" "LDeltaCycles$Draws;" ∈ WL := WL_t2 36 rfl rfl
theorem w_2_39 : Cond.methodLink RL 13 yX8_feed ∈ WL := WL_t2 39 rfl rfl
theorem w_2_40 : Cond.instanceMethod yX8_feed ∈ WL := WL_t2 40 rfl rfl
theorem w_2_41 : Cond.selects RX8 yX8_feed yX8_feed ∈ WL := WL_t2 41 rfl rfl
theorem w_2_42 : Cond.code yX8_feed cX8_feed 2 (some .int) ∈ WL := WL_t2 42 rfl rfl
theorem w_2_43 : Cond.constant RX8 67 (-1000000002) ∈ WL := WL_t2 43 rfl rfl
theorem w_2_44 : Cond.methodLink RX8 68 yX7_addLetter ∈ WL := WL_t2 44 rfl rfl
theorem w_2_45 : Cond.instanceMethod yX7_addLetter ∈ WL := WL_t2 45 rfl rfl
theorem w_2_46 : Cond.selects RX7 yX7_addLetter yX7_addLetter ∈ WL := WL_t2 46 rfl rfl
theorem w_2_47 : Cond.code yX7_addLetter cX7_addLetter 2 (some .int) ∈ WL := WL_t2 47 rfl rfl
theorem w_2_48 : Cond.constant RX7 22 (-1000000004) ∈ WL := WL_t2 48 rfl rfl
theorem w_2_49 : Cond.methodLink RL 18 yX8_wires ∈ WL := WL_t2 49 rfl rfl
theorem w_2_50 : Cond.instanceMethod yX8_wires ∈ WL := WL_t2 50 rfl rfl
theorem w_2_51 : Cond.selects RX8 yX8_wires yX8_wires ∈ WL := WL_t2 51 rfl rfl
theorem w_2_52 : Cond.code yX8_wires cX8_wires 3 (some .int) ∈ WL := WL_t2 52 rfl rfl
theorem w_2_53 : Cond.methodLink RX8 72 yX7_readInto ∈ WL := WL_t2 53 rfl rfl
theorem w_2_54 : Cond.instanceMethod yX7_readInto ∈ WL := WL_t2 54 rfl rfl
theorem w_2_55 : Cond.selects RX7 yX7_readInto yX7_readInto ∈ WL := WL_t2 55 rfl rfl
theorem w_2_56 : Cond.code yX7_readInto cX7_readInto 3 (some .int) ∈ WL := WL_t2 56 rfl rfl
theorem w_2_57 : Cond.methodLink RX7 23 yX6_empty ∈ WL := WL_t2 57 rfl rfl
theorem w_2_58 : Cond.instanceMethod yX6_empty ∈ WL := WL_t2 58 rfl rfl
theorem w_2_59 : Cond.selects RX6 yX6_empty yX6_empty ∈ WL := WL_t2 59 rfl rfl
theorem w_2_60 : Cond.code yX6_empty cX6_empty 1 none ∈ WL := WL_t2 60 rfl rfl
theorem w_2_61 : Cond.methodLink RX7 34 yX7_skipBlanks ∈ WL := WL_t2 61 rfl rfl
theorem w_2_63 : Cond.instanceMethod yX7_skipBlanks ∈ WL := WL_t2 63 rfl rfl
theorem w_2_64 : Cond.code yX7_skipBlanks cX7_skipBlanks 1 none ∈ WL := WL_t2 64 rfl rfl
theorem w_2_65 : Cond.methodLink RX7 41 yX7_letterHere ∈ WL := WL_t2 65 rfl rfl
theorem w_2_67 : Cond.instanceMethod yX7_letterHere ∈ WL := WL_t2 67 rfl rfl
theorem w_2_68 : Cond.code yX7_letterHere cX7_letterHere 1 (some .int) ∈ WL := WL_t2 68 rfl rfl
theorem w_2_69 : Cond.methodLink RX7 37 yX7_readClause ∈ WL := WL_t2 69 rfl rfl
theorem w_2_71 : Cond.instanceMethod yX7_readClause ∈ WL := WL_t2 71 rfl rfl
theorem w_2_72 : Cond.code yX7_readClause cX7_readClause 2 none ∈ WL := WL_t2 72 rfl rfl
theorem w_2_73 : Cond.methodLink RX7 45 yX7_readWire ∈ WL := WL_t2 73 rfl rfl
theorem w_2_75 : Cond.instanceMethod yX7_readWire ∈ WL := WL_t2 75 rfl rfl
theorem w_2_76 : Cond.code yX7_readWire cX7_readWire 3 none ∈ WL := WL_t2 76 rfl rfl
theorem w_2_77 : Cond.methodLink RX7 51 yX7_findFault ∈ WL := WL_t2 77 rfl rfl
theorem w_2_79 : Cond.instanceMethod yX7_findFault ∈ WL := WL_t2 79 rfl rfl
theorem w_2_80 : Cond.code yX7_findFault cX7_findFault 3 none ∈ WL := WL_t2 80 rfl rfl
theorem w_2_81 : Cond.methodLink RX7 58 yX7_readNumber ∈ WL := WL_t2 81 rfl rfl
theorem w_2_83 : Cond.instanceMethod yX7_readNumber ∈ WL := WL_t2 83 rfl rfl
theorem w_2_84 : Cond.code yX7_readNumber cX7_readNumber 4 (some .int) ∈ WL := WL_t2 84 rfl rfl
theorem w_2_85 : Cond.methodLink RX7 98 yX7_isFigure ∈ WL := WL_t2 85 rfl rfl
theorem w_2_86 : Cond.static yX7_isFigure ∈ WL := WL_t2 86 rfl rfl
theorem w_2_87 : Cond.code yX7_isFigure cX7_isFigure 1 (some .boolean) ∈ WL := WL_t2 87 rfl rfl
theorem w_2_88 : Cond.methodLink RX7 62 yX7_readEnd ∈ WL := WL_t2 88 rfl rfl
theorem w_2_90 : Cond.instanceMethod yX7_readEnd ∈ WL := WL_t2 90 rfl rfl
theorem w_2_91 : Cond.code yX7_readEnd cX7_readEnd 1 none ∈ WL := WL_t2 91 rfl rfl
theorem w_2_92 : Cond.methodLink RX7 65 yX6_addWire ∈ WL := WL_t2 92 rfl rfl
theorem w_2_93 : Cond.instanceMethod yX6_addWire ∈ WL := WL_t2 93 rfl rfl
theorem w_2_94 : Cond.selects RX6 yX6_addWire yX6_addWire ∈ WL := WL_t2 94 rfl rfl
theorem w_2_95 : Cond.code yX6_addWire cX6_addWire 2 none ∈ WL := WL_t2 95 rfl rfl
theorem w_2_96 : Cond.methodLink RX7 48 yX7_readGate ∈ WL := WL_t2 96 rfl rfl
theorem w_2_98 : Cond.instanceMethod yX7_readGate ∈ WL := WL_t2 98 rfl rfl
theorem w_2_99 : Cond.code yX7_readGate cX7_readGate 4 none ∈ WL := WL_t2 99 rfl rfl
theorem w_2_100 : Cond.methodLink RX7 89 yX6_looks ∈ WL := WL_t2 100 rfl rfl
theorem w_2_101 : Cond.instanceMethod yX6_looks ∈ WL := WL_t2 101 rfl rfl
theorem w_2_102 : Cond.selects RX6 yX6_looks yX6_looks ∈ WL := WL_t2 102 rfl rfl
theorem w_2_103 : Cond.code yX6_looks cX6_looks 3 (some .int) ∈ WL := WL_t2 103 rfl rfl
theorem w_2_104 : Cond.methodLink RX8 76 yX7_dropText ∈ WL := WL_t2 104 rfl rfl
theorem w_2_105 : Cond.instanceMethod yX7_dropText ∈ WL := WL_t2 105 rfl rfl
theorem w_2_106 : Cond.selects RX7 yX7_dropText yX7_dropText ∈ WL := WL_t2 106 rfl rfl
theorem w_2_107 : Cond.code yX7_dropText cX7_dropText 1 none ∈ WL := WL_t2 107 rfl rfl
theorem w_2_108 : Cond.methodLink RX8 79 yX4_begin ∈ WL := WL_t2 108 rfl rfl
theorem w_2_109 : Cond.instanceMethod yX4_begin ∈ WL := WL_t2 109 rfl rfl
theorem w_2_110 : Cond.selects RX4 yX4_begin yX4_begin ∈ WL := WL_t2 110 rfl rfl
theorem w_2_111 : Cond.code yX4_begin cX4_begin 3 none ∈ WL := WL_t2 111 rfl rfl
theorem w_2_112 : Cond.methodLink RX4 84 yX4_emptyQueues ∈ WL := WL_t2 112 rfl rfl
theorem w_2_114 : Cond.instanceMethod yX4_emptyQueues ∈ WL := WL_t2 114 rfl rfl
theorem w_2_115 : Cond.code yX4_emptyQueues cX4_emptyQueues 2 none ∈ WL := WL_t2 115 rfl rfl
theorem w_2_116 : Cond.methodLink RX4 98 yX4_tellAll ∈ WL := WL_t2 116 rfl rfl
theorem w_2_117 : Cond.instanceMethod yX4_tellAll ∈ WL := WL_t2 117 rfl rfl
theorem w_2_118 : Cond.selects RX4 yX4_tellAll yX4_tellAll ∈ WL := WL_t2 118 rfl rfl
theorem w_2_119 : Cond.code yX4_tellAll cX4_tellAll 3 none ∈ WL := WL_t2 119 rfl rfl
theorem w_2_120 : Cond.methodLink RX4 125 yX4_outcomeOf ∈ WL := WL_t2 120 rfl rfl
theorem w_2_121 : Cond.instanceMethod yX4_outcomeOf ∈ WL := WL_t2 121 rfl rfl
theorem w_2_122 : Cond.selects RX4 yX4_outcomeOf yX4_outcomeOf ∈ WL := WL_t2 122 rfl rfl
theorem w_2_123 : Cond.code yX4_outcomeOf cX4_outcomeOf 3 (some .int) ∈ WL := WL_t2 123 rfl rfl
theorem w_2_124 : Cond.methodLink RX4 116 yX3_outcome ∈ WL := WL_t2 124 rfl rfl
theorem w_2_125 : Cond.static yX3_outcome ∈ WL := WL_t2 125 rfl rfl
theorem w_2_126 : Cond.code yX3_outcome cX3_outcome 7 (some .int) ∈ WL := WL_t2 126 rfl rfl
theorem w_2_127 : Cond.methodLink RX4 146 yX4_tellGate ∈ WL := WL_t2 127 rfl rfl
theorem w_2_129 : Cond.instanceMethod yX4_tellGate ∈ WL := WL_t2 129 rfl rfl
theorem w_2_130 : Cond.code yX4_tellGate cX4_tellGate 6 none ∈ WL := WL_t2 130 rfl rfl
theorem w_2_131 : Cond.methodLink RX4 160 yX4_alikeAtEnd ∈ WL := WL_t2 131 rfl rfl
theorem w_2_133 : Cond.instanceMethod yX4_alikeAtEnd ∈ WL := WL_t2 133 rfl rfl
theorem w_2_134 : Cond.code yX4_alikeAtEnd cX4_alikeAtEnd 5 (some .int) ∈ WL := WL_t2 134 rfl rfl
theorem w_2_135 : Cond.methodLink RX4 163 yX4_dropFirst ∈ WL := WL_t2 135 rfl rfl
theorem w_2_137 : Cond.instanceMethod yX4_dropFirst ∈ WL := WL_t2 137 rfl rfl
theorem w_2_138 : Cond.code yX4_dropFirst cX4_dropFirst 6 none ∈ WL := WL_t2 138 rfl rfl
theorem w_2_139 : Cond.methodLink RX8 83 yX5_forget ∈ WL := WL_t2 139 rfl rfl
theorem w_2_140 : Cond.instanceMethod yX5_forget ∈ WL := WL_t2 140 rfl rfl
theorem w_2_141 : Cond.selects RX5 yX5_forget yX5_forget ∈ WL := WL_t2 141 rfl rfl
theorem w_2_142 : Cond.code yX5_forget cX5_forget 1 none ∈ WL := WL_t2 142 rfl rfl
theorem w_2_143 : Cond.methodLink RX8 86 yX2_forget ∈ WL := WL_t2 143 rfl rfl
theorem w_2_144 : Cond.instanceMethod yX2_forget ∈ WL := WL_t2 144 rfl rfl
theorem w_2_145 : Cond.selects RX2 yX2_forget yX2_forget ∈ WL := WL_t2 145 rfl rfl
theorem w_2_146 : Cond.code yX2_forget cX2_forget 1 none ∈ WL := WL_t2 146 rfl rfl
theorem w_2_147 : Cond.methodLink RX8 87 yX0_empty ∈ WL := WL_t2 147 rfl rfl
theorem w_2_148 : Cond.instanceMethod yX0_empty ∈ WL := WL_t2 148 rfl rfl
theorem w_2_149 : Cond.selects RX0 yX0_empty yX0_empty ∈ WL := WL_t2 149 rfl rfl
theorem w_2_150 : Cond.code yX0_empty cX0_empty 1 none ∈ WL := WL_t2 150 rfl rfl
theorem w_2_151 : Cond.methodLink RL 23 yX8_fault ∈ WL := WL_t2 151 rfl rfl
theorem w_2_152 : Cond.instanceMethod yX8_fault ∈ WL := WL_t2 152 rfl rfl
theorem w_2_153 : Cond.selects RX8 yX8_fault yX8_fault ∈ WL := WL_t2 153 rfl rfl
theorem w_2_154 : Cond.code yX8_fault cX8_fault 1 (some .int) ∈ WL := WL_t2 154 rfl rfl
theorem w_2_155 : Cond.methodLink RL 27 yX8_told ∈ WL := WL_t2 155 rfl rfl
theorem w_2_156 : Cond.instanceMethod yX8_told ∈ WL := WL_t2 156 rfl rfl
theorem w_2_157 : Cond.selects RX8 yX8_told yX8_told ∈ WL := WL_t2 157 rfl rfl
theorem w_2_158 : Cond.code yX8_told cX8_told 2 (some .int) ∈ WL := WL_t2 158 rfl rfl
theorem w_2_159 : Cond.methodLink RX8 113 yX4_isStill ∈ WL := WL_t2 159 rfl rfl
theorem w_2_160 : Cond.instanceMethod yX4_isStill ∈ WL := WL_t2 160 rfl rfl
theorem w_2_161 : Cond.selects RX4 yX4_isStill yX4_isStill ∈ WL := WL_t2 161 rfl rfl
theorem w_2_162 : Cond.code yX4_isStill cX4_isStill 1 (some .boolean) ∈ WL := WL_t2 162 rfl rfl
theorem w_2_163 : Cond.methodLink RX4 102 yX4_earliest ∈ WL := WL_t2 163 rfl rfl
theorem w_2_165 : Cond.instanceMethod yX4_earliest ∈ WL := WL_t2 165 rfl rfl
theorem w_2_166 : Cond.code yX4_earliest cX4_earliest 3 (some .int) ∈ WL := WL_t2 166 rfl rfl
theorem w_2_167 : Cond.constant RX4 106 (2147483647) ∈ WL := WL_t2 167 rfl rfl
theorem w_2_168 : Cond.methodLink RX4 72 yJ9_min_7cf53 ∈ WL := WL_t2 168 rfl rfl
theorem w_2_169 : Cond.static yJ9_min_7cf53 ∈ WL := WL_t2 169 rfl rfl
theorem w_2_170 : Cond.code yJ9_min_7cf53 cJ9_min_7cf53 2 (some .int) ∈ WL := WL_t2 170 rfl rfl
theorem w_2_171 : Cond.methodLink RX8 117 yX4_holdingGates ∈ WL := WL_t2 171 rfl rfl
theorem w_2_172 : Cond.instanceMethod yX4_holdingGates ∈ WL := WL_t2 172 rfl rfl
theorem w_2_173 : Cond.selects RX4 yX4_holdingGates yX4_holdingGates ∈ WL := WL_t2 173 rfl rfl
theorem w_2_174 : Cond.code yX4_holdingGates cX4_holdingGates 4 (some .int) ∈ WL := WL_t2 174 rfl rfl
theorem w_2_175 : Cond.methodLink RX8 123 yX8_stepsTillStill ∈ WL := WL_t2 175 rfl rfl
theorem w_2_177 : Cond.instanceMethod yX8_stepsTillStill ∈ WL := WL_t2 177 rfl rfl
theorem w_2_178 : Cond.code yX8_stepsTillStill cX8_stepsTillStill 2 (some .int) ∈ WL := WL_t2 178 rfl rfl
theorem w_2_179 : Cond.methodLink RX8 274 yX4_copyFrom ∈ WL := WL_t2 179 rfl rfl
theorem w_2_180 : Cond.instanceMethod yX4_copyFrom ∈ WL := WL_t2 180 rfl rfl
theorem w_2_181 : Cond.selects RX4 yX4_copyFrom yX4_copyFrom ∈ WL := WL_t2 181 rfl rfl
theorem w_2_182 : Cond.code yX4_copyFrom cX4_copyFrom 2 none ∈ WL := WL_t2 182 rfl rfl
theorem w_2_183 : Cond.methodLink RX4 68 yX4_copyRow ∈ WL := WL_t2 183 rfl rfl
theorem w_2_184 : Cond.static yX4_copyRow ∈ WL := WL_t2 184 rfl rfl
theorem w_2_185 : Cond.code yX4_copyRow cX4_copyRow 2 none ∈ WL := WL_t2 185 rfl rfl
theorem w_2_186 : Cond.methodLink RX4 78 arraycopyName ∈ WL := WL_t2 186 rfl rfl
theorem w_2_187 : Cond.static arraycopyName ∈ WL := WL_t2 187 rfl rfl
theorem w_2_188 : Cond.native arraycopyName ∈ WL := WL_t2 188 rfl rfl
theorem w_2_189 : Cond.methodLink RX8 224 yX4_advance ∈ WL := WL_t2 189 rfl rfl
theorem w_2_190 : Cond.instanceMethod yX4_advance ∈ WL := WL_t2 190 rfl rfl
theorem w_2_191 : Cond.selects RX4 yX4_advance yX4_advance ∈ WL := WL_t2 191 rfl rfl
theorem w_2_192 : Cond.code yX4_advance cX4_advance 4 none ∈ WL := WL_t2 192 rfl rfl
theorem w_2_193 : Cond.methodLink RX4 170 yJ9_max_7cf53 ∈ WL := WL_t2 193 rfl rfl
theorem w_2_194 : Cond.static yJ9_max_7cf53 ∈ WL := WL_t2 194 rfl rfl
theorem w_2_195 : Cond.code yJ9_max_7cf53 cJ9_max_7cf53 2 (some .int) ∈ WL := WL_t2 195 rfl rfl
theorem w_2_196 : Cond.methodLink RX4 173 yX4_makeCycle ∈ WL := WL_t2 196 rfl rfl
theorem w_2_198 : Cond.instanceMethod yX4_makeCycle ∈ WL := WL_t2 198 rfl rfl
theorem w_2_199 : Cond.code yX4_makeCycle cX4_makeCycle 5 (some .boolean) ∈ WL := WL_t2 199 rfl rfl
theorem w_2_200 : Cond.methodLink RX4 177 yX4_takeFromQueues ∈ WL := WL_t2 200 rfl rfl
theorem w_2_202 : Cond.instanceMethod yX4_takeFromQueues ∈ WL := WL_t2 202 rfl rfl
theorem w_2_203 : Cond.code yX4_takeFromQueues cX4_takeFromQueues 4 (some .int) ∈ WL := WL_t2 203 rfl rfl
theorem w_2_204 : Cond.methodLink RX4 181 yX4_takeByHand ∈ WL := WL_t2 204 rfl rfl
theorem w_2_206 : Cond.instanceMethod yX4_takeByHand ∈ WL := WL_t2 206 rfl rfl
theorem w_2_207 : Cond.code yX4_takeByHand cX4_takeByHand 4 (some .int) ∈ WL := WL_t2 207 rfl rfl
theorem w_2_208 : Cond.methodLink RX4 191 yX4_changeWire ∈ WL := WL_t2 208 rfl rfl
theorem w_2_210 : Cond.instanceMethod yX4_changeWire ∈ WL := WL_t2 210 rfl rfl
theorem w_2_211 : Cond.code yX4_changeWire cX4_changeWire 3 (some .int) ∈ WL := WL_t2 211 rfl rfl
theorem w_2_212 : Cond.methodLink RX4 187 yX4_drivenLevel ∈ WL := WL_t2 212 rfl rfl
theorem w_2_213 : Cond.instanceMethod yX4_drivenLevel ∈ WL := WL_t2 213 rfl rfl
theorem w_2_214 : Cond.selects RX4 yX4_drivenLevel yX4_drivenLevel ∈ WL := WL_t2 214 rfl rfl
theorem w_2_215 : Cond.code yX4_drivenLevel cX4_drivenLevel 6 (some .int) ∈ WL := WL_t2 215 rfl rfl
theorem w_2_216 : Cond.methodLink RX4 122 yX3_join ∈ WL := WL_t2 216 rfl rfl
theorem w_2_217 : Cond.static yX3_join ∈ WL := WL_t2 217 rfl rfl
theorem w_2_218 : Cond.code yX3_join cX3_join 2 (some .int) ∈ WL := WL_t2 218 rfl rfl
theorem w_2_219 : Cond.constant RX4 194 (99999) ∈ WL := WL_t2 219 rfl rfl
theorem w_2_220 : Cond.methodLink RX4 195 yX4_tellLookers ∈ WL := WL_t2 220 rfl rfl
theorem w_2_222 : Cond.instanceMethod yX4_tellLookers ∈ WL := WL_t2 222 rfl rfl
theorem w_2_223 : Cond.code yX4_tellLookers cX4_tellLookers 4 none ∈ WL := WL_t2 223 rfl rfl
theorem w_2_224 : Cond.methodLink RX4 150 yX6_looks ∈ WL := WL_t2 224 rfl rfl
theorem w_2_225 : Cond.methodLink RX8 133 yX0_firstWrong ∈ WL := WL_t2 225 rfl rfl
theorem w_2_226 : Cond.instanceMethod yX0_firstWrong ∈ WL := WL_t2 226 rfl rfl
theorem w_2_227 : Cond.selects RX0 yX0_firstWrong yX0_firstWrong ∈ WL := WL_t2 227 rfl rfl
theorem w_2_228 : Cond.code yX0_firstWrong cX0_firstWrong 5 (some .int) ∈ WL := WL_t2 228 rfl rfl
theorem w_2_229 : Cond.methodLink RX0 23 yX6_hasWire ∈ WL := WL_t2 229 rfl rfl
theorem w_2_230 : Cond.instanceMethod yX6_hasWire ∈ WL := WL_t2 230 rfl rfl
theorem w_2_231 : Cond.selects RX6 yX6_hasWire yX6_hasWire ∈ WL := WL_t2 231 rfl rfl
theorem w_2_232 : Cond.code yX6_hasWire cX6_hasWire 2 (some .boolean) ∈ WL := WL_t2 232 rfl rfl
theorem w_2_233 : Cond.methodLink RL 31 yX8_wire ∈ WL := WL_t2 233 rfl rfl
theorem w_2_234 : Cond.instanceMethod yX8_wire ∈ WL := WL_t2 234 rfl rfl
theorem w_2_235 : Cond.selects RX8 yX8_wire yX8_wire ∈ WL := WL_t2 235 rfl rfl
theorem w_2_236 : Cond.code yX8_wire cX8_wire 3 (some .int) ∈ WL := WL_t2 236 rfl rfl
theorem w_2_237 : Cond.methodLink RX8 138 yX6_hasWire ∈ WL := WL_t2 237 rfl rfl
theorem w_2_238 : Cond.constant RX8 142 (-1000000001) ∈ WL := WL_t2 238 rfl rfl
theorem w_2_239 : Cond.methodLink RX8 147 yX6_driversOf ∈ WL := WL_t2 239 rfl rfl
theorem w_3_0 : Cond.instanceMethod yX6_driversOf ∈ WL := WL_t3 0 rfl rfl
theorem w_3_1 : Cond.selects RX6 yX6_driversOf yX6_driversOf ∈ WL := WL_t3 1 rfl rfl
theorem w_3_2 : Cond.code yX6_driversOf cX6_driversOf 4 (some .int) ∈ WL := WL_t3 2 rfl rfl
theorem w_3_3 : Cond.methodLink RX8 156 yX6_lookersAt ∈ WL := WL_t3 3 rfl rfl
theorem w_3_4 : Cond.instanceMethod yX6_lookersAt ∈ WL := WL_t3 4 rfl rfl
theorem w_3_5 : Cond.selects RX6 yX6_lookersAt yX6_lookersAt ∈ WL := WL_t3 5 rfl rfl
theorem w_3_6 : Cond.code yX6_lookersAt cX6_lookersAt 4 (some .int) ∈ WL := WL_t3 6 rfl rfl
theorem w_3_7 : Cond.methodLink RX6 40 yX6_looks ∈ WL := WL_t3 7 rfl rfl
theorem w_3_8 : Cond.methodLink RL 36 yX8_wave ∈ WL := WL_t3 8 rfl rfl
theorem w_3_9 : Cond.instanceMethod yX8_wave ∈ WL := WL_t3 9 rfl rfl
theorem w_3_10 : Cond.selects RX8 yX8_wave yX8_wave ∈ WL := WL_t3 10 rfl rfl
theorem w_3_11 : Cond.code yX8_wave cX8_wave 4 (some .int) ∈ WL := WL_t3 11 rfl rfl
theorem w_3_12 : Cond.methodLink RX8 159 yX4_changeTime ∈ WL := WL_t3 12 rfl rfl
theorem w_3_13 : Cond.instanceMethod yX4_changeTime ∈ WL := WL_t3 13 rfl rfl
theorem w_3_14 : Cond.selects RX4 yX4_changeTime yX4_changeTime ∈ WL := WL_t3 14 rfl rfl
theorem w_3_15 : Cond.code yX4_changeTime cX4_changeTime 3 (some .int) ∈ WL := WL_t3 15 rfl rfl
theorem w_3_16 : Cond.methodLink RX4 129 yX4_hasChange ∈ WL := WL_t3 16 rfl rfl
theorem w_3_18 : Cond.instanceMethod yX4_hasChange ∈ WL := WL_t3 18 rfl rfl
theorem w_3_19 : Cond.code yX4_hasChange cX4_hasChange 3 (some .boolean) ∈ WL := WL_t3 19 rfl rfl
theorem w_3_20 : Cond.methodLink RX4 133 yX4_wavePlace ∈ WL := WL_t3 20 rfl rfl
theorem w_3_22 : Cond.instanceMethod yX4_wavePlace ∈ WL := WL_t3 22 rfl rfl
theorem w_3_23 : Cond.code yX4_wavePlace cX4_wavePlace 3 (some .int) ∈ WL := WL_t3 23 rfl rfl
theorem w_3_24 : Cond.methodLink RX4 136 yJ9_floorMod_7cf53 ∈ WL := WL_t3 24 rfl rfl
theorem w_3_25 : Cond.static yJ9_floorMod_7cf53 ∈ WL := WL_t3 25 rfl rfl
theorem w_3_26 : Cond.code yJ9_floorMod_7cf53 cJ9_floorMod_7cf53 3 (some .int) ∈ WL := WL_t3 26 rfl rfl
theorem w_3_27 : Cond.methodLink RX8 163 yX4_changeLevel ∈ WL := WL_t3 27 rfl rfl
theorem w_3_28 : Cond.instanceMethod yX4_changeLevel ∈ WL := WL_t3 28 rfl rfl
theorem w_3_29 : Cond.selects RX4 yX4_changeLevel yX4_changeLevel ∈ WL := WL_t3 29 rfl rfl
theorem w_3_30 : Cond.code yX4_changeLevel cX4_changeLevel 3 (some .int) ∈ WL := WL_t3 30 rfl rfl
theorem w_3_31 : Cond.methodLink RL 41 yX8_gate ∈ WL := WL_t3 31 rfl rfl
theorem w_3_32 : Cond.instanceMethod yX8_gate ∈ WL := WL_t3 32 rfl rfl
theorem w_3_33 : Cond.selects RX8 yX8_gate yX8_gate ∈ WL := WL_t3 33 rfl rfl
theorem w_3_34 : Cond.code yX8_gate cX8_gate 3 (some .int) ∈ WL := WL_t3 34 rfl rfl
theorem w_3_35 : Cond.methodLink RX8 166 yX6_hasGate ∈ WL := WL_t3 35 rfl rfl
theorem w_3_36 : Cond.instanceMethod yX6_hasGate ∈ WL := WL_t3 36 rfl rfl
theorem w_3_37 : Cond.selects RX6 yX6_hasGate yX6_hasGate ∈ WL := WL_t3 37 rfl rfl
theorem w_3_38 : Cond.code yX6_hasGate cX6_hasGate 2 (some .boolean) ∈ WL := WL_t3 38 rfl rfl
theorem w_3_39 : Cond.methodLink RX8 190 yX4_outcomeOf ∈ WL := WL_t3 39 rfl rfl
theorem w_3_40 : Cond.methodLink RX8 197 yX4_drivenLevel ∈ WL := WL_t3 40 rfl rfl
theorem w_3_41 : Cond.methodLink RL 45 yX8_queue ∈ WL := WL_t3 41 rfl rfl
theorem w_3_42 : Cond.instanceMethod yX8_queue ∈ WL := WL_t3 42 rfl rfl
theorem w_3_43 : Cond.selects RX8 yX8_queue yX8_queue ∈ WL := WL_t3 43 rfl rfl
theorem w_3_44 : Cond.code yX8_queue cX8_queue 4 (some .int) ∈ WL := WL_t3 44 rfl rfl
theorem w_3_45 : Cond.methodLink RX8 201 yX4_waitingTime ∈ WL := WL_t3 45 rfl rfl
theorem w_3_46 : Cond.instanceMethod yX4_waitingTime ∈ WL := WL_t3 46 rfl rfl
theorem w_3_47 : Cond.selects RX4 yX4_waitingTime yX4_waitingTime ∈ WL := WL_t3 47 rfl rfl
theorem w_3_48 : Cond.code yX4_waitingTime cX4_waitingTime 3 (some .int) ∈ WL := WL_t3 48 rfl rfl
theorem w_3_49 : Cond.methodLink RX4 139 yX4_hasWaiting ∈ WL := WL_t3 49 rfl rfl
theorem w_3_51 : Cond.instanceMethod yX4_hasWaiting ∈ WL := WL_t3 51 rfl rfl
theorem w_3_52 : Cond.code yX4_hasWaiting cX4_hasWaiting 3 (some .boolean) ∈ WL := WL_t3 52 rfl rfl
theorem w_3_53 : Cond.methodLink RX8 204 yX4_waitingLevel ∈ WL := WL_t3 53 rfl rfl
theorem w_3_54 : Cond.instanceMethod yX4_waitingLevel ∈ WL := WL_t3 54 rfl rfl
theorem w_3_55 : Cond.selects RX4 yX4_waitingLevel yX4_waitingLevel ∈ WL := WL_t3 55 rfl rfl
theorem w_3_56 : Cond.code yX4_waitingLevel cX4_waitingLevel 3 (some .int) ∈ WL := WL_t3 56 rfl rfl
theorem w_3_57 : Cond.methodLink RL 49 yX8_resolved ∈ WL := WL_t3 57 rfl rfl
theorem w_3_58 : Cond.instanceMethod yX8_resolved ∈ WL := WL_t3 58 rfl rfl
theorem w_3_59 : Cond.selects RX8 yX8_resolved yX8_resolved ∈ WL := WL_t3 59 rfl rfl
theorem w_3_60 : Cond.code yX8_resolved cX8_resolved 3 (some .int) ∈ WL := WL_t3 60 rfl rfl
theorem w_3_61 : Cond.methodLink RX8 207 yX3_isLevel ∈ WL := WL_t3 61 rfl rfl
theorem w_3_62 : Cond.static yX3_isLevel ∈ WL := WL_t3 62 rfl rfl
theorem w_3_63 : Cond.code yX3_isLevel cX3_isLevel 1 (some .boolean) ∈ WL := WL_t3 63 rfl rfl
theorem w_3_64 : Cond.methodLink RX8 212 yX3_join ∈ WL := WL_t3 64 rfl rfl
theorem w_3_65 : Cond.methodLink RL 53 yX8_comes ∈ WL := WL_t3 65 rfl rfl
theorem w_3_66 : Cond.instanceMethod yX8_comes ∈ WL := WL_t3 66 rfl rfl
theorem w_3_67 : Cond.selects RX8 yX8_comes yX8_comes ∈ WL := WL_t3 67 rfl rfl
theorem w_3_68 : Cond.code yX8_comes cX8_comes 4 (some .int) ∈ WL := WL_t3 68 rfl rfl
theorem w_3_69 : Cond.methodLink RX8 215 yX3_outcome ∈ WL := WL_t3 69 rfl rfl
theorem w_3_70 : Cond.methodLink RL 57 yX8_step ∈ WL := WL_t3 70 rfl rfl
theorem w_3_71 : Cond.instanceMethod yX8_step ∈ WL := WL_t3 71 rfl rfl
theorem w_3_72 : Cond.selects RX8 yX8_step yX8_step ∈ WL := WL_t3 72 rfl rfl
theorem w_3_73 : Cond.code yX8_step cX8_step 1 (some .int) ∈ WL := WL_t3 73 rfl rfl
theorem w_3_74 : Cond.constant RX8 219 (-1000000003) ∈ WL := WL_t3 74 rfl rfl
theorem w_3_75 : Cond.methodLink RX8 220 yX5_remember ∈ WL := WL_t3 75 rfl rfl
theorem w_3_76 : Cond.instanceMethod yX5_remember ∈ WL := WL_t3 76 rfl rfl
theorem w_3_77 : Cond.selects RX5 yX5_remember yX5_remember ∈ WL := WL_t3 77 rfl rfl
theorem w_3_78 : Cond.code yX5_remember cX5_remember 3 none ∈ WL := WL_t3 78 rfl rfl
theorem w_3_79 : Cond.methodLink RX5 25 yX4_copyFrom ∈ WL := WL_t3 79 rfl rfl
theorem w_3_80 : Cond.methodLink RX5 29 yJ9_min_7cf53 ∈ WL := WL_t3 80 rfl rfl
theorem w_3_81 : Cond.methodLink RL 61 yX8_run ∈ WL := WL_t3 81 rfl rfl
theorem w_3_82 : Cond.instanceMethod yX8_run ∈ WL := WL_t3 82 rfl rfl
theorem w_3_83 : Cond.selects RX8 yX8_run yX8_run ∈ WL := WL_t3 83 rfl rfl
theorem w_3_84 : Cond.code yX8_run cX8_run 2 (some .int) ∈ WL := WL_t3 84 rfl rfl
theorem w_3_85 : Cond.methodLink RX8 227 yX4_advanceTo ∈ WL := WL_t3 85 rfl rfl
theorem w_3_86 : Cond.instanceMethod yX4_advanceTo ∈ WL := WL_t3 86 rfl rfl
theorem w_3_87 : Cond.selects RX4 yX4_advanceTo yX4_advanceTo ∈ WL := WL_t3 87 rfl rfl
theorem w_3_88 : Cond.code yX4_advanceTo cX4_advanceTo 4 (some .int) ∈ WL := WL_t3 88 rfl rfl
theorem w_3_89 : Cond.methodLink RX4 167 yX4_advance ∈ WL := WL_t3 89 rfl rfl
theorem w_3_90 : Cond.methodLink RL 65 yX8_set ∈ WL := WL_t3 90 rfl rfl
theorem w_3_91 : Cond.instanceMethod yX8_set ∈ WL := WL_t3 91 rfl rfl
theorem w_3_92 : Cond.selects RX8 yX8_set yX8_set ∈ WL := WL_t3 92 rfl rfl
theorem w_3_93 : Cond.code yX8_set cX8_set 4 (some .int) ∈ WL := WL_t3 93 rfl rfl
theorem w_3_94 : Cond.methodLink RX8 230 yX8_maySetByHand ∈ WL := WL_t3 94 rfl rfl
theorem w_3_96 : Cond.instanceMethod yX8_maySetByHand ∈ WL := WL_t3 96 rfl rfl
theorem w_3_97 : Cond.code yX8_maySetByHand cX8_maySetByHand 2 (some .boolean) ∈ WL := WL_t3 97 rfl rfl
theorem w_3_98 : Cond.methodLink RX8 233 yX4_handIsFull ∈ WL := WL_t3 98 rfl rfl
theorem w_3_99 : Cond.instanceMethod yX4_handIsFull ∈ WL := WL_t3 99 rfl rfl
theorem w_3_100 : Cond.selects RX4 yX4_handIsFull yX4_handIsFull ∈ WL := WL_t3 100 rfl rfl
theorem w_3_101 : Cond.code yX4_handIsFull cX4_handIsFull 1 (some .boolean) ∈ WL := WL_t3 101 rfl rfl
theorem w_3_102 : Cond.constant RX8 236 (-1000000004) ∈ WL := WL_t3 102 rfl rfl
theorem w_3_103 : Cond.methodLink RX8 237 yX4_addByHand ∈ WL := WL_t3 103 rfl rfl
theorem w_3_104 : Cond.instanceMethod yX4_addByHand ∈ WL := WL_t3 104 rfl rfl
theorem w_3_105 : Cond.selects RX4 yX4_addByHand yX4_addByHand ∈ WL := WL_t3 105 rfl rfl
theorem w_3_106 : Cond.code yX4_addByHand cX4_addByHand 5 none ∈ WL := WL_t3 106 rfl rfl
theorem w_3_107 : Cond.methodLink RX4 142 yX4_handIsFull ∈ WL := WL_t3 107 rfl rfl
theorem w_3_108 : Cond.methodLink RL 69 yX8_calm ∈ WL := WL_t3 108 rfl rfl
theorem w_3_109 : Cond.instanceMethod yX8_calm ∈ WL := WL_t3 109 rfl rfl
theorem w_3_110 : Cond.selects RX8 yX8_calm yX8_calm ∈ WL := WL_t3 110 rfl rfl
theorem w_3_111 : Cond.code yX8_calm cX8_calm 1 (some .int) ∈ WL := WL_t3 111 rfl rfl
theorem w_3_112 : Cond.methodLink RX8 241 yX4_tellAll ∈ WL := WL_t3 112 rfl rfl
theorem w_3_113 : Cond.methodLink RL 73 yX8_drift ∈ WL := WL_t3 113 rfl rfl
theorem w_3_114 : Cond.instanceMethod yX8_drift ∈ WL := WL_t3 114 rfl rfl
theorem w_3_115 : Cond.selects RX8 yX8_drift yX8_drift ∈ WL := WL_t3 115 rfl rfl
theorem w_3_116 : Cond.code yX8_drift cX8_drift 3 (some .int) ∈ WL := WL_t3 116 rfl rfl
theorem w_3_117 : Cond.methodLink RX8 244 yX8_driftOnce ∈ WL := WL_t3 117 rfl rfl
theorem w_3_119 : Cond.instanceMethod yX8_driftOnce ∈ WL := WL_t3 119 rfl rfl
theorem w_3_120 : Cond.code yX8_driftOnce cX8_driftOnce 4 none ∈ WL := WL_t3 120 rfl rfl
theorem w_3_121 : Cond.methodLink RX8 271 yX1_draw ∈ WL := WL_t3 121 rfl rfl
theorem w_3_122 : Cond.instanceMethod yX1_draw ∈ WL := WL_t3 122 rfl rfl
theorem w_3_123 : Cond.selects RX1 yX1_draw yX1_draw ∈ WL := WL_t3 123 rfl rfl
theorem w_3_124 : Cond.code yX1_draw cX1_draw 2 (some .int) ∈ WL := WL_t3 124 rfl rfl
theorem w_3_125 : Cond.constantLong RX1 13 (1103515245) ∈ WL := WL_t3 125 rfl rfl
theorem w_3_126 : Cond.constantLong RX1 15 (12345) ∈ WL := WL_t3 126 rfl rfl
theorem w_3_127 : Cond.constantLong RX1 17 (2147483647) ∈ WL := WL_t3 127 rfl rfl
theorem w_3_128 : Cond.constant RX1 19 (65536) ∈ WL := WL_t3 128 rfl rfl
theorem w_3_129 : Cond.methodLink RL 77 yX8_undo ∈ WL := WL_t3 129 rfl rfl
theorem w_3_130 : Cond.instanceMethod yX8_undo ∈ WL := WL_t3 130 rfl rfl
theorem w_3_131 : Cond.selects RX8 yX8_undo yX8_undo ∈ WL := WL_t3 131 rfl rfl
theorem w_3_132 : Cond.code yX8_undo cX8_undo 2 (some .int) ∈ WL := WL_t3 132 rfl rfl
theorem w_3_133 : Cond.methodLink RX8 247 yX5_bringBack ∈ WL := WL_t3 133 rfl rfl
theorem w_3_134 : Cond.instanceMethod yX5_bringBack ∈ WL := WL_t3 134 rfl rfl
theorem w_3_135 : Cond.selects RX5 yX5_bringBack yX5_bringBack ∈ WL := WL_t3 135 rfl rfl
theorem w_3_136 : Cond.code yX5_bringBack cX5_bringBack 4 none ∈ WL := WL_t3 136 rfl rfl
theorem w_3_137 : Cond.methodLink RX5 35 yJ9_floorMod_7cf53 ∈ WL := WL_t3 137 rfl rfl
theorem w_3_138 : Cond.methodLink RL 81 yX8_write ∈ WL := WL_t3 138 rfl rfl
theorem w_3_139 : Cond.instanceMethod yX8_write ∈ WL := WL_t3 139 rfl rfl
theorem w_3_140 : Cond.selects RX8 yX8_write yX8_write ∈ WL := WL_t3 140 rfl rfl
theorem w_3_141 : Cond.code yX8_write cX8_write 3 (some .int) ∈ WL := WL_t3 141 rfl rfl
theorem w_3_142 : Cond.methodLink RX8 251 yX0_addEntry ∈ WL := WL_t3 142 rfl rfl
theorem w_3_143 : Cond.instanceMethod yX0_addEntry ∈ WL := WL_t3 143 rfl rfl
theorem w_3_144 : Cond.selects RX0 yX0_addEntry yX0_addEntry ∈ WL := WL_t3 144 rfl rfl
theorem w_3_145 : Cond.code yX0_addEntry cX0_addEntry 3 (some .int) ∈ WL := WL_t3 145 rfl rfl
theorem w_3_146 : Cond.constant RX0 22 (-1000000004) ∈ WL := WL_t3 146 rfl rfl
theorem w_3_147 : Cond.methodLink RL 85 yX8_tear ∈ WL := WL_t3 147 rfl rfl
theorem w_3_148 : Cond.instanceMethod yX8_tear ∈ WL := WL_t3 148 rfl rfl
theorem w_3_149 : Cond.selects RX8 yX8_tear yX8_tear ∈ WL := WL_t3 149 rfl rfl
theorem w_3_150 : Cond.code yX8_tear cX8_tear 2 (some .int) ∈ WL := WL_t3 150 rfl rfl
theorem w_3_151 : Cond.methodLink RL 89 yX8_seed ∈ WL := WL_t3 151 rfl rfl
theorem w_3_152 : Cond.instanceMethod yX8_seed ∈ WL := WL_t3 152 rfl rfl
theorem w_3_153 : Cond.selects RX8 yX8_seed yX8_seed ∈ WL := WL_t3 153 rfl rfl
theorem w_3_154 : Cond.code yX8_seed cX8_seed 3 (some .int) ∈ WL := WL_t3 154 rfl rfl
theorem w_3_155 : Cond.methodLink RL 93 yX8_keep ∈ WL := WL_t3 155 rfl rfl
theorem w_3_156 : Cond.instanceMethod yX8_keep ∈ WL := WL_t3 156 rfl rfl
theorem w_3_157 : Cond.selects RX8 yX8_keep yX8_keep ∈ WL := WL_t3 157 rfl rfl
theorem w_3_158 : Cond.code yX8_keep cX8_keep 3 (some .int) ∈ WL := WL_t3 158 rfl rfl
theorem w_3_159 : Cond.methodLink RX8 257 yX8_imageOf ∈ WL := WL_t3 159 rfl rfl
theorem w_3_161 : Cond.instanceMethod yX8_imageOf ∈ WL := WL_t3 161 rfl rfl
theorem w_3_162 : Cond.code yX8_imageOf cX8_imageOf 2 (some (.object RX2)) ∈ WL := WL_t3 162 rfl rfl
theorem w_3_163 : Cond.methodLink RX8 261 yX2_take ∈ WL := WL_t3 163 rfl rfl
theorem w_3_164 : Cond.instanceMethod yX2_take ∈ WL := WL_t3 164 rfl rfl
theorem w_3_165 : Cond.selects RX2 yX2_take yX2_take ∈ WL := WL_t3 165 rfl rfl
theorem w_3_166 : Cond.code yX2_take cX2_take 3 none ∈ WL := WL_t3 166 rfl rfl
theorem w_3_167 : Cond.methodLink RX2 20 yX4_copyFrom ∈ WL := WL_t3 167 rfl rfl
theorem w_3_168 : Cond.methodLink RL 97 yX8_goBack ∈ WL := WL_t3 168 rfl rfl
theorem w_3_169 : Cond.instanceMethod yX8_goBack ∈ WL := WL_t3 169 rfl rfl
theorem w_3_170 : Cond.selects RX8 yX8_goBack yX8_goBack ∈ WL := WL_t3 170 rfl rfl
theorem w_3_171 : Cond.code yX8_goBack cX8_goBack 3 (some .int) ∈ WL := WL_t3 171 rfl rfl
theorem w_3_172 : Cond.methodLink RX8 268 yX2_give ∈ WL := WL_t3 172 rfl rfl
theorem w_3_173 : Cond.instanceMethod yX2_give ∈ WL := WL_t3 173 rfl rfl
theorem w_3_174 : Cond.selects RX2 yX2_give yX2_give ∈ WL := WL_t3 174 rfl rfl
theorem w_3_175 : Cond.code yX2_give cX2_give 3 none ∈ WL := WL_t3 175 rfl rfl
theorem w_3_176 : Cond.classLink RL 10 RX9 ∈ WL := WL_t3 176 rfl rfl
theorem w_3_177 : Cond.instantiable RX9 22 ∈ WL := WL_t3 177 rfl rfl
theorem w_3_178 : Cond.methodLink RL 12 yX9_init ∈ WL := WL_t3 178 rfl rfl
theorem w_3_179 : Cond.instanceMethod yX9_init ∈ WL := WL_t3 179 rfl rfl
theorem w_3_180 : Cond.code yX9_init cX9_init 1 none ∈ WL := WL_t3 180 rfl rfl
theorem w_3_181 : Cond.methodLink RX9 1 objectInit ∈ WL := WL_t3 181 rfl rfl
theorem w_3_182 : Cond.fieldLink RX9 7 RX9 "w" "[I" ∈ WL := WL_t3 182 rfl rfl
theorem w_3_183 : Cond.fieldLink RX9 38 RX9 "wires" "I" ∈ WL := WL_t3 183 rfl rfl
theorem w_3_184 : Cond.fieldLink RX9 45 RX9 "gates" "I" ∈ WL := WL_t3 184 rfl rfl
theorem w_3_185 : Cond.fieldLink RX9 13 RX9 "gate" "[I" ∈ WL := WL_t3 185 rfl rfl
theorem w_3_186 : Cond.fieldLink RX9 143 RX9 "known" "I" ∈ WL := WL_t3 186 rfl rfl
theorem w_3_187 : Cond.fieldLink RX9 146 RX9 "kept" "I" ∈ WL := WL_t3 187 rfl rfl
theorem w_3_188 : Cond.fieldLink RX9 203 RX9 "seed" "I" ∈ WL := WL_t3 188 rfl rfl
theorem w_3_189 : Cond.fieldLink RX9 16 RX9 "keptSeed" "[I" ∈ WL := WL_t3 189 rfl rfl
theorem w_3_190 : Cond.fieldLink RX9 19 RX9 "bookWire" "[I" ∈ WL := WL_t3 190 rfl rfl
theorem w_3_191 : Cond.fieldLink RX9 22 RX9 "bookLevel" "[I" ∈ WL := WL_t3 191 rfl rfl
theorem w_3_192 : Cond.fieldLink RX9 149 RX9 "booked" "I" ∈ WL := WL_t3 192 rfl rfl
theorem w_3_193 : Cond.fieldLink RX9 25 RX9 "text" "[I" ∈ WL := WL_t3 193 rfl rfl
theorem w_3_194 : Cond.fieldLink RX9 102 RX9 "size" "I" ∈ WL := WL_t3 194 rfl rfl
theorem w_3_195 : Cond.fieldLink RX9 28 RX9 "fault" "I" ∈ WL := WL_t3 195 rfl rfl
theorem w_3_196 : Cond.fieldLink RX9 112 RX9 "at" "I" ∈ WL := WL_t3 196 rfl rfl
theorem w_3_197 : Cond.fieldLink RX9 106 RX9 "wrong" "I" ∈ WL := WL_t3 197 rfl rfl
theorem w_3_198 : Cond.fieldLink RX9 109 RX9 "place" "I" ∈ WL := WL_t3 198 rfl rfl
theorem w_3_199 : Cond.fieldLink RX9 122 RX9 "from" "I" ∈ WL := WL_t3 199 rfl rfl
theorem w_3_200 : Cond.fieldLink RX9 125 RX9 "newWires" "I" ∈ WL := WL_t3 200 rfl rfl
theorem w_3_201 : Cond.fieldLink RX9 131 RX9 "newGates" "I" ∈ WL := WL_t3 201 rfl rfl
theorem w_3_202 : Cond.fieldLink RX9 32 RX9 "newLevel" "[I" ∈ WL := WL_t3 202 rfl rfl
theorem w_3_203 : Cond.fieldLink RX9 35 RX9 "newGate" "[I" ∈ WL := WL_t3 203 rfl rfl
theorem w_3_204 : Cond.laysFinal RX9 RX9 "w" "[I" ∈ WL := WL_t3 204 rfl rfl
theorem w_3_206 : Cond.lays RX9 RX9 "wires" "I" ∈ WL := WL_t3 206 rfl rfl
theorem w_3_208 : Cond.lays RX9 RX9 "gates" "I" ∈ WL := WL_t3 208 rfl rfl
theorem w_3_210 : Cond.laysFinal RX9 RX9 "gate" "[I" ∈ WL := WL_t3 210 rfl rfl
theorem w_3_212 : Cond.lays RX9 RX9 "known" "I" ∈ WL := WL_t3 212 rfl rfl
theorem w_3_214 : Cond.lays RX9 RX9 "kept" "I" ∈ WL := WL_t3 214 rfl rfl
theorem w_3_216 : Cond.lays RX9 RX9 "seed" "I" ∈ WL := WL_t3 216 rfl rfl
theorem w_3_218 : Cond.laysFinal RX9 RX9 "keptSeed" "[I" ∈ WL := WL_t3 218 rfl rfl
theorem w_3_220 : Cond.laysFinal RX9 RX9 "bookWire" "[I" ∈ WL := WL_t3 220 rfl rfl
theorem w_3_222 : Cond.laysFinal RX9 RX9 "bookLevel" "[I" ∈ WL := WL_t3 222 rfl rfl
theorem w_3_224 : Cond.lays RX9 RX9 "booked" "I" ∈ WL := WL_t3 224 rfl rfl
theorem w_3_226 : Cond.laysFinal RX9 RX9 "text" "[I" ∈ WL := WL_t3 226 rfl rfl
theorem w_3_228 : Cond.lays RX9 RX9 "size" "I" ∈ WL := WL_t3 228 rfl rfl
theorem w_3_230 : Cond.lays RX9 RX9 "fault" "I" ∈ WL := WL_t3 230 rfl rfl
theorem w_3_232 : Cond.lays RX9 RX9 "at" "I" ∈ WL := WL_t3 232 rfl rfl
theorem w_3_234 : Cond.lays RX9 RX9 "wrong" "I" ∈ WL := WL_t3 234 rfl rfl
theorem w_3_236 : Cond.lays RX9 RX9 "place" "I" ∈ WL := WL_t3 236 rfl rfl
theorem w_3_238 : Cond.lays RX9 RX9 "from" "I" ∈ WL := WL_t3 238 rfl rfl
theorem w_4_0 : Cond.lays RX9 RX9 "newWires" "I" ∈ WL := WL_t4 0 rfl rfl
theorem w_4_2 : Cond.lays RX9 RX9 "newGates" "I" ∈ WL := WL_t4 2 rfl rfl
theorem w_4_4 : Cond.laysFinal RX9 RX9 "newLevel" "[I" ∈ WL := WL_t4 4 rfl rfl
theorem w_4_6 : Cond.laysFinal RX9 RX9 "newGate" "[I" ∈ WL := WL_t4 6 rfl rfl
theorem w_4_9 : Cond.methodLink RL 17 yX9_feed ∈ WL := WL_t4 9 rfl rfl
theorem w_4_10 : Cond.instanceMethod yX9_feed ∈ WL := WL_t4 10 rfl rfl
theorem w_4_11 : Cond.selects RX9 yX9_feed yX9_feed ∈ WL := WL_t4 11 rfl rfl
theorem w_4_12 : Cond.code yX9_feed cX9_feed 2 (some .int) ∈ WL := WL_t4 12 rfl rfl
theorem w_4_13 : Cond.methodLink RX9 41 yX9_in ∈ WL := WL_t4 13 rfl rfl
theorem w_4_14 : Cond.static yX9_in ∈ WL := WL_t4 14 rfl rfl
theorem w_4_15 : Cond.code yX9_in cX9_in 3 (some .boolean) ∈ WL := WL_t4 15 rfl rfl
theorem w_4_16 : Cond.constant RX9 101 (-1000000002) ∈ WL := WL_t4 16 rfl rfl
theorem w_4_17 : Cond.constant RX9 105 (-1000000004) ∈ WL := WL_t4 17 rfl rfl
theorem w_4_18 : Cond.methodLink RL 22 yX9_wires ∈ WL := WL_t4 18 rfl rfl
theorem w_4_19 : Cond.instanceMethod yX9_wires ∈ WL := WL_t4 19 rfl rfl
theorem w_4_20 : Cond.selects RX9 yX9_wires yX9_wires ∈ WL := WL_t4 20 rfl rfl
theorem w_4_21 : Cond.code yX9_wires cX9_wires 1 (some .int) ∈ WL := WL_t4 21 rfl rfl
theorem w_4_22 : Cond.methodLink RX9 115 yX9_here ∈ WL := WL_t4 22 rfl rfl
theorem w_4_24 : Cond.instanceMethod yX9_here ∈ WL := WL_t4 24 rfl rfl
theorem w_4_25 : Cond.code yX9_here cX9_here 1 (some .int) ∈ WL := WL_t4 25 rfl rfl
theorem w_4_26 : Cond.methodLink RX9 152 yX9_readClause ∈ WL := WL_t4 26 rfl rfl
theorem w_4_28 : Cond.instanceMethod yX9_readClause ∈ WL := WL_t4 28 rfl rfl
theorem w_4_29 : Cond.code yX9_readClause cX9_readClause 3 none ∈ WL := WL_t4 29 rfl rfl
theorem w_4_30 : Cond.methodLink RX9 134 yX9_readWire ∈ WL := WL_t4 30 rfl rfl
theorem w_4_32 : Cond.instanceMethod yX9_readWire ∈ WL := WL_t4 32 rfl rfl
theorem w_4_33 : Cond.code yX9_readWire cX9_readWire 2 none ∈ WL := WL_t4 33 rfl rfl
theorem w_4_34 : Cond.methodLink RX9 119 yX9_fail ∈ WL := WL_t4 34 rfl rfl
theorem w_4_36 : Cond.instanceMethod yX9_fail ∈ WL := WL_t4 36 rfl rfl
theorem w_4_37 : Cond.code yX9_fail cX9_fail 3 none ∈ WL := WL_t4 37 rfl rfl
theorem w_4_38 : Cond.methodLink RX9 128 yX9_number ∈ WL := WL_t4 38 rfl rfl
theorem w_4_40 : Cond.instanceMethod yX9_number ∈ WL := WL_t4 40 rfl rfl
theorem w_4_41 : Cond.code yX9_number cX9_number 5 (some .int) ∈ WL := WL_t4 41 rfl rfl
theorem w_4_42 : Cond.methodLink RX9 137 yX9_readGate ∈ WL := WL_t4 42 rfl rfl
theorem w_4_44 : Cond.instanceMethod yX9_readGate ∈ WL := WL_t4 44 rfl rfl
theorem w_4_45 : Cond.code yX9_readGate cX9_readGate 4 none ∈ WL := WL_t4 45 rfl rfl
theorem w_4_46 : Cond.methodLink RX9 155 yX9_begin ∈ WL := WL_t4 46 rfl rfl
theorem w_4_48 : Cond.instanceMethod yX9_begin ∈ WL := WL_t4 48 rfl rfl
theorem w_4_49 : Cond.code yX9_begin cX9_begin 2 none ∈ WL := WL_t4 49 rfl rfl
theorem w_4_50 : Cond.methodLink RX9 52 yX9_of ∈ WL := WL_t4 50 rfl rfl
theorem w_4_52 : Cond.instanceMethod yX9_of ∈ WL := WL_t4 52 rfl rfl
theorem w_4_53 : Cond.code yX9_of cX9_of 3 (some .int) ∈ WL := WL_t4 53 rfl rfl
theorem w_4_54 : Cond.methodLink RX9 140 yX9_tellAll ∈ WL := WL_t4 54 rfl rfl
theorem w_4_56 : Cond.instanceMethod yX9_tellAll ∈ WL := WL_t4 56 rfl rfl
theorem w_4_57 : Cond.code yX9_tellAll cX9_tellAll 3 none ∈ WL := WL_t4 57 rfl rfl
theorem w_4_58 : Cond.methodLink RX9 70 yX9_tell ∈ WL := WL_t4 58 rfl rfl
theorem w_4_60 : Cond.instanceMethod yX9_tell ∈ WL := WL_t4 60 rfl rfl
theorem w_4_61 : Cond.code yX9_tell cX9_tell 8 none ∈ WL := WL_t4 61 rfl rfl
theorem w_4_62 : Cond.methodLink RX9 63 yX9_comesOf ∈ WL := WL_t4 62 rfl rfl
theorem w_4_64 : Cond.instanceMethod yX9_comesOf ∈ WL := WL_t4 64 rfl rfl
theorem w_4_65 : Cond.code yX9_comesOf cX9_comesOf 5 (some .int) ∈ WL := WL_t4 65 rfl rfl
theorem w_4_66 : Cond.methodLink RX9 48 yX9_firm ∈ WL := WL_t4 66 rfl rfl
theorem w_4_67 : Cond.static yX9_firm ∈ WL := WL_t4 67 rfl rfl
theorem w_4_68 : Cond.code yX9_firm cX9_firm 1 (some .int) ∈ WL := WL_t4 68 rfl rfl
theorem w_4_69 : Cond.methodLink RX9 56 yX9_made ∈ WL := WL_t4 69 rfl rfl
theorem w_4_70 : Cond.static yX9_made ∈ WL := WL_t4 70 rfl rfl
theorem w_4_71 : Cond.code yX9_made cX9_made 5 (some .int) ∈ WL := WL_t4 71 rfl rfl
theorem w_4_72 : Cond.methodLink RX9 66 yX9_dropFirst ∈ WL := WL_t4 72 rfl rfl
theorem w_4_74 : Cond.instanceMethod yX9_dropFirst ∈ WL := WL_t4 74 rfl rfl
theorem w_4_75 : Cond.code yX9_dropFirst cX9_dropFirst 6 none ∈ WL := WL_t4 75 rfl rfl
theorem w_4_76 : Cond.methodLink RL 26 yX9_fault ∈ WL := WL_t4 76 rfl rfl
theorem w_4_77 : Cond.instanceMethod yX9_fault ∈ WL := WL_t4 77 rfl rfl
theorem w_4_78 : Cond.selects RX9 yX9_fault yX9_fault ∈ WL := WL_t4 78 rfl rfl
theorem w_4_79 : Cond.code yX9_fault cX9_fault 1 (some .int) ∈ WL := WL_t4 79 rfl rfl
theorem w_4_80 : Cond.methodLink RL 30 yX9_told ∈ WL := WL_t4 80 rfl rfl
theorem w_4_81 : Cond.instanceMethod yX9_told ∈ WL := WL_t4 81 rfl rfl
theorem w_4_82 : Cond.selects RX9 yX9_told yX9_told ∈ WL := WL_t4 82 rfl rfl
theorem w_4_83 : Cond.code yX9_told cX9_told 2 (some .int) ∈ WL := WL_t4 83 rfl rfl
theorem w_4_84 : Cond.methodLink RX9 161 yX9_isStill ∈ WL := WL_t4 84 rfl rfl
theorem w_4_86 : Cond.instanceMethod yX9_isStill ∈ WL := WL_t4 86 rfl rfl
theorem w_4_87 : Cond.code yX9_isStill cX9_isStill 2 (some .boolean) ∈ WL := WL_t4 87 rfl rfl
theorem w_4_88 : Cond.methodLink RX9 95 yX9_waits ∈ WL := WL_t4 88 rfl rfl
theorem w_4_90 : Cond.instanceMethod yX9_waits ∈ WL := WL_t4 90 rfl rfl
theorem w_4_91 : Cond.code yX9_waits cX9_waits 5 (some .int) ∈ WL := WL_t4 91 rfl rfl
theorem w_4_92 : Cond.methodLink RX9 171 yX9_holds ∈ WL := WL_t4 92 rfl rfl
theorem w_4_94 : Cond.instanceMethod yX9_holds ∈ WL := WL_t4 94 rfl rfl
theorem w_4_95 : Cond.code yX9_holds cX9_holds 3 (some .int) ∈ WL := WL_t4 95 rfl rfl
theorem w_4_96 : Cond.methodLink RX9 174 yX9_flickers ∈ WL := WL_t4 96 rfl rfl
theorem w_4_98 : Cond.instanceMethod yX9_flickers ∈ WL := WL_t4 98 rfl rfl
theorem w_4_99 : Cond.code yX9_flickers cX9_flickers 3 (some .int) ∈ WL := WL_t4 99 rfl rfl
theorem w_4_100 : Cond.methodLink RX9 177 yX9_settles ∈ WL := WL_t4 100 rfl rfl
theorem w_4_102 : Cond.instanceMethod yX9_settles ∈ WL := WL_t4 102 rfl rfl
theorem w_4_103 : Cond.code yX9_settles cX9_settles 2 (some .int) ∈ WL := WL_t4 103 rfl rfl
theorem w_4_104 : Cond.methodLink RX9 158 yX9_copyRow ∈ WL := WL_t4 104 rfl rfl
theorem w_4_106 : Cond.instanceMethod yX9_copyRow ∈ WL := WL_t4 106 rfl rfl
theorem w_4_107 : Cond.code yX9_copyRow cX9_copyRow 4 none ∈ WL := WL_t4 107 rfl rfl
theorem w_4_108 : Cond.methodLink RX9 165 yX9_stepIn ∈ WL := WL_t4 108 rfl rfl
theorem w_4_110 : Cond.instanceMethod yX9_stepIn ∈ WL := WL_t4 110 rfl rfl
theorem w_4_111 : Cond.code yX9_stepIn cX9_stepIn 5 none ∈ WL := WL_t4 111 rfl rfl
theorem w_4_112 : Cond.methodLink RX9 98 yX9_cycle ∈ WL := WL_t4 112 rfl rfl
theorem w_4_114 : Cond.instanceMethod yX9_cycle ∈ WL := WL_t4 114 rfl rfl
theorem w_4_115 : Cond.code yX9_cycle cX9_cycle 10 (some .int) ∈ WL := WL_t4 115 rfl rfl
theorem w_4_116 : Cond.methodLink RX9 77 yX9_dropHand ∈ WL := WL_t4 116 rfl rfl
theorem w_4_118 : Cond.instanceMethod yX9_dropHand ∈ WL := WL_t4 118 rfl rfl
theorem w_4_119 : Cond.code yX9_dropHand cX9_dropHand 3 none ∈ WL := WL_t4 119 rfl rfl
theorem w_4_120 : Cond.constant RX9 81 (99999) ∈ WL := WL_t4 120 rfl rfl
theorem w_4_121 : Cond.methodLink RX9 74 yX9_least ∈ WL := WL_t4 121 rfl rfl
theorem w_4_122 : Cond.static yX9_least ∈ WL := WL_t4 122 rfl rfl
theorem w_4_123 : Cond.code yX9_least cX9_least 2 (some .int) ∈ WL := WL_t4 123 rfl rfl
theorem w_4_124 : Cond.methodLink RX9 82 yX9_driversOf ∈ WL := WL_t4 124 rfl rfl
theorem w_4_126 : Cond.instanceMethod yX9_driversOf ∈ WL := WL_t4 126 rfl rfl
theorem w_4_127 : Cond.code yX9_driversOf cX9_driversOf 4 (some .int) ∈ WL := WL_t4 127 rfl rfl
theorem w_4_128 : Cond.methodLink RX9 85 yX9_drivenTo ∈ WL := WL_t4 128 rfl rfl
theorem w_4_130 : Cond.instanceMethod yX9_drivenTo ∈ WL := WL_t4 130 rfl rfl
theorem w_4_131 : Cond.code yX9_drivenTo cX9_drivenTo 6 (some .int) ∈ WL := WL_t4 131 rfl rfl
theorem w_4_132 : Cond.methodLink RX9 60 yX9_together ∈ WL := WL_t4 132 rfl rfl
theorem w_4_133 : Cond.static yX9_together ∈ WL := WL_t4 133 rfl rfl
theorem w_4_134 : Cond.code yX9_together cX9_together 2 (some .int) ∈ WL := WL_t4 134 rfl rfl
theorem w_4_135 : Cond.methodLink RX9 88 yX9_change ∈ WL := WL_t4 135 rfl rfl
theorem w_4_137 : Cond.instanceMethod yX9_change ∈ WL := WL_t4 137 rfl rfl
theorem w_4_138 : Cond.code yX9_change cX9_change 8 none ∈ WL := WL_t4 138 rfl rfl
theorem w_4_139 : Cond.methodLink RX9 91 yX9_looksAt ∈ WL := WL_t4 139 rfl rfl
theorem w_4_141 : Cond.instanceMethod yX9_looksAt ∈ WL := WL_t4 141 rfl rfl
theorem w_4_142 : Cond.code yX9_looksAt cX9_looksAt 3 (some .boolean) ∈ WL := WL_t4 142 rfl rfl
theorem w_4_143 : Cond.methodLink RX9 180 yX9_wrongEntry ∈ WL := WL_t4 143 rfl rfl
theorem w_4_145 : Cond.instanceMethod yX9_wrongEntry ∈ WL := WL_t4 145 rfl rfl
theorem w_4_146 : Cond.code yX9_wrongEntry cX9_wrongEntry 2 (some .int) ∈ WL := WL_t4 146 rfl rfl
theorem w_4_147 : Cond.methodLink RX9 168 yX9_isWire ∈ WL := WL_t4 147 rfl rfl
theorem w_4_149 : Cond.instanceMethod yX9_isWire ∈ WL := WL_t4 149 rfl rfl
theorem w_4_150 : Cond.code yX9_isWire cX9_isWire 2 (some .boolean) ∈ WL := WL_t4 150 rfl rfl
theorem w_4_151 : Cond.methodLink RL 35 yX9_wire ∈ WL := WL_t4 151 rfl rfl
theorem w_4_152 : Cond.instanceMethod yX9_wire ∈ WL := WL_t4 152 rfl rfl
theorem w_4_153 : Cond.selects RX9 yX9_wire yX9_wire ∈ WL := WL_t4 153 rfl rfl
theorem w_4_154 : Cond.code yX9_wire cX9_wire 3 (some .int) ∈ WL := WL_t4 154 rfl rfl
theorem w_4_155 : Cond.constant RX9 183 (-1000000001) ∈ WL := WL_t4 155 rfl rfl
theorem w_4_156 : Cond.methodLink RX9 184 yX9_lookersAt ∈ WL := WL_t4 156 rfl rfl
theorem w_4_158 : Cond.instanceMethod yX9_lookersAt ∈ WL := WL_t4 158 rfl rfl
theorem w_4_159 : Cond.code yX9_lookersAt cX9_lookersAt 4 (some .int) ∈ WL := WL_t4 159 rfl rfl
theorem w_4_160 : Cond.methodLink RL 40 yX9_wave ∈ WL := WL_t4 160 rfl rfl
theorem w_4_161 : Cond.instanceMethod yX9_wave ∈ WL := WL_t4 161 rfl rfl
theorem w_4_162 : Cond.selects RX9 yX9_wave yX9_wave ∈ WL := WL_t4 162 rfl rfl
theorem w_4_163 : Cond.code yX9_wave cX9_wave 4 (some .int) ∈ WL := WL_t4 163 rfl rfl
theorem w_4_164 : Cond.methodLink RL 44 yX9_gate ∈ WL := WL_t4 164 rfl rfl
theorem w_4_165 : Cond.instanceMethod yX9_gate ∈ WL := WL_t4 165 rfl rfl
theorem w_4_166 : Cond.selects RX9 yX9_gate yX9_gate ∈ WL := WL_t4 166 rfl rfl
theorem w_4_167 : Cond.code yX9_gate cX9_gate 3 (some .int) ∈ WL := WL_t4 167 rfl rfl
theorem w_4_168 : Cond.methodLink RX9 187 yX9_isGate ∈ WL := WL_t4 168 rfl rfl
theorem w_4_170 : Cond.instanceMethod yX9_isGate ∈ WL := WL_t4 170 rfl rfl
theorem w_4_171 : Cond.code yX9_isGate cX9_isGate 2 (some .boolean) ∈ WL := WL_t4 171 rfl rfl
theorem w_4_172 : Cond.methodLink RL 48 yX9_queue ∈ WL := WL_t4 172 rfl rfl
theorem w_4_173 : Cond.instanceMethod yX9_queue ∈ WL := WL_t4 173 rfl rfl
theorem w_4_174 : Cond.selects RX9 yX9_queue yX9_queue ∈ WL := WL_t4 174 rfl rfl
theorem w_4_175 : Cond.code yX9_queue cX9_queue 4 (some .int) ∈ WL := WL_t4 175 rfl rfl
theorem w_4_176 : Cond.methodLink RL 52 yX9_resolved ∈ WL := WL_t4 176 rfl rfl
theorem w_4_177 : Cond.instanceMethod yX9_resolved ∈ WL := WL_t4 177 rfl rfl
theorem w_4_178 : Cond.selects RX9 yX9_resolved yX9_resolved ∈ WL := WL_t4 178 rfl rfl
theorem w_4_179 : Cond.code yX9_resolved cX9_resolved 3 (some .int) ∈ WL := WL_t4 179 rfl rfl
theorem w_4_180 : Cond.methodLink RX9 190 yX9_isLevel ∈ WL := WL_t4 180 rfl rfl
theorem w_4_181 : Cond.static yX9_isLevel ∈ WL := WL_t4 181 rfl rfl
theorem w_4_182 : Cond.code yX9_isLevel cX9_isLevel 1 (some .boolean) ∈ WL := WL_t4 182 rfl rfl
theorem w_4_183 : Cond.methodLink RL 56 yX9_comes ∈ WL := WL_t4 183 rfl rfl
theorem w_4_184 : Cond.instanceMethod yX9_comes ∈ WL := WL_t4 184 rfl rfl
theorem w_4_185 : Cond.selects RX9 yX9_comes yX9_comes ∈ WL := WL_t4 185 rfl rfl
theorem w_4_186 : Cond.code yX9_comes cX9_comes 4 (some .int) ∈ WL := WL_t4 186 rfl rfl
theorem w_4_187 : Cond.methodLink RL 60 yX9_step ∈ WL := WL_t4 187 rfl rfl
theorem w_4_188 : Cond.instanceMethod yX9_step ∈ WL := WL_t4 188 rfl rfl
theorem w_4_189 : Cond.selects RX9 yX9_step yX9_step ∈ WL := WL_t4 189 rfl rfl
theorem w_4_190 : Cond.code yX9_step cX9_step 1 (some .int) ∈ WL := WL_t4 190 rfl rfl
theorem w_4_191 : Cond.constant RX9 193 (-1000000003) ∈ WL := WL_t4 191 rfl rfl
theorem w_4_192 : Cond.methodLink RX9 194 yX9_remember ∈ WL := WL_t4 192 rfl rfl
theorem w_4_194 : Cond.instanceMethod yX9_remember ∈ WL := WL_t4 194 rfl rfl
theorem w_4_195 : Cond.code yX9_remember cX9_remember 2 none ∈ WL := WL_t4 195 rfl rfl
theorem w_4_196 : Cond.methodLink RL 64 yX9_run ∈ WL := WL_t4 196 rfl rfl
theorem w_4_197 : Cond.instanceMethod yX9_run ∈ WL := WL_t4 197 rfl rfl
theorem w_4_198 : Cond.selects RX9 yX9_run yX9_run ∈ WL := WL_t4 198 rfl rfl
theorem w_4_199 : Cond.code yX9_run cX9_run 4 (some .int) ∈ WL := WL_t4 199 rfl rfl
theorem w_4_200 : Cond.methodLink RL 68 yX9_set ∈ WL := WL_t4 200 rfl rfl
theorem w_4_201 : Cond.instanceMethod yX9_set ∈ WL := WL_t4 201 rfl rfl
theorem w_4_202 : Cond.selects RX9 yX9_set yX9_set ∈ WL := WL_t4 202 rfl rfl
theorem w_4_203 : Cond.code yX9_set cX9_set 5 (some .int) ∈ WL := WL_t4 203 rfl rfl
theorem w_4_204 : Cond.methodLink RX9 197 yX9_mayBeSet ∈ WL := WL_t4 204 rfl rfl
theorem w_4_206 : Cond.instanceMethod yX9_mayBeSet ∈ WL := WL_t4 206 rfl rfl
theorem w_4_207 : Cond.code yX9_mayBeSet cX9_mayBeSet 2 (some .int) ∈ WL := WL_t4 207 rfl rfl
theorem w_4_208 : Cond.methodLink RX9 200 yX9_layHand ∈ WL := WL_t4 208 rfl rfl
theorem w_4_210 : Cond.instanceMethod yX9_layHand ∈ WL := WL_t4 210 rfl rfl
theorem w_4_211 : Cond.code yX9_layHand cX9_layHand 5 none ∈ WL := WL_t4 211 rfl rfl
theorem w_4_212 : Cond.methodLink RL 72 yX9_calm ∈ WL := WL_t4 212 rfl rfl
theorem w_4_213 : Cond.instanceMethod yX9_calm ∈ WL := WL_t4 213 rfl rfl
theorem w_4_214 : Cond.selects RX9 yX9_calm yX9_calm ∈ WL := WL_t4 214 rfl rfl
theorem w_4_215 : Cond.code yX9_calm cX9_calm 1 (some .int) ∈ WL := WL_t4 215 rfl rfl
theorem w_4_216 : Cond.methodLink RL 76 yX9_drift ∈ WL := WL_t4 216 rfl rfl
theorem w_4_217 : Cond.instanceMethod yX9_drift ∈ WL := WL_t4 217 rfl rfl
theorem w_4_218 : Cond.selects RX9 yX9_drift yX9_drift ∈ WL := WL_t4 218 rfl rfl
theorem w_4_219 : Cond.code yX9_drift cX9_drift 3 (some .int) ∈ WL := WL_t4 219 rfl rfl
theorem w_4_220 : Cond.methodLink RX9 216 yX9_time ∈ WL := WL_t4 220 rfl rfl
theorem w_4_222 : Cond.instanceMethod yX9_time ∈ WL := WL_t4 222 rfl rfl
theorem w_4_223 : Cond.code yX9_time cX9_time 4 none ∈ WL := WL_t4 223 rfl rfl
theorem w_4_224 : Cond.methodLink RX9 213 yX9_draw ∈ WL := WL_t4 224 rfl rfl
theorem w_4_226 : Cond.instanceMethod yX9_draw ∈ WL := WL_t4 226 rfl rfl
theorem w_4_227 : Cond.code yX9_draw cX9_draw 4 (some .int) ∈ WL := WL_t4 227 rfl rfl
theorem w_4_228 : Cond.constantLong RX9 206 (1103515245) ∈ WL := WL_t4 228 rfl rfl
theorem w_4_229 : Cond.constantLong RX9 208 (12345) ∈ WL := WL_t4 229 rfl rfl
theorem w_4_230 : Cond.constantLong RX9 210 (2147483648) ∈ WL := WL_t4 230 rfl rfl
theorem w_4_231 : Cond.constant RX9 212 (65536) ∈ WL := WL_t4 231 rfl rfl
theorem w_4_232 : Cond.methodLink RL 80 yX9_undo ∈ WL := WL_t4 232 rfl rfl
theorem w_4_233 : Cond.instanceMethod yX9_undo ∈ WL := WL_t4 233 rfl rfl
theorem w_4_234 : Cond.selects RX9 yX9_undo yX9_undo ∈ WL := WL_t4 234 rfl rfl
theorem w_4_235 : Cond.code yX9_undo cX9_undo 2 (some .int) ∈ WL := WL_t4 235 rfl rfl
theorem w_4_236 : Cond.methodLink RL 84 yX9_write ∈ WL := WL_t4 236 rfl rfl
theorem w_4_237 : Cond.instanceMethod yX9_write ∈ WL := WL_t4 237 rfl rfl
theorem w_4_238 : Cond.selects RX9 yX9_write yX9_write ∈ WL := WL_t4 238 rfl rfl
theorem w_4_239 : Cond.code yX9_write cX9_write 3 (some .int) ∈ WL := WL_t4 239 rfl rfl
theorem w_5_0 : Cond.methodLink RL 88 yX9_tear ∈ WL := WL_t5 0 rfl rfl
theorem w_5_1 : Cond.instanceMethod yX9_tear ∈ WL := WL_t5 1 rfl rfl
theorem w_5_2 : Cond.selects RX9 yX9_tear yX9_tear ∈ WL := WL_t5 2 rfl rfl
theorem w_5_3 : Cond.code yX9_tear cX9_tear 2 (some .int) ∈ WL := WL_t5 3 rfl rfl
theorem w_5_4 : Cond.methodLink RL 92 yX9_seed ∈ WL := WL_t5 4 rfl rfl
theorem w_5_5 : Cond.instanceMethod yX9_seed ∈ WL := WL_t5 5 rfl rfl
theorem w_5_6 : Cond.selects RX9 yX9_seed yX9_seed ∈ WL := WL_t5 6 rfl rfl
theorem w_5_7 : Cond.code yX9_seed cX9_seed 3 (some .int) ∈ WL := WL_t5 7 rfl rfl
theorem w_5_8 : Cond.methodLink RL 96 yX9_keep ∈ WL := WL_t5 8 rfl rfl
theorem w_5_9 : Cond.instanceMethod yX9_keep ∈ WL := WL_t5 9 rfl rfl
theorem w_5_10 : Cond.selects RX9 yX9_keep yX9_keep ∈ WL := WL_t5 10 rfl rfl
theorem w_5_11 : Cond.code yX9_keep cX9_keep 2 (some .int) ∈ WL := WL_t5 11 rfl rfl
theorem w_5_12 : Cond.methodLink RL 100 yX9_goBack ∈ WL := WL_t5 12 rfl rfl
theorem w_5_13 : Cond.instanceMethod yX9_goBack ∈ WL := WL_t5 13 rfl rfl
theorem w_5_14 : Cond.selects RX9 yX9_goBack yX9_goBack ∈ WL := WL_t5 14 rfl rfl
theorem w_5_15 : Cond.code yX9_goBack cX9_goBack 2 (some .int) ∈ WL := WL_t5 15 rfl rfl
end
section
theorem nt_0 : Cond.methodLinkNest RX8 9 yX7_init RX8 ∈ lw_tbl := show _ ∈ k2_sels lw_privs ++ tables_1 from List.mem_append_right _ (show _ ∈ tables_1 from List.mem_append_left _ (List.mem_of_getElem? (i := 23) rfl))
theorem nt_1 : Cond.methodLinkNest RX8 18 yX6_init RX8 ∈ lw_tbl := show _ ∈ k2_sels lw_privs ++ tables_1 from List.mem_append_right _ (show _ ∈ tables_1 from List.mem_append_left _ (List.mem_of_getElem? (i := 51) rfl))
theorem nt_2 : Cond.methodLinkNest RX8 28 yX4_init RX8 ∈ lw_tbl := show _ ∈ k2_sels lw_privs ++ tables_1 from List.mem_append_right _ (show _ ∈ tables_1 from List.mem_append_left _ (List.mem_of_getElem? (i := 110) rfl))
theorem nt_ao : Cond.arrayOver (.object RX4) ∈ lw_tbl := show _ ∈ k2_sels lw_privs ++ tables_1 from List.mem_append_right _ (show _ ∈ tables_1 from List.mem_append_left _ (List.mem_of_getElem? (i := 187) rfl))
theorem nt_3 : Cond.methodLinkNest RX5 17 yX4_init RX8 ∈ lw_tbl := show _ ∈ k2_sels lw_privs ++ tables_1 from List.mem_append_right _ (show _ ∈ tables_1 from List.mem_append_left _ (List.mem_of_getElem? (i := 188) rfl))
theorem nt_4 : Cond.methodLinkNest RX8 45 yX2_init RX8 ∈ lw_tbl := show _ ∈ k2_sels lw_privs ++ tables_1 from List.mem_append_right _ (show _ ∈ tables_1 from List.mem_append_left _ (List.mem_of_getElem? (i := 202) rfl))
theorem nt_5 : Cond.methodLinkNest RX2 9 yX4_init RX8 ∈ lw_tbl := show _ ∈ k2_sels lw_privs ++ tables_1 from List.mem_append_right _ (show _ ∈ tables_1 from List.mem_append_left _ (List.mem_of_getElem? (i := 207) rfl))
theorem nt_6 : Cond.methodLinkNest RX8 55 yX0_init RX8 ∈ lw_tbl := show _ ∈ k2_sels lw_privs ++ tables_1 from List.mem_append_right _ (show _ ∈ tables_1 from List.mem_append_left _ (List.mem_of_getElem? (i := 221) rfl))
theorem nt_7 : Cond.methodLinkNest RX8 62 yX1_init RX8 ∈ lw_tbl := show _ ∈ k2_sels lw_privs ++ tables_1 from List.mem_append_right _ (show _ ∈ tables_1 from List.mem_append_left _ (List.mem_of_getElem? (i := 238) rfl))
theorem nst_tbl : ∀ w ∈ nstW, w ∈ lw_tbl := List.forall_mem_cons.mpr ⟨nt_0, List.forall_mem_cons.mpr ⟨nt_1, List.forall_mem_cons.mpr ⟨nt_2, List.forall_mem_cons.mpr ⟨nt_3, List.forall_mem_cons.mpr ⟨nt_4, List.forall_mem_cons.mpr ⟨nt_5, List.forall_mem_cons.mpr ⟨nt_6, List.forall_mem_cons.mpr ⟨nt_7, fun _ h => absurd h List.not_mem_nil⟩⟩⟩⟩⟩⟩⟩⟩
theorem lw_0 : ∀ w ∈ u_ws RX0 TX0 3, w ∈ WL := by
  intro w hw
  obtain ⟨k, hk, rfl⟩ := List.mem_map.mp hw
  have hk := List.mem_range.mp hk
  match k, hk with
  | 0, _ => exact w_1_229
  | 1, _ => exact w_1_231
  | 2, _ => exact w_1_233
  | k + 3, h => exact absurd h (by omega)
theorem ec_0 : e_cl 0 RX0 TX0 3 tyX0 := ⟨rfl, lw_0, tyX0_ok, nmX0, by decide +kernel, by decide +kernel⟩
theorem lw_1 : ∀ w ∈ u_ws RX1 TX1 1, w ∈ WL := by
  intro w hw
  obtain ⟨k, hk, rfl⟩ := List.mem_map.mp hw
  have hk := List.mem_range.mp hk
  match k, hk with
  | 0, _ => exact w_2_5
  | k + 1, h => exact absurd h (by omega)
theorem ec_1 : e_cl 1 RX1 TX1 1 tyX1 := ⟨rfl, lw_1, tyX1_ok, nmX1, by decide +kernel, by decide +kernel⟩
theorem lw_2 : ∀ w ∈ u_ws RX2 TX2 3, w ∈ WL := by
  intro w hw
  obtain ⟨k, hk, rfl⟩ := List.mem_map.mp hw
  have hk := List.mem_range.mp hk
  match k, hk with
  | 0, _ => exact w_1_212
  | 1, _ => exact w_1_214
  | 2, _ => exact w_1_216
  | k + 3, h => exact absurd h (by omega)
theorem ec_2 : e_cl 2 RX2 TX2 3 tyX2 := ⟨rfl, lw_2, tyX2_ok, nmX2, by decide +kernel, by decide +kernel⟩
theorem lw_3 : ∀ w ∈ u_ws RX4 TX4 18, w ∈ WL := by
  intro w hw
  obtain ⟨k, hk, rfl⟩ := List.mem_map.mp hw
  have hk := List.mem_range.mp hk
  match k, hk with
  | 0, _ => exact w_1_143
  | 1, _ => exact w_1_145
  | 2, _ => exact w_1_147
  | 3, _ => exact w_1_149
  | 4, _ => exact w_1_151
  | 5, _ => exact w_1_153
  | 6, _ => exact w_1_155
  | 7, _ => exact w_1_157
  | 8, _ => exact w_1_159
  | 9, _ => exact w_1_161
  | 10, _ => exact w_1_163
  | 11, _ => exact w_1_165
  | 12, _ => exact w_1_167
  | 13, _ => exact w_1_169
  | 14, _ => exact w_1_171
  | 15, _ => exact w_1_173
  | 16, _ => exact w_1_175
  | 17, _ => exact w_1_177
  | k + 18, h => exact absurd h (by omega)
theorem ec_3 : e_cl 3 RX4 TX4 18 tyX4 := ⟨rfl, lw_3, tyX4_ok, nmX4, by decide +kernel, by decide +kernel⟩
theorem lw_4 : ∀ w ∈ u_ws RX5 TX5 3, w ∈ WL := by
  intro w hw
  obtain ⟨k, hk, rfl⟩ := List.mem_map.mp hw
  have hk := List.mem_range.mp hk
  match k, hk with
  | 0, _ => exact w_1_193
  | 1, _ => exact w_1_195
  | 2, _ => exact w_1_197
  | k + 3, h => exact absurd h (by omega)
theorem ec_4 : e_cl 4 RX5 TX5 3 tyX5 := ⟨rfl, lw_4, tyX5_ok, nmX5, by decide +kernel, by decide +kernel⟩
theorem lw_5 : ∀ w ∈ u_ws RX6 TX6 9, w ∈ WL := by
  intro w hw
  obtain ⟨k, hk, rfl⟩ := List.mem_map.mp hw
  have hk := List.mem_range.mp hk
  match k, hk with
  | 0, _ => exact w_1_89
  | 1, _ => exact w_1_91
  | 2, _ => exact w_1_93
  | 3, _ => exact w_1_95
  | 4, _ => exact w_1_97
  | 5, _ => exact w_1_99
  | 6, _ => exact w_1_101
  | 7, _ => exact w_1_103
  | 8, _ => exact w_1_105
  | k + 9, h => exact absurd h (by omega)
theorem ec_5 : e_cl 5 RX6 TX6 9 tyX6 := ⟨rfl, lw_5, tyX6_ok, nmX6, by decide +kernel, by decide +kernel⟩
theorem lw_6 : ∀ w ∈ u_ws RX7 TX7 6, w ∈ WL := by
  intro w hw
  obtain ⟨k, hk, rfl⟩ := List.mem_map.mp hw
  have hk := List.mem_range.mp hk
  match k, hk with
  | 0, _ => exact w_1_35
  | 1, _ => exact w_1_37
  | 2, _ => exact w_1_39
  | 3, _ => exact w_1_41
  | 4, _ => exact w_1_43
  | 5, _ => exact w_1_45
  | k + 6, h => exact absurd h (by omega)
theorem ec_6 : e_cl 6 RX7 TX7 6 tyX7 := ⟨rfl, lw_6, tyX7_ok, nmX7, by decide +kernel, by decide +kernel⟩
theorem lw_7 : ∀ w ∈ u_ws RX8 TX8 10, w ∈ WL := by
  intro w hw
  obtain ⟨k, hk, rfl⟩ := List.mem_map.mp hw
  have hk := List.mem_range.mp hk
  match k, hk with
  | 0, _ => exact w_2_18
  | 1, _ => exact w_2_20
  | 2, _ => exact w_2_22
  | 3, _ => exact w_2_24
  | 4, _ => exact w_2_26
  | 5, _ => exact w_2_28
  | 6, _ => exact w_2_30
  | 7, _ => exact w_2_32
  | 8, _ => exact w_2_34
  | 9, _ => exact w_2_36
  | k + 10, h => exact absurd h (by omega)
theorem ec_7 : e_cl 7 RX8 TX8 10 tyX8 := ⟨rfl, lw_7, tyX8_ok, nmX8, by decide +kernel, by decide +kernel⟩
theorem lw_8 : ∀ w ∈ u_ws RX9 TX9 22, w ∈ WL := by
  intro w hw
  obtain ⟨k, hk, rfl⟩ := List.mem_map.mp hw
  have hk := List.mem_range.mp hk
  match k, hk with
  | 0, _ => exact w_3_204
  | 1, _ => exact w_3_206
  | 2, _ => exact w_3_208
  | 3, _ => exact w_3_210
  | 4, _ => exact w_3_212
  | 5, _ => exact w_3_214
  | 6, _ => exact w_3_216
  | 7, _ => exact w_3_218
  | 8, _ => exact w_3_220
  | 9, _ => exact w_3_222
  | 10, _ => exact w_3_224
  | 11, _ => exact w_3_226
  | 12, _ => exact w_3_228
  | 13, _ => exact w_3_230
  | 14, _ => exact w_3_232
  | 15, _ => exact w_3_234
  | 16, _ => exact w_3_236
  | 17, _ => exact w_3_238
  | 18, _ => exact w_4_0
  | 19, _ => exact w_4_2
  | 20, _ => exact w_4_4
  | 21, _ => exact w_4_6
  | k + 22, h => exact absurd h (by omega)
theorem ec_8 : e_cl 8 RX9 TX9 22 tyX9 := ⟨rfl, lw_8, tyX9_ok, nmX9, by decide +kernel, by decide +kernel⟩
abbrev mX0_init : MI := (yX0_init, cX0_init, 1, none, 1, 20)
theorem hX0_init : e_mI mX0_init 0 := ⟨⟨w_1_223, w_1_7, ⟨by decide +kernel, by decide +kernel⟩, by decide +kernel, by decide +kernel⟩, w_1_222, rfl, rfl⟩
abbrev mX0_empty : MI := (yX0_empty, cX0_empty, 1, none, 0, 0)
theorem hX0_empty : e_mV mX0_empty 0 := ⟨⟨w_2_150, w_1_7, ⟨by decide +kernel, by decide +kernel⟩, by decide +kernel, by decide +kernel⟩, w_2_148, w_2_149⟩
abbrev mX0_addEntry : MI := (yX0_addEntry, cX0_addEntry, 3, (some .int), 0, 0)
theorem hX0_addEntry : e_mV mX0_addEntry 2 := ⟨⟨w_3_145, w_1_7, ⟨by decide +kernel, by decide +kernel⟩, by decide +kernel, by decide +kernel⟩, w_3_143, w_3_144⟩
abbrev mX0_firstWrong : MI := (yX0_firstWrong, cX0_firstWrong, 5, (some .int), 1, 21)
theorem hX0_firstWrong : e_mV mX0_firstWrong 2 := ⟨⟨w_2_228, w_1_7, ⟨by decide +kernel, by decide +kernel⟩, by decide +kernel, by decide +kernel⟩, w_2_226, w_2_227⟩
abbrev mX1_init : MI := (yX1_init, cX1_init, 1, none, 1, 20)
theorem hX1_init : e_mI mX1_init 0 := ⟨⟨w_2_0, w_1_8, ⟨by decide +kernel, by decide +kernel⟩, by decide +kernel, by decide +kernel⟩, w_1_239, rfl, rfl⟩
abbrev mX1_draw : MI := (yX1_draw, cX1_draw, 2, (some .int), 0, 0)
theorem hX1_draw : e_mV mX1_draw 1 := ⟨⟨w_3_124, w_1_8, ⟨by decide +kernel, by decide +kernel⟩, by decide +kernel, by decide +kernel⟩, w_3_122, w_3_123⟩
abbrev mX2_init : MI := (yX2_init, cX2_init, 1, none, 2, 40)
theorem hX2_init : e_mI mX2_init 0 := ⟨⟨w_1_204, w_1_6, ⟨by decide +kernel, by decide +kernel⟩, by decide +kernel, by decide +kernel⟩, w_1_203, rfl, rfl⟩
abbrev mX2_forget : MI := (yX2_forget, cX2_forget, 1, none, 0, 0)
theorem hX2_forget : e_mV mX2_forget 0 := ⟨⟨w_2_146, w_1_6, ⟨by decide +kernel, by decide +kernel⟩, by decide +kernel, by decide +kernel⟩, w_2_144, w_2_145⟩
abbrev mX2_take : MI := (yX2_take, cX2_take, 3, none, 3, 68)
theorem hX2_take : e_mV mX2_take 2 := ⟨⟨w_3_166, w_1_6, ⟨by decide +kernel, by decide +kernel⟩, by decide +kernel, by decide +kernel⟩, w_3_164, w_3_165⟩
abbrev mX2_give : MI := (yX2_give, cX2_give, 3, none, 3, 68)
theorem hX2_give : e_mV mX2_give 2 := ⟨⟨w_3_175, w_1_6, ⟨by decide +kernel, by decide +kernel⟩, by decide +kernel, by decide +kernel⟩, w_3_173, w_3_174⟩
abbrev mX3_isLevel : MI := (yX3_isLevel, cX3_isLevel, 1, (some .boolean), 0, 0)
theorem hX3_isLevel : e_mS mX3_isLevel 1 := ⟨⟨w_3_63, w_1_10, ⟨by decide +kernel, by decide +kernel⟩, by decide +kernel, by decide +kernel⟩, w_3_62⟩
abbrev mX3_join : MI := (yX3_join, cX3_join, 2, (some .int), 0, 0)
theorem hX3_join : e_mS mX3_join 2 := ⟨⟨w_2_218, w_1_10, ⟨by decide +kernel, by decide +kernel⟩, by decide +kernel, by decide +kernel⟩, w_2_217⟩
abbrev mX3_outcome : MI := (yX3_outcome, cX3_outcome, 7, (some .int), 0, 0)
theorem hX3_outcome : e_mS mX3_outcome 4 := ⟨⟨w_2_126, w_1_10, ⟨by decide +kernel, by decide +kernel⟩, by decide +kernel, by decide +kernel⟩, w_2_125⟩
abbrev mX4_init : MI := (yX4_init, cX4_init, 1, none, 1, 20)
theorem hX4_init : e_mI mX4_init 0 := ⟨⟨w_1_112, w_1_4, ⟨by decide +kernel, by decide +kernel⟩, by decide +kernel, by decide +kernel⟩, w_1_111, rfl, rfl⟩
abbrev mX4_copyFrom : MI := (yX4_copyFrom, cX4_copyFrom, 2, none, 2, 47)
theorem hX4_copyFrom : e_mV mX4_copyFrom 1 := ⟨⟨w_2_182, w_1_4, ⟨by decide +kernel, by decide +kernel⟩, by decide +kernel, by decide +kernel⟩, w_2_180, w_2_181⟩
abbrev mX4_copyRow : MI := (yX4_copyRow, cX4_copyRow, 2, none, 1, 26)
theorem hX4_copyRow : e_mS mX4_copyRow 2 := ⟨⟨w_2_185, w_1_4, ⟨by decide +kernel, by decide +kernel⟩, by decide +kernel, by decide +kernel⟩, w_2_184⟩
abbrev mX4_begin : MI := (yX4_begin, cX4_begin, 3, none, 3, 72)
theorem hX4_begin : e_mV mX4_begin 1 := ⟨⟨w_2_111, w_1_4, ⟨by decide +kernel, by decide +kernel⟩, by decide +kernel, by decide +kernel⟩, w_2_109, w_2_110⟩
abbrev mX4_isStill : MI := (yX4_isStill, cX4_isStill, 1, (some .boolean), 2, 43)
theorem hX4_isStill : e_mV mX4_isStill 0 := ⟨⟨w_2_162, w_1_4, ⟨by decide +kernel, by decide +kernel⟩, by decide +kernel, by decide +kernel⟩, w_2_160, w_2_161⟩
abbrev mX4_earliest : MI := (yX4_earliest, cX4_earliest, 3, (some .int), 1, 21)
theorem hX4_earliest : e_mV mX4_earliest 0 := ⟨⟨w_2_166, w_1_4, ⟨by decide +kernel, by decide +kernel⟩, by decide +kernel, by decide +kernel⟩, w_2_165, WL_p (q := (yX4_earliest, 18)) 12 rfl⟩
abbrev mX4_outcomeOf : MI := (yX4_outcomeOf, cX4_outcomeOf, 3, (some .int), 1, 26)
theorem hX4_outcomeOf : e_mV mX4_outcomeOf 2 := ⟨⟨w_2_123, w_1_4, ⟨by decide +kernel, by decide +kernel⟩, by decide +kernel, by decide +kernel⟩, w_2_121, w_2_122⟩
abbrev mX4_drivenLevel : MI := (yX4_drivenLevel, cX4_drivenLevel, 6, (some .int), 1, 21)
theorem hX4_drivenLevel : e_mV mX4_drivenLevel 3 := ⟨⟨w_2_215, w_1_4, ⟨by decide +kernel, by decide +kernel⟩, by decide +kernel, by decide +kernel⟩, w_2_213, w_2_214⟩
abbrev mX4_holdingGates : MI := (yX4_holdingGates, cX4_holdingGates, 4, (some .int), 2, 48)
theorem hX4_holdingGates : e_mV mX4_holdingGates 1 := ⟨⟨w_2_174, w_1_4, ⟨by decide +kernel, by decide +kernel⟩, by decide +kernel, by decide +kernel⟩, w_2_172, w_2_173⟩
abbrev mX4_changeTime : MI := (yX4_changeTime, cX4_changeTime, 3, (some .int), 2, 44)
theorem hX4_changeTime : e_mV mX4_changeTime 2 := ⟨⟨w_3_15, w_1_4, ⟨by decide +kernel, by decide +kernel⟩, by decide +kernel, by decide +kernel⟩, w_3_13, w_3_14⟩
abbrev mX4_changeLevel : MI := (yX4_changeLevel, cX4_changeLevel, 3, (some .int), 2, 44)
theorem hX4_changeLevel : e_mV mX4_changeLevel 2 := ⟨⟨w_3_30, w_1_4, ⟨by decide +kernel, by decide +kernel⟩, by decide +kernel, by decide +kernel⟩, w_3_28, w_3_29⟩
abbrev mX4_hasChange : MI := (yX4_hasChange, cX4_hasChange, 3, (some .boolean), 1, 21)
theorem hX4_hasChange : e_mV mX4_hasChange 2 := ⟨⟨w_3_19, w_1_4, ⟨by decide +kernel, by decide +kernel⟩, by decide +kernel, by decide +kernel⟩, w_3_18, WL_p (q := (yX4_hasChange, 18)) 19 rfl⟩
abbrev mX4_wavePlace : MI := (yX4_wavePlace, cX4_wavePlace, 3, (some .int), 1, 22)
theorem hX4_wavePlace : e_mV mX4_wavePlace 2 := ⟨⟨w_3_23, w_1_4, ⟨by decide +kernel, by decide +kernel⟩, by decide +kernel, by decide +kernel⟩, w_3_22, WL_p (q := (yX4_wavePlace, 18)) 20 rfl⟩
abbrev mX4_waitingTime : MI := (yX4_waitingTime, cX4_waitingTime, 3, (some .int), 1, 22)
theorem hX4_waitingTime : e_mV mX4_waitingTime 2 := ⟨⟨w_3_48, w_1_4, ⟨by decide +kernel, by decide +kernel⟩, by decide +kernel, by decide +kernel⟩, w_3_46, w_3_47⟩
abbrev mX4_waitingLevel : MI := (yX4_waitingLevel, cX4_waitingLevel, 3, (some .int), 1, 22)
theorem hX4_waitingLevel : e_mV mX4_waitingLevel 2 := ⟨⟨w_3_56, w_1_4, ⟨by decide +kernel, by decide +kernel⟩, by decide +kernel, by decide +kernel⟩, w_3_54, w_3_55⟩
abbrev mX4_hasWaiting : MI := (yX4_hasWaiting, cX4_hasWaiting, 3, (some .boolean), 0, 0)
theorem hX4_hasWaiting : e_mV mX4_hasWaiting 2 := ⟨⟨w_3_52, w_1_4, ⟨by decide +kernel, by decide +kernel⟩, by decide +kernel, by decide +kernel⟩, w_3_51, WL_p (q := (yX4_hasWaiting, 18)) 21 rfl⟩
abbrev mX4_handIsFull : MI := (yX4_handIsFull, cX4_handIsFull, 1, (some .boolean), 0, 0)
theorem hX4_handIsFull : e_mV mX4_handIsFull 0 := ⟨⟨w_3_101, w_1_4, ⟨by decide +kernel, by decide +kernel⟩, by decide +kernel, by decide +kernel⟩, w_3_99, w_3_100⟩
abbrev mX4_addByHand : MI := (yX4_addByHand, cX4_addByHand, 5, none, 1, 20)
theorem hX4_addByHand : e_mV mX4_addByHand 3 := ⟨⟨w_3_106, w_1_4, ⟨by decide +kernel, by decide +kernel⟩, by decide +kernel, by decide +kernel⟩, w_3_104, w_3_105⟩
abbrev mX4_tellAll : MI := (yX4_tellAll, cX4_tellAll, 3, none, 2, 50)
theorem hX4_tellAll : e_mV mX4_tellAll 1 := ⟨⟨w_2_119, w_1_4, ⟨by decide +kernel, by decide +kernel⟩, by decide +kernel, by decide +kernel⟩, w_2_117, w_2_118⟩
abbrev mX4_tellLookers : MI := (yX4_tellLookers, cX4_tellLookers, 4, none, 2, 50)
theorem hX4_tellLookers : e_mV mX4_tellLookers 2 := ⟨⟨w_2_223, w_1_4, ⟨by decide +kernel, by decide +kernel⟩, by decide +kernel, by decide +kernel⟩, w_2_222, WL_p (q := (yX4_tellLookers, 18)) 18 rfl⟩
abbrev mX4_tellGate : MI := (yX4_tellGate, cX4_tellGate, 6, none, 1, 25)
theorem hX4_tellGate : e_mV mX4_tellGate 3 := ⟨⟨w_2_130, w_1_4, ⟨by decide +kernel, by decide +kernel⟩, by decide +kernel, by decide +kernel⟩, w_2_129, WL_p (q := (yX4_tellGate, 18)) 9 rfl⟩
abbrev mX4_alikeAtEnd : MI := (yX4_alikeAtEnd, cX4_alikeAtEnd, 5, (some .int), 0, 0)
theorem hX4_alikeAtEnd : e_mV mX4_alikeAtEnd 2 := ⟨⟨w_2_134, w_1_4, ⟨by decide +kernel, by decide +kernel⟩, by decide +kernel, by decide +kernel⟩, w_2_133, WL_p (q := (yX4_alikeAtEnd, 18)) 10 rfl⟩
abbrev mX4_dropFirst : MI := (yX4_dropFirst, cX4_dropFirst, 6, none, 0, 0)
theorem hX4_dropFirst : e_mV mX4_dropFirst 2 := ⟨⟨w_2_138, w_1_4, ⟨by decide +kernel, by decide +kernel⟩, by decide +kernel, by decide +kernel⟩, w_2_137, WL_p (q := (yX4_dropFirst, 18)) 11 rfl⟩
abbrev mX4_emptyQueues : MI := (yX4_emptyQueues, cX4_emptyQueues, 2, none, 0, 0)
theorem hX4_emptyQueues : e_mV mX4_emptyQueues 0 := ⟨⟨w_2_115, w_1_4, ⟨by decide +kernel, by decide +kernel⟩, by decide +kernel, by decide +kernel⟩, w_2_114, WL_p (q := (yX4_emptyQueues, 18)) 8 rfl⟩
abbrev mX4_advanceTo : MI := (yX4_advanceTo, cX4_advanceTo, 4, (some .int), 5, 120)
theorem hX4_advanceTo : e_mV mX4_advanceTo 2 := ⟨⟨w_3_88, w_1_4, ⟨by decide +kernel, by decide +kernel⟩, by decide +kernel, by decide +kernel⟩, w_3_86, w_3_87⟩
abbrev mX4_advance : MI := (yX4_advance, cX4_advance, 4, none, 4, 97)
theorem hX4_advance : e_mV mX4_advance 1 := ⟨⟨w_2_192, w_1_4, ⟨by decide +kernel, by decide +kernel⟩, by decide +kernel, by decide +kernel⟩, w_2_190, w_2_191⟩
abbrev mX4_makeCycle : MI := (yX4_makeCycle, cX4_makeCycle, 5, (some .boolean), 3, 73)
theorem hX4_makeCycle : e_mV mX4_makeCycle 1 := ⟨⟨w_2_199, w_1_4, ⟨by decide +kernel, by decide +kernel⟩, by decide +kernel, by decide +kernel⟩, w_2_198, WL_p (q := (yX4_makeCycle, 18)) 14 rfl⟩
abbrev mX4_takeFromQueues : MI := (yX4_takeFromQueues, cX4_takeFromQueues, 4, (some .int), 1, 25)
theorem hX4_takeFromQueues : e_mV mX4_takeFromQueues 1 := ⟨⟨w_2_203, w_1_4, ⟨by decide +kernel, by decide +kernel⟩, by decide +kernel, by decide +kernel⟩, w_2_202, WL_p (q := (yX4_takeFromQueues, 18)) 15 rfl⟩
abbrev mX4_takeByHand : MI := (yX4_takeByHand, cX4_takeByHand, 4, (some .int), 2, 43)
theorem hX4_takeByHand : e_mV mX4_takeByHand 0 := ⟨⟨w_2_207, w_1_4, ⟨by decide +kernel, by decide +kernel⟩, by decide +kernel, by decide +kernel⟩, w_2_206, WL_p (q := (yX4_takeByHand, 18)) 16 rfl⟩
abbrev mX4_changeWire : MI := (yX4_changeWire, cX4_changeWire, 3, (some .int), 1, 21)
theorem hX4_changeWire : e_mV mX4_changeWire 2 := ⟨⟨w_2_211, w_1_4, ⟨by decide +kernel, by decide +kernel⟩, by decide +kernel, by decide +kernel⟩, w_2_210, WL_p (q := (yX4_changeWire, 18)) 17 rfl⟩
abbrev mX5_init : MI := (yX5_init, cX5_init, 2, none, 2, 40)
theorem hX5_init : e_mI mX5_init 0 := ⟨⟨w_1_184, w_1_5, ⟨by decide +kernel, by decide +kernel⟩, by decide +kernel, by decide +kernel⟩, w_1_183, rfl, rfl⟩
abbrev mX5_forget : MI := (yX5_forget, cX5_forget, 1, none, 0, 0)
theorem hX5_forget : e_mV mX5_forget 0 := ⟨⟨w_2_142, w_1_5, ⟨by decide +kernel, by decide +kernel⟩, by decide +kernel, by decide +kernel⟩, w_2_140, w_2_141⟩
abbrev mX5_remember : MI := (yX5_remember, cX5_remember, 3, none, 3, 68)
theorem hX5_remember : e_mV mX5_remember 1 := ⟨⟨w_3_78, w_1_5, ⟨by decide +kernel, by decide +kernel⟩, by decide +kernel, by decide +kernel⟩, w_3_76, w_3_77⟩
abbrev mX5_bringBack : MI := (yX5_bringBack, cX5_bringBack, 4, none, 3, 68)
theorem hX5_bringBack : e_mV mX5_bringBack 2 := ⟨⟨w_3_136, w_1_5, ⟨by decide +kernel, by decide +kernel⟩, by decide +kernel, by decide +kernel⟩, w_3_134, w_3_135⟩
abbrev mX6_init : MI := (yX6_init, cX6_init, 1, none, 1, 20)
theorem hX6_init : e_mI mX6_init 0 := ⟨⟨w_1_53, w_1_3, ⟨by decide +kernel, by decide +kernel⟩, by decide +kernel, by decide +kernel⟩, w_1_52, rfl, rfl⟩
abbrev mX6_empty : MI := (yX6_empty, cX6_empty, 1, none, 0, 0)
theorem hX6_empty : e_mV mX6_empty 0 := ⟨⟨w_2_60, w_1_3, ⟨by decide +kernel, by decide +kernel⟩, by decide +kernel, by decide +kernel⟩, w_2_58, w_2_59⟩
abbrev mX6_hasWire : MI := (yX6_hasWire, cX6_hasWire, 2, (some .boolean), 0, 0)
theorem hX6_hasWire : e_mV mX6_hasWire 1 := ⟨⟨w_2_232, w_1_3, ⟨by decide +kernel, by decide +kernel⟩, by decide +kernel, by decide +kernel⟩, w_2_230, w_2_231⟩
abbrev mX6_hasGate : MI := (yX6_hasGate, cX6_hasGate, 2, (some .boolean), 0, 0)
theorem hX6_hasGate : e_mV mX6_hasGate 1 := ⟨⟨w_3_38, w_1_3, ⟨by decide +kernel, by decide +kernel⟩, by decide +kernel, by decide +kernel⟩, w_3_36, w_3_37⟩
abbrev mX6_addWire : MI := (yX6_addWire, cX6_addWire, 2, none, 0, 0)
theorem hX6_addWire : e_mV mX6_addWire 1 := ⟨⟨w_2_95, w_1_3, ⟨by decide +kernel, by decide +kernel⟩, by decide +kernel, by decide +kernel⟩, w_2_93, w_2_94⟩
abbrev mX6_looks : MI := (yX6_looks, cX6_looks, 3, (some .int), 0, 0)
theorem hX6_looks : e_mV mX6_looks 1 := ⟨⟨w_2_103, w_1_3, ⟨by decide +kernel, by decide +kernel⟩, by decide +kernel, by decide +kernel⟩, w_2_101, w_2_102⟩
abbrev mX6_driversOf : MI := (yX6_driversOf, cX6_driversOf, 4, (some .int), 0, 0)
theorem hX6_driversOf : e_mV mX6_driversOf 1 := ⟨⟨w_3_2, w_1_3, ⟨by decide +kernel, by decide +kernel⟩, by decide +kernel, by decide +kernel⟩, w_3_0, w_3_1⟩
abbrev mX6_lookersAt : MI := (yX6_lookersAt, cX6_lookersAt, 4, (some .int), 1, 22)
theorem hX6_lookersAt : e_mV mX6_lookersAt 1 := ⟨⟨w_3_6, w_1_3, ⟨by decide +kernel, by decide +kernel⟩, by decide +kernel, by decide +kernel⟩, w_3_4, w_3_5⟩
abbrev mX7_init : MI := (yX7_init, cX7_init, 1, none, 1, 20)
theorem hX7_init : e_mI mX7_init 0 := ⟨⟨w_1_25, w_1_2, ⟨by decide +kernel, by decide +kernel⟩, by decide +kernel, by decide +kernel⟩, w_1_24, rfl, rfl⟩
abbrev mX7_addLetter : MI := (yX7_addLetter, cX7_addLetter, 2, (some .int), 0, 0)
theorem hX7_addLetter : e_mV mX7_addLetter 1 := ⟨⟨w_2_47, w_1_2, ⟨by decide +kernel, by decide +kernel⟩, by decide +kernel, by decide +kernel⟩, w_2_45, w_2_46⟩
abbrev mX7_dropText : MI := (yX7_dropText, cX7_dropText, 1, none, 0, 0)
theorem hX7_dropText : e_mV mX7_dropText 0 := ⟨⟨w_2_107, w_1_2, ⟨by decide +kernel, by decide +kernel⟩, by decide +kernel, by decide +kernel⟩, w_2_105, w_2_106⟩
abbrev mX7_readInto : MI := (yX7_readInto, cX7_readInto, 3, (some .int), 5, 107)
theorem hX7_readInto : e_mV mX7_readInto 1 := ⟨⟨w_2_56, w_1_2, ⟨by decide +kernel, by decide +kernel⟩, by decide +kernel, by decide +kernel⟩, w_2_54, w_2_55⟩
abbrev mX7_readClause : MI := (yX7_readClause, cX7_readClause, 2, none, 4, 86)
theorem hX7_readClause : e_mV mX7_readClause 1 := ⟨⟨w_2_72, w_1_2, ⟨by decide +kernel, by decide +kernel⟩, by decide +kernel, by decide +kernel⟩, w_2_71, WL_p (q := (yX7_readClause, 6)) 2 rfl⟩
abbrev mX7_readWire : MI := (yX7_readWire, cX7_readWire, 3, none, 3, 63)
theorem hX7_readWire : e_mV mX7_readWire 1 := ⟨⟨w_2_76, w_1_2, ⟨by decide +kernel, by decide +kernel⟩, by decide +kernel, by decide +kernel⟩, w_2_75, WL_p (q := (yX7_readWire, 6)) 3 rfl⟩
abbrev mX7_readGate : MI := (yX7_readGate, cX7_readGate, 4, none, 3, 63)
theorem hX7_readGate : e_mV mX7_readGate 1 := ⟨⟨w_2_99, w_1_2, ⟨by decide +kernel, by decide +kernel⟩, by decide +kernel, by decide +kernel⟩, w_2_98, WL_p (q := (yX7_readGate, 6)) 7 rfl⟩
abbrev mX7_readNumber : MI := (yX7_readNumber, cX7_readNumber, 4, (some .int), 2, 40)
theorem hX7_readNumber : e_mV mX7_readNumber 1 := ⟨⟨w_2_84, w_1_2, ⟨by decide +kernel, by decide +kernel⟩, by decide +kernel, by decide +kernel⟩, w_2_83, WL_p (q := (yX7_readNumber, 6)) 5 rfl⟩
abbrev mX7_readEnd : MI := (yX7_readEnd, cX7_readEnd, 1, none, 2, 40)
theorem hX7_readEnd : e_mV mX7_readEnd 0 := ⟨⟨w_2_91, w_1_2, ⟨by decide +kernel, by decide +kernel⟩, by decide +kernel, by decide +kernel⟩, w_2_90, WL_p (q := (yX7_readEnd, 6)) 6 rfl⟩
abbrev mX7_skipBlanks : MI := (yX7_skipBlanks, cX7_skipBlanks, 1, none, 1, 20)
theorem hX7_skipBlanks : e_mV mX7_skipBlanks 0 := ⟨⟨w_2_64, w_1_2, ⟨by decide +kernel, by decide +kernel⟩, by decide +kernel, by decide +kernel⟩, w_2_63, WL_p (q := (yX7_skipBlanks, 6)) 0 rfl⟩
abbrev mX7_letterHere : MI := (yX7_letterHere, cX7_letterHere, 1, (some .int), 0, 0)
theorem hX7_letterHere : e_mV mX7_letterHere 0 := ⟨⟨w_2_68, w_1_2, ⟨by decide +kernel, by decide +kernel⟩, by decide +kernel, by decide +kernel⟩, w_2_67, WL_p (q := (yX7_letterHere, 6)) 1 rfl⟩
abbrev mX7_isFigure : MI := (yX7_isFigure, cX7_isFigure, 1, (some .boolean), 0, 0)
theorem hX7_isFigure : e_mS mX7_isFigure 1 := ⟨⟨w_2_87, w_1_2, ⟨by decide +kernel, by decide +kernel⟩, by decide +kernel, by decide +kernel⟩, w_2_86⟩
abbrev mX7_findFault : MI := (yX7_findFault, cX7_findFault, 3, none, 0, 0)
theorem hX7_findFault : e_mV mX7_findFault 2 := ⟨⟨w_2_80, w_1_2, ⟨by decide +kernel, by decide +kernel⟩, by decide +kernel, by decide +kernel⟩, w_2_79, WL_p (q := (yX7_findFault, 6)) 4 rfl⟩
abbrev mX8_init : MI := (yX8_init, cX8_init, 1, none, 3, 61)
theorem hX8_init : e_mI mX8_init 0 := ⟨⟨w_1_17, w_1_1, ⟨by decide +kernel, by decide +kernel⟩, by decide +kernel, by decide +kernel⟩, w_1_16, rfl, rfl⟩
abbrev mX8_feed : MI := (yX8_feed, cX8_feed, 2, (some .int), 1, 21)
theorem hX8_feed : e_mV mX8_feed 1 := ⟨⟨w_2_42, w_1_1, ⟨by decide +kernel, by decide +kernel⟩, by decide +kernel, by decide +kernel⟩, w_2_40, w_2_41⟩
abbrev mX8_wires : MI := (yX8_wires, cX8_wires, 3, (some .int), 6, 129)
theorem hX8_wires : e_mV mX8_wires 0 := ⟨⟨w_2_52, w_1_1, ⟨by decide +kernel, by decide +kernel⟩, by decide +kernel, by decide +kernel⟩, w_2_50, w_2_51⟩
abbrev mX8_fault : MI := (yX8_fault, cX8_fault, 1, (some .int), 0, 0)
theorem hX8_fault : e_mV mX8_fault 0 := ⟨⟨w_2_154, w_1_1, ⟨by decide +kernel, by decide +kernel⟩, by decide +kernel, by decide +kernel⟩, w_2_152, w_2_153⟩
abbrev mX8_told : MI := (yX8_told, cX8_told, 2, (some .int), 6, 141)
theorem hX8_told : e_mV mX8_told 1 := ⟨⟨w_2_158, w_1_1, ⟨by decide +kernel, by decide +kernel⟩, by decide +kernel, by decide +kernel⟩, w_2_156, w_2_157⟩
abbrev mX8_wire : MI := (yX8_wire, cX8_wire, 3, (some .int), 2, 45)
theorem hX8_wire : e_mV mX8_wire 2 := ⟨⟨w_2_236, w_1_1, ⟨by decide +kernel, by decide +kernel⟩, by decide +kernel, by decide +kernel⟩, w_2_234, w_2_235⟩
abbrev mX8_wave : MI := (yX8_wave, cX8_wave, 4, (some .int), 3, 66)
theorem hX8_wave : e_mV mX8_wave 3 := ⟨⟨w_3_11, w_1_1, ⟨by decide +kernel, by decide +kernel⟩, by decide +kernel, by decide +kernel⟩, w_3_9, w_3_10⟩
abbrev mX8_gate : MI := (yX8_gate, cX8_gate, 3, (some .int), 2, 48)
theorem hX8_gate : e_mV mX8_gate 2 := ⟨⟨w_3_34, w_1_1, ⟨by decide +kernel, by decide +kernel⟩, by decide +kernel, by decide +kernel⟩, w_3_32, w_3_33⟩
abbrev mX8_queue : MI := (yX8_queue, cX8_queue, 4, (some .int), 2, 44)
theorem hX8_queue : e_mV mX8_queue 3 := ⟨⟨w_3_44, w_1_1, ⟨by decide +kernel, by decide +kernel⟩, by decide +kernel, by decide +kernel⟩, w_3_42, w_3_43⟩
abbrev mX8_resolved : MI := (yX8_resolved, cX8_resolved, 3, (some .int), 1, 21)
theorem hX8_resolved : e_mV mX8_resolved 2 := ⟨⟨w_3_60, w_1_1, ⟨by decide +kernel, by decide +kernel⟩, by decide +kernel, by decide +kernel⟩, w_3_58, w_3_59⟩
abbrev mX8_comes : MI := (yX8_comes, cX8_comes, 4, (some .int), 1, 26)
theorem hX8_comes : e_mV mX8_comes 3 := ⟨⟨w_3_68, w_1_1, ⟨by decide +kernel, by decide +kernel⟩, by decide +kernel, by decide +kernel⟩, w_3_66, w_3_67⟩
abbrev mX8_step : MI := (yX8_step, cX8_step, 1, (some .int), 5, 120)
theorem hX8_step : e_mV mX8_step 0 := ⟨⟨w_3_73, w_1_1, ⟨by decide +kernel, by decide +kernel⟩, by decide +kernel, by decide +kernel⟩, w_3_71, w_3_72⟩
abbrev mX8_run : MI := (yX8_run, cX8_run, 2, (some .int), 6, 143)
theorem hX8_run : e_mV mX8_run 1 := ⟨⟨w_3_84, w_1_1, ⟨by decide +kernel, by decide +kernel⟩, by decide +kernel, by decide +kernel⟩, w_3_82, w_3_83⟩
abbrev mX8_set : MI := (yX8_set, cX8_set, 4, (some .int), 4, 90)
theorem hX8_set : e_mV mX8_set 3 := ⟨⟨w_3_93, w_1_1, ⟨by decide +kernel, by decide +kernel⟩, by decide +kernel, by decide +kernel⟩, w_3_91, w_3_92⟩
abbrev mX8_calm : MI := (yX8_calm, cX8_calm, 1, (some .int), 4, 90)
theorem hX8_calm : e_mV mX8_calm 0 := ⟨⟨w_3_111, w_1_1, ⟨by decide +kernel, by decide +kernel⟩, by decide +kernel, by decide +kernel⟩, w_3_109, w_3_110⟩
abbrev mX8_drift : MI := (yX8_drift, cX8_drift, 3, (some .int), 6, 143)
theorem hX8_drift : e_mV mX8_drift 1 := ⟨⟨w_3_116, w_1_1, ⟨by decide +kernel, by decide +kernel⟩, by decide +kernel, by decide +kernel⟩, w_3_114, w_3_115⟩
abbrev mX8_undo : MI := (yX8_undo, cX8_undo, 2, (some .int), 4, 91)
theorem hX8_undo : e_mV mX8_undo 1 := ⟨⟨w_3_132, w_1_1, ⟨by decide +kernel, by decide +kernel⟩, by decide +kernel, by decide +kernel⟩, w_3_130, w_3_131⟩
abbrev mX8_write : MI := (yX8_write, cX8_write, 3, (some .int), 1, 22)
theorem hX8_write : e_mV mX8_write 2 := ⟨⟨w_3_141, w_1_1, ⟨by decide +kernel, by decide +kernel⟩, by decide +kernel, by decide +kernel⟩, w_3_139, w_3_140⟩
abbrev mX8_tear : MI := (yX8_tear, cX8_tear, 2, (some .int), 1, 20)
theorem hX8_tear : e_mV mX8_tear 0 := ⟨⟨w_3_150, w_1_1, ⟨by decide +kernel, by decide +kernel⟩, by decide +kernel, by decide +kernel⟩, w_3_148, w_3_149⟩
abbrev mX8_seed : MI := (yX8_seed, cX8_seed, 3, (some .int), 0, 0)
theorem hX8_seed : e_mV mX8_seed 1 := ⟨⟨w_3_154, w_1_1, ⟨by decide +kernel, by decide +kernel⟩, by decide +kernel, by decide +kernel⟩, w_3_152, w_3_153⟩
abbrev mX8_keep : MI := (yX8_keep, cX8_keep, 3, (some .int), 4, 90)
theorem hX8_keep : e_mV mX8_keep 1 := ⟨⟨w_3_158, w_1_1, ⟨by decide +kernel, by decide +kernel⟩, by decide +kernel, by decide +kernel⟩, w_3_156, w_3_157⟩
abbrev mX8_goBack : MI := (yX8_goBack, cX8_goBack, 3, (some .int), 4, 90)
theorem hX8_goBack : e_mV mX8_goBack 1 := ⟨⟨w_3_171, w_1_1, ⟨by decide +kernel, by decide +kernel⟩, by decide +kernel, by decide +kernel⟩, w_3_169, w_3_170⟩
abbrev mX8_imageOf : MI := (yX8_imageOf, cX8_imageOf, 2, (some (.object RX2)), 0, 0)
theorem hX8_imageOf : e_mV mX8_imageOf 1 := ⟨⟨w_3_162, w_1_1, ⟨by decide +kernel, by decide +kernel⟩, by decide +kernel, by decide +kernel⟩, w_3_161, WL_p (q := (yX8_imageOf, 10)) 24 rfl⟩
abbrev mX8_maySetByHand : MI := (yX8_maySetByHand, cX8_maySetByHand, 2, (some .boolean), 1, 23)
theorem hX8_maySetByHand : e_mV mX8_maySetByHand 1 := ⟨⟨w_3_97, w_1_1, ⟨by decide +kernel, by decide +kernel⟩, by decide +kernel, by decide +kernel⟩, w_3_96, WL_p (q := (yX8_maySetByHand, 10)) 22 rfl⟩
abbrev mX8_driftOnce : MI := (yX8_driftOnce, cX8_driftOnce, 4, none, 5, 120)
theorem hX8_driftOnce : e_mV mX8_driftOnce 0 := ⟨⟨w_3_120, w_1_1, ⟨by decide +kernel, by decide +kernel⟩, by decide +kernel, by decide +kernel⟩, w_3_119, WL_p (q := (yX8_driftOnce, 10)) 23 rfl⟩
abbrev mX8_stepsTillStill : MI := (yX8_stepsTillStill, cX8_stepsTillStill, 2, (some .int), 5, 120)
theorem hX8_stepsTillStill : e_mV mX8_stepsTillStill 0 := ⟨⟨w_2_178, w_1_1, ⟨by decide +kernel, by decide +kernel⟩, by decide +kernel, by decide +kernel⟩, w_2_177, WL_p (q := (yX8_stepsTillStill, 10)) 13 rfl⟩
abbrev mJ9_floorMod_7cf53 : MI := (yJ9_floorMod_7cf53, cJ9_floorMod_7cf53, 3, (some .int), 0, 0)
theorem hJ9_floorMod_7cf53 : e_mS mJ9_floorMod_7cf53 2 := ⟨⟨w_3_26, w_1_11, ⟨by decide +kernel, by decide +kernel⟩, by decide +kernel, by decide +kernel⟩, w_3_25⟩
abbrev mX9_init : MI := (yX9_init, cX9_init, 1, none, 1, 20)
theorem hX9_init : e_mI mX9_init 0 := ⟨⟨w_3_180, w_1_9, ⟨by decide +kernel, by decide +kernel⟩, by decide +kernel, by decide +kernel⟩, w_3_179, rfl, rfl⟩
abbrev mX9_in : MI := (yX9_in, cX9_in, 3, (some .boolean), 0, 0)
theorem hX9_in : e_mS mX9_in 3 := ⟨⟨w_4_15, w_1_9, ⟨by decide +kernel, by decide +kernel⟩, by decide +kernel, by decide +kernel⟩, w_4_14⟩
abbrev mX9_least : MI := (yX9_least, cX9_least, 2, (some .int), 0, 0)
theorem hX9_least : e_mS mX9_least 2 := ⟨⟨w_4_123, w_1_9, ⟨by decide +kernel, by decide +kernel⟩, by decide +kernel, by decide +kernel⟩, w_4_122⟩
abbrev mX9_copyRow : MI := (yX9_copyRow, cX9_copyRow, 4, none, 0, 0)
theorem hX9_copyRow : e_mV mX9_copyRow 2 := ⟨⟨w_4_107, w_1_9, ⟨by decide +kernel, by decide +kernel⟩, by decide +kernel, by decide +kernel⟩, w_4_106, WL_p (q := (yX9_copyRow, 22)) 42 rfl⟩
abbrev mX9_isWire : MI := (yX9_isWire, cX9_isWire, 2, (some .boolean), 1, 22)
theorem hX9_isWire : e_mV mX9_isWire 1 := ⟨⟨w_4_150, w_1_9, ⟨by decide +kernel, by decide +kernel⟩, by decide +kernel, by decide +kernel⟩, w_4_149, WL_p (q := (yX9_isWire, 22)) 51 rfl⟩
abbrev mX9_isGate : MI := (yX9_isGate, cX9_isGate, 2, (some .boolean), 1, 22)
theorem hX9_isGate : e_mV mX9_isGate 1 := ⟨⟨w_4_171, w_1_9, ⟨by decide +kernel, by decide +kernel⟩, by decide +kernel, by decide +kernel⟩, w_4_170, WL_p (q := (yX9_isGate, 22)) 53 rfl⟩
abbrev mX9_isLevel : MI := (yX9_isLevel, cX9_isLevel, 1, (some .boolean), 1, 22)
theorem hX9_isLevel : e_mS mX9_isLevel 1 := ⟨⟨w_4_182, w_1_9, ⟨by decide +kernel, by decide +kernel⟩, by decide +kernel, by decide +kernel⟩, w_4_181⟩
abbrev mX9_of : MI := (yX9_of, cX9_of, 3, (some .int), 0, 0)
theorem hX9_of : e_mV mX9_of 2 := ⟨⟨w_4_53, w_1_9, ⟨by decide +kernel, by decide +kernel⟩, by decide +kernel, by decide +kernel⟩, w_4_52, WL_p (q := (yX9_of, 22)) 32 rfl⟩
abbrev mX9_firm : MI := (yX9_firm, cX9_firm, 1, (some .int), 0, 0)
theorem hX9_firm : e_mS mX9_firm 1 := ⟨⟨w_4_68, w_1_9, ⟨by decide +kernel, by decide +kernel⟩, by decide +kernel, by decide +kernel⟩, w_4_67⟩
abbrev mX9_together : MI := (yX9_together, cX9_together, 2, (some .int), 0, 0)
theorem hX9_together : e_mS mX9_together 2 := ⟨⟨w_4_134, w_1_9, ⟨by decide +kernel, by decide +kernel⟩, by decide +kernel, by decide +kernel⟩, w_4_133⟩
abbrev mX9_made : MI := (yX9_made, cX9_made, 5, (some .int), 1, 20)
theorem hX9_made : e_mS mX9_made 3 := ⟨⟨w_4_71, w_1_9, ⟨by decide +kernel, by decide +kernel⟩, by decide +kernel, by decide +kernel⟩, w_4_70⟩
abbrev mX9_comesOf : MI := (yX9_comesOf, cX9_comesOf, 5, (some .int), 2, 44)
theorem hX9_comesOf : e_mV mX9_comesOf 2 := ⟨⟨w_4_65, w_1_9, ⟨by decide +kernel, by decide +kernel⟩, by decide +kernel, by decide +kernel⟩, w_4_64, WL_p (q := (yX9_comesOf, 22)) 35 rfl⟩
abbrev mX9_looksAt : MI := (yX9_looksAt, cX9_looksAt, 3, (some .boolean), 1, 22)
theorem hX9_looksAt : e_mV mX9_looksAt 2 := ⟨⟨w_4_142, w_1_9, ⟨by decide +kernel, by decide +kernel⟩, by decide +kernel, by decide +kernel⟩, w_4_141, WL_p (q := (yX9_looksAt, 22)) 49 rfl⟩
abbrev mX9_driversOf : MI := (yX9_driversOf, cX9_driversOf, 4, (some .int), 1, 22)
theorem hX9_driversOf : e_mV mX9_driversOf 1 := ⟨⟨w_4_127, w_1_9, ⟨by decide +kernel, by decide +kernel⟩, by decide +kernel, by decide +kernel⟩, w_4_126, WL_p (q := (yX9_driversOf, 22)) 46 rfl⟩
abbrev mX9_drivenTo : MI := (yX9_drivenTo, cX9_drivenTo, 6, (some .int), 1, 22)
theorem hX9_drivenTo : e_mV mX9_drivenTo 3 := ⟨⟨w_4_131, w_1_9, ⟨by decide +kernel, by decide +kernel⟩, by decide +kernel, by decide +kernel⟩, w_4_130, WL_p (q := (yX9_drivenTo, 22)) 47 rfl⟩
abbrev mX9_dropFirst : MI := (yX9_dropFirst, cX9_dropFirst, 6, none, 0, 0)
theorem hX9_dropFirst : e_mV mX9_dropFirst 3 := ⟨⟨w_4_75, w_1_9, ⟨by decide +kernel, by decide +kernel⟩, by decide +kernel, by decide +kernel⟩, w_4_74, WL_p (q := (yX9_dropFirst, 22)) 36 rfl⟩
abbrev mX9_tell : MI := (yX9_tell, cX9_tell, 8, none, 3, 68)
theorem hX9_tell : e_mV mX9_tell 2 := ⟨⟨w_4_61, w_1_9, ⟨by decide +kernel, by decide +kernel⟩, by decide +kernel, by decide +kernel⟩, w_4_60, WL_p (q := (yX9_tell, 22)) 34 rfl⟩
abbrev mX9_tellAll : MI := (yX9_tellAll, cX9_tellAll, 3, none, 4, 95)
theorem hX9_tellAll : e_mV mX9_tellAll 1 := ⟨⟨w_4_57, w_1_9, ⟨by decide +kernel, by decide +kernel⟩, by decide +kernel, by decide +kernel⟩, w_4_56, WL_p (q := (yX9_tellAll, 22)) 33 rfl⟩
abbrev mX9_dropHand : MI := (yX9_dropHand, cX9_dropHand, 3, none, 0, 0)
theorem hX9_dropHand : e_mV mX9_dropHand 1 := ⟨⟨w_4_119, w_1_9, ⟨by decide +kernel, by decide +kernel⟩, by decide +kernel, by decide +kernel⟩, w_4_118, WL_p (q := (yX9_dropHand, 22)) 45 rfl⟩
abbrev mX9_waits : MI := (yX9_waits, cX9_waits, 5, (some .int), 0, 0)
theorem hX9_waits : e_mV mX9_waits 1 := ⟨⟨w_4_91, w_1_9, ⟨by decide +kernel, by decide +kernel⟩, by decide +kernel, by decide +kernel⟩, w_4_90, WL_p (q := (yX9_waits, 22)) 38 rfl⟩
abbrev mX9_change : MI := (yX9_change, cX9_change, 8, none, 1, 21)
theorem hX9_change : e_mV mX9_change 3 := ⟨⟨w_4_138, w_1_9, ⟨by decide +kernel, by decide +kernel⟩, by decide +kernel, by decide +kernel⟩, w_4_137, WL_p (q := (yX9_change, 22)) 48 rfl⟩
abbrev mX9_cycle : MI := (yX9_cycle, cX9_cycle, 10, (some .int), 4, 95)
theorem hX9_cycle : e_mV mX9_cycle 1 := ⟨⟨w_4_115, w_1_9, ⟨by decide +kernel, by decide +kernel⟩, by decide +kernel, by decide +kernel⟩, w_4_114, WL_p (q := (yX9_cycle, 22)) 44 rfl⟩
abbrev mX9_stepIn : MI := (yX9_stepIn, cX9_stepIn, 5, none, 5, 124)
theorem hX9_stepIn : e_mV mX9_stepIn 1 := ⟨⟨w_4_111, w_1_9, ⟨by decide +kernel, by decide +kernel⟩, by decide +kernel, by decide +kernel⟩, w_4_110, WL_p (q := (yX9_stepIn, 22)) 43 rfl⟩
abbrev mX9_feed : MI := (yX9_feed, cX9_feed, 2, (some .int), 1, 22)
theorem hX9_feed : e_mV mX9_feed 1 := ⟨⟨w_4_12, w_1_9, ⟨by decide +kernel, by decide +kernel⟩, by decide +kernel, by decide +kernel⟩, w_4_10, w_4_11⟩
abbrev mX9_fail : MI := (yX9_fail, cX9_fail, 3, none, 0, 0)
theorem hX9_fail : e_mV mX9_fail 2 := ⟨⟨w_4_37, w_1_9, ⟨by decide +kernel, by decide +kernel⟩, by decide +kernel, by decide +kernel⟩, w_4_36, WL_p (q := (yX9_fail, 22)) 28 rfl⟩
abbrev mX9_here : MI := (yX9_here, cX9_here, 1, (some .int), 0, 0)
theorem hX9_here : e_mV mX9_here 0 := ⟨⟨w_4_25, w_1_9, ⟨by decide +kernel, by decide +kernel⟩, by decide +kernel, by decide +kernel⟩, w_4_24, WL_p (q := (yX9_here, 22)) 25 rfl⟩
abbrev mX9_number : MI := (yX9_number, cX9_number, 5, (some .int), 1, 22)
theorem hX9_number : e_mV mX9_number 2 := ⟨⟨w_4_41, w_1_9, ⟨by decide +kernel, by decide +kernel⟩, by decide +kernel, by decide +kernel⟩, w_4_40, WL_p (q := (yX9_number, 22)) 29 rfl⟩
abbrev mX9_readWire : MI := (yX9_readWire, cX9_readWire, 2, none, 2, 46)
theorem hX9_readWire : e_mV mX9_readWire 1 := ⟨⟨w_4_33, w_1_9, ⟨by decide +kernel, by decide +kernel⟩, by decide +kernel, by decide +kernel⟩, w_4_32, WL_p (q := (yX9_readWire, 22)) 27 rfl⟩
abbrev mX9_readGate : MI := (yX9_readGate, cX9_readGate, 4, none, 2, 46)
theorem hX9_readGate : e_mV mX9_readGate 1 := ⟨⟨w_4_45, w_1_9, ⟨by decide +kernel, by decide +kernel⟩, by decide +kernel, by decide +kernel⟩, w_4_44, WL_p (q := (yX9_readGate, 22)) 30 rfl⟩
abbrev mX9_readClause : MI := (yX9_readClause, cX9_readClause, 3, none, 3, 69)
theorem hX9_readClause : e_mV mX9_readClause 0 := ⟨⟨w_4_29, w_1_9, ⟨by decide +kernel, by decide +kernel⟩, by decide +kernel, by decide +kernel⟩, w_4_28, WL_p (q := (yX9_readClause, 22)) 26 rfl⟩
abbrev mX9_begin : MI := (yX9_begin, cX9_begin, 2, none, 5, 117)
theorem hX9_begin : e_mV mX9_begin 0 := ⟨⟨w_4_49, w_1_9, ⟨by decide +kernel, by decide +kernel⟩, by decide +kernel, by decide +kernel⟩, w_4_48, WL_p (q := (yX9_begin, 22)) 31 rfl⟩
abbrev mX9_wires : MI := (yX9_wires, cX9_wires, 1, (some .int), 6, 138)
theorem hX9_wires : e_mV mX9_wires 0 := ⟨⟨w_4_21, w_1_9, ⟨by decide +kernel, by decide +kernel⟩, by decide +kernel, by decide +kernel⟩, w_4_19, w_4_20⟩
abbrev mX9_fault : MI := (yX9_fault, cX9_fault, 1, (some .int), 0, 0)
theorem hX9_fault : e_mV mX9_fault 0 := ⟨⟨w_4_79, w_1_9, ⟨by decide +kernel, by decide +kernel⟩, by decide +kernel, by decide +kernel⟩, w_4_77, w_4_78⟩
abbrev mX9_isStill : MI := (yX9_isStill, cX9_isStill, 2, (some .boolean), 1, 24)
theorem hX9_isStill : e_mV mX9_isStill 1 := ⟨⟨w_4_87, w_1_9, ⟨by decide +kernel, by decide +kernel⟩, by decide +kernel, by decide +kernel⟩, w_4_86, WL_p (q := (yX9_isStill, 22)) 37 rfl⟩
abbrev mX9_holds : MI := (yX9_holds, cX9_holds, 3, (some .int), 3, 68)
theorem hX9_holds : e_mV mX9_holds 0 := ⟨⟨w_4_95, w_1_9, ⟨by decide +kernel, by decide +kernel⟩, by decide +kernel, by decide +kernel⟩, w_4_94, WL_p (q := (yX9_holds, 22)) 39 rfl⟩
abbrev mX9_flickers : MI := (yX9_flickers, cX9_flickers, 3, (some .int), 0, 0)
theorem hX9_flickers : e_mV mX9_flickers 0 := ⟨⟨w_4_99, w_1_9, ⟨by decide +kernel, by decide +kernel⟩, by decide +kernel, by decide +kernel⟩, w_4_98, WL_p (q := (yX9_flickers, 22)) 40 rfl⟩
abbrev mX9_settles : MI := (yX9_settles, cX9_settles, 2, (some .int), 6, 148)
theorem hX9_settles : e_mV mX9_settles 0 := ⟨⟨w_4_103, w_1_9, ⟨by decide +kernel, by decide +kernel⟩, by decide +kernel, by decide +kernel⟩, w_4_102, WL_p (q := (yX9_settles, 22)) 41 rfl⟩
abbrev mX9_wrongEntry : MI := (yX9_wrongEntry, cX9_wrongEntry, 2, (some .int), 2, 43)
theorem hX9_wrongEntry : e_mV mX9_wrongEntry 0 := ⟨⟨w_4_146, w_1_9, ⟨by decide +kernel, by decide +kernel⟩, by decide +kernel, by decide +kernel⟩, w_4_145, WL_p (q := (yX9_wrongEntry, 22)) 50 rfl⟩
abbrev mX9_told : MI := (yX9_told, cX9_told, 2, (some .int), 7, 169)
theorem hX9_told : e_mV mX9_told 1 := ⟨⟨w_4_83, w_1_9, ⟨by decide +kernel, by decide +kernel⟩, by decide +kernel, by decide +kernel⟩, w_4_81, w_4_82⟩
abbrev mX9_lookersAt : MI := (yX9_lookersAt, cX9_lookersAt, 4, (some .int), 2, 44)
theorem hX9_lookersAt : e_mV mX9_lookersAt 1 := ⟨⟨w_4_159, w_1_9, ⟨by decide +kernel, by decide +kernel⟩, by decide +kernel, by decide +kernel⟩, w_4_158, WL_p (q := (yX9_lookersAt, 22)) 52 rfl⟩
abbrev mX9_wire : MI := (yX9_wire, cX9_wire, 3, (some .int), 3, 67)
theorem hX9_wire : e_mV mX9_wire 2 := ⟨⟨w_4_154, w_1_9, ⟨by decide +kernel, by decide +kernel⟩, by decide +kernel, by decide +kernel⟩, w_4_152, w_4_153⟩
abbrev mX9_wave : MI := (yX9_wave, cX9_wave, 4, (some .int), 2, 43)
theorem hX9_wave : e_mV mX9_wave 3 := ⟨⟨w_4_163, w_1_9, ⟨by decide +kernel, by decide +kernel⟩, by decide +kernel, by decide +kernel⟩, w_4_161, w_4_162⟩
abbrev mX9_gate : MI := (yX9_gate, cX9_gate, 3, (some .int), 3, 68)
theorem hX9_gate : e_mV mX9_gate 2 := ⟨⟨w_4_167, w_1_9, ⟨by decide +kernel, by decide +kernel⟩, by decide +kernel, by decide +kernel⟩, w_4_165, w_4_166⟩
abbrev mX9_queue : MI := (yX9_queue, cX9_queue, 4, (some .int), 2, 43)
theorem hX9_queue : e_mV mX9_queue 3 := ⟨⟨w_4_175, w_1_9, ⟨by decide +kernel, by decide +kernel⟩, by decide +kernel, by decide +kernel⟩, w_4_173, w_4_174⟩
abbrev mX9_resolved : MI := (yX9_resolved, cX9_resolved, 3, (some .int), 2, 42)
theorem hX9_resolved : e_mV mX9_resolved 2 := ⟨⟨w_4_179, w_1_9, ⟨by decide +kernel, by decide +kernel⟩, by decide +kernel, by decide +kernel⟩, w_4_177, w_4_178⟩
abbrev mX9_comes : MI := (yX9_comes, cX9_comes, 4, (some .int), 2, 44)
theorem hX9_comes : e_mV mX9_comes 3 := ⟨⟨w_4_186, w_1_9, ⟨by decide +kernel, by decide +kernel⟩, by decide +kernel, by decide +kernel⟩, w_4_184, w_4_185⟩
abbrev mX9_remember : MI := (yX9_remember, cX9_remember, 2, none, 1, 23)
theorem hX9_remember : e_mV mX9_remember 0 := ⟨⟨w_4_195, w_1_9, ⟨by decide +kernel, by decide +kernel⟩, by decide +kernel, by decide +kernel⟩, w_4_194, WL_p (q := (yX9_remember, 22)) 54 rfl⟩
abbrev mX9_step : MI := (yX9_step, cX9_step, 1, (some .int), 6, 148)
theorem hX9_step : e_mV mX9_step 0 := ⟨⟨w_4_190, w_1_9, ⟨by decide +kernel, by decide +kernel⟩, by decide +kernel, by decide +kernel⟩, w_4_188, w_4_189⟩
abbrev mX9_run : MI := (yX9_run, cX9_run, 4, (some .int), 6, 148)
theorem hX9_run : e_mV mX9_run 1 := ⟨⟨w_4_199, w_1_9, ⟨by decide +kernel, by decide +kernel⟩, by decide +kernel, by decide +kernel⟩, w_4_197, w_4_198⟩
abbrev mX9_mayBeSet : MI := (yX9_mayBeSet, cX9_mayBeSet, 2, (some .int), 2, 45)
theorem hX9_mayBeSet : e_mV mX9_mayBeSet 1 := ⟨⟨w_4_207, w_1_9, ⟨by decide +kernel, by decide +kernel⟩, by decide +kernel, by decide +kernel⟩, w_4_206, WL_p (q := (yX9_mayBeSet, 22)) 55 rfl⟩
abbrev mX9_layHand : MI := (yX9_layHand, cX9_layHand, 5, none, 0, 0)
theorem hX9_layHand : e_mV mX9_layHand 3 := ⟨⟨w_4_211, w_1_9, ⟨by decide +kernel, by decide +kernel⟩, by decide +kernel, by decide +kernel⟩, w_4_210, WL_p (q := (yX9_layHand, 22)) 56 rfl⟩
abbrev mX9_set : MI := (yX9_set, cX9_set, 5, (some .int), 3, 66)
theorem hX9_set : e_mV mX9_set 3 := ⟨⟨w_4_203, w_1_9, ⟨by decide +kernel, by decide +kernel⟩, by decide +kernel, by decide +kernel⟩, w_4_201, w_4_202⟩
abbrev mX9_calm : MI := (yX9_calm, cX9_calm, 1, (some .int), 5, 117)
theorem hX9_calm : e_mV mX9_calm 0 := ⟨⟨w_4_215, w_1_9, ⟨by decide +kernel, by decide +kernel⟩, by decide +kernel, by decide +kernel⟩, w_4_213, w_4_214⟩
abbrev mX9_draw : MI := (yX9_draw, cX9_draw, 4, (some .int), 0, 0)
theorem hX9_draw : e_mV mX9_draw 1 := ⟨⟨w_4_227, w_1_9, ⟨by decide +kernel, by decide +kernel⟩, by decide +kernel, by decide +kernel⟩, w_4_226, WL_p (q := (yX9_draw, 22)) 58 rfl⟩
abbrev mX9_time : MI := (yX9_time, cX9_time, 4, none, 6, 148)
theorem hX9_time : e_mV mX9_time 0 := ⟨⟨w_4_223, w_1_9, ⟨by decide +kernel, by decide +kernel⟩, by decide +kernel, by decide +kernel⟩, w_4_222, WL_p (q := (yX9_time, 22)) 57 rfl⟩
abbrev mX9_drift : MI := (yX9_drift, cX9_drift, 3, (some .int), 7, 171)
theorem hX9_drift : e_mV mX9_drift 1 := ⟨⟨w_4_219, w_1_9, ⟨by decide +kernel, by decide +kernel⟩, by decide +kernel, by decide +kernel⟩, w_4_217, w_4_218⟩
abbrev mX9_undo : MI := (yX9_undo, cX9_undo, 2, (some .int), 1, 23)
theorem hX9_undo : e_mV mX9_undo 1 := ⟨⟨w_4_235, w_1_9, ⟨by decide +kernel, by decide +kernel⟩, by decide +kernel, by decide +kernel⟩, w_4_233, w_4_234⟩
abbrev mX9_write : MI := (yX9_write, cX9_write, 3, (some .int), 2, 43)
theorem hX9_write : e_mV mX9_write 2 := ⟨⟨w_4_239, w_1_9, ⟨by decide +kernel, by decide +kernel⟩, by decide +kernel, by decide +kernel⟩, w_4_237, w_4_238⟩
abbrev mX9_tear : MI := (yX9_tear, cX9_tear, 2, (some .int), 0, 0)
theorem hX9_tear : e_mV mX9_tear 0 := ⟨⟨w_5_3, w_1_9, ⟨by decide +kernel, by decide +kernel⟩, by decide +kernel, by decide +kernel⟩, w_5_1, w_5_2⟩
abbrev mX9_seed : MI := (yX9_seed, cX9_seed, 3, (some .int), 0, 0)
theorem hX9_seed : e_mV mX9_seed 1 := ⟨⟨w_5_7, w_1_9, ⟨by decide +kernel, by decide +kernel⟩, by decide +kernel, by decide +kernel⟩, w_5_5, w_5_6⟩
abbrev mX9_keep : MI := (yX9_keep, cX9_keep, 2, (some .int), 1, 23)
theorem hX9_keep : e_mV mX9_keep 1 := ⟨⟨w_5_11, w_1_9, ⟨by decide +kernel, by decide +kernel⟩, by decide +kernel, by decide +kernel⟩, w_5_9, w_5_10⟩
abbrev mX9_goBack : MI := (yX9_goBack, cX9_goBack, 2, (some .int), 1, 23)
theorem hX9_goBack : e_mV mX9_goBack 1 := ⟨⟨w_5_15, w_1_9, ⟨by decide +kernel, by decide +kernel⟩, by decide +kernel, by decide +kernel⟩, w_5_13, w_5_14⟩
abbrev mL_law : MI := (yL_law, cL_law, 4, some .boolean, 8, 193)
end
