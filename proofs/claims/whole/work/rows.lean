section
-- ===== PART A: goes FIRST, ahead of the names: the tables' words, and 'selects' of the private methods out of them =====
/-- a private method of a class that the tables say can be made, by its rows of tables_1 -/
def lw_okq (q : MethodName × Nat) : Prop := (q.1.cls ≠ "java/lang/invoke/MethodHandle" ∧ q.1.cls ≠ "java/lang/invoke/VarHandle") ∧ Cond.instantiable q.1.cls q.2 ∈ tables_1 ∧ Cond.privateMethod q.1 ∈ tables_1 ∧ Cond.instanceMethod q.1 ∈ tables_1
theorem lw_p0 : lw_okq (⟨"QuarrelSales", "isThing", "(I)Z"⟩, 7) := ⟨⟨by decide +kernel, by decide +kernel⟩, List.mem_of_getElem? (i := 12) (by decide +kernel), List.mem_of_getElem? (i := 232) (by decide +kernel), List.mem_of_getElem? (i := 233) (by decide +kernel)⟩
theorem lw_p1 : lw_okq (⟨"QuarrelSales", "isSide", "(I)Z"⟩, 7) := ⟨⟨by decide +kernel, by decide +kernel⟩, List.mem_of_getElem? (i := 12) (by decide +kernel), List.mem_of_getElem? (i := 240) (by decide +kernel), List.mem_of_getElem? (i := 241) (by decide +kernel)⟩
theorem lw_p2 : lw_okq (⟨"QuarrelSales$Tape", "readThing", "(I)Z"⟩, 4) := ⟨⟨by decide +kernel, by decide +kernel⟩, List.mem_of_getElem? (i := 120) (by decide +kernel), List.mem_of_getElem? (i := 298) (by decide +kernel), List.mem_of_getElem? (i := 299) (by decide +kernel)⟩
theorem lw_p3 : lw_okq (⟨"QuarrelSales$Tape", "nextSign", "()I"⟩, 4) := ⟨⟨by decide +kernel, by decide +kernel⟩, List.mem_of_getElem? (i := 120) (by decide +kernel), List.mem_of_getElem? (i := 302) (by decide +kernel), List.mem_of_getElem? (i := 303) (by decide +kernel)⟩
theorem lw_p4 : lw_okq (⟨"QuarrelSales$Tape", "fault", "()I"⟩, 4) := ⟨⟨by decide +kernel, by decide +kernel⟩, List.mem_of_getElem? (i := 120) (by decide +kernel), List.mem_of_getElem? (i := 306) (by decide +kernel), List.mem_of_getElem? (i := 307) (by decide +kernel)⟩
theorem lw_p5 : lw_okq (⟨"QuarrelSales$Tape", "readSuit", "(II)Z"⟩, 4) := ⟨⟨by decide +kernel, by decide +kernel⟩, List.mem_of_getElem? (i := 120) (by decide +kernel), List.mem_of_getElem? (i := 325) (by decide +kernel), List.mem_of_getElem? (i := 326) (by decide +kernel)⟩
theorem lw_p6 : lw_okq (⟨"QuarrelSales$Court", "leaveSides", "(I)V"⟩, 7) := ⟨⟨by decide +kernel, by decide +kernel⟩, List.mem_of_getElem? (i := 26) (by decide +kernel), List.mem_of_getElem? (i := 364) (by decide +kernel), List.mem_of_getElem? (i := 365) (by decide +kernel)⟩
theorem lw_p7 : lw_okq (⟨"QuarrelSales$Court", "changeSides", "(III)V"⟩, 7) := ⟨⟨by decide +kernel, by decide +kernel⟩, List.mem_of_getElem? (i := 26) (by decide +kernel), List.mem_of_getElem? (i := 368) (by decide +kernel), List.mem_of_getElem? (i := 369) (by decide +kernel)⟩
theorem lw_p8 : lw_okq (⟨"QuarrelSales", "trySale", "(II)V"⟩, 7) := ⟨⟨by decide +kernel, by decide +kernel⟩, List.mem_of_getElem? (i := 12) (by decide +kernel), List.mem_of_getElem? (i := 412) (by decide +kernel), List.mem_of_getElem? (i := 413) (by decide +kernel)⟩
theorem lw_p9 : lw_okq (⟨"QuarrelSales", "gainOf", "(I)I"⟩, 7) := ⟨⟨by decide +kernel, by decide +kernel⟩, List.mem_of_getElem? (i := 12) (by decide +kernel), List.mem_of_getElem? (i := 421) (by decide +kernel), List.mem_of_getElem? (i := 422) (by decide +kernel)⟩
theorem lw_p10 : lw_okq (⟨"QuarrelSales", "makeFirstAgreed", "()Z"⟩, 7) := ⟨⟨by decide +kernel, by decide +kernel⟩, List.mem_of_getElem? (i := 12) (by decide +kernel), List.mem_of_getElem? (i := 436) (by decide +kernel), List.mem_of_getElem? (i := 437) (by decide +kernel)⟩
theorem lw_p11 : lw_okq (⟨"QuarrelSales$Court", "widen", "(I)I"⟩, 7) := ⟨⟨by decide +kernel, by decide +kernel⟩, List.mem_of_getElem? (i := 26) (by decide +kernel), List.mem_of_getElem? (i := 457) (by decide +kernel), List.mem_of_getElem? (i := 458) (by decide +kernel)⟩
theorem lw_p12 : lw_okq (⟨"QuarrelSales$Search", "usefulThings", "(III)I"⟩, 5) := ⟨⟨by decide +kernel, by decide +kernel⟩, List.mem_of_getElem? (i := 92) (by decide +kernel), List.mem_of_getElem? (i := 483) (by decide +kernel), List.mem_of_getElem? (i := 484) (by decide +kernel)⟩
theorem lw_p13 : lw_okq (⟨"QuarrelSales$Search", "step", "(III)Z"⟩, 5) := ⟨⟨by decide +kernel, by decide +kernel⟩, List.mem_of_getElem? (i := 92) (by decide +kernel), List.mem_of_getElem? (i := 489) (by decide +kernel), List.mem_of_getElem? (i := 490) (by decide +kernel)⟩
theorem lw_p14 : lw_okq (⟨"QuarrelSales$Search", "choose", "(I)V"⟩, 5) := ⟨⟨by decide +kernel, by decide +kernel⟩, List.mem_of_getElem? (i := 92) (by decide +kernel), List.mem_of_getElem? (i := 494) (by decide +kernel), List.mem_of_getElem? (i := 495) (by decide +kernel)⟩
theorem lw_p15 : lw_okq (⟨"QuarrelSales$Search", "isSide", "(II)Z"⟩, 5) := ⟨⟨by decide +kernel, by decide +kernel⟩, List.mem_of_getElem? (i := 92) (by decide +kernel), List.mem_of_getElem? (i := 511) (by decide +kernel), List.mem_of_getElem? (i := 512) (by decide +kernel)⟩
def lw_privs_1 : List (MethodName × Nat) := [(⟨"QuarrelSales", "isThing", "(I)Z"⟩, 7), (⟨"QuarrelSales", "isSide", "(I)Z"⟩, 7), (⟨"QuarrelSales$Tape", "readThing", "(I)Z"⟩, 4), (⟨"QuarrelSales$Tape", "nextSign", "()I"⟩, 4), (⟨"QuarrelSales$Tape", "fault", "()I"⟩, 4), (⟨"QuarrelSales$Tape", "readSuit", "(II)Z"⟩, 4), (⟨"QuarrelSales$Court", "leaveSides", "(I)V"⟩, 7), (⟨"QuarrelSales$Court", "changeSides", "(III)V"⟩, 7), (⟨"QuarrelSales", "trySale", "(II)V"⟩, 7), (⟨"QuarrelSales", "gainOf", "(I)I"⟩, 7), (⟨"QuarrelSales", "makeFirstAgreed", "()Z"⟩, 7), (⟨"QuarrelSales$Court", "widen", "(I)I"⟩, 7), (⟨"QuarrelSales$Search", "usefulThings", "(III)I"⟩, 5), (⟨"QuarrelSales$Search", "step", "(III)Z"⟩, 5), (⟨"QuarrelSales$Search", "choose", "(I)V"⟩, 5), (⟨"QuarrelSales$Search", "isSide", "(II)Z"⟩, 5)]
theorem lw_r1 : ∀ q ∈ lw_privs_1, lw_okq q := List.forall_mem_cons.mpr ⟨lw_p0, List.forall_mem_cons.mpr ⟨lw_p1, List.forall_mem_cons.mpr ⟨lw_p2, List.forall_mem_cons.mpr ⟨lw_p3, List.forall_mem_cons.mpr ⟨lw_p4, List.forall_mem_cons.mpr ⟨lw_p5, List.forall_mem_cons.mpr ⟨lw_p6, List.forall_mem_cons.mpr ⟨lw_p7, List.forall_mem_cons.mpr ⟨lw_p8, List.forall_mem_cons.mpr ⟨lw_p9, List.forall_mem_cons.mpr ⟨lw_p10, List.forall_mem_cons.mpr ⟨lw_p11, List.forall_mem_cons.mpr ⟨lw_p12, List.forall_mem_cons.mpr ⟨lw_p13, List.forall_mem_cons.mpr ⟨lw_p14, List.forall_mem_cons.mpr ⟨lw_p15, fun _ h => absurd h List.not_mem_nil⟩⟩⟩⟩⟩⟩⟩⟩⟩⟩⟩⟩⟩⟩⟩⟩
theorem lw_p16 : lw_okq (⟨"QuarrelSales$Search", "weigh", "(I[II)V"⟩, 5) := ⟨⟨by decide +kernel, by decide +kernel⟩, List.mem_of_getElem? (i := 92) (by decide +kernel), List.mem_of_getElem? (i := 515) (by decide +kernel), List.mem_of_getElem? (i := 516) (by decide +kernel)⟩
theorem lw_p17 : lw_okq (⟨"QuarrelSales", "dealOne", "(LQuarrelSales$Sheet;I)Z"⟩, 7) := ⟨⟨by decide +kernel, by decide +kernel⟩, List.mem_of_getElem? (i := 12) (by decide +kernel), List.mem_of_getElem? (i := 568) (by decide +kernel), List.mem_of_getElem? (i := 569) (by decide +kernel)⟩
theorem lw_p18 : lw_okq (⟨"QuarrelSalesModel", "ends", "()I"⟩, 29) := ⟨⟨by decide +kernel, by decide +kernel⟩, List.mem_of_getElem? (i := 597) (by decide +kernel), List.mem_of_getElem? (i := 708) (by decide +kernel), List.mem_of_getElem? (i := 709) (by decide +kernel)⟩
theorem lw_p19 : lw_okq (⟨"QuarrelSalesModel", "stands", "(I)I"⟩, 29) := ⟨⟨by decide +kernel, by decide +kernel⟩, List.mem_of_getElem? (i := 597) (by decide +kernel), List.mem_of_getElem? (i := 712) (by decide +kernel), List.mem_of_getElem? (i := 713) (by decide +kernel)⟩
theorem lw_p20 : lw_okq (⟨"QuarrelSalesModel", "isOver", "(I)Z"⟩, 29) := ⟨⟨by decide +kernel, by decide +kernel⟩, List.mem_of_getElem? (i := 597) (by decide +kernel), List.mem_of_getElem? (i := 716) (by decide +kernel), List.mem_of_getElem? (i := 717) (by decide +kernel)⟩
theorem lw_p21 : lw_okq (⟨"QuarrelSalesModel", "isThing", "(I)Z"⟩, 29) := ⟨⟨by decide +kernel, by decide +kernel⟩, List.mem_of_getElem? (i := 597) (by decide +kernel), List.mem_of_getElem? (i := 729) (by decide +kernel), List.mem_of_getElem? (i := 730) (by decide +kernel)⟩
theorem lw_p22 : lw_okq (⟨"QuarrelSalesModel", "isSide", "(I)Z"⟩, 29) := ⟨⟨by decide +kernel, by decide +kernel⟩, List.mem_of_getElem? (i := 597) (by decide +kernel), List.mem_of_getElem? (i := 737) (by decide +kernel), List.mem_of_getElem? (i := 738) (by decide +kernel)⟩
theorem lw_p23 : lw_okq (⟨"QuarrelSalesModel", "comes", "(II)I"⟩, 29) := ⟨⟨by decide +kernel, by decide +kernel⟩, List.mem_of_getElem? (i := 597) (by decide +kernel), List.mem_of_getElem? (i := 743) (by decide +kernel), List.mem_of_getElem? (i := 744) (by decide +kernel)⟩
theorem lw_p24 : lw_okq (⟨"QuarrelSalesModel", "valueOf", "(I)I"⟩, 29) := ⟨⟨by decide +kernel, by decide +kernel⟩, List.mem_of_getElem? (i := 597) (by decide +kernel), List.mem_of_getElem? (i := 764) (by decide +kernel), List.mem_of_getElem? (i := 765) (by decide +kernel)⟩
theorem lw_p25 : lw_okq (⟨"QuarrelSalesModel", "standsIn", "(I)I"⟩, 29) := ⟨⟨by decide +kernel, by decide +kernel⟩, List.mem_of_getElem? (i := 597) (by decide +kernel), List.mem_of_getElem? (i := 768) (by decide +kernel), List.mem_of_getElem? (i := 769) (by decide +kernel)⟩
theorem lw_p26 : lw_okq (⟨"QuarrelSalesModel", "costAll", "()I"⟩, 29) := ⟨⟨by decide +kernel, by decide +kernel⟩, List.mem_of_getElem? (i := 597) (by decide +kernel), List.mem_of_getElem? (i := 780) (by decide +kernel), List.mem_of_getElem? (i := 781) (by decide +kernel)⟩
theorem lw_p27 : lw_okq (⟨"QuarrelSalesModel", "readAll", "(Z)I"⟩, 29) := ⟨⟨by decide +kernel, by decide +kernel⟩, List.mem_of_getElem? (i := 597) (by decide +kernel), List.mem_of_getElem? (i := 796) (by decide +kernel), List.mem_of_getElem? (i := 797) (by decide +kernel)⟩
theorem lw_p28 : lw_okq (⟨"QuarrelSalesModel", "thingClause", "(I)V"⟩, 29) := ⟨⟨by decide +kernel, by decide +kernel⟩, List.mem_of_getElem? (i := 597) (by decide +kernel), List.mem_of_getElem? (i := 800) (by decide +kernel), List.mem_of_getElem? (i := 801) (by decide +kernel)⟩
theorem lw_p29 : lw_okq (⟨"QuarrelSalesModel", "has", "(I)Z"⟩, 29) := ⟨⟨by decide +kernel, by decide +kernel⟩, List.mem_of_getElem? (i := 597) (by decide +kernel), List.mem_of_getElem? (i := 804) (by decide +kernel), List.mem_of_getElem? (i := 805) (by decide +kernel)⟩
theorem lw_p30 : lw_okq (⟨"QuarrelSalesModel", "here", "()I"⟩, 29) := ⟨⟨by decide +kernel, by decide +kernel⟩, List.mem_of_getElem? (i := 597) (by decide +kernel), List.mem_of_getElem? (i := 808) (by decide +kernel), List.mem_of_getElem? (i := 809) (by decide +kernel)⟩
theorem lw_p31 : lw_okq (⟨"QuarrelSalesModel", "digit", "(I)I"⟩, 29) := ⟨⟨by decide +kernel, by decide +kernel⟩, List.mem_of_getElem? (i := 597) (by decide +kernel), List.mem_of_getElem? (i := 812) (by decide +kernel), List.mem_of_getElem? (i := 813) (by decide +kernel)⟩
def lw_privs_2 : List (MethodName × Nat) := [(⟨"QuarrelSales$Search", "weigh", "(I[II)V"⟩, 5), (⟨"QuarrelSales", "dealOne", "(LQuarrelSales$Sheet;I)Z"⟩, 7), (⟨"QuarrelSalesModel", "ends", "()I"⟩, 29), (⟨"QuarrelSalesModel", "stands", "(I)I"⟩, 29), (⟨"QuarrelSalesModel", "isOver", "(I)Z"⟩, 29), (⟨"QuarrelSalesModel", "isThing", "(I)Z"⟩, 29), (⟨"QuarrelSalesModel", "isSide", "(I)Z"⟩, 29), (⟨"QuarrelSalesModel", "comes", "(II)I"⟩, 29), (⟨"QuarrelSalesModel", "valueOf", "(I)I"⟩, 29), (⟨"QuarrelSalesModel", "standsIn", "(I)I"⟩, 29), (⟨"QuarrelSalesModel", "costAll", "()I"⟩, 29), (⟨"QuarrelSalesModel", "readAll", "(Z)I"⟩, 29), (⟨"QuarrelSalesModel", "thingClause", "(I)V"⟩, 29), (⟨"QuarrelSalesModel", "has", "(I)Z"⟩, 29), (⟨"QuarrelSalesModel", "here", "()I"⟩, 29), (⟨"QuarrelSalesModel", "digit", "(I)I"⟩, 29)]
theorem lw_r2 : ∀ q ∈ lw_privs_2, lw_okq q := List.forall_mem_cons.mpr ⟨lw_p16, List.forall_mem_cons.mpr ⟨lw_p17, List.forall_mem_cons.mpr ⟨lw_p18, List.forall_mem_cons.mpr ⟨lw_p19, List.forall_mem_cons.mpr ⟨lw_p20, List.forall_mem_cons.mpr ⟨lw_p21, List.forall_mem_cons.mpr ⟨lw_p22, List.forall_mem_cons.mpr ⟨lw_p23, List.forall_mem_cons.mpr ⟨lw_p24, List.forall_mem_cons.mpr ⟨lw_p25, List.forall_mem_cons.mpr ⟨lw_p26, List.forall_mem_cons.mpr ⟨lw_p27, List.forall_mem_cons.mpr ⟨lw_p28, List.forall_mem_cons.mpr ⟨lw_p29, List.forall_mem_cons.mpr ⟨lw_p30, List.forall_mem_cons.mpr ⟨lw_p31, fun _ h => absurd h List.not_mem_nil⟩⟩⟩⟩⟩⟩⟩⟩⟩⟩⟩⟩⟩⟩⟩⟩
theorem lw_p32 : lw_okq (⟨"QuarrelSalesModel", "side", "(I)I"⟩, 29) := ⟨⟨by decide +kernel, by decide +kernel⟩, List.mem_of_getElem? (i := 597) (by decide +kernel), List.mem_of_getElem? (i := 817) (by decide +kernel), List.mem_of_getElem? (i := 818) (by decide +kernel)⟩
theorem lw_p33 : lw_okq (⟨"QuarrelSalesModel", "comesTo", "(II)V"⟩, 29) := ⟨⟨by decide +kernel, by decide +kernel⟩, List.mem_of_getElem? (i := 597) (by decide +kernel), List.mem_of_getElem? (i := 832) (by decide +kernel), List.mem_of_getElem? (i := 833) (by decide +kernel)⟩
theorem lw_p34 : lw_okq (⟨"QuarrelSalesModel", "sells", "(II)I"⟩, 29) := ⟨⟨by decide +kernel, by decide +kernel⟩, List.mem_of_getElem? (i := 597) (by decide +kernel), List.mem_of_getElem? (i := 836) (by decide +kernel), List.mem_of_getElem? (i := 837) (by decide +kernel)⟩
theorem lw_p35 : lw_okq (⟨"QuarrelSalesModel", "stay", "(I)V"⟩, 29) := ⟨⟨by decide +kernel, by decide +kernel⟩, List.mem_of_getElem? (i := 597) (by decide +kernel), List.mem_of_getElem? (i := 840) (by decide +kernel), List.mem_of_getElem? (i := 841) (by decide +kernel)⟩
theorem lw_p36 : lw_okq (⟨"QuarrelSalesModel", "weds", "(II)I"⟩, 29) := ⟨⟨by decide +kernel, by decide +kernel⟩, List.mem_of_getElem? (i := 597) (by decide +kernel), List.mem_of_getElem? (i := 856) (by decide +kernel), List.mem_of_getElem? (i := 857) (by decide +kernel)⟩
theorem lw_p37 : lw_okq (⟨"QuarrelSalesModel", "gainOf", "(III)I"⟩, 29) := ⟨⟨by decide +kernel, by decide +kernel⟩, List.mem_of_getElem? (i := 597) (by decide +kernel), List.mem_of_getElem? (i := 869) (by decide +kernel), List.mem_of_getElem? (i := 870) (by decide +kernel)⟩
theorem lw_p38 : lw_okq (⟨"QuarrelSalesModel", "keeps", "()V"⟩, 29) := ⟨⟨by decide +kernel, by decide +kernel⟩, List.mem_of_getElem? (i := 597) (by decide +kernel), List.mem_of_getElem? (i := 873) (by decide +kernel), List.mem_of_getElem? (i := 874) (by decide +kernel)⟩
theorem lw_p39 : lw_okq (⟨"QuarrelSalesModel", "back", "()V"⟩, 29) := ⟨⟨by decide +kernel, by decide +kernel⟩, List.mem_of_getElem? (i := 597) (by decide +kernel), List.mem_of_getElem? (i := 877) (by decide +kernel), List.mem_of_getElem? (i := 878) (by decide +kernel)⟩
theorem lw_p40 : lw_okq (⟨"QuarrelSalesModel", "priceOf", "(II)I"⟩, 29) := ⟨⟨by decide +kernel, by decide +kernel⟩, List.mem_of_getElem? (i := 597) (by decide +kernel), List.mem_of_getElem? (i := 885) (by decide +kernel), List.mem_of_getElem? (i := 886) (by decide +kernel)⟩
theorem lw_p41 : lw_okq (⟨"QuarrelSalesModel", "deals", "()Z"⟩, 29) := ⟨⟨by decide +kernel, by decide +kernel⟩, List.mem_of_getElem? (i := 597) (by decide +kernel), List.mem_of_getElem? (i := 894) (by decide +kernel), List.mem_of_getElem? (i := 895) (by decide +kernel)⟩
theorem lw_p42 : lw_okq (⟨"QuarrelSalesModel", "groupOf", "(I)I"⟩, 29) := ⟨⟨by decide +kernel, by decide +kernel⟩, List.mem_of_getElem? (i := 597) (by decide +kernel), List.mem_of_getElem? (i := 903) (by decide +kernel), List.mem_of_getElem? (i := 904) (by decide +kernel)⟩
theorem lw_p43 : lw_okq (⟨"QuarrelSalesModel", "neverOf", "()I"⟩, 29) := ⟨⟨by decide +kernel, by decide +kernel⟩, List.mem_of_getElem? (i := 597) (by decide +kernel), List.mem_of_getElem? (i := 911) (by decide +kernel), List.mem_of_getElem? (i := 912) (by decide +kernel)⟩
theorem lw_p44 : lw_okq (⟨"QuarrelSalesModel", "fewestOf", "()I"⟩, 29) := ⟨⟨by decide +kernel, by decide +kernel⟩, List.mem_of_getElem? (i := 597) (by decide +kernel), List.mem_of_getElem? (i := 921) (by decide +kernel), List.mem_of_getElem? (i := 922) (by decide +kernel)⟩
theorem lw_p45 : lw_okq (⟨"QuarrelSalesModel", "done", "(II)Z"⟩, 29) := ⟨⟨by decide +kernel, by decide +kernel⟩, List.mem_of_getElem? (i := 597) (by decide +kernel), List.mem_of_getElem? (i := 925) (by decide +kernel), List.mem_of_getElem? (i := 926) (by decide +kernel)⟩
theorem lw_p46 : lw_okq (⟨"QuarrelSalesModel", "notes", "(I)V"⟩, 29) := ⟨⟨by decide +kernel, by decide +kernel⟩, List.mem_of_getElem? (i := 597) (by decide +kernel), List.mem_of_getElem? (i := 929) (by decide +kernel), List.mem_of_getElem? (i := 930) (by decide +kernel)⟩
theorem lw_p47 : lw_okq (⟨"QuarrelSalesModel", "bestOf", "(I)I"⟩, 29) := ⟨⟨by decide +kernel, by decide +kernel⟩, List.mem_of_getElem? (i := 597) (by decide +kernel), List.mem_of_getElem? (i := 939) (by decide +kernel), List.mem_of_getElem? (i := 940) (by decide +kernel)⟩
def lw_privs_3 : List (MethodName × Nat) := [(⟨"QuarrelSalesModel", "side", "(I)I"⟩, 29), (⟨"QuarrelSalesModel", "comesTo", "(II)V"⟩, 29), (⟨"QuarrelSalesModel", "sells", "(II)I"⟩, 29), (⟨"QuarrelSalesModel", "stay", "(I)V"⟩, 29), (⟨"QuarrelSalesModel", "weds", "(II)I"⟩, 29), (⟨"QuarrelSalesModel", "gainOf", "(III)I"⟩, 29), (⟨"QuarrelSalesModel", "keeps", "()V"⟩, 29), (⟨"QuarrelSalesModel", "back", "()V"⟩, 29), (⟨"QuarrelSalesModel", "priceOf", "(II)I"⟩, 29), (⟨"QuarrelSalesModel", "deals", "()Z"⟩, 29), (⟨"QuarrelSalesModel", "groupOf", "(I)I"⟩, 29), (⟨"QuarrelSalesModel", "neverOf", "()I"⟩, 29), (⟨"QuarrelSalesModel", "fewestOf", "()I"⟩, 29), (⟨"QuarrelSalesModel", "done", "(II)Z"⟩, 29), (⟨"QuarrelSalesModel", "notes", "(I)V"⟩, 29), (⟨"QuarrelSalesModel", "bestOf", "(I)I"⟩, 29)]
theorem lw_r3 : ∀ q ∈ lw_privs_3, lw_okq q := List.forall_mem_cons.mpr ⟨lw_p32, List.forall_mem_cons.mpr ⟨lw_p33, List.forall_mem_cons.mpr ⟨lw_p34, List.forall_mem_cons.mpr ⟨lw_p35, List.forall_mem_cons.mpr ⟨lw_p36, List.forall_mem_cons.mpr ⟨lw_p37, List.forall_mem_cons.mpr ⟨lw_p38, List.forall_mem_cons.mpr ⟨lw_p39, List.forall_mem_cons.mpr ⟨lw_p40, List.forall_mem_cons.mpr ⟨lw_p41, List.forall_mem_cons.mpr ⟨lw_p42, List.forall_mem_cons.mpr ⟨lw_p43, List.forall_mem_cons.mpr ⟨lw_p44, List.forall_mem_cons.mpr ⟨lw_p45, List.forall_mem_cons.mpr ⟨lw_p46, List.forall_mem_cons.mpr ⟨lw_p47, fun _ h => absurd h List.not_mem_nil⟩⟩⟩⟩⟩⟩⟩⟩⟩⟩⟩⟩⟩⟩⟩⟩
theorem lw_p48 : lw_okq (⟨"QuarrelSalesModel", "savesOf", "(II)I"⟩, 29) := ⟨⟨by decide +kernel, by decide +kernel⟩, List.mem_of_getElem? (i := 597) (by decide +kernel), List.mem_of_getElem? (i := 947) (by decide +kernel), List.mem_of_getElem? (i := 948) (by decide +kernel)⟩
theorem lw_p49 : lw_okq (⟨"QuarrelSalesModel", "lay", "([II)I"⟩, 29) := ⟨⟨by decide +kernel, by decide +kernel⟩, List.mem_of_getElem? (i := 597) (by decide +kernel), List.mem_of_getElem? (i := 968) (by decide +kernel), List.mem_of_getElem? (i := 969) (by decide +kernel)⟩
theorem lw_p50 : lw_okq (⟨"QuarrelSalesModel", "finds", "(IIII)I"⟩, 29) := ⟨⟨by decide +kernel, by decide +kernel⟩, List.mem_of_getElem? (i := 597) (by decide +kernel), List.mem_of_getElem? (i := 990) (by decide +kernel), List.mem_of_getElem? (i := 991) (by decide +kernel)⟩
def lw_privs_4 : List (MethodName × Nat) := [(⟨"QuarrelSalesModel", "savesOf", "(II)I"⟩, 29), (⟨"QuarrelSalesModel", "lay", "([II)I"⟩, 29), (⟨"QuarrelSalesModel", "finds", "(IIII)I"⟩, 29)]
theorem lw_r4 : ∀ q ∈ lw_privs_4, lw_okq q := List.forall_mem_cons.mpr ⟨lw_p48, List.forall_mem_cons.mpr ⟨lw_p49, List.forall_mem_cons.mpr ⟨lw_p50, fun _ h => absurd h List.not_mem_nil⟩⟩⟩
def lw_privs : List (MethodName × Nat) := lw_privs_1 ++ (lw_privs_2 ++ (lw_privs_3 ++ (lw_privs_4)))
def lw_tbl : List Cond := k2_sels lw_privs ++ tables_1
theorem lw_privs_ok : ∀ q ∈ lw_privs, lw_okq q := by
  show ∀ q ∈ lw_privs_1 ++ (lw_privs_2 ++ (lw_privs_3 ++ (lw_privs_4))), lw_okq q
  exact List.forall_mem_append.mpr ⟨lw_r1, List.forall_mem_append.mpr ⟨lw_r2, List.forall_mem_append.mpr ⟨lw_r3, lw_r4⟩⟩⟩
end
section
theorem goodIn_r {big : List Cond} (ws : List Cond) (ps : List Nat) (hp : ws = ps.filterMap (fun i => big[i]?)) (h : ws.all goodWord = true) : GoodIn big ws := by
  intro w hw
  have h1 := List.all_eq_true.mp h w hw
  rw [hp] at hw
  obtain ⟨i, -, hi⟩ := List.mem_filterMap.mp hw
  have hm : w ∈ big := by first | exact List.mem_of_getElem? hi | exact List.getElem?_mem hi
  exact ⟨hm, good_of_word h1⟩
theorem goodIn_app {big a b : List Cond} (ha : GoodIn big a) (hb : GoodIn big b) : GoodIn big (a ++ b) := fun w h => (List.mem_append.mp h).elim (ha w) (hb w)
theorem goodIn_ca {big a b : List Cond} {c : Cond} (ha : GoodIn big (c :: a)) (hb : GoodIn big b) : GoodIn big (c :: (a ++ b)) := fun w h => (List.mem_cons.mp h).elim (fun e => ha w (List.mem_cons.mpr (Or.inl e))) (fun h => (List.mem_append.mp h).elim (fun h => ha w (List.mem_cons.mpr (Or.inr h))) (hb w))
theorem goodIn_sub {big ws : List Cond} (hm : ∀ w ∈ ws, w ∈ big) (h : ws.all goodWord = true) : GoodIn big ws := fun w hw => ⟨hm w hw, good_of_word (List.all_eq_true.mp h w hw)⟩
def RX0 : String := "QuarrelSales$Court"
def TX0 : u_T := fun k => match k with
  | 0 => ("QuarrelSales$Court", "laws", "[I", true)
  | 1 => ("QuarrelSales$Court", "hands", "[I", true)
  | 2 => ("QuarrelSales$Court", "firsts", "[I", true)
  | 3 => ("QuarrelSales$Court", "seconds", "[I", true)
  | 4 => ("QuarrelSales$Court", "things", "I", false)
  | 5 => ("QuarrelSales$Court", "suits", "I", false)
  | _ => ("QuarrelSales$Court", "overs", "I", false)
def tyX0 : Nat → FieldType := fun k => match k with
  | 0 => .array .int
  | 1 => .array .int
  | 2 => .array .int
  | 3 => .array .int
  | 4 => .int
  | 5 => .int
  | _ => .int
theorem nmX0 : ∀ a, a < 7 → ∀ b, b < 7 → a ≠ b → (TX0 a).2.1 ≠ (TX0 b).2.1 := by decide +kernel
theorem tyX0_ok : ∀ k, k < 7 → parseFieldDescriptor (TX0 k).2.2.1 = some (tyX0 k) := by decide +kernel
abbrev cX0_init : ByteArray := prog_2_method_1_code
def yX0_init : MethodName := ⟨RX0, "<init>", "()V"⟩
abbrev cX0_become : ByteArray := prog_2_method_2_code
def yX0_become : MethodName := ⟨RX0, "become", "(LQuarrelSales$Court;)V"⟩
abbrev cX0_isOver : ByteArray := prog_2_method_3_code
def yX0_isOver : MethodName := ⟨RX0, "isOver", "(I)Z"⟩
abbrev cX0_standing : ByteArray := prog_2_method_4_code
def yX0_standing : MethodName := ⟨RX0, "standing", "(I)I"⟩
abbrev cX0_addSuit : ByteArray := prog_2_method_5_code
def yX0_addSuit : MethodName := ⟨RX0, "addSuit", "(II)I"⟩
abbrev cX0_settle : ByteArray := prog_2_method_6_code
def yX0_settle : MethodName := ⟨RX0, "settle", "()I"⟩
abbrev cX0_move : ByteArray := prog_2_method_7_code
def yX0_move : MethodName := ⟨RX0, "move", "(II)I"⟩
abbrev cX0_exchange : ByteArray := prog_2_method_8_code
def yX0_exchange : MethodName := ⟨RX0, "exchange", "(II)I"⟩
abbrev cX0_leaveSides : ByteArray := prog_2_method_9_code
def yX0_leaveSides : MethodName := ⟨RX0, "leaveSides", "(I)V"⟩
abbrev cX0_changeSides : ByteArray := prog_2_method_10_code
def yX0_changeSides : MethodName := ⟨RX0, "changeSides", "(III)V"⟩
abbrev cX0_marry : ByteArray := prog_2_method_11_code
def yX0_marry : MethodName := ⟨RX0, "marry", "(II)I"⟩
abbrev cX0_addThing : ByteArray := prog_2_method_12_code
def yX0_addThing : MethodName := ⟨RX0, "addThing", "(I)I"⟩
abbrev cX0_split : ByteArray := prog_2_method_13_code
def yX0_split : MethodName := ⟨RX0, "split", "(II)I"⟩
abbrev cX0_countStood : ByteArray := prog_2_method_14_code
def yX0_countStood : MethodName := ⟨RX0, "countStood", "(I)I"⟩
abbrev cX0_costOfAll : ByteArray := prog_2_method_15_code
def yX0_costOfAll : MethodName := ⟨RX0, "costOfAll", "([I)I"⟩
abbrev cX0_costTo : ByteArray := prog_2_method_16_code
def yX0_costTo : MethodName := ⟨RX0, "costTo", "(I[I)I"⟩
abbrev cX0_neverEnding : ByteArray := prog_2_method_17_code
def yX0_neverEnding : MethodName := ⟨RX0, "neverEnding", "()I"⟩
abbrev cX0_sidesOf : ByteArray := prog_2_method_18_code
def yX0_sidesOf : MethodName := ⟨RX0, "sidesOf", "(I)I"⟩
abbrev cX0_groupOf : ByteArray := prog_2_method_19_code
def yX0_groupOf : MethodName := ⟨RX0, "groupOf", "(I)I"⟩
abbrev cX0_widen : ByteArray := prog_2_method_20_code
def yX0_widen : MethodName := ⟨RX0, "widen", "(I)I"⟩
abbrev cX0_countGroups : ByteArray := prog_2_method_21_code
def yX0_countGroups : MethodName := ⟨RX0, "countGroups", "()I"⟩
def RX1 : String := "QuarrelSales$Search"
def TX1 : u_T := fun k => match k with
  | 0 => ("QuarrelSales$Search", "stages", "[LQuarrelSales$Court;", true)
  | 1 => ("QuarrelSales$Search", "row", "[I", true)
  | 2 => ("QuarrelSales$Search", "chosen", "[I", true)
  | 3 => ("QuarrelSales$Search", "sales", "I", false)
  | _ => ("QuarrelSales$Search", "least", "I", false)
def tyX1 : Nat → FieldType := fun k => match k with
  | 0 => .array (.object "QuarrelSales$Court")
  | 1 => .array .int
  | 2 => .array .int
  | 3 => .int
  | _ => .int
theorem nmX1 : ∀ a, a < 5 → ∀ b, b < 5 → a ≠ b → (TX1 a).2.1 ≠ (TX1 b).2.1 := by decide +kernel
theorem tyX1_ok : ∀ k, k < 5 → parseFieldDescriptor (TX1 k).2.2.1 = some (tyX1 k) := by decide +kernel
abbrev cX1_init : ByteArray := prog_3_method_1_code
def yX1_init : MethodName := ⟨RX1, "<init>", "()V"⟩
abbrev cX1_seekFewest : ByteArray := prog_3_method_2_code
def yX1_seekFewest : MethodName := ⟨RX1, "seekFewest", "(LQuarrelSales$Court;)I"⟩
abbrev cX1_endsAll : ByteArray := prog_3_method_3_code
def yX1_endsAll : MethodName := ⟨RX1, "endsAll", "(LQuarrelSales$Search;III)Z"⟩
abbrev cX1_usefulThings : ByteArray := prog_3_method_4_code
def yX1_usefulThings : MethodName := ⟨RX1, "usefulThings", "(III)I"⟩
abbrev cX1_step : ByteArray := prog_3_method_5_code
def yX1_step : MethodName := ⟨RX1, "step", "(III)Z"⟩
abbrev cX1_seekBest : ByteArray := prog_3_method_6_code
def yX1_seekBest : MethodName := ⟨RX1, "seekBest", "(LQuarrelSales$Court;[II)V"⟩
abbrev cX1_weighRows : ByteArray := prog_3_method_7_code
def yX1_weighRows : MethodName := ⟨RX1, "weighRows", "(LQuarrelSales$Search;I[II)V"⟩
abbrev cX1_isSide : ByteArray := prog_3_method_8_code
def yX1_isSide : MethodName := ⟨RX1, "isSide", "(II)Z"⟩
abbrev cX1_weigh : ByteArray := prog_3_method_9_code
def yX1_weigh : MethodName := ⟨RX1, "weigh", "(I[II)V"⟩
abbrev cX1_choose : ByteArray := prog_3_method_10_code
def yX1_choose : MethodName := ⟨RX1, "choose", "(I)V"⟩
def RX2 : String := "QuarrelSales$Sheet"
def TX2 : u_T := fun k => match k with
  | 0 => ("QuarrelSales$Sheet", "items", "[I", true)
  | 1 => ("QuarrelSales$Sheet", "isNothing", "Z", false)
  | 2 => ("QuarrelSales$Sheet", "lane", "I", false)
  | _ => ("QuarrelSales$Sheet", "length", "I", false)
def tyX2 : Nat → FieldType := fun k => match k with
  | 0 => .array .int
  | 1 => .boolean
  | 2 => .int
  | _ => .int
theorem nmX2 : ∀ a, a < 4 → ∀ b, b < 4 → a ≠ b → (TX2 a).2.1 ≠ (TX2 b).2.1 := by decide +kernel
theorem tyX2_ok : ∀ k, k < 4 → parseFieldDescriptor (TX2 k).2.2.1 = some (tyX2 k) := by decide +kernel
abbrev cX2_init : ByteArray := prog_4_method_1_code
def yX2_init : MethodName := ⟨RX2, "<init>", "()V"⟩
abbrev cX2_begin : ByteArray := prog_4_method_2_code
def yX2_begin : MethodName := ⟨RX2, "begin", "(II)V"⟩
abbrev cX2_refuses : ByteArray := prog_4_method_3_code
def yX2_refuses : MethodName := ⟨RX2, "refuses", "(I)I"⟩
abbrev cX2_holds : ByteArray := prog_4_method_4_code
def yX2_holds : MethodName := ⟨RX2, "holds", "(II)Z"⟩
abbrev cX2_lowestBits : ByteArray := prog_4_method_5_code
def yX2_lowestBits : MethodName := ⟨RX2, "lowestBits", "(II)I"⟩
def RX3 : String := "QuarrelSales$Tape"
def TX3 : u_T := fun k => match k with
  | 0 => ("QuarrelSales$Tape", "signs", "[I", true)
  | 1 => ("QuarrelSales$Tape", "at", "I", false)
  | 2 => ("QuarrelSales$Tape", "length", "I", false)
  | _ => ("QuarrelSales$Tape", "found", "[I", true)
def tyX3 : Nat → FieldType := fun k => match k with
  | 0 => .array .int
  | 1 => .int
  | 2 => .int
  | _ => .array .int
theorem nmX3 : ∀ a, a < 4 → ∀ b, b < 4 → a ≠ b → (TX3 a).2.1 ≠ (TX3 b).2.1 := by decide +kernel
theorem tyX3_ok : ∀ k, k < 4 → parseFieldDescriptor (TX3 k).2.2.1 = some (tyX3 k) := by decide +kernel
abbrev cX3_init : ByteArray := prog_5_method_1_code
def yX3_init : MethodName := ⟨RX3, "<init>", "()V"⟩
abbrev cX3_byteOf : ByteArray := prog_5_method_2_code
def yX3_byteOf : MethodName := ⟨RX3, "byteOf", "(JI)I"⟩
abbrev cX3_isPlain : ByteArray := prog_5_method_3_code
def yX3_isPlain : MethodName := ⟨RX3, "isPlain", "(JI)Z"⟩
abbrev cX3_add : ByteArray := prog_5_method_4_code
def yX3_add : MethodName := ⟨RX3, "add", "(JI)V"⟩
abbrev cX3_nextSign : ByteArray := prog_5_method_5_code
def yX3_nextSign : MethodName := ⟨RX3, "nextSign", "()I"⟩
abbrev cX3_fault : ByteArray := prog_5_method_6_code
def yX3_fault : MethodName := ⟨RX3, "fault", "()I"⟩
abbrev cX3_readThings : ByteArray := prog_5_method_7_code
def yX3_readThings : MethodName := ⟨RX3, "readThings", "()I"⟩
abbrev cX3_readThing : ByteArray := prog_5_method_8_code
def yX3_readThing : MethodName := ⟨RX3, "readThing", "(I)Z"⟩
abbrev cX3_readSuits : ByteArray := prog_5_method_9_code
def yX3_readSuits : MethodName := ⟨RX3, "readSuits", "(I)I"⟩
abbrev cX3_readSuit : ByteArray := prog_5_method_10_code
def yX3_readSuit : MethodName := ⟨RX3, "readSuit", "(II)Z"⟩
abbrev cX3_sideOf : ByteArray := prog_5_method_11_code
def yX3_sideOf : MethodName := ⟨RX3, "sideOf", "(II)I"⟩
def RX4 : String := "QuarrelSales$Village"
def TX4 : u_T := fun k => match k with
  | 0 => ("QuarrelSales$Village", "court", "LQuarrelSales$Court;", true)
  | 1 => ("QuarrelSales$Village", "purses", "[I", true)
  | 2 => ("QuarrelSales$Village", "costs", "[I", true)
  | 3 => ("QuarrelSales$Village", "worths", "[I", true)
  | _ => ("QuarrelSales$Village", "sold", "I", false)
def tyX4 : Nat → FieldType := fun k => match k with
  | 0 => .object "QuarrelSales$Court"
  | 1 => .array .int
  | 2 => .array .int
  | 3 => .array .int
  | _ => .int
theorem nmX4 : ∀ a, a < 5 → ∀ b, b < 5 → a ≠ b → (TX4 a).2.1 ≠ (TX4 b).2.1 := by decide +kernel
theorem tyX4_ok : ∀ k, k < 5 → parseFieldDescriptor (TX4 k).2.2.1 = some (tyX4 k) := by decide +kernel
abbrev cX4_init : ByteArray := prog_6_method_1_code
def yX4_init : MethodName := ⟨RX4, "<init>", "()V"⟩
abbrev cX4_become : ByteArray := prog_6_method_2_code
def yX4_become : MethodName := ⟨RX4, "become", "(LQuarrelSales$Village;)V"⟩
abbrev cX4_addThing : ByteArray := prog_6_method_3_code
def yX4_addThing : MethodName := ⟨RX4, "addThing", "(I)I"⟩
abbrev cX4_takeThings : ByteArray := prog_6_method_4_code
def yX4_takeThings : MethodName := ⟨RX4, "takeThings", "([II)V"⟩
abbrev cX4_sell : ByteArray := prog_6_method_5_code
def yX4_sell : MethodName := ⟨RX4, "sell", "(III)I"⟩
abbrev cX4_split : ByteArray := prog_6_method_6_code
def yX4_split : MethodName := ⟨RX4, "split", "(II)I"⟩
abbrev cX4_valueTo : ByteArray := prog_6_method_7_code
def yX4_valueTo : MethodName := ⟨RX4, "valueTo", "(ILQuarrelSales$Court;)I"⟩
def RX5 : String := "QuarrelSales"
def TX5 : u_T := fun k => match k with
  | 0 => ("QuarrelSales", "now", "LQuarrelSales$Village;", true)
  | 1 => ("QuarrelSales", "kept", "LQuarrelSales$Village;", true)
  | 2 => ("QuarrelSales", "isKept", "Z", false)
  | 3 => ("QuarrelSales", "trial", "LQuarrelSales$Court;", true)
  | 4 => ("QuarrelSales", "search", "LQuarrelSales$Search;", true)
  | 5 => ("QuarrelSales", "tape", "LQuarrelSales$Tape;", true)
  | _ => ("QuarrelSales", "sheets", "[LQuarrelSales$Sheet;", true)
def tyX5 : Nat → FieldType := fun k => match k with
  | 0 => .object "QuarrelSales$Village"
  | 1 => .object "QuarrelSales$Village"
  | 2 => .boolean
  | 3 => .object "QuarrelSales$Court"
  | 4 => .object "QuarrelSales$Search"
  | 5 => .object "QuarrelSales$Tape"
  | _ => .array (.object "QuarrelSales$Sheet")
theorem nmX5 : ∀ a, a < 7 → ∀ b, b < 7 → a ≠ b → (TX5 a).2.1 ≠ (TX5 b).2.1 := by decide +kernel
theorem tyX5_ok : ∀ k, k < 7 → parseFieldDescriptor (TX5 k).2.2.1 = some (tyX5 k) := by decide +kernel
abbrev cX5_init : ByteArray := prog_1_method_1_code
def yX5_init : MethodName := ⟨RX5, "<init>", "()V"⟩
abbrev cX5_person : ByteArray := prog_1_method_2_code
def yX5_person : MethodName := ⟨RX5, "person", "(III)I"⟩
abbrev cX5_rule : ByteArray := prog_1_method_3_code
def yX5_rule : MethodName := ⟨RX5, "rule", "(II)I"⟩
abbrev cX5_thing : ByteArray := prog_1_method_4_code
def yX5_thing : MethodName := ⟨RX5, "thing", "(I)I"⟩
abbrev cX5_worth : ByteArray := prog_1_method_5_code
def yX5_worth : MethodName := ⟨RX5, "worth", "(III)I"⟩
abbrev cX5_suit : ByteArray := prog_1_method_6_code
def yX5_suit : MethodName := ⟨RX5, "suit", "(II)I"⟩
abbrev cX5_told : ByteArray := prog_1_method_7_code
def yX5_told : MethodName := ⟨RX5, "told", "(II)I"⟩
abbrev cX5_hand : ByteArray := prog_1_method_8_code
def yX5_hand : MethodName := ⟨RX5, "hand", "(I)I"⟩
abbrev cX5_purse : ByteArray := prog_1_method_9_code
def yX5_purse : MethodName := ⟨RX5, "purse", "(I)I"⟩
abbrev cX5_value : ByteArray := prog_1_method_10_code
def yX5_value : MethodName := ⟨RX5, "value", "(I)I"⟩
abbrev cX5_type : ByteArray := prog_1_method_11_code
def yX5_type : MethodName := ⟨RX5, "type", "(JI)I"⟩
abbrev cX5_village : ByteArray := prog_1_method_12_code
def yX5_village : MethodName := ⟨RX5, "village", "()I"⟩
abbrev cX5_suits : ByteArray := prog_1_method_13_code
def yX5_suits : MethodName := ⟨RX5, "suits", "()I"⟩
abbrev cX5_count : ByteArray := prog_1_method_14_code
def yX5_count : MethodName := ⟨RX5, "count", "(I)I"⟩
abbrev cX5_sale : ByteArray := prog_1_method_15_code
def yX5_sale : MethodName := ⟨RX5, "sale", "(III)I"⟩
abbrev cX5_swap : ByteArray := prog_1_method_16_code
def yX5_swap : MethodName := ⟨RX5, "swap", "(II)I"⟩
abbrev cX5_give : ByteArray := prog_1_method_17_code
def yX5_give : MethodName := ⟨RX5, "give", "(I)I"⟩
abbrev cX5_wed : ByteArray := prog_1_method_18_code
def yX5_wed : MethodName := ⟨RX5, "wed", "(II)I"⟩
abbrev cX5_part : ByteArray := prog_1_method_19_code
def yX5_part : MethodName := ⟨RX5, "part", "(II)I"⟩
abbrev cX5_gain : ByteArray := prog_1_method_20_code
def yX5_gain : MethodName := ⟨RX5, "gain", "(III)I"⟩
abbrev cX5_agreed : ByteArray := prog_1_method_21_code
def yX5_agreed : MethodName := ⟨RX5, "agreed", "(II)I"⟩
abbrev cX5_rest : ByteArray := prog_1_method_22_code
def yX5_rest : MethodName := ⟨RX5, "rest", "(I)I"⟩
abbrev cX5_group : ByteArray := prog_1_method_23_code
def yX5_group : MethodName := ⟨RX5, "group", "(I)I"⟩
abbrev cX5_never : ByteArray := prog_1_method_24_code
def yX5_never : MethodName := ⟨RX5, "never", "()I"⟩
abbrev cX5_fewest : ByteArray := prog_1_method_25_code
def yX5_fewest : MethodName := ⟨RX5, "fewest", "(I)I"⟩
abbrev cX5_best : ByteArray := prog_1_method_26_code
def yX5_best : MethodName := ⟨RX5, "best", "(II)I"⟩
abbrev cX5_saves : ByteArray := prog_1_method_27_code
def yX5_saves : MethodName := ⟨RX5, "saves", "(II)I"⟩
abbrev cX5_match : ByteArray := prog_1_method_28_code
def yX5_match : MethodName := ⟨RX5, "match", "()I"⟩
abbrev cX5_against : ByteArray := prog_1_method_29_code
def yX5_against : MethodName := ⟨RX5, "against", "(III)I"⟩
abbrev cX5_pays : ByteArray := prog_1_method_30_code
def yX5_pays : MethodName := ⟨RX5, "pays", "(IIIII)I"⟩
abbrev cX5_image : ByteArray := prog_1_method_31_code
def yX5_image : MethodName := ⟨RX5, "image", "()I"⟩
abbrev cX5_restore : ByteArray := prog_1_method_32_code
def yX5_restore : MethodName := ⟨RX5, "restore", "()I"⟩
abbrev cX5_deal : ByteArray := prog_1_method_33_code
def yX5_deal : MethodName := ⟨RX5, "deal", "(IIII)I"⟩
abbrev cX5_sheet : ByteArray := prog_1_method_34_code
def yX5_sheet : MethodName := ⟨RX5, "sheet", "(III)I"⟩
abbrev cX5_drop : ByteArray := prog_1_method_35_code
def yX5_drop : MethodName := ⟨RX5, "drop", "(I)I"⟩
abbrev cX5_item : ByteArray := prog_1_method_36_code
def yX5_item : MethodName := ⟨RX5, "item", "(IIII)I"⟩
abbrev cX5_copy : ByteArray := prog_1_method_37_code
def yX5_copy : MethodName := ⟨RX5, "copy", "(IIIII)I"⟩
abbrev cX5_isWithin : ByteArray := prog_1_method_38_code
def yX5_isWithin : MethodName := ⟨RX5, "isWithin", "(II)Z"⟩
abbrev cX5_isPerson : ByteArray := prog_1_method_39_code
def yX5_isPerson : MethodName := ⟨RX5, "isPerson", "(I)Z"⟩
abbrev cX5_isSheet : ByteArray := prog_1_method_40_code
def yX5_isSheet : MethodName := ⟨RX5, "isSheet", "(I)Z"⟩
abbrev cX5_isLane : ByteArray := prog_1_method_41_code
def yX5_isLane : MethodName := ⟨RX5, "isLane", "(I)Z"⟩
abbrev cX5_isThing : ByteArray := prog_1_method_42_code
def yX5_isThing : MethodName := ⟨RX5, "isThing", "(I)Z"⟩
abbrev cX5_isSide : ByteArray := prog_1_method_43_code
def yX5_isSide : MethodName := ⟨RX5, "isSide", "(I)Z"⟩
abbrev cX5_put : ByteArray := prog_1_method_44_code
def yX5_put : MethodName := ⟨RX5, "put", "([III)I"⟩
abbrev cX5_trySale : ByteArray := prog_1_method_45_code
def yX5_trySale : MethodName := ⟨RX5, "trySale", "(II)V"⟩
abbrev cX5_gainOf : ByteArray := prog_1_method_46_code
def yX5_gainOf : MethodName := ⟨RX5, "gainOf", "(I)I"⟩
abbrev cX5_makeFirstAgreed : ByteArray := prog_1_method_47_code
def yX5_makeFirstAgreed : MethodName := ⟨RX5, "makeFirstAgreed", "()Z"⟩
abbrev cX5_dealOne : ByteArray := prog_1_method_48_code
def yX5_dealOne : MethodName := ⟨RX5, "dealOne", "(LQuarrelSales$Sheet;I)Z"⟩
def RX6 : String := "QuarrelSalesModel"
def TX6 : u_T := fun k => match k with
  | 0 => ("QuarrelSalesModel", "purses", "[I", true)
  | 1 => ("QuarrelSalesModel", "costs", "[I", true)
  | 2 => ("QuarrelSalesModel", "laws", "[I", true)
  | 3 => ("QuarrelSalesModel", "things", "I", false)
  | 4 => ("QuarrelSalesModel", "hands", "[I", true)
  | 5 => ("QuarrelSalesModel", "worths", "[I", true)
  | 6 => ("QuarrelSalesModel", "suits", "I", false)
  | 7 => ("QuarrelSalesModel", "firsts", "[I", true)
  | 8 => ("QuarrelSalesModel", "seconds", "[I", true)
  | 9 => ("QuarrelSalesModel", "over", "I", false)
  | 10 => ("QuarrelSalesModel", "sales", "I", false)
  | 11 => ("QuarrelSalesModel", "tape", "[I", true)
  | 12 => ("QuarrelSalesModel", "taped", "I", false)
  | 13 => ("QuarrelSalesModel", "at", "I", false)
  | 14 => ("QuarrelSalesModel", "wrong", "Z", false)
  | 15 => ("QuarrelSalesModel", "read", "[I", true)
  | 16 => ("QuarrelSalesModel", "keptHands", "[I", true)
  | 17 => ("QuarrelSalesModel", "keptFirsts", "[I", true)
  | 18 => ("QuarrelSalesModel", "keptSeconds", "[I", true)
  | 19 => ("QuarrelSalesModel", "keptOver", "I", false)
  | 20 => ("QuarrelSalesModel", "tried", "[I", true)
  | 21 => ("QuarrelSalesModel", "found", "[I", true)
  | 22 => ("QuarrelSalesModel", "bestMany", "I", false)
  | 23 => ("QuarrelSalesModel", "image", "[I", true)
  | 24 => ("QuarrelSalesModel", "isImage", "Z", false)
  | 25 => ("QuarrelSalesModel", "lanes", "[I", true)
  | 26 => ("QuarrelSalesModel", "sizes", "[I", true)
  | 27 => ("QuarrelSalesModel", "items", "[I", true)
  | _ => ("QuarrelSalesModel", "moved", "[I", true)
def tyX6 : Nat → FieldType := fun k => match k with
  | 0 => .array .int
  | 1 => .array .int
  | 2 => .array .int
  | 3 => .int
  | 4 => .array .int
  | 5 => .array .int
  | 6 => .int
  | 7 => .array .int
  | 8 => .array .int
  | 9 => .int
  | 10 => .int
  | 11 => .array .int
  | 12 => .int
  | 13 => .int
  | 14 => .boolean
  | 15 => .array .int
  | 16 => .array .int
  | 17 => .array .int
  | 18 => .array .int
  | 19 => .int
  | 20 => .array .int
  | 21 => .array .int
  | 22 => .int
  | 23 => .array .int
  | 24 => .boolean
  | 25 => .array .int
  | 26 => .array .int
  | 27 => .array .int
  | _ => .array .int
theorem nmX6 : ∀ a, a < 29 → ∀ b, b < 29 → a ≠ b → (TX6 a).2.1 ≠ (TX6 b).2.1 := by decide +kernel
theorem tyX6_ok : ∀ k, k < 29 → parseFieldDescriptor (TX6 k).2.2.1 = some (tyX6 k) := by decide +kernel
abbrev cX6_in : ByteArray := prog_8_method_2_code
def yX6_in : MethodName := ⟨RX6, "in", "(JJJ)Z"⟩
abbrev cX6_init : ByteArray := prog_8_method_3_code
def yX6_init : MethodName := ⟨RX6, "<init>", "()V"⟩
abbrev cX6_isPerson : ByteArray := prog_8_method_4_code
def yX6_isPerson : MethodName := ⟨RX6, "isPerson", "(I)Z"⟩
abbrev cX6_isThing : ByteArray := prog_8_method_5_code
def yX6_isThing : MethodName := ⟨RX6, "isThing", "(I)Z"⟩
abbrev cX6_isSide : ByteArray := prog_8_method_6_code
def yX6_isSide : MethodName := ⟨RX6, "isSide", "(I)Z"⟩
abbrev cX6_stands : ByteArray := prog_8_method_7_code
def yX6_stands : MethodName := ⟨RX6, "stands", "(I)I"⟩
abbrev cX6_isOver : ByteArray := prog_8_method_8_code
def yX6_isOver : MethodName := ⟨RX6, "isOver", "(I)Z"⟩
abbrev cX6_ends : ByteArray := prog_8_method_9_code
def yX6_ends : MethodName := ⟨RX6, "ends", "()I"⟩
abbrev cX6_person : ByteArray := prog_8_method_10_code
def yX6_person : MethodName := ⟨RX6, "person", "(III)I"⟩
abbrev cX6_rule : ByteArray := prog_8_method_11_code
def yX6_rule : MethodName := ⟨RX6, "rule", "(II)I"⟩
abbrev cX6_thing : ByteArray := prog_8_method_12_code
def yX6_thing : MethodName := ⟨RX6, "thing", "(I)I"⟩
abbrev cX6_worth : ByteArray := prog_8_method_13_code
def yX6_worth : MethodName := ⟨RX6, "worth", "(III)I"⟩
abbrev cX6_comes : ByteArray := prog_8_method_14_code
def yX6_comes : MethodName := ⟨RX6, "comes", "(II)I"⟩
abbrev cX6_suit : ByteArray := prog_8_method_15_code
def yX6_suit : MethodName := ⟨RX6, "suit", "(II)I"⟩
abbrev cX6_told : ByteArray := prog_8_method_16_code
def yX6_told : MethodName := ⟨RX6, "told", "(II)I"⟩
abbrev cX6_hand : ByteArray := prog_8_method_17_code
def yX6_hand : MethodName := ⟨RX6, "hand", "(I)I"⟩
abbrev cX6_purse : ByteArray := prog_8_method_18_code
def yX6_purse : MethodName := ⟨RX6, "purse", "(I)I"⟩
abbrev cX6_standsIn : ByteArray := prog_8_method_19_code
def yX6_standsIn : MethodName := ⟨RX6, "standsIn", "(I)I"⟩
abbrev cX6_valueOf : ByteArray := prog_8_method_20_code
def yX6_valueOf : MethodName := ⟨RX6, "valueOf", "(I)I"⟩
abbrev cX6_value : ByteArray := prog_8_method_21_code
def yX6_value : MethodName := ⟨RX6, "value", "(I)I"⟩
abbrev cX6_size : ByteArray := prog_8_method_22_code
def yX6_size : MethodName := ⟨RX6, "size", "(I)I"⟩
abbrev cX6_costAll : ByteArray := prog_8_method_23_code
def yX6_costAll : MethodName := ⟨RX6, "costAll", "()I"⟩
abbrev cX6_count : ByteArray := prog_8_method_24_code
def yX6_count : MethodName := ⟨RX6, "count", "(I)I"⟩
abbrev cX6_type : ByteArray := prog_8_method_25_code
def yX6_type : MethodName := ⟨RX6, "type", "(JI)I"⟩
abbrev cX6_here : ByteArray := prog_8_method_26_code
def yX6_here : MethodName := ⟨RX6, "here", "()I"⟩
abbrev cX6_has : ByteArray := prog_8_method_27_code
def yX6_has : MethodName := ⟨RX6, "has", "(I)Z"⟩
abbrev cX6_digit : ByteArray := prog_8_method_28_code
def yX6_digit : MethodName := ⟨RX6, "digit", "(I)I"⟩
abbrev cX6_thingClause : ByteArray := prog_8_method_29_code
def yX6_thingClause : MethodName := ⟨RX6, "thingClause", "(I)V"⟩
abbrev cX6_side : ByteArray := prog_8_method_30_code
def yX6_side : MethodName := ⟨RX6, "side", "(I)I"⟩
abbrev cX6_readAll : ByteArray := prog_8_method_31_code
def yX6_readAll : MethodName := ⟨RX6, "readAll", "(Z)I"⟩
abbrev cX6_village : ByteArray := prog_8_method_32_code
def yX6_village : MethodName := ⟨RX6, "village", "()I"⟩
abbrev cX6_suits : ByteArray := prog_8_method_33_code
def yX6_suits : MethodName := ⟨RX6, "suits", "()I"⟩
abbrev cX6_stay : ByteArray := prog_8_method_34_code
def yX6_stay : MethodName := ⟨RX6, "stay", "(I)V"⟩
abbrev cX6_sells : ByteArray := prog_8_method_35_code
def yX6_sells : MethodName := ⟨RX6, "sells", "(II)I"⟩
abbrev cX6_comesTo : ByteArray := prog_8_method_36_code
def yX6_comesTo : MethodName := ⟨RX6, "comesTo", "(II)V"⟩
abbrev cX6_sale : ByteArray := prog_8_method_37_code
def yX6_sale : MethodName := ⟨RX6, "sale", "(III)I"⟩
abbrev cX6_swap : ByteArray := prog_8_method_38_code
def yX6_swap : MethodName := ⟨RX6, "swap", "(II)I"⟩
abbrev cX6_give : ByteArray := prog_8_method_39_code
def yX6_give : MethodName := ⟨RX6, "give", "(I)I"⟩
abbrev cX6_weds : ByteArray := prog_8_method_40_code
def yX6_weds : MethodName := ⟨RX6, "weds", "(II)I"⟩
abbrev cX6_wed : ByteArray := prog_8_method_41_code
def yX6_wed : MethodName := ⟨RX6, "wed", "(II)I"⟩
abbrev cX6_part : ByteArray := prog_8_method_42_code
def yX6_part : MethodName := ⟨RX6, "part", "(II)I"⟩
abbrev cX6_keeps : ByteArray := prog_8_method_43_code
def yX6_keeps : MethodName := ⟨RX6, "keeps", "()V"⟩
abbrev cX6_back : ByteArray := prog_8_method_44_code
def yX6_back : MethodName := ⟨RX6, "back", "()V"⟩
abbrev cX6_gainOf : ByteArray := prog_8_method_45_code
def yX6_gainOf : MethodName := ⟨RX6, "gainOf", "(III)I"⟩
abbrev cX6_gain : ByteArray := prog_8_method_46_code
def yX6_gain : MethodName := ⟨RX6, "gain", "(III)I"⟩
abbrev cX6_priceOf : ByteArray := prog_8_method_47_code
def yX6_priceOf : MethodName := ⟨RX6, "priceOf", "(II)I"⟩
abbrev cX6_agreed : ByteArray := prog_8_method_48_code
def yX6_agreed : MethodName := ⟨RX6, "agreed", "(II)I"⟩
abbrev cX6_deals : ByteArray := prog_8_method_49_code
def yX6_deals : MethodName := ⟨RX6, "deals", "()Z"⟩
abbrev cX6_rest : ByteArray := prog_8_method_50_code
def yX6_rest : MethodName := ⟨RX6, "rest", "(I)I"⟩
abbrev cX6_groupOf : ByteArray := prog_8_method_51_code
def yX6_groupOf : MethodName := ⟨RX6, "groupOf", "(I)I"⟩
abbrev cX6_group : ByteArray := prog_8_method_52_code
def yX6_group : MethodName := ⟨RX6, "group", "(I)I"⟩
abbrev cX6_neverOf : ByteArray := prog_8_method_53_code
def yX6_neverOf : MethodName := ⟨RX6, "neverOf", "()I"⟩
abbrev cX6_never : ByteArray := prog_8_method_54_code
def yX6_never : MethodName := ⟨RX6, "never", "()I"⟩
abbrev cX6_done : ByteArray := prog_8_method_55_code
def yX6_done : MethodName := ⟨RX6, "done", "(II)Z"⟩
abbrev cX6_notes : ByteArray := prog_8_method_56_code
def yX6_notes : MethodName := ⟨RX6, "notes", "(I)V"⟩
abbrev cX6_fewestOf : ByteArray := prog_8_method_57_code
def yX6_fewestOf : MethodName := ⟨RX6, "fewestOf", "()I"⟩
abbrev cX6_fewest : ByteArray := prog_8_method_58_code
def yX6_fewest : MethodName := ⟨RX6, "fewest", "(I)I"⟩
abbrev cX6_bestOf : ByteArray := prog_8_method_59_code
def yX6_bestOf : MethodName := ⟨RX6, "bestOf", "(I)I"⟩
abbrev cX6_best : ByteArray := prog_8_method_60_code
def yX6_best : MethodName := ⟨RX6, "best", "(II)I"⟩
abbrev cX6_savesOf : ByteArray := prog_8_method_61_code
def yX6_savesOf : MethodName := ⟨RX6, "savesOf", "(II)I"⟩
abbrev cX6_saves : ByteArray := prog_8_method_62_code
def yX6_saves : MethodName := ⟨RX6, "saves", "(II)I"⟩
abbrev cX6_match : ByteArray := prog_8_method_63_code
def yX6_match : MethodName := ⟨RX6, "match", "()I"⟩
abbrev cX6_against : ByteArray := prog_8_method_64_code
def yX6_against : MethodName := ⟨RX6, "against", "(III)I"⟩
abbrev cX6_pays : ByteArray := prog_8_method_65_code
def yX6_pays : MethodName := ⟨RX6, "pays", "(IIIII)I"⟩
abbrev cX6_lay : ByteArray := prog_8_method_66_code
def yX6_lay : MethodName := ⟨RX6, "lay", "([II)I"⟩
abbrev cX6_gives : ByteArray := prog_8_method_67_code
def yX6_gives : MethodName := ⟨RX6, "gives", "([II[I)I"⟩
abbrev cX6_image : ByteArray := prog_8_method_68_code
def yX6_image : MethodName := ⟨RX6, "image", "()I"⟩
abbrev cX6_restore : ByteArray := prog_8_method_69_code
def yX6_restore : MethodName := ⟨RX6, "restore", "()I"⟩
abbrev cX6_isSheet : ByteArray := prog_8_method_70_code
def yX6_isSheet : MethodName := ⟨RX6, "isSheet", "(I)Z"⟩
abbrev cX6_isLane : ByteArray := prog_8_method_71_code
def yX6_isLane : MethodName := ⟨RX6, "isLane", "(I)Z"⟩
abbrev cX6_finds : ByteArray := prog_8_method_72_code
def yX6_finds : MethodName := ⟨RX6, "finds", "(IIII)I"⟩
abbrev cX6_deal : ByteArray := prog_8_method_73_code
def yX6_deal : MethodName := ⟨RX6, "deal", "(IIII)I"⟩
abbrev cX6_sheet : ByteArray := prog_8_method_74_code
def yX6_sheet : MethodName := ⟨RX6, "sheet", "(III)I"⟩
abbrev cX6_drop : ByteArray := prog_8_method_75_code
def yX6_drop : MethodName := ⟨RX6, "drop", "(I)I"⟩
abbrev cX6_item : ByteArray := prog_8_method_76_code
def yX6_item : MethodName := ⟨RX6, "item", "(IIII)I"⟩
abbrev cX6_copy : ByteArray := prog_8_method_77_code
def yX6_copy : MethodName := ⟨RX6, "copy", "(IIIII)I"⟩
def RJ6 : String := "java/lang/Integer"
def TJ6 : u_T := fun k => match k with
  | _ => ("", "", "", false)
def tyJ6 : Nat → FieldType := fun k => match k with
  | _ => .int
theorem nmJ6 : ∀ a, a < 0 → ∀ b, b < 0 → a ≠ b → (TJ6 a).2.1 ≠ (TJ6 b).2.1 := by decide +kernel
theorem tyJ6_ok : ∀ k, k < 0 → parseFieldDescriptor (TJ6 k).2.2.1 = some (tyJ6 k) := by decide +kernel
abbrev cJ6_bitCount_0f7a4 : ByteArray := prog_9_method_49_code
def yJ6_bitCount_0f7a4 : MethodName := ⟨RJ6, "bitCount", "(I)I"⟩
def RJ9 : String := "java/lang/Math"
def TJ9 : u_T := fun k => match k with
  | _ => ("", "", "", false)
def tyJ9 : Nat → FieldType := fun k => match k with
  | _ => .int
theorem nmJ9 : ∀ a, a < 0 → ∀ b, b < 0 → a ≠ b → (TJ9 a).2.1 ≠ (TJ9 b).2.1 := by decide +kernel
theorem tyJ9_ok : ∀ k, k < 0 → parseFieldDescriptor (TJ9 k).2.2.1 = some (tyJ9 k) := by decide +kernel
abbrev cJ9_max_7cf53 : ByteArray := prog_10_method_65_code
def yJ9_max_7cf53 : MethodName := ⟨RJ9, "max", "(II)I"⟩
abbrev cJ9_min_7cf53 : ByteArray := prog_10_method_69_code
def yJ9_min_7cf53 : MethodName := ⟨RJ9, "min", "(II)I"⟩
def RJ10 : String := "java/lang/System"
def TJ10 : u_T := fun k => match k with
  | _ => ("", "", "", false)
def tyJ10 : Nat → FieldType := fun k => match k with
  | _ => .int
theorem nmJ10 : ∀ a, a < 0 → ∀ b, b < 0 → a ≠ b → (TJ10 a).2.1 ≠ (TJ10 b).2.1 := by decide +kernel
theorem tyJ10_ok : ∀ k, k < 0 → parseFieldDescriptor (TJ10 k).2.2.1 = some (tyJ10 k) := by decide +kernel
def RL : String := "QuarrelSalesLaw"
abbrev cL_law : ByteArray := code
def yL_law : MethodName := ⟨RL, "law", "([I)Z"⟩
abbrev vwCl : List vw_C := [(RX0, TX0, 7), (RX1, TX1, 5), (RX2, TX2, 4), (RX3, TX3, 4), (RX4, TX4, 5), (RX5, TX5, 7), (RX6, TX6, 29)]
end
section
/-! ===== core 1: an abstract machine: shapes, values, configurations, ops ===== -/
/-- a field: a number (none), null, or the place of a cell -/
abbrev qF : Type := Option (Option Nat)
/-- a cell's shape: an object (class, fields), a row of ints (length), a row of references (0 Court, 1 Sheet; length; places) -/
abbrev qS : Type := (Nat × List qF) ⊕ (Nat ⊕ (Nat × Nat × List (Option Nat)))
/-- a heap: the shapes of the cells in the order of their making, and every number in them -/
abbrev qH : Type := List qS × (Nat → Nat → Int32)
/-- pc, locals, stack, heap, cells made, slots made -/
abbrev qC : Type := Nat × List Value × List Value × qH × Nat × Nat
/-- a call: method, arguments, the configuration behind it (without the answer) -/
abbrev qQ : Type := Nat × List Value × qC
abbrev qO : Type := Option (qC ⊕ (qQ ⊕ (Option Value × qC)))
abbrev qOp : Type := qC → qO
def qU : Value := .retAddr 0
def qSCR : Nat := 1000000
def qok (v : Value) : Bool := match v with
  | .long _ => false
  | .double _ => false
  | _ => true
def qup (h : Nat → Nat → Int32) (o k : Nat) (v : Int32) : Nat → Nat → Int32 := fun o' k' => if o' = o then (if k' = k then v else h o' k') else h o' k'
def qz (h : Nat → Nat → Int32) (o : Nat) : Nat → Nat → Int32 := fun o' k' => if o' = o then 0 else h o' k'
/-- a row of ints as a whole -/
def qrow (h : Nat → Nat → Int32) (o : Nat) (f : Nat → Int32) : Nat → Nat → Int32 := fun o' k' => if o' = o then f k' else h o' k'
def qfa (h : Nat → Nat → Int32) (o k : Nat) (f : qF) : Value := match f with
  | none => .int (h o k)
  | some none => .null
  | some (some p) => .ref p
def qcat (st : List Value) : Nat := (st.map fun v => v.category).sum
def qdrp : List Bool → List Value → List Value
  | [], l => l
  | _ :: _, [] => []
  | b :: bs, v :: l => (match b with | true => v | false => qU) :: qdrp bs l
/-! ops: the numbers ahead are written by a program; n is the pc behind -/
def oI (v : Int32) (n : Nat) : qOp := fun c => match c with
  | (_, ls, st, h) => some (.inl (n, ls, .int v :: st, h))
def oL (v : Int64) (n : Nat) : qOp := fun c => match c with
  | (_, ls, st, h) => some (.inl (n, ls, .long v :: st, h))
def oLdI (i n : Nat) : qOp := fun c => match c with
  | (_, ls, st, h) => match ls[i]? with
    | some (.int x) => some (.inl (n, ls, .int x :: st, h))
    | _ => none
def oLdL (i n : Nat) : qOp := fun c => match c with
  | (_, ls, st, h) => match ls[i]? with
    | some (.long x) => some (.inl (n, ls, .long x :: st, h))
    | _ => none
def oLdA (i n : Nat) : qOp := fun c => match c with
  | (_, ls, st, h) => match ls[i]? with
    | some (.ref x) => some (.inl (n, ls, .ref x :: st, h))
    | _ => none
def qpre (ls : List Value) (i : Nat) : Bool := match i with
  | 0 => true
  | j + 1 => match ls[j]? with
    | some v => qok v
    | none => false
def oStI (i n : Nat) : qOp := fun c => match c with
  | (_, ls, .int x :: st, h) => match qpre ls i, decide (i < ls.length) with
    | true, true => some (.inl (n, ls.set i (.int x), st, h))
    | _, _ => none
  | _ => none
def oStA (i n : Nat) : qOp := fun c => match c with
  | (_, ls, .ref x :: st, h) => match qpre ls i, decide (i < ls.length) with
    | true, true => some (.inl (n, ls.set i (.ref x), st, h))
    | _, _ => none
  | _ => none
def oInc (i : Nat) (k : Int32) (n : Nat) : qOp := fun c => match c with
  | (_, ls, st, h) => match ls[i]? with
    | some (.int x) => match qpre ls i with
      | true => some (.inl (n, ls.set i (.int (x + k)), st, h))
      | false => none
    | _ => none
def oBin (f : Int32 → Int32 → Int32) (n : Nat) : qOp := fun c => match c with
  | (_, ls, .int y :: .int x :: st, h) => some (.inl (n, ls, .int (f x y) :: st, h))
  | _ => none
def oDiv (f : Int32 → Int32 → Int32) (n : Nat) : qOp := fun c => match c with
  | (_, ls, .int y :: .int x :: st, h) => if y = 0 then none else some (.inl (n, ls, .int (f x y) :: st, h))
  | _ => none
def oUn (f : Int32 → Int32) (n : Nat) : qOp := fun c => match c with
  | (_, ls, .int x :: st, h) => some (.inl (n, ls, .int (f x) :: st, h))
  | _ => none
def oI2L (n : Nat) : qOp := fun c => match c with
  | (_, ls, .int x :: st, h) => some (.inl (n, ls, .long x.toInt64 :: st, h))
  | _ => none
def oL2I (n : Nat) : qOp := fun c => match c with
  | (_, ls, .long x :: st, h) => some (.inl (n, ls, .int x.toInt32 :: st, h))
  | _ => none
def oLBin (f : Int64 → Int64 → Int64) (n : Nat) : qOp := fun c => match c with
  | (_, ls, .long y :: .long x :: st, h) => some (.inl (n, ls, .long (f x y) :: st, h))
  | _ => none
def oLSh (f : Int64 → Int32 → Int64) (n : Nat) : qOp := fun c => match c with
  | (_, ls, .int y :: .long x :: st, h) => some (.inl (n, ls, .long (f x y) :: st, h))
  | _ => none
def oLcmp (n : Nat) : qOp := fun c => match c with
  | (_, ls, .long y :: .long x :: st, h) => some (.inl (n, ls, .int (lg_cmp x y) :: st, h))
  | _ => none
def oDup (n : Nat) : qOp := fun c => match c with
  | (_, ls, v :: st, h) => match qok v with
    | true => some (.inl (n, ls, v :: v :: st, h))
    | false => none
  | _ => none
def oPop (n : Nat) : qOp := fun c => match c with
  | (_, ls, v :: st, h) => match qok v with
    | true => some (.inl (n, ls, st, h))
    | false => none
  | _ => none
def oGoto (t : Nat) : qOp := fun c => match c with
  | (_, ls, st, h) => some (.inl (t, ls, st, h))
def oIfEq (t n : Nat) : qOp := fun c => match c with
  | (_, ls, .int x :: st, h) => some (.inl ((if x = 0 then t else n), ls, st, h))
  | _ => none
def oIfNe (t n : Nat) : qOp := fun c => match c with
  | (_, ls, .int x :: st, h) => some (.inl ((if ¬ x = 0 then t else n), ls, st, h))
  | _ => none
def oIfLt (t n : Nat) : qOp := fun c => match c with
  | (_, ls, .int x :: st, h) => some (.inl ((if x < 0 then t else n), ls, st, h))
  | _ => none
def oIfGe (t n : Nat) : qOp := fun c => match c with
  | (_, ls, .int x :: st, h) => some (.inl ((if 0 ≤ x then t else n), ls, st, h))
  | _ => none
def oIfGt (t n : Nat) : qOp := fun c => match c with
  | (_, ls, .int x :: st, h) => some (.inl ((if 0 < x then t else n), ls, st, h))
  | _ => none
def oIfLe (t n : Nat) : qOp := fun c => match c with
  | (_, ls, .int x :: st, h) => some (.inl ((if x ≤ 0 then t else n), ls, st, h))
  | _ => none
def oCmEq (t n : Nat) : qOp := fun c => match c with
  | (_, ls, .int y :: .int x :: st, h) => some (.inl ((if x = y then t else n), ls, st, h))
  | _ => none
def oCmNe (t n : Nat) : qOp := fun c => match c with
  | (_, ls, .int y :: .int x :: st, h) => some (.inl ((if ¬ x = y then t else n), ls, st, h))
  | _ => none
def oCmLt (t n : Nat) : qOp := fun c => match c with
  | (_, ls, .int y :: .int x :: st, h) => some (.inl ((if x < y then t else n), ls, st, h))
  | _ => none
def oCmGe (t n : Nat) : qOp := fun c => match c with
  | (_, ls, .int y :: .int x :: st, h) => some (.inl ((if y ≤ x then t else n), ls, st, h))
  | _ => none
def oCmGt (t n : Nat) : qOp := fun c => match c with
  | (_, ls, .int y :: .int x :: st, h) => some (.inl ((if y < x then t else n), ls, st, h))
  | _ => none
def oCmLe (t n : Nat) : qOp := fun c => match c with
  | (_, ls, .int y :: .int x :: st, h) => some (.inl ((if x ≤ y then t else n), ls, st, h))
  | _ => none
def oSw (lo : Int) (ts : List Nat) (d : Nat) : qOp := fun c => match c with
  | (_, ls, .int x :: st, h) => some (.inl ((if x.toInt < lo ∨ lo + (ts.length : Int) - 1 < x.toInt then d else ts.getD (x.toInt - lo).toNat d), ls, st, h))
  | _ => none
def oGet (ci k n : Nat) : qOp := fun c => match c with
  | (_, ls, .ref o :: st, hp, r) => match hp.1[o]? with
    | some (.inl (cj, fs)) => match decide (cj = ci), fs[k]? with
      | true, some f => some (.inl (n, ls, qfa hp.2 o k f :: st, hp, r))
      | _, _ => none
    | _ => none
  | _ => none
def oPutI (ci k n : Nat) : qOp := fun c => match c with
  | (_, ls, .int v :: .ref o :: st, hp, r) => match hp.1[o]? with
    | some (.inl (cj, fs)) => match decide (cj = ci), fs[k]? with
      | true, some none => some (.inl (n, ls, st, (hp.1, qup hp.2 o k v), r))
      | _, _ => none
    | _ => none
  | _ => none
def oPutZ (ci k n : Nat) : qOp := fun c => match c with
  | (_, ls, .int v :: .ref o :: st, hp, r) => if v = 0 ∨ v = 1 then (match hp.1[o]? with
    | some (.inl (cj, fs)) => match decide (cj = ci), fs[k]? with
      | true, some none => some (.inl (n, ls, st, (hp.1, qup hp.2 o k v), r))
      | _, _ => none
    | _ => none) else none
  | _ => none
/-- a final field of a constructor -/
def oPutF (ci k n : Nat) : qOp := fun c => match c with
  | (_, ls, .ref v :: .ref o :: st, hp, r) => match hp.1[o]? with
    | some (.inl (cj, fs)) => match decide (cj = ci), fs[k]? with
      | true, some (some _) => some (.inl (n, ls, st, (hp.1.set o (.inl (cj, fs.set k (some (some v)))), hp.2), r))
      | _, _ => none
    | _ => none
  | _ => none
def oALd (n : Nat) : qOp := fun c => match c with
  | (_, ls, .int i :: .ref a :: st, hp, r) => match hp.1[a]? with
    | some (.inr (.inl N)) => if i < 0 ∨ N ≤ i.toNatClampNeg then none else some (.inl (n, ls, .int (hp.2 a i.toNatClampNeg) :: st, hp, r))
    | _ => none
  | _ => none
def oASt (n : Nat) : qOp := fun c => match c with
  | (_, ls, .int x :: .int i :: .ref a :: st, hp, r) => match hp.1[a]? with
    | some (.inr (.inl N)) => if i < 0 ∨ N ≤ i.toNatClampNeg then none else some (.inl (n, ls, st, (hp.1, qup hp.2 a i.toNatClampNeg x), r))
    | _ => none
  | _ => none
def qrf (r : Option Nat) : Value := match r with
  | none => .null
  | some p => .ref p
def oAALd (n : Nat) : qOp := fun c => match c with
  | (_, ls, .int i :: .ref a :: st, hp, r) => match hp.1[a]? with
    | some (.inr (.inr (_, N, rs))) => if i < 0 ∨ N ≤ i.toNatClampNeg then none else some (.inl (n, ls, qrf (rs.getD i.toNatClampNeg none) :: st, hp, r))
    | _ => none
  | _ => none
def oAASt (n : Nat) : qOp := fun c => match c with
  | (_, ls, .ref v :: .int i :: .ref a :: st, hp, r) => match hp.1[a]?, hp.1[v]? with
    | some (.inr (.inr (t, N, rs))), some (.inl (cj, _)) => if i < 0 ∨ N ≤ i.toNatClampNeg then none else match decide (cj = if t = 0 then 0 else 2), decide (rs.length = N) with
      | true, true => some (.inl (n, ls, st, (hp.1.set a (.inr (.inr (t, N, rs.set i.toNatClampNeg (some v)))), hp.2), r))
      | _, _ => none
    | _, _ => none
  | _ => none
def oLen (n : Nat) : qOp := fun c => match c with
  | (_, ls, .ref a :: st, hp, r) => match hp.1[a]? with
    | some (.inr (.inl N)) => some (.inl (n, ls, .int (Int32.ofNat N) :: st, hp, r))
    | some (.inr (.inr (_, N, _))) => some (.inl (n, ls, .int (Int32.ofNat N) :: st, hp, r))
    | _ => none
  | _ => none
/-- the law's own script -/
def oSLd (L : Nat) (xs : Nat → Int32) (n : Nat) : qOp := fun c => match c with
  | (_, ls, .int i :: .ref a :: st, h) => if a = qSCR ∧ ¬ (i < 0 ∨ L ≤ i.toNatClampNeg) then some (.inl (n, ls, .int (xs i.toNatClampNeg) :: st, h)) else none
  | _ => none
def oSLen (L n : Nat) : qOp := fun c => match c with
  | (_, ls, .ref a :: st, h) => if a = qSCR then some (.inl (n, ls, .int (Int32.ofNat L) :: st, h)) else none
  | _ => none
def oNew (ci N : Nat) (fs : List qF) (mc ms n : Nat) : qOp := fun c => match c with
  | (_, ls, st, hp, k, q) => if k + 1 ≤ mc ∧ q + N ≤ ms ∧ hp.1.length + 1 ≤ qSCR then some (.inl (n, ls, .ref hp.1.length :: st, (hp.1 ++ [.inl (ci, fs)], qz hp.2 hp.1.length), k + 1, q + N)) else none
def oNewI (mc ms n : Nat) : qOp := fun c => match c with
  | (_, ls, .int z :: st, hp, k, q) => if ¬ z < 0 ∧ z.toNatClampNeg ≤ 1000 ∧ k + 1 ≤ mc ∧ q + z.toNatClampNeg ≤ ms ∧ hp.1.length + 1 ≤ qSCR then some (.inl (n, ls, .ref hp.1.length :: st, (hp.1 ++ [.inr (.inl z.toNatClampNeg)], qz hp.2 hp.1.length), k + 1, q + z.toNatClampNeg)) else none
  | _ => none
def oNewR (t mc ms n : Nat) : qOp := fun c => match c with
  | (_, ls, .int z :: st, hp, k, q) => if ¬ z < 0 ∧ z.toNatClampNeg ≤ 1000 ∧ k + 1 ≤ mc ∧ q + z.toNatClampNeg ≤ ms ∧ hp.1.length + 1 ≤ qSCR then some (.inl (n, ls, .ref hp.1.length :: st, (hp.1 ++ [.inr (.inr (t, z.toNatClampNeg, List.replicate z.toNatClampNeg none))], hp.2), k + 1, q + z.toNatClampNeg)) else none
  | _ => none
def oObj (n : Nat) : qOp := fun c => match c with
  | (_, ls, .ref _ :: st, h) => match decide (qcat st ≤ 8) with
    | true => some (.inl (n, ls, st, h))
    | false => none
  | _ => none
def oCopy (n : Nat) : qOp := fun c => match c with
  | (_, ls, .int z :: .int dp :: .ref a :: .int sp :: .ref a0 :: st, hp, r) => match hp.1[a0]?, hp.1[a]? with
    | some (.inr (.inl n0)), some (.inr (.inl n1)) => if ¬ sp < 0 ∧ ¬ dp < 0 ∧ ¬ z < 0 ∧ sp.toNatClampNeg + z.toNatClampNeg ≤ n0 ∧ dp.toNatClampNeg + z.toNatClampNeg ≤ n1 ∧ qcat st ≤ 8 then some (.inl (n, ls, st, (hp.1, qrow hp.2 a (va_cpy (hp.2 a0) (hp.2 a) sp.toNatClampNeg dp.toNatClampNeg z.toNatClampNeg)), r)) else none
    | _, _ => none
  | _ => none
/-- calls: method, number of arguments (the receiver too), what it makes, this method's budget -/
def oCallS (y na kc ks mc ms n : Nat) : qOp := fun c => match c with
  | (_, ls, st, hp, k, q) => match decide (na ≤ st.length), decide (qcat (st.drop na) ≤ 8), decide (k + kc ≤ mc ∧ q + ks ≤ ms) with
    | true, true, true => some (.inr (.inl (y, (st.take na).reverse, (n, ls, st.drop na, hp, k + kc, q + ks))))
    | _, _, _ => none
def oCallV (y ci na kc ks mc ms n : Nat) : qOp := fun c => match c with
  | (_, ls, st, hp, k, q) => match st[na]? with
    | some (.ref o) => match hp.1[o]? with
      | some (.inl (cj, _)) => match decide (cj = ci), decide (qcat (st.drop (na + 1)) ≤ 8), decide (k + kc ≤ mc ∧ q + ks ≤ ms) with
        | true, true, true => some (.inr (.inl (y, .ref o :: (st.take na).reverse, (n, ls, st.drop (na + 1), hp, k + kc, q + ks))))
        | _, _, _ => none
      | _ => none
    | _ => none
def oCallI (y na kc ks mc ms n : Nat) : qOp := fun c => match c with
  | (_, ls, st, hp, k, q) => match st[na]? with
    | some (.ref o) => match decide (qcat (st.drop (na + 1)) ≤ 8), decide (k + kc ≤ mc ∧ q + ks ≤ ms) with
        | true, true => some (.inr (.inl (y, .ref o :: (st.take na).reverse, (n, ls, st.drop (na + 1), hp, k + kc, q + ks))))
        | _, _ => none
    | _ => none
def oRetI : qOp := fun c => match c with
  | (pc, ls, [.int x], h) => some (.inr (.inr (some (.int x), (pc, ls, [.int x], h))))
  | _ => none
def oRetZ : qOp := fun c => match c with
  | (pc, ls, [.int x], h) => if x = 0 ∨ x = 1 then some (.inr (.inr (some (.int x), (pc, ls, [.int x], h)))) else none
  | _ => none
def oRetV : qOp := fun c => match c with
  | (pc, ls, [], h) => some (.inr (.inr (none, (pc, ls, [], h))))
  | _ => none
/-! runs -/
abbrev qM : Type := MethodName × ByteArray × Nat × Option FieldType × Nat × Nat
def Rn (call : Nat → List Value → qH → Option Value → qH → Prop) (cd : List (Nat × qOp)) : Nat → qC → Option Value × qC → Prop
  | 0, _, _ => False
  | k + 1, c, r => (∃ mask, Rn call cd k (c.1, qdrp mask c.2.1, c.2.2) r) ∨ match cd.lookup c.1 with
    | none => False
    | some op => match op c with
      | none => False
      | some (.inl c') => Rn call cd k c' r
      | some (.inr (.inl q)) => ∃ (v : Option Value) (h1 : qH), call q.1 q.2.1 q.2.2.2.2.2.1 v h1 ∧ Rn call cd k (q.2.2.1, q.2.2.2.1, v.toList ++ q.2.2.2.2.1, h1, q.2.2.2.2.2.2) r
      | some (.inr (.inr x)) => x = r
def qEnt (as : List Value) : List Value := as.flatMap fun v => match qok v with
  | true => [v]
  | false => [v, qU]
def qEn (ml : Nat) (as : List Value) : List Value := qEnt as ++ List.replicate (ml - (qEnt as).length) qU
def Ex (mt : List qM) (cd : List (List (Nat × qOp))) : Nat → Nat → List Value → qH → Option Value → qH → Prop
  | 0, _, _, _, _, _ => False
  | d + 1, y, as, hp, v, hp1 => ∃ (t : qM) (k : List (Nat × qOp)) (n : Nat) (c : qC), mt[y]? = some t ∧ cd[y]? = some k ∧ (qEnt as).length ≤ t.2.2.1 ∧ Rn (Ex mt cd d) k n (0, qEn t.2.2.1 as, [], hp, 0, 0) (v, c) ∧ c.2.2.2.1 = hp1 ∧ hp1.1.length = hp.1.length + t.2.2.2.2.1 ∧ c.2.2.2.2.1 ≤ t.2.2.2.2.1 ∧ c.2.2.2.2.2 ≤ t.2.2.2.2.2
end
section
/-! ===== core 2: what an abstract heap is on the machine ===== -/
def wsG : List Cond := lw_tbl.filter goodWord
theorem qmem {w : Cond} (i : Nat) (h : lw_tbl[i]? = some w) (g : goodWord w = true) : w ∈ wsG := List.mem_filter.mpr ⟨List.mem_of_getElem? h, g⟩
theorem qmems {ws : List Cond} (is : List Nat) (h : ws = is.filterMap (fun i => lw_tbl[i]?)) (g : ws.all goodWord = true) : ∀ w ∈ ws, w ∈ wsG := by
  intro w hw
  refine List.mem_filter.mpr ⟨?_, List.all_eq_true.mp g w hw⟩
  rw [h] at hw
  obtain ⟨i, -, hi⟩ := List.mem_filterMap.mp hw
  exact List.mem_of_getElem? hi
theorem qgood : GoodIn wsG wsG := fun w hw => ⟨hw, good_of_word (List.mem_filter.mp hw).2⟩
def qad (sz b k : Nat) : Nat := if k = qSCR then b else sz + k
def qmv (sz b : Nat) (v : Value) : Value := match v with
  | .ref k => .ref (qad sz b k)
  | v => v
theorem qmv_cat (sz b : Nat) (v : Value) : (qmv sz b v).category = v.category := by cases v <;> rfl
theorem qok_cat {v : Value} : qok v = true ↔ v.category = 1 := by cases v <;> simp [qok, Value.category]
theorem qok_cat2 {v : Value} : qok v = false ↔ v.category = 2 := by cases v <;> simp [qok, Value.category]
def qfv (sz b : Nat) (h : Nat → Int32) (k : Nat) (f : qF) : Value := match f with
  | none => .int (h k)
  | some none => .null
  | some (some p) => .ref (qad sz b p)
theorem qmv_fa (sz b : Nat) (h : Nat → Nat → Int32) (o k : Nat) (f : qF) : qmv sz b (qfa h o k f) = qfv sz b (h o) k f := by
  rcases f with _ | _ | p <;> rfl
abbrev qI : Type := ClassId × ClassId × ClassId
def qce (ids : qI) (sz b : Nat) (h : Nat → Int32) (s : qS) : va_E := match s with
  | .inl (ci, fs) => .inr (ci, fs.mapIdx (fun k f => qfv sz b h k f))
  | .inr (.inl n) => .inl (ids.1, (n, .inl h))
  | .inr (.inr (t, n, rs)) => .inl ((if t = 0 then ids.2.1 else ids.2.2), (n, .inr (.inr (.inr (.inr (fun j => (rs.getD j none).map (qad sz b)))))))
def qws (ids : qI) (sz b : Nat) (hp : qH) : va_W := hp.1.mapIdx (fun k s => (sz + k, qce ids sz b (hp.2 k) s))
def qtys (ids : qI) : List (ClassId × FieldType) := [(ids.1, .int), (ids.2.1, .object RX0), (ids.2.2, .object RX2)]
def qHR (D : va_G) (ids : qI) (sz b : Nat) (hp : qH) (H : Heap) : Prop := va_P D vwCl (qws ids sz b hp) H ∧ hp.1.length ≤ qSCR
def qA (sz : Nat) : Nat → Prop := fun q => sz ≤ q
theorem qws_get {ids : qI} {sz b : Nat} {hp : qH} {o : Nat} {s : qS} (h : hp.1[o]? = some s) : (qws ids sz b hp)[o]? = some (sz + o, qce ids sz b (hp.2 o) s) := by
  unfold qws
  rw [List.getElem?_mapIdx, h]
  rfl
theorem qws_inv {ids : qI} {sz b : Nat} {hp : qH} {o : Nat} {q : Nat × va_E} (h : (qws ids sz b hp)[o]? = some q) : q.1 = sz + o := by
  unfold qws at h
  rw [List.getElem?_mapIdx] at h
  cases hs : hp.1[o]? with
  | none => rw [hs] at h; cases h
  | some s => rw [hs] at h; cases h; rfl
theorem qD (ids : qI) (sz b : Nat) (hp : qH) : va_D (qA sz) (qws ids sz b hp) := by
  refine ⟨fun i j p q hi hj hpq => ?_, fun k q hk => ?_⟩
  · have h1 := qws_inv hi
    have h2 := qws_inv hj
    omega
  · have h1 := qws_inv hk
    show sz ≤ q.1
    omega
theorem qad_lt {sz b k : Nat} {sh : List qS} {s : qS} (h : sh[k]? = some s) (hl : sh.length ≤ qSCR) : qad sz b k = sz + k := by
  have h1 := (List.getElem?_eq_some_iff.mp h).1
  unfold qad
  rw [if_neg (by omega)]
/-- writing a number -/
theorem qws_up {ids : qI} {sz b : Nat} {hp : qH} {o : Nat} {s : qS} (k : Nat) (v : Int32) (h : hp.1[o]? = some s) :
    qws ids sz b (hp.1, qup hp.2 o k v) = (qws ids sz b hp).set o (sz + o, qce ids sz b (upd (hp.2 o) k v) s) := by
  apply List.ext_getElem?
  intro i
  unfold qws
  rw [List.getElem?_set, List.getElem?_mapIdx, List.getElem?_mapIdx]
  have hl := (List.getElem?_eq_some_iff.mp h).1
  by_cases hi : o = i
  · subst hi
    rw [if_pos rfl, if_pos (by simpa using hl), h]
    simp only [Option.map_some]
    congr 3
    funext j
    simp [qup, upd]
  · rw [if_neg hi]
    congr 1
    funext s'
    congr 2
    funext j
    simp [qup, Ne.symm hi]
theorem qws_row {ids : qI} {sz b : Nat} {hp : qH} {o : Nat} {s : qS} (f : Nat → Int32) (h : hp.1[o]? = some s) :
    qws ids sz b (hp.1, qrow hp.2 o f) = (qws ids sz b hp).set o (sz + o, qce ids sz b f s) := by
  apply List.ext_getElem?
  intro i
  unfold qws
  rw [List.getElem?_set, List.getElem?_mapIdx, List.getElem?_mapIdx]
  have hl := (List.getElem?_eq_some_iff.mp h).1
  by_cases hi : o = i
  · subst hi
    rw [if_pos rfl, if_pos (by simpa using hl), h]
    simp only [Option.map_some]
    congr 3
    funext j
    simp [qrow]
  · rw [if_neg hi]
    congr 1
    funext s'
    congr 2
    funext j
    simp [qrow, Ne.symm hi]
theorem qws_sh {ids : qI} {sz b : Nat} {hp : qH} {o : Nat} (s : qS) (h : o < hp.1.length) :
    qws ids sz b (hp.1.set o s, hp.2) = (qws ids sz b hp).set o (sz + o, qce ids sz b (hp.2 o) s) := by
  apply List.ext_getElem?
  intro i
  unfold qws
  rw [List.getElem?_set, List.getElem?_mapIdx, List.getElem?_mapIdx, List.getElem?_set]
  by_cases hi : o = i
  · subst hi
    rw [if_pos rfl, if_pos rfl, if_pos h, if_pos (by simpa using h)]
    rfl
  · rw [if_neg hi, if_neg hi]
theorem qws_new {ids : qI} {sz b : Nat} {hp : qH} (s : qS) (h2 : Nat → Nat → Int32) (he : ∀ o k, o < hp.1.length → h2 o k = hp.2 o k) :
    qws ids sz b (hp.1 ++ [s], h2) = qws ids sz b hp ++ [(sz + hp.1.length, qce ids sz b (h2 hp.1.length) s)] := by
  apply List.ext_getElem?
  intro i
  unfold qws
  rw [List.getElem?_mapIdx]
  by_cases hi : i < hp.1.length
  · rw [List.getElem?_append_left hi, List.getElem?_append_left (by simpa using hi), List.getElem?_mapIdx]
    have : h2 i = hp.2 i := funext fun k => he i k hi
    show Option.map (fun s_1 => (sz + i, qce ids sz b (h2 i) s_1)) _ = _
    rw [this]
  · by_cases hj : i = hp.1.length
    · subst hj
      rw [List.getElem?_append_right (Nat.le_refl _), List.getElem?_append_right (by simp)]
      simp
    · rw [List.getElem?_eq_none (by simp; omega), List.getElem?_eq_none (by simp; omega)]
      rfl
theorem qmapIdx_set {α β : Type} (f : Nat → α → β) (l : List α) (k : Nat) (v : α) : (l.set k v).mapIdx f = (l.mapIdx f).set k (f k v) := by
  apply List.ext_getElem?
  intro i
  rw [List.getElem?_set, List.getElem?_mapIdx, List.getElem?_mapIdx, List.getElem?_set]
  by_cases hi : k = i
  · subst hi
    by_cases hl : k < l.length
    · rw [if_pos rfl, if_pos rfl, if_pos hl, if_pos (by simpa using hl)]
      rfl
    · rw [if_pos rfl, if_pos rfl, if_neg hl, if_neg (by simpa using hl)]
      rfl
  · rw [if_neg hi, if_neg hi]
theorem qce_upd {ids : qI} {sz b : Nat} {h : Nat → Int32} {ci k : Nat} {v : Int32} {fs : List qF} (hf : fs[k]? = some none) :
    qce ids sz b (upd h k v) (.inl (ci, fs)) = .inr (ci, (fs.mapIdx (fun j f => qfv sz b h j f)).set k (.int v)) := by
  show Sum.inr (ci, fs.mapIdx (fun j f => qfv sz b (upd h k v) j f)) = _
  congr 2
  apply List.ext_getElem?
  intro i
  have hl := (List.getElem?_eq_some_iff.mp hf).1
  rw [List.getElem?_set, List.getElem?_mapIdx, List.getElem?_mapIdx]
  by_cases hi : k = i
  · subst hi
    rw [if_pos rfl, if_pos (by simpa using hl), hf]
    simp [qfv, upd]
  · rw [if_neg hi]
    congr 1
    funext f
    rcases f with _ | _ | p <;> simp [qfv, upd, Ne.symm hi]
/-! locals -/
def qAs (sz b : Nat) (pl : List Value) : List (Nat × Value) := (List.range pl.length).filterMap (fun i => match pl[i]? with
  | some v => if v = qU then none else some (i, qmv sz b v)
  | none => none)
theorem qAs_mem {sz b : Nat} {pl : List Value} {q : Nat × Value} : q ∈ qAs sz b pl ↔ ∃ v, pl[q.1]? = some v ∧ v ≠ qU ∧ q.2 = qmv sz b v := by
  unfold qAs
  rw [List.mem_filterMap]
  constructor
  · rintro ⟨i, -, h⟩
    cases hp : pl[i]? with
    | none => rw [hp] at h; cases h
    | some v =>
      rw [hp] at h
      dsimp only at h
      by_cases hv : v = qU
      · rw [if_pos hv] at h; cases h
      · rw [if_neg hv] at h
        cases h
        exact ⟨v, hp, hv, rfl⟩
  · rintro ⟨v, h1, h2, h3⟩
    refine ⟨q.1, List.mem_range.mpr (List.getElem?_eq_some_iff.mp h1).1, ?_⟩
    rw [h1]
    dsimp only
    rw [if_neg h2, ← h3]
def qLV (sz b : Nat) (lsA : Array Slot) (ml : Nat) (pl : List Value) : Prop := lv_has lsA ml (qAs sz b pl) ∧ pl.length = ml
theorem qLV.at {sz b : Nat} {lsA : Array Slot} {ml : Nat} {pl : List Value} (h : qLV sz b lsA ml pl) {i : Nat} {v : Value} (hv : pl[i]? = some v) (hu : v ≠ qU) : lsA[i]? = some (.val (qmv sz b v)) :=
  h.1.2.2 (i, qmv sz b v) (qAs_mem.mpr ⟨v, hv, hu, rfl⟩)
theorem qLV.st {sz b : Nat} {lsA lsB : Array Slot} {ml : Nat} {pl : List Value} (h : qLV sz b lsA ml pl) {i : Nat} {v : Value} (hp : qpre pl i = true)
    (hs : lv_has lsB ml ((i, qmv sz b v) :: (qAs sz b pl).filter (fun q => !(q.1 == i) && !(q.1 + 1 == i && q.2.category == 2)))) : qLV sz b lsB ml (pl.set i v) := by
  refine ⟨⟨hs.1, hs.2.1, fun q hq => ?_⟩, by rw [List.length_set]; exact h.2⟩
  obtain ⟨w, hw, hu, e⟩ := qAs_mem.mp hq
  by_cases hqi : i = q.1
  · subst hqi
    have hl := (List.getElem?_eq_some_iff.mp hw).1
    rw [List.length_set] at hl
    rw [List.getElem?_set_self hl] at hw
    cases hw
    have := hs.2.2 (q.1, qmv sz b v) List.mem_cons_self
    rw [e]
    exact this
  · rw [List.getElem?_set_ne hqi] at hw
    refine hs.2.2 q (List.mem_cons_of_mem _ (List.mem_filter.mpr ⟨qAs_mem.mpr ⟨w, hw, hu, e⟩, ?_⟩))
    have h1 : (q.1 == i) = false := by simpa using Ne.symm hqi
    rw [h1]
    by_cases h2 : q.1 + 1 = i
    · subst h2
      unfold qpre at hp
      dsimp only at hp
      rw [hw] at hp
      dsimp only at hp
      have h3 := qok_cat.mp hp
      rw [e, qmv_cat, h3]
      simp
    · simp [h2]
theorem qdrp_len : ∀ (mask : List Bool) (pl : List Value), (qdrp mask pl).length = pl.length
  | [], l => rfl
  | _ :: _, [] => rfl
  | b :: bs, v :: l => by simp [qdrp, qdrp_len bs l]
theorem qdrp_get : ∀ (mask : List Bool) (pl : List Value) (i : Nat) (v : Value), (qdrp mask pl)[i]? = some v → v ≠ qU → pl[i]? = some v
  | [], l, i, v, h, _ => h
  | _ :: _, [], i, v, h, _ => by simp [qdrp] at h
  | b :: bs, w :: l, 0, v, h, hu => by
    cases b
    · simp [qdrp] at h
      exact absurd h.symm hu
    · simpa [qdrp] using h
  | b :: bs, w :: l, i + 1, v, h, hu => by
    simp only [qdrp, List.getElem?_cons_succ] at h ⊢
    exact qdrp_get bs l i v h hu
theorem qLV.drop {sz b : Nat} {lsA : Array Slot} {ml : Nat} {pl : List Value} (h : qLV sz b lsA ml pl) (mask : List Bool) : qLV sz b lsA ml (qdrp mask pl) := by
  refine ⟨⟨h.1.1, h.1.2.1, fun q hq => ?_⟩, by rw [qdrp_len]; exact h.2⟩
  obtain ⟨v, hv, hu, e⟩ := qAs_mem.mp hq
  exact h.1.2.2 q (qAs_mem.mpr ⟨v, qdrp_get _ _ _ _ hv hu, hu, e⟩)
theorem qEnt_args {sz b : Nat} : ∀ (as : List Value) (off i : Nat) (v : Value), (qEnt as)[i]? = some v → v ≠ qU → (off + i, qmv sz b v) ∈ lv_args off (as.map (qmv sz b))
  | [], off, i, v, h, _ => by simp [qEnt] at h
  | a :: as, off, i, v, h, hu => by
    have he : qEnt (a :: as) = (match qok a with | true => [a] | false => [a, qU]) ++ qEnt as := rfl
    rw [he] at h
    show _ ∈ (off, qmv sz b a) :: lv_args (if (qmv sz b a).category = 2 then off + 2 else off + 1) (as.map (qmv sz b))
    rw [qmv_cat]
    cases hk : qok a with
    | true =>
      rw [hk] at h
      rw [if_neg (by rw [qok_cat.mp hk]; decide)]
      cases i with
      | zero => simp at h; subst h; exact List.mem_cons_self
      | succ j =>
        simp only [List.singleton_append, List.getElem?_cons_succ] at h
        have := qEnt_args (sz := sz) (b := b) as (off + 1) j v h hu
        rw [show off + 1 + j = off + (j + 1) by omega] at this
        exact List.mem_cons_of_mem _ this
    | false =>
      rw [hk] at h
      rw [if_pos (qok_cat2.mp hk)]
      match i, h with
      | 0, h => simp at h; subst h; exact List.mem_cons_self
      | 1, h => simp at h; exact absurd h.symm hu
      | j + 2, h =>
        simp only [List.cons_append, List.nil_append, List.getElem?_cons_succ] at h
        have := qEnt_args (sz := sz) (b := b) as (off + 2) j v h hu
        rw [show off + 2 + j = off + (j + 2) by omega] at this
        exact List.mem_cons_of_mem _ this
theorem qEnt_len {sz b : Nat} (as : List Value) : (lg_sl (as.map (qmv sz b))).length = (qEnt as).length := by
  induction as with
  | nil => rfl
  | cons a as ih =>
    have he : qEnt (a :: as) = (match qok a with | true => [a] | false => [a, qU]) ++ qEnt as := rfl
    have h2 : lg_sl ((a :: as).map (qmv sz b)) = (if (qmv sz b a).category = 2 then [.val (qmv sz b a), .second] else [.val (qmv sz b a)]) ++ lg_sl (as.map (qmv sz b)) := rfl
    rw [he, h2, List.length_append, List.length_append, ih, qmv_cat]
    cases hk : qok a with
    | true => rw [if_neg (by rw [qok_cat.mp hk]; decide)]; rfl
    | false => rw [if_pos (qok_cat2.mp hk)]; rfl
theorem qLV.entry {sz b ml : Nat} (as : List Value) (hl : (qEnt as).length ≤ ml) :
    qLV sz b ((lg_sl (as.map (qmv sz b)) ++ List.replicate (ml - (lg_sl (as.map (qmv sz b))).length) Slot.unset).toArray) ml (qEn ml as) := by
  have h := lv_entry (as.map (qmv sz b)) (n := ml) (by rw [qEnt_len]; exact hl)
  refine ⟨⟨h.1, h.2.1, fun q hq => ?_⟩, by unfold qEn; simp; omega⟩
  obtain ⟨v, hv, hu, e⟩ := qAs_mem.mp hq
  refine h.2.2 q ?_
  have hin : (qEnt as)[q.1]? = some v := by
    unfold qEn at hv
    by_cases hi : q.1 < (qEnt as).length
    · rwa [List.getElem?_append_left hi] at hv
    · rw [List.getElem?_append_right (by omega)] at hv
      have h2 := List.mem_of_getElem? hv
      exact absurd (List.eq_of_mem_replicate h2) hu
  have h3 := qEnt_args (sz := sz) (b := b) as 0 q.1 v hin hu
  rw [Nat.zero_add, ← e] at h3
  exact h3
end
section
/-! ===== core 3: each op is sound ===== -/
/-- the private constructors that a nest mate calls -/
def qnest : List (String × Nat × MethodName) := [(RX4, 11, yX0_init), (RX5, 25, yX0_init), (RX1, 31, yX0_init), (RX5, 39, yX3_init), (RX5, 50, yX2_init)]
/-- what holds of the tables in every state -/
def qX (D : va_G) (ids : qI) (s : State) : Prop := va_K D vwCl (qtys ids) s ∧ va_AO RX0 s ∧ va_AO RX2 s ∧ ∀ q ∈ qnest, va_Nw (.methodLinkNest q.1 q.2.1 q.2.2 RX5) s
theorem qX.warm {D : va_G} {ids : qI} {s U : State} (hW : s.WarmedH U.vm) (h : qX D ids s) : qX D ids U :=
  ⟨va_K.moved hW.alike h.1, va_AO.moved hW.alike h.2.1, va_AO.moved hW.alike h.2.2.1, fun q hq => va_Nw.warmM hW (h.2.2.2 q hq)⟩
theorem qX.same {D : va_G} {ids : qI} {u U : State} (hv : u.vm = U.vm) (h : qX D ids u) : qX D ids U :=
  ⟨va_K.moved (by rw [hv]; exact Vm.Alike.refl U.vm) h.1, va_AO.moved (by rw [hv]; exact Vm.Alike.refl U.vm) h.2.1, va_AO.moved (by rw [hv]; exact Vm.Alike.refl U.vm) h.2.2.1, fun q hq => va_Nw.same rfl hv (h.2.2.2 q hq)⟩
/-- the method's context -/
def qK (p : Program) (s : State) (m : MethodId) (args : Array Value) (c : Code) (meth : Method) (cc : ByteArray) (own : String) (ml : Nat) (rt : Option FieldType) (ini : Bool) (D : va_G) (ids : qI) (sz : Nat) : Prop :=
  p.tables.exec = Jvm.exec ∧ c.code = cc ∧ c.maxLocals = ml ∧ s.vm.findClass own = some m.cls ∧ (∀ w ∈ wsG, w.before args s = true) ∧ qX D ids s ∧ sz ≤ s.heap.size ∧ meth.locks = false ∧ meth.sig.returnType = rt ∧ (ini = true → meth.name = "<init>")
/-- the machine at a configuration -/
def qW (p : Program) (l : Launch) (e : Env) (R : Room) (s : State) (m : MethodId) (args : Array Value) (below : List Frame) (meth : Method) (c : Code) (D : va_G) (ids : qI) (sz b ml : Nat) (Q : State → Prop) (x : qC) : Prop :=
  ∀ (H : Heap) (locs : List Loc) (lsA : Array Slot), sz + x.2.2.2.1.1.length = s.heap.size + x.2.2.2.2.1 → qHR D ids sz b x.2.2.2.1 H → va_S (qA sz) s.heap H locs → qLV sz b lsA ml x.2.1 → W p l e R s m args below meth c H locs x.2.2.2.2.1 x.2.2.2.2.2 Q (F0 m x.1 lsA (x.2.2.1.map (qmv sz b)))
def qroom (d mc ms : Nat) : Room := { frames := d, cells := mc, slots := ms, locals := 100 * d }
def qPC (D : va_G) (ids : qI) (sz b : Nat) (hp : qH) (U : State) : Prop := qHR D ids sz b hp U.heap ∧ qX D ids U ∧ U.heap.size = sz + hp.1.length
def qQC (D : va_G) (ids : qI) (sz b : Nat) (v : Option Value) (hp1 : qH) : Array Value → State → Outcome → State → Prop := fun _ st oc t => oc = .returned (v.map (qmv sz b)) ∧ qHR D ids sz b hp1 t.heap ∧ va_F (qA sz) st t
/-- a method's contract -/
def qMet (d : Nat) (l : Launch) (D : va_G) (ids : qI) (sz b : Nat) (t : qM) (as : List Value) (hp : qH) (v : Option Value) (hp1 : qH) : Prop :=
  Met l t.1 (Cond.code t.1 t.2.1 t.2.2.1 t.2.2.2.1 :: wsG) (qroom d t.2.2.2.2.1 t.2.2.2.2.2) (va_Pc (as.map (qmv sz b)) (qPC D ids sz b hp)) (qQC D ids sz b v hp1) t.2.2.2.2.1 t.2.2.2.2.2 (qA sz)
/-- a method's row in the table is right -/
def qMOK (t : qM) : Prop := plainName t.1.cls = true ∧ Cond.code t.1 t.2.1 t.2.2.1 t.2.2.2.1 ∈ wsG ∧ Cond.initialized t.1.cls ∈ wsG ∧ t.2.2.1 ≤ 80 ∧ (t.1.cls ≠ "java/lang/invoke/MethodHandle" ∧ t.1.cls ≠ "java/lang/invoke/VarHandle")
def OpOK (mt : List qM) (cc : ByteArray) (own : String) (ml : Nat) (rt : Option FieldType) (ini : Bool) (mc ms : Nat) (scr : Option (Nat × (Nat → Int32))) (pc : Nat) (op : qOp) : Prop :=
  ∀ (p : Program) (l : Launch) (e : Env) (R : Room) (s : State) (m : MethodId) (args : Array Value) (below : List Frame) (meth : Method) (c : Code) (D : va_G) (ids : qI) (sz b d : Nat) (Q : State → Prop),
  qK p s m args c meth cc own ml rt ini D ids sz → (d + 1 ≤ R.frames ∧ 100 * (d + 1) ≤ R.locals ∧ mc ≤ R.cells ∧ ms ≤ R.slots) → (∀ q, scr = some q → va_X b q.1 q.2 s s.heap ∧ b < sz ∧ s.heap.size = sz) →
  ∀ (x : qC) (o : qC ⊕ (qQ ⊕ (Option Value × qC))), x.1 = pc → op x = some o → match o with
  | .inl x' => qW p l e R s m args below meth c D ids sz b ml Q x' → qW p l e R s m args below meth c D ids sz b ml Q x
  | .inr (.inl q) => ∀ (t : qM) (v : Option Value) (hp1 : qH), mt[q.1]? = some t → qMOK t → qMet d l D ids sz b t q.2.1 q.2.2.2.2.2.1 v hp1 → hp1.1.length = q.2.2.2.2.2.1.1.length + t.2.2.2.2.1 →
      qW p l e R s m args below meth c D ids sz b ml Q (q.2.2.1, q.2.2.2.1, v.toList ++ q.2.2.2.2.1, hp1, q.2.2.2.2.2.2) → qW p l e R s m args below meth c D ids sz b ml Q x
  | .inr (.inr r) => r.2 = x ∧ (∀ y : Int32, r.1 = some (.int y) → x.2.2.1 = [.int y] ∧ decode cc pc = .ok (.ireturn, 1)) ∧
      ∀ (Qc : Array Value → State → Outcome → State → Prop) (free : Addr → Prop) (H : Heap) (locs : List Loc) (lsA : Array Slot) (k n : Nat), (∀ t : State, t.heap = H → s.WarmedH t.vm → Qc args s (.returned (r.1.map (qmv sz b))) t) → (∀ q ∈ locs, free q.base) →
        W p l e R s m args below meth c H locs k n (MQ below Qc args s k n free) (F0 m x.1 lsA (x.2.2.1.map (qmv sz b)))
section OK
variable {mt : List qM} {cc : ByteArray} {own : String} {ml : Nat} {rt : Option FieldType} {ini : Bool} {mc ms : Nat} {scr : Option (Nat × (Nat → Int32))} {pc : Nat}
theorem ok_iconst {z : Int} {v : Int32} (hd : decode cc pc = .ok (.iconst z, 1)) (hv : Int32.ofInt z = v) : OpOK mt cc own ml rt ini mc ms scr pc (oI v (pc + 1)) := by
  rintro p l e R s m args below meth c D ids sz b d Q ⟨hx, hb, hml, hown, hts, hX, hsz, hlk, hrt, hini⟩ hR hscr ⟨pc0, ls, st, hp, k, n⟩ o hpc ho
  cases hpc; cases ho
  intro hk H locs lsA hz hH hS hL
  exact lv_iconst hx hb hd hv (hk H locs lsA hz hH hS hL)
theorem ok_bipush {z : Int} {v : Int32} (hd : decode cc pc = .ok (.bipush z, 2)) (hv : (Int8.ofInt z).toInt32 = v) : OpOK mt cc own ml rt ini mc ms scr pc (oI v (pc + 2)) := by
  rintro p l e R s m args below meth c D ids sz b d Q ⟨hx, hb, hml, hown, hts, hX, hsz, hlk, hrt, hini⟩ hR hscr ⟨pc0, ls, st, hp, k, n⟩ o hpc ho
  cases hpc; cases ho
  intro hk H locs lsA hz hH hS hL
  exact lv_bipush hx hb hd hv (hk H locs lsA hz hH hS hL)
theorem ok_sipush {z : Int} {v : Int32} (hd : decode cc pc = .ok (.sipush z, 3)) (hv : (Int16.ofInt z).toInt32 = v) : OpOK mt cc own ml rt ini mc ms scr pc (oI v (pc + 3)) := by
  rintro p l e R s m args below meth c D ids sz b d Q ⟨hx, hb, hml, hown, hts, hX, hsz, hlk, hrt, hini⟩ hR hscr ⟨pc0, ls, st, hp, k, n⟩ o hpc ho
  cases hpc; cases ho
  intro hk H locs lsA hz hH hS hL
  exact lv_sipush hx hb hd hv (hk H locs lsA hz hH hS hL)
theorem ok_ldc {z : Nat} {v : Int32} (hd : decode cc pc = .ok (.ldc z, 2)) (hw : Cond.constant own z v ∈ wsG) : OpOK mt cc own ml rt ini mc ms scr pc (oI v (pc + 2)) := by
  rintro p l e R s m args below meth c D ids sz b d Q ⟨hx, hb, hml, hown, hts, hX, hsz, hlk, hrt, hini⟩ hR hscr ⟨pc0, ls, st, hp, k, n⟩ o hpc ho
  cases hpc; cases ho
  intro hk H locs lsA hz hH hS hL
  exact lv_ldc hx hb hown (hts _ hw) hd (hk H locs lsA hz hH hS hL)
theorem ok_ldcw {z : Nat} {v : Int32} (hd : decode cc pc = .ok (.ldc_w z, 3)) (hw : Cond.constant own z v ∈ wsG) : OpOK mt cc own ml rt ini mc ms scr pc (oI v (pc + 3)) := by
  rintro p l e R s m args below meth c D ids sz b d Q ⟨hx, hb, hml, hown, hts, hX, hsz, hlk, hrt, hini⟩ hR hscr ⟨pc0, ls, st, hp, k, n⟩ o hpc ho
  cases hpc; cases ho
  intro hk H locs lsA hz hH hS hL
  exact lv_ldcw hx hb hown (hts _ hw) hd (hk H locs lsA hz hH hS hL)
theorem ok_ldc2 {z : Nat} {v : Int64} (hd : decode cc pc = .ok (.ldc2_w z, 3)) (hw : Cond.constantLong own z v ∈ wsG) : OpOK mt cc own ml rt ini mc ms scr pc (oL v (pc + 3)) := by
  rintro p l e R s m args below meth c D ids sz b d Q ⟨hx, hb, hml, hown, hts, hX, hsz, hlk, hrt, hini⟩ hR hscr ⟨pc0, ls, st, hp, k, n⟩ o hpc ho
  cases hpc; cases ho
  intro hk H locs lsA hz hH hS hL
  exact lv_ldc2 hx hb hown (hts _ hw) hd (hk H locs lsA hz hH hS hL)
theorem ok_lconst {z : Fin 2} {v : Int64} (hd : decode cc pc = .ok (.lconst z, 1)) (hv : Int64.ofNat (z : Nat) = v) : OpOK mt cc own ml rt ini mc ms scr pc (oL v (pc + 1)) := by
  rintro p l e R s m args below meth c D ids sz b d Q ⟨hx, hb, hml, hown, hts, hX, hsz, hlk, hrt, hini⟩ hR hscr ⟨pc0, ls, st, hp, k, n⟩ o hpc ho
  cases hpc; cases ho
  intro hk H locs lsA hz hH hS hL
  exact lv_lconst hx hb hd hv (hk H locs lsA hz hH hS hL)
/-- an op that looks at a local: which one it is -/
theorem oLdI_inv {i n : Nat} {x : qC} {o : qC ⊕ (qQ ⊕ (Option Value × qC))} (h : oLdI i n x = some o) : ∃ v : Int32, x.2.1[i]? = some (.int v) ∧ o = .inl (n, x.2.1, .int v :: x.2.2.1, x.2.2.2) := by
  obtain ⟨pc0, ls, st, r⟩ := x
  unfold oLdI at h
  dsimp only at h
  split at h
  · rename_i v hv
    cases h
    exact ⟨v, hv, rfl⟩
  · cases h
theorem oLdL_inv {i n : Nat} {x : qC} {o : qC ⊕ (qQ ⊕ (Option Value × qC))} (h : oLdL i n x = some o) : ∃ v : Int64, x.2.1[i]? = some (.long v) ∧ o = .inl (n, x.2.1, .long v :: x.2.2.1, x.2.2.2) := by
  obtain ⟨pc0, ls, st, r⟩ := x
  unfold oLdL at h
  dsimp only at h
  split at h
  · rename_i v hv
    cases h
    exact ⟨v, hv, rfl⟩
  · cases h
theorem oLdA_inv {i n : Nat} {x : qC} {o : qC ⊕ (qQ ⊕ (Option Value × qC))} (h : oLdA i n x = some o) : ∃ v : Nat, x.2.1[i]? = some (.ref v) ∧ o = .inl (n, x.2.1, .ref v :: x.2.2.1, x.2.2.2) := by
  obtain ⟨pc0, ls, st, r⟩ := x
  unfold oLdA at h
  dsimp only at h
  split at h
  · rename_i v hv
    cases h
    exact ⟨v, hv, rfl⟩
  · cases h
theorem ok_iload_n {i : Nat} {j : Fin 4} (hd : decode cc pc = .ok (.iload_n j, 1)) (hi : (j : Nat) = i) : OpOK mt cc own ml rt ini mc ms scr pc (oLdI i (pc + 1)) := by
  rintro p l e R s m args below meth c D ids sz b d Q ⟨hx, hb, hml, hown, hts, hX, hsz, hlk, hrt, hini⟩ hR hscr ⟨pc0, ls, st, hp, k, n⟩ o hpc ho
  cases hpc
  obtain ⟨v, hv, rfl⟩ := oLdI_inv ho
  intro hk H locs lsA hz hH hS hL
  exact lv_iload_n hx hb hd hi (hL.at hv (by simp [qU])) (hk H locs lsA hz hH hS hL)
theorem ok_iload {i : Nat} (hd : decode cc pc = .ok (.iload i, 2)) : OpOK mt cc own ml rt ini mc ms scr pc (oLdI i (pc + 2)) := by
  rintro p l e R s m args below meth c D ids sz b d Q ⟨hx, hb, hml, hown, hts, hX, hsz, hlk, hrt, hini⟩ hR hscr ⟨pc0, ls, st, hp, k, n⟩ o hpc ho
  cases hpc
  obtain ⟨v, hv, rfl⟩ := oLdI_inv ho
  intro hk H locs lsA hz hH hS hL
  exact lv_iload hx hb hd (hL.at hv (by simp [qU])) (hk H locs lsA hz hH hS hL)
theorem ok_lload_n {i : Nat} {j : Fin 4} (hd : decode cc pc = .ok (.lload_n j, 1)) (hi : (j : Nat) = i) : OpOK mt cc own ml rt ini mc ms scr pc (oLdL i (pc + 1)) := by
  rintro p l e R s m args below meth c D ids sz b d Q ⟨hx, hb, hml, hown, hts, hX, hsz, hlk, hrt, hini⟩ hR hscr ⟨pc0, ls, st, hp, k, n⟩ o hpc ho
  cases hpc
  obtain ⟨v, hv, rfl⟩ := oLdL_inv ho
  intro hk H locs lsA hz hH hS hL
  exact lv_lload_n hx hb hd hi (hL.at hv (by simp [qU])) (hk H locs lsA hz hH hS hL)
theorem ok_lload {i : Nat} (hd : decode cc pc = .ok (.lload i, 2)) : OpOK mt cc own ml rt ini mc ms scr pc (oLdL i (pc + 2)) := by
  rintro p l e R s m args below meth c D ids sz b d Q ⟨hx, hb, hml, hown, hts, hX, hsz, hlk, hrt, hini⟩ hR hscr ⟨pc0, ls, st, hp, k, n⟩ o hpc ho
  cases hpc
  obtain ⟨v, hv, rfl⟩ := oLdL_inv ho
  intro hk H locs lsA hz hH hS hL
  exact lv_lload hx hb hd (hL.at hv (by simp [qU])) (hk H locs lsA hz hH hS hL)
theorem ok_aload_n {i : Nat} {j : Fin 4} (hd : decode cc pc = .ok (.aload_n j, 1)) (hi : (j : Nat) = i) : OpOK mt cc own ml rt ini mc ms scr pc (oLdA i (pc + 1)) := by
  rintro p l e R s m args below meth c D ids sz b d Q ⟨hx, hb, hml, hown, hts, hX, hsz, hlk, hrt, hini⟩ hR hscr ⟨pc0, ls, st, hp, k, n⟩ o hpc ho
  cases hpc
  obtain ⟨v, hv, rfl⟩ := oLdA_inv ho
  intro hk H locs lsA hz hH hS hL
  exact lv_aload_n hx hb hd hi (hL.at hv (by simp [qU])) (hk H locs lsA hz hH hS hL)
theorem ok_aload {i : Nat} (hd : decode cc pc = .ok (.aload i, 2)) : OpOK mt cc own ml rt ini mc ms scr pc (oLdA i (pc + 2)) := by
  rintro p l e R s m args below meth c D ids sz b d Q ⟨hx, hb, hml, hown, hts, hX, hsz, hlk, hrt, hini⟩ hR hscr ⟨pc0, ls, st, hp, k, n⟩ o hpc ho
  cases hpc
  obtain ⟨v, hv, rfl⟩ := oLdA_inv ho
  intro hk H locs lsA hz hH hS hL
  exact lv_aload hx hb hd (hL.at hv (by simp [qU])) (hk H locs lsA hz hH hS hL)
theorem oStI_inv {i n : Nat} {x : qC} {o : qC ⊕ (qQ ⊕ (Option Value × qC))} (h : oStI i n x = some o) : ∃ (v : Int32) (st : List Value), x.2.2.1 = .int v :: st ∧ qpre x.2.1 i = true ∧ i < x.2.1.length ∧ o = .inl (n, x.2.1.set i (.int v), st, x.2.2.2) := by
  obtain ⟨pc0, ls, st, r⟩ := x
  unfold oStI at h
  split at h
  · rename_i pc1 ls1 v st1 r1 heq
    cases heq
    split at h
    · rename_i h1 h2
      cases h
      exact ⟨v, _, rfl, h1, of_decide_eq_true h2, rfl⟩
    · cases h
  · cases h
theorem oStA_inv {i n : Nat} {x : qC} {o : qC ⊕ (qQ ⊕ (Option Value × qC))} (h : oStA i n x = some o) : ∃ (v : Nat) (st : List Value), x.2.2.1 = .ref v :: st ∧ qpre x.2.1 i = true ∧ i < x.2.1.length ∧ o = .inl (n, x.2.1.set i (.ref v), st, x.2.2.2) := by
  obtain ⟨pc0, ls, st, r⟩ := x
  unfold oStA at h
  split at h
  · rename_i pc1 ls1 v st1 r1 heq
    cases heq
    split at h
    · rename_i h1 h2
      cases h
      exact ⟨v, _, rfl, h1, of_decide_eq_true h2, rfl⟩
    · cases h
  · cases h
theorem ok_istore_n {i : Nat} {j : Fin 4} (hd : decode cc pc = .ok (.istore_n j, 1)) (hi : (j : Nat) = i) : OpOK mt cc own ml rt ini mc ms scr pc (oStI i (pc + 1)) := by
  rintro p l e R s m args below meth c D ids sz b d Q ⟨hx, hb, hml, hown, hts, hX, hsz, hlk, hrt, hini⟩ hR hscr ⟨pc0, ls, st, hp, k, n⟩ o hpc ho
  cases hpc
  obtain ⟨v, st1, hst, h1, h2, rfl⟩ := oStI_inv ho
  dsimp only at hst h1 h2
  subst hst
  intro hk H locs lsA hz hH hS hL
  exact lv_istore_n hx hb hd hi hL.1 (by rw [← hL.2]; exact h2) rfl (fun ls' hl' => hk H locs ls' hz hH hS (hL.st (v := .int v) h1 hl'))
theorem ok_istore {i : Nat} (hd : decode cc pc = .ok (.istore i, 2)) : OpOK mt cc own ml rt ini mc ms scr pc (oStI i (pc + 2)) := by
  rintro p l e R s m args below meth c D ids sz b d Q ⟨hx, hb, hml, hown, hts, hX, hsz, hlk, hrt, hini⟩ hR hscr ⟨pc0, ls, st, hp, k, n⟩ o hpc ho
  cases hpc
  obtain ⟨v, st1, hst, h1, h2, rfl⟩ := oStI_inv ho
  dsimp only at hst h1 h2
  subst hst
  intro hk H locs lsA hz hH hS hL
  exact lv_istore hx hb hd hL.1 (by rw [← hL.2]; exact h2) rfl (fun ls' hl' => hk H locs ls' hz hH hS (hL.st (v := .int v) h1 hl'))
theorem ok_astore_n {i : Nat} {j : Fin 4} (hd : decode cc pc = .ok (.astore_n j, 1)) (hi : (j : Nat) = i) : OpOK mt cc own ml rt ini mc ms scr pc (oStA i (pc + 1)) := by
  rintro p l e R s m args below meth c D ids sz b d Q ⟨hx, hb, hml, hown, hts, hX, hsz, hlk, hrt, hini⟩ hR hscr ⟨pc0, ls, st, hp, k, n⟩ o hpc ho
  cases hpc
  obtain ⟨v, st1, hst, h1, h2, rfl⟩ := oStA_inv ho
  dsimp only at hst h1 h2
  subst hst
  intro hk H locs lsA hz hH hS hL
  exact lv_astore_n hx hb hd hi hL.1 (by rw [← hL.2]; exact h2) rfl (fun ls' hl' => hk H locs ls' hz hH hS (hL.st (v := .ref v) h1 hl'))
theorem ok_astore {i : Nat} (hd : decode cc pc = .ok (.astore i, 2)) : OpOK mt cc own ml rt ini mc ms scr pc (oStA i (pc + 2)) := by
  rintro p l e R s m args below meth c D ids sz b d Q ⟨hx, hb, hml, hown, hts, hX, hsz, hlk, hrt, hini⟩ hR hscr ⟨pc0, ls, st, hp, k, n⟩ o hpc ho
  cases hpc
  obtain ⟨v, st1, hst, h1, h2, rfl⟩ := oStA_inv ho
  dsimp only at hst h1 h2
  subst hst
  intro hk H locs lsA hz hH hS hL
  exact lv_astore hx hb hd hL.1 (by rw [← hL.2]; exact h2) rfl (fun ls' hl' => hk H locs ls' hz hH hS (hL.st (v := .ref v) h1 hl'))
theorem ok_iinc {i : Nat} {z : Int} {v : Int32} (hd : decode cc pc = .ok (.iinc i z, 3)) (hv : Int32.ofInt z = v) : OpOK mt cc own ml rt ini mc ms scr pc (oInc i v (pc + 3)) := by
  rintro p l e R s m args below meth c D ids sz b d Q ⟨hx, hb, hml, hown, hts, hX, hsz, hlk, hrt, hini⟩ hR hscr ⟨pc0, ls, st, hp, k, n⟩ o hpc ho
  cases hpc
  unfold oInc at ho
  dsimp only at ho
  split at ho
  · rename_i x hxl
    split at ho
    · rename_i h1
      cases ho
      intro hk H locs lsA hz hH hS hL
      have hmem : (i, qmv sz b (.int x)) ∈ qAs sz b ls := qAs_mem.mpr ⟨.int x, hxl, (by simp [qU]), rfl⟩
      obtain ⟨j, hj⟩ := List.getElem?_of_mem hmem
      have hn : i < ml := by rw [← hL.2]; exact (List.getElem?_eq_some_iff.mp hxl).1
      refine lv_iinc (v := x + v) hx hb hd hL.1 hj (by rw [hv]) hn rfl (fun ls' hl' => ?_)
      exact hk H locs ls' hz hH hS (hL.st (v := .int (x + v)) h1 hl')
    · cases ho
  · cases ho
theorem ok_iadd (hd : decode cc pc = .ok (.iadd, 1)) : OpOK mt cc own ml rt ini mc ms scr pc (oBin (fun x y => x + y) (pc + 1)) := by
  rintro p l e R s m args below meth c D ids sz b d Q ⟨hx, hb, hml, hown, hts, hX, hsz, hlk, hrt, hini⟩ hR hscr ⟨pc0, ls, st, hp, k, n⟩ o hpc ho
  cases hpc
  unfold oBin at ho
  split at ho
  · rename_i heq
    cases heq
    cases ho
    intro hk H locs lsA hz hH hS hL
    exact lv_iadd hx hb hd (hk H locs lsA hz hH hS hL)
  · cases ho
theorem ok_isub (hd : decode cc pc = .ok (.isub, 1)) : OpOK mt cc own ml rt ini mc ms scr pc (oBin (fun x y => x - y) (pc + 1)) := by
  rintro p l e R s m args below meth c D ids sz b d Q ⟨hx, hb, hml, hown, hts, hX, hsz, hlk, hrt, hini⟩ hR hscr ⟨pc0, ls, st, hp, k, n⟩ o hpc ho
  cases hpc
  unfold oBin at ho
  split at ho
  · rename_i heq
    cases heq
    cases ho
    intro hk H locs lsA hz hH hS hL
    exact lv_isub hx hb hd (hk H locs lsA hz hH hS hL)
  · cases ho
theorem ok_imul (hd : decode cc pc = .ok (.imul, 1)) : OpOK mt cc own ml rt ini mc ms scr pc (oBin (fun x y => x * y) (pc + 1)) := by
  rintro p l e R s m args below meth c D ids sz b d Q ⟨hx, hb, hml, hown, hts, hX, hsz, hlk, hrt, hini⟩ hR hscr ⟨pc0, ls, st, hp, k, n⟩ o hpc ho
  cases hpc
  unfold oBin at ho
  split at ho
  · rename_i heq
    cases heq
    cases ho
    intro hk H locs lsA hz hH hS hL
    exact lv_imul hx hb hd (hk H locs lsA hz hH hS hL)
  · cases ho
theorem ok_iand (hd : decode cc pc = .ok (.iand, 1)) : OpOK mt cc own ml rt ini mc ms scr pc (oBin (fun x y => x &&& y) (pc + 1)) := by
  rintro p l e R s m args below meth c D ids sz b d Q ⟨hx, hb, hml, hown, hts, hX, hsz, hlk, hrt, hini⟩ hR hscr ⟨pc0, ls, st, hp, k, n⟩ o hpc ho
  cases hpc
  unfold oBin at ho
  split at ho
  · rename_i heq
    cases heq
    cases ho
    intro hk H locs lsA hz hH hS hL
    exact lv_iand hx hb hd (hk H locs lsA hz hH hS hL)
  · cases ho
theorem ok_ior (hd : decode cc pc = .ok (.ior, 1)) : OpOK mt cc own ml rt ini mc ms scr pc (oBin (fun x y => x ||| y) (pc + 1)) := by
  rintro p l e R s m args below meth c D ids sz b d Q ⟨hx, hb, hml, hown, hts, hX, hsz, hlk, hrt, hini⟩ hR hscr ⟨pc0, ls, st, hp, k, n⟩ o hpc ho
  cases hpc
  unfold oBin at ho
  split at ho
  · rename_i heq
    cases heq
    cases ho
    intro hk H locs lsA hz hH hS hL
    exact lv_ior hx hb hd (hk H locs lsA hz hH hS hL)
  · cases ho
theorem ok_ixor (hd : decode cc pc = .ok (.ixor, 1)) : OpOK mt cc own ml rt ini mc ms scr pc (oBin (fun x y => x ^^^ y) (pc + 1)) := by
  rintro p l e R s m args below meth c D ids sz b d Q ⟨hx, hb, hml, hown, hts, hX, hsz, hlk, hrt, hini⟩ hR hscr ⟨pc0, ls, st, hp, k, n⟩ o hpc ho
  cases hpc
  unfold oBin at ho
  split at ho
  · rename_i heq
    cases heq
    cases ho
    intro hk H locs lsA hz hH hS hL
    exact lv_ixor hx hb hd (hk H locs lsA hz hH hS hL)
  · cases ho
theorem ok_ishl (hd : decode cc pc = .ok (.ishl, 1)) : OpOK mt cc own ml rt ini mc ms scr pc (oBin (fun x y => x <<< (y &&& 31)) (pc + 1)) := by
  rintro p l e R s m args below meth c D ids sz b d Q ⟨hx, hb, hml, hown, hts, hX, hsz, hlk, hrt, hini⟩ hR hscr ⟨pc0, ls, st, hp, k, n⟩ o hpc ho
  cases hpc
  unfold oBin at ho
  split at ho
  · rename_i heq
    cases heq
    cases ho
    intro hk H locs lsA hz hH hS hL
    exact lv_ishl hx hb hd (hk H locs lsA hz hH hS hL)
  · cases ho
theorem ok_ishr (hd : decode cc pc = .ok (.ishr, 1)) : OpOK mt cc own ml rt ini mc ms scr pc (oBin (fun x y => x >>> (y &&& 31)) (pc + 1)) := by
  rintro p l e R s m args below meth c D ids sz b d Q ⟨hx, hb, hml, hown, hts, hX, hsz, hlk, hrt, hini⟩ hR hscr ⟨pc0, ls, st, hp, k, n⟩ o hpc ho
  cases hpc
  unfold oBin at ho
  split at ho
  · rename_i heq
    cases heq
    cases ho
    intro hk H locs lsA hz hH hS hL
    exact lv_ishr hx hb hd (hk H locs lsA hz hH hS hL)
  · cases ho
theorem ok_iushr (hd : decode cc pc = .ok (.iushr, 1)) : OpOK mt cc own ml rt ini mc ms scr pc (oBin (fun x y => (x.toUInt32 >>> (y.toUInt32 &&& Int32.toUInt32 31)).toInt32) (pc + 1)) := by
  rintro p l e R s m args below meth c D ids sz b d Q ⟨hx, hb, hml, hown, hts, hX, hsz, hlk, hrt, hini⟩ hR hscr ⟨pc0, ls, st, hp, k, n⟩ o hpc ho
  cases hpc
  unfold oBin at ho
  split at ho
  · rename_i heq
    cases heq
    cases ho
    intro hk H locs lsA hz hH hS hL
    exact lv_iushr hx hb hd rfl (hk H locs lsA hz hH hS hL)
  · cases ho
theorem ok_ineg (hd : decode cc pc = .ok (.ineg, 1)) : OpOK mt cc own ml rt ini mc ms scr pc (oUn (fun x => -x) (pc + 1)) := by
  rintro p l e R s m args below meth c D ids sz b d Q ⟨hx, hb, hml, hown, hts, hX, hsz, hlk, hrt, hini⟩ hR hscr ⟨pc0, ls, st, hp, k, n⟩ o hpc ho
  cases hpc
  unfold oUn at ho
  split at ho
  · rename_i heq
    cases heq
    cases ho
    intro hk H locs lsA hz hH hS hL
    exact lv_ineg hx hb hd (hk H locs lsA hz hH hS hL)
  · cases ho
theorem ok_i2b (hd : decode cc pc = .ok (.i2b, 1)) : OpOK mt cc own ml rt ini mc ms scr pc (oUn (fun x => x.toInt8.toInt32) (pc + 1)) := by
  rintro p l e R s m args below meth c D ids sz b d Q ⟨hx, hb, hml, hown, hts, hX, hsz, hlk, hrt, hini⟩ hR hscr ⟨pc0, ls, st, hp, k, n⟩ o hpc ho
  cases hpc
  unfold oUn at ho
  split at ho
  · rename_i heq
    cases heq
    cases ho
    intro hk H locs lsA hz hH hS hL
    exact lv_i2b hx hb hd rfl (hk H locs lsA hz hH hS hL)
  · cases ho
theorem ok_i2s (hd : decode cc pc = .ok (.i2s, 1)) : OpOK mt cc own ml rt ini mc ms scr pc (oUn (fun x => x.toInt16.toInt32) (pc + 1)) := by
  rintro p l e R s m args below meth c D ids sz b d Q ⟨hx, hb, hml, hown, hts, hX, hsz, hlk, hrt, hini⟩ hR hscr ⟨pc0, ls, st, hp, k, n⟩ o hpc ho
  cases hpc
  unfold oUn at ho
  split at ho
  · rename_i heq
    cases heq
    cases ho
    intro hk H locs lsA hz hH hS hL
    exact lv_i2s hx hb hd rfl (hk H locs lsA hz hH hS hL)
  · cases ho
theorem ok_i2l (hd : decode cc pc = .ok (.i2l, 1)) : OpOK mt cc own ml rt ini mc ms scr pc (oI2L (pc + 1)) := by
  rintro p l e R s m args below meth c D ids sz b d Q ⟨hx, hb, hml, hown, hts, hX, hsz, hlk, hrt, hini⟩ hR hscr ⟨pc0, ls, st, hp, k, n⟩ o hpc ho
  cases hpc
  unfold oI2L at ho
  split at ho
  · rename_i heq
    cases heq
    cases ho
    intro hk H locs lsA hz hH hS hL
    exact lv_i2l hx hb hd rfl (hk H locs lsA hz hH hS hL)
  · cases ho
theorem ok_l2i (hd : decode cc pc = .ok (.l2i, 1)) : OpOK mt cc own ml rt ini mc ms scr pc (oL2I (pc + 1)) := by
  rintro p l e R s m args below meth c D ids sz b d Q ⟨hx, hb, hml, hown, hts, hX, hsz, hlk, hrt, hini⟩ hR hscr ⟨pc0, ls, st, hp, k, n⟩ o hpc ho
  cases hpc
  unfold oL2I at ho
  split at ho
  · rename_i heq
    cases heq
    cases ho
    intro hk H locs lsA hz hH hS hL
    exact lv_l2i hx hb hd rfl (hk H locs lsA hz hH hS hL)
  · cases ho
theorem ok_ladd (hd : decode cc pc = .ok (.ladd, 1)) : OpOK mt cc own ml rt ini mc ms scr pc (oLBin (fun x y => x + y) (pc + 1)) := by
  rintro p l e R s m args below meth c D ids sz b d Q ⟨hx, hb, hml, hown, hts, hX, hsz, hlk, hrt, hini⟩ hR hscr ⟨pc0, ls, st, hp, k, n⟩ o hpc ho
  cases hpc
  unfold oLBin at ho
  split at ho
  · rename_i heq
    cases heq
    cases ho
    intro hk H locs lsA hz hH hS hL
    exact lv_ladd hx hb hd (hk H locs lsA hz hH hS hL)
  · cases ho
theorem ok_land (hd : decode cc pc = .ok (.land, 1)) : OpOK mt cc own ml rt ini mc ms scr pc (oLBin (fun x y => x &&& y) (pc + 1)) := by
  rintro p l e R s m args below meth c D ids sz b d Q ⟨hx, hb, hml, hown, hts, hX, hsz, hlk, hrt, hini⟩ hR hscr ⟨pc0, ls, st, hp, k, n⟩ o hpc ho
  cases hpc
  unfold oLBin at ho
  split at ho
  · rename_i heq
    cases heq
    cases ho
    intro hk H locs lsA hz hH hS hL
    exact lv_land hx hb hd (hk H locs lsA hz hH hS hL)
  · cases ho
theorem ok_lor (hd : decode cc pc = .ok (.lor, 1)) : OpOK mt cc own ml rt ini mc ms scr pc (oLBin (fun x y => x ||| y) (pc + 1)) := by
  rintro p l e R s m args below meth c D ids sz b d Q ⟨hx, hb, hml, hown, hts, hX, hsz, hlk, hrt, hini⟩ hR hscr ⟨pc0, ls, st, hp, k, n⟩ o hpc ho
  cases hpc
  unfold oLBin at ho
  split at ho
  · rename_i heq
    cases heq
    cases ho
    intro hk H locs lsA hz hH hS hL
    exact lv_lor hx hb hd (hk H locs lsA hz hH hS hL)
  · cases ho
theorem ok_lshl (hd : decode cc pc = .ok (.lshl, 1)) : OpOK mt cc own ml rt ini mc ms scr pc (oLSh (fun x y => x <<< (y.toInt64 &&& 63)) (pc + 1)) := by
  rintro p l e R s m args below meth c D ids sz b d Q ⟨hx, hb, hml, hown, hts, hX, hsz, hlk, hrt, hini⟩ hR hscr ⟨pc0, ls, st, hp, k, n⟩ o hpc ho
  cases hpc
  unfold oLSh at ho
  split at ho
  · rename_i heq
    cases heq
    cases ho
    intro hk H locs lsA hz hH hS hL
    exact lv_lshl hx hb hd rfl (hk H locs lsA hz hH hS hL)
  · cases ho
theorem ok_lshr (hd : decode cc pc = .ok (.lshr, 1)) : OpOK mt cc own ml rt ini mc ms scr pc (oLSh (fun x y => x >>> (y.toInt64 &&& 63)) (pc + 1)) := by
  rintro p l e R s m args below meth c D ids sz b d Q ⟨hx, hb, hml, hown, hts, hX, hsz, hlk, hrt, hini⟩ hR hscr ⟨pc0, ls, st, hp, k, n⟩ o hpc ho
  cases hpc
  unfold oLSh at ho
  split at ho
  · rename_i heq
    cases heq
    cases ho
    intro hk H locs lsA hz hH hS hL
    exact lv_lshr hx hb hd rfl (hk H locs lsA hz hH hS hL)
  · cases ho
theorem ok_lcmp (hd : decode cc pc = .ok (.lcmp, 1)) : OpOK mt cc own ml rt ini mc ms scr pc (oLcmp (pc + 1)) := by
  rintro p l e R s m args below meth c D ids sz b d Q ⟨hx, hb, hml, hown, hts, hX, hsz, hlk, hrt, hini⟩ hR hscr ⟨pc0, ls, st, hp, k, n⟩ o hpc ho
  cases hpc
  unfold oLcmp at ho
  split at ho
  · rename_i heq
    cases heq
    cases ho
    intro hk H locs lsA hz hH hS hL
    exact W.lcmp hx hb hd (hk H locs lsA hz hH hS hL)
  · cases ho
theorem ok_idiv (hd : decode cc pc = .ok (.idiv, 1)) : OpOK mt cc own ml rt ini mc ms scr pc (oDiv (fun x y => x / y) (pc + 1)) := by
  rintro p l e R s m args below meth c D ids sz b d Q ⟨hx, hb, hml, hown, hts, hX, hsz, hlk, hrt, hini⟩ hR hscr ⟨pc0, ls, st, hp, k, n⟩ o hpc ho
  cases hpc
  unfold oDiv at ho
  split at ho
  · rename_i heq
    cases heq
    split at ho
    · cases ho
    · rename_i hne
      cases ho
      intro hk H locs lsA hz hH hS hL
      exact lv_idiv hx hb hd hne (hk H locs lsA hz hH hS hL)
  · cases ho
theorem ok_irem (hd : decode cc pc = .ok (.irem, 1)) : OpOK mt cc own ml rt ini mc ms scr pc (oDiv (fun x y => x - x / y * y) (pc + 1)) := by
  rintro p l e R s m args below meth c D ids sz b d Q ⟨hx, hb, hml, hown, hts, hX, hsz, hlk, hrt, hini⟩ hR hscr ⟨pc0, ls, st, hp, k, n⟩ o hpc ho
  cases hpc
  unfold oDiv at ho
  split at ho
  · rename_i heq
    cases heq
    split at ho
    · cases ho
    · rename_i hne
      cases ho
      intro hk H locs lsA hz hH hS hL
      exact lv_irem hx hb hd hne (hk H locs lsA hz hH hS hL)
  · cases ho
theorem ok_dup (hd : decode cc pc = .ok (.dup, 1)) : OpOK mt cc own ml rt ini mc ms scr pc (oDup (pc + 1)) := by
  rintro p l e R s m args below meth c D ids sz b d Q ⟨hx, hb, hml, hown, hts, hX, hsz, hlk, hrt, hini⟩ hR hscr ⟨pc0, ls, st, hp, k, n⟩ o hpc ho
  cases hpc
  unfold oDup at ho
  split at ho
  · rename_i heq
    cases heq
    split at ho
    · rename_i hne
      cases ho
      intro hk H locs lsA hz hH hS hL
      exact lv_dup hx hb hd (by rw [qmv_cat]; exact qok_cat.mp hne) (hk H locs lsA hz hH hS hL)
    · cases ho
  · cases ho
theorem ok_pop (hd : decode cc pc = .ok (.pop, 1)) : OpOK mt cc own ml rt ini mc ms scr pc (oPop (pc + 1)) := by
  rintro p l e R s m args below meth c D ids sz b d Q ⟨hx, hb, hml, hown, hts, hX, hsz, hlk, hrt, hini⟩ hR hscr ⟨pc0, ls, st, hp, k, n⟩ o hpc ho
  cases hpc
  unfold oPop at ho
  split at ho
  · rename_i heq
    cases heq
    split at ho
    · rename_i hne
      cases ho
      intro hk H locs lsA hz hH hS hL
      exact lv_pop hx hb hd (by rw [qmv_cat]; exact qok_cat.mp hne) (hk H locs lsA hz hH hS hL)
    · cases ho
  · cases ho
theorem ok_goto {off : Int} {tgt : Nat} (hd : decode cc pc = .ok (.goto off, 3)) (ht : (pc : Int) + off = (tgt : Int)) : OpOK mt cc own ml rt ini mc ms scr pc (oGoto tgt) := by
  rintro p l e R s m args below meth c D ids sz b d Q ⟨hx, hb, hml, hown, hts, hX, hsz, hlk, hrt, hini⟩ hR hscr ⟨pc0, ls, st, hp, k, n⟩ o hpc ho
  cases hpc; cases ho
  intro hk H locs lsA hz hH hS hL
  exact lv_goto hx hb hd ht (hk H locs lsA hz hH hS hL)
theorem ok_if_eq {off : Int} {tgt : Nat} (hd : decode cc pc = .ok (.ifCond .eq off, 3)) (ht : (pc : Int) + off = (tgt : Int)) : OpOK mt cc own ml rt ini mc ms scr pc (oIfEq tgt (pc + 3)) := by
  rintro p l e R s m args below meth c D ids sz b d Q ⟨hx, hb, hml, hown, hts, hX, hsz, hlk, hrt, hini⟩ hR hscr ⟨pc0, ls, st, hp, k, n⟩ o hpc ho
  cases hpc
  unfold oIfEq at ho
  split at ho
  · rename_i heq
    cases heq
    cases ho
    intro hk H locs lsA hz hH hS hL
    refine lv_if_eq hx hb hd ht (fun c => ?_) (fun c => ?_)
    · rw [if_pos c] at hk
      exact hk H locs lsA hz hH hS hL
    · rw [if_neg c] at hk
      exact hk H locs lsA hz hH hS hL
  · cases ho
theorem ok_if_ne {off : Int} {tgt : Nat} (hd : decode cc pc = .ok (.ifCond .ne off, 3)) (ht : (pc : Int) + off = (tgt : Int)) : OpOK mt cc own ml rt ini mc ms scr pc (oIfNe tgt (pc + 3)) := by
  rintro p l e R s m args below meth c D ids sz b d Q ⟨hx, hb, hml, hown, hts, hX, hsz, hlk, hrt, hini⟩ hR hscr ⟨pc0, ls, st, hp, k, n⟩ o hpc ho
  cases hpc
  unfold oIfNe at ho
  split at ho
  · rename_i heq
    cases heq
    cases ho
    intro hk H locs lsA hz hH hS hL
    refine lv_if_ne hx hb hd ht (fun c => ?_) (fun c => ?_)
    · rw [if_pos c] at hk
      exact hk H locs lsA hz hH hS hL
    · rw [if_neg (fun z => z c)] at hk
      exact hk H locs lsA hz hH hS hL
  · cases ho
theorem ok_if_lt {off : Int} {tgt : Nat} (hd : decode cc pc = .ok (.ifCond .lt off, 3)) (ht : (pc : Int) + off = (tgt : Int)) : OpOK mt cc own ml rt ini mc ms scr pc (oIfLt tgt (pc + 3)) := by
  rintro p l e R s m args below meth c D ids sz b d Q ⟨hx, hb, hml, hown, hts, hX, hsz, hlk, hrt, hini⟩ hR hscr ⟨pc0, ls, st, hp, k, n⟩ o hpc ho
  cases hpc
  unfold oIfLt at ho
  split at ho
  · rename_i heq
    cases heq
    cases ho
    intro hk H locs lsA hz hH hS hL
    refine lv_if_lt hx hb hd ht (fun c => ?_) (fun c => ?_)
    · rw [if_pos c] at hk
      exact hk H locs lsA hz hH hS hL
    · rw [if_neg c] at hk
      exact hk H locs lsA hz hH hS hL
  · cases ho
theorem ok_if_ge {off : Int} {tgt : Nat} (hd : decode cc pc = .ok (.ifCond .ge off, 3)) (ht : (pc : Int) + off = (tgt : Int)) : OpOK mt cc own ml rt ini mc ms scr pc (oIfGe tgt (pc + 3)) := by
  rintro p l e R s m args below meth c D ids sz b d Q ⟨hx, hb, hml, hown, hts, hX, hsz, hlk, hrt, hini⟩ hR hscr ⟨pc0, ls, st, hp, k, n⟩ o hpc ho
  cases hpc
  unfold oIfGe at ho
  split at ho
  · rename_i heq
    cases heq
    cases ho
    intro hk H locs lsA hz hH hS hL
    refine lv_if_ge hx hb hd ht (fun c => ?_) (fun c => ?_)
    · rw [if_pos c] at hk
      exact hk H locs lsA hz hH hS hL
    · rw [if_neg c] at hk
      exact hk H locs lsA hz hH hS hL
  · cases ho
theorem ok_if_gt {off : Int} {tgt : Nat} (hd : decode cc pc = .ok (.ifCond .gt off, 3)) (ht : (pc : Int) + off = (tgt : Int)) : OpOK mt cc own ml rt ini mc ms scr pc (oIfGt tgt (pc + 3)) := by
  rintro p l e R s m args below meth c D ids sz b d Q ⟨hx, hb, hml, hown, hts, hX, hsz, hlk, hrt, hini⟩ hR hscr ⟨pc0, ls, st, hp, k, n⟩ o hpc ho
  cases hpc
  unfold oIfGt at ho
  split at ho
  · rename_i heq
    cases heq
    cases ho
    intro hk H locs lsA hz hH hS hL
    refine lv_if_gt hx hb hd ht (fun c => ?_) (fun c => ?_)
    · rw [if_pos c] at hk
      exact hk H locs lsA hz hH hS hL
    · rw [if_neg c] at hk
      exact hk H locs lsA hz hH hS hL
  · cases ho
theorem ok_if_le {off : Int} {tgt : Nat} (hd : decode cc pc = .ok (.ifCond .le off, 3)) (ht : (pc : Int) + off = (tgt : Int)) : OpOK mt cc own ml rt ini mc ms scr pc (oIfLe tgt (pc + 3)) := by
  rintro p l e R s m args below meth c D ids sz b d Q ⟨hx, hb, hml, hown, hts, hX, hsz, hlk, hrt, hini⟩ hR hscr ⟨pc0, ls, st, hp, k, n⟩ o hpc ho
  cases hpc
  unfold oIfLe at ho
  split at ho
  · rename_i heq
    cases heq
    cases ho
    intro hk H locs lsA hz hH hS hL
    refine lv_if_le hx hb hd ht (fun c => ?_) (fun c => ?_)
    · rw [if_pos c] at hk
      exact hk H locs lsA hz hH hS hL
    · rw [if_neg c] at hk
      exact hk H locs lsA hz hH hS hL
  · cases ho
theorem ok_cm_eq {off : Int} {tgt : Nat} (hd : decode cc pc = .ok (.if_icmp .eq off, 3)) (ht : (pc : Int) + off = (tgt : Int)) : OpOK mt cc own ml rt ini mc ms scr pc (oCmEq tgt (pc + 3)) := by
  rintro p l e R s m args below meth c D ids sz b d Q ⟨hx, hb, hml, hown, hts, hX, hsz, hlk, hrt, hini⟩ hR hscr ⟨pc0, ls, st, hp, k, n⟩ o hpc ho
  cases hpc
  unfold oCmEq at ho
  split at ho
  · rename_i heq
    cases heq
    cases ho
    intro hk H locs lsA hz hH hS hL
    refine lv_icmp_eq hx hb hd ht (fun c => ?_) (fun c => ?_)
    · rw [if_pos c] at hk
      exact hk H locs lsA hz hH hS hL
    · rw [if_neg c] at hk
      exact hk H locs lsA hz hH hS hL
  · cases ho
theorem ok_cm_ne {off : Int} {tgt : Nat} (hd : decode cc pc = .ok (.if_icmp .ne off, 3)) (ht : (pc : Int) + off = (tgt : Int)) : OpOK mt cc own ml rt ini mc ms scr pc (oCmNe tgt (pc + 3)) := by
  rintro p l e R s m args below meth c D ids sz b d Q ⟨hx, hb, hml, hown, hts, hX, hsz, hlk, hrt, hini⟩ hR hscr ⟨pc0, ls, st, hp, k, n⟩ o hpc ho
  cases hpc
  unfold oCmNe at ho
  split at ho
  · rename_i heq
    cases heq
    cases ho
    intro hk H locs lsA hz hH hS hL
    refine lv_icmp_ne hx hb hd ht (fun c => ?_) (fun c => ?_)
    · rw [if_pos c] at hk
      exact hk H locs lsA hz hH hS hL
    · rw [if_neg (fun z => z c)] at hk
      exact hk H locs lsA hz hH hS hL
  · cases ho
theorem ok_cm_lt {off : Int} {tgt : Nat} (hd : decode cc pc = .ok (.if_icmp .lt off, 3)) (ht : (pc : Int) + off = (tgt : Int)) : OpOK mt cc own ml rt ini mc ms scr pc (oCmLt tgt (pc + 3)) := by
  rintro p l e R s m args below meth c D ids sz b d Q ⟨hx, hb, hml, hown, hts, hX, hsz, hlk, hrt, hini⟩ hR hscr ⟨pc0, ls, st, hp, k, n⟩ o hpc ho
  cases hpc
  unfold oCmLt at ho
  split at ho
  · rename_i heq
    cases heq
    cases ho
    intro hk H locs lsA hz hH hS hL
    refine lv_icmp_lt hx hb hd ht (fun c => ?_) (fun c => ?_)
    · rw [if_pos c] at hk
      exact hk H locs lsA hz hH hS hL
    · rw [if_neg c] at hk
      exact hk H locs lsA hz hH hS hL
  · cases ho
theorem ok_cm_ge {off : Int} {tgt : Nat} (hd : decode cc pc = .ok (.if_icmp .ge off, 3)) (ht : (pc : Int) + off = (tgt : Int)) : OpOK mt cc own ml rt ini mc ms scr pc (oCmGe tgt (pc + 3)) := by
  rintro p l e R s m args below meth c D ids sz b d Q ⟨hx, hb, hml, hown, hts, hX, hsz, hlk, hrt, hini⟩ hR hscr ⟨pc0, ls, st, hp, k, n⟩ o hpc ho
  cases hpc
  unfold oCmGe at ho
  split at ho
  · rename_i heq
    cases heq
    cases ho
    intro hk H locs lsA hz hH hS hL
    refine lv_icmp_ge hx hb hd ht (fun c => ?_) (fun c => ?_)
    · rw [if_pos c] at hk
      exact hk H locs lsA hz hH hS hL
    · rw [if_neg c] at hk
      exact hk H locs lsA hz hH hS hL
  · cases ho
theorem ok_cm_gt {off : Int} {tgt : Nat} (hd : decode cc pc = .ok (.if_icmp .gt off, 3)) (ht : (pc : Int) + off = (tgt : Int)) : OpOK mt cc own ml rt ini mc ms scr pc (oCmGt tgt (pc + 3)) := by
  rintro p l e R s m args below meth c D ids sz b d Q ⟨hx, hb, hml, hown, hts, hX, hsz, hlk, hrt, hini⟩ hR hscr ⟨pc0, ls, st, hp, k, n⟩ o hpc ho
  cases hpc
  unfold oCmGt at ho
  split at ho
  · rename_i heq
    cases heq
    cases ho
    intro hk H locs lsA hz hH hS hL
    refine lv_icmp_gt hx hb hd ht (fun c => ?_) (fun c => ?_)
    · rw [if_pos c] at hk
      exact hk H locs lsA hz hH hS hL
    · rw [if_neg c] at hk
      exact hk H locs lsA hz hH hS hL
  · cases ho
theorem ok_cm_le {off : Int} {tgt : Nat} (hd : decode cc pc = .ok (.if_icmp .le off, 3)) (ht : (pc : Int) + off = (tgt : Int)) : OpOK mt cc own ml rt ini mc ms scr pc (oCmLe tgt (pc + 3)) := by
  rintro p l e R s m args below meth c D ids sz b d Q ⟨hx, hb, hml, hown, hts, hX, hsz, hlk, hrt, hini⟩ hR hscr ⟨pc0, ls, st, hp, k, n⟩ o hpc ho
  cases hpc
  unfold oCmLe at ho
  split at ho
  · rename_i heq
    cases heq
    cases ho
    intro hk H locs lsA hz hH hS hL
    refine lv_icmp_le hx hb hd ht (fun c => ?_) (fun c => ?_)
    · rw [if_pos c] at hk
      exact hk H locs lsA hz hH hS hL
    · rw [if_neg c] at hk
      exact hk H locs lsA hz hH hS hL
  · cases ho
theorem ok_sw {dflt lo hi : Int} {offs : Array Int} {ts : List Nat} {t0 : Nat} {len : Nat} (hd : decode cc pc = .ok (.tableswitch dflt lo hi offs, len)) (hhi : hi = lo + (ts.length : Int) - 1) (h0 : (pc : Int) + dflt = (t0 : Int))
    (ht : offs.toList.map (fun z => (pc : Int) + z) = ts.map (fun t : Nat => (t : Int))) : OpOK mt cc own ml rt ini mc ms scr pc (oSw lo ts t0) := by
  rintro p l e R s m args below meth c D ids sz b d Q ⟨hx, hb, hml, hown, hts, hX, hsz, hlk, hrt, hini⟩ hR hscr ⟨pc0, ls, st, hp, k, n⟩ o hpc ho
  cases hpc
  unfold oSw at ho
  split at ho
  · rename_i x st1 r1 heq
    cases heq
    cases ho
    intro hk H locs lsA hz hH hS hL
    by_cases hc : x.toInt < lo ∨ lo + (ts.length : Int) - 1 < x.toInt
    · rw [if_pos hc] at hk
      exact lv_tableOut hx hb hd (by rw [hhi]; exact hc) h0 (hk H locs lsA hz hH hS hL)
    · rw [if_neg hc] at hk
      have hj : (x.toInt - lo).toNat < ts.length := by omega
      have hlen : offs.toList.length = ts.length := by
        have := congrArg List.length ht
        simpa using this
      have e1 : ts[(x.toInt - lo).toNat]? = some (ts.getD (x.toInt - lo).toNat t0) := by
        rw [List.getD_eq_getElem?_getD, List.getElem?_eq_getElem hj]
        rfl
      have hj2 : (x.toInt - lo).toNat < offs.toList.length := by omega
      have e2 : offs.toList[(x.toInt - lo).toNat]? = some (offs.toList[(x.toInt - lo).toNat]) := List.getElem?_eq_getElem hj2
      have e3 := congrArg (fun z => z[(x.toInt - lo).toNat]?) ht
      dsimp only at e3
      rw [List.getElem?_map, List.getElem?_map, e1, e2] at e3
      exact lv_tableIn hx hb hd (by omega) (by omega) (by rw [← Array.getElem?_toList]; exact e2) (Option.some.inj e3) (hk H locs lsA hz hH hS hL)
  · cases ho
end OK
end
section
/-! ===== core 4: fields, rows, new cells, calls, returns ===== -/
section OK4
variable {mt : List qM} {cc : ByteArray} {own : String} {ml : Nat} {rt : Option FieldType} {ini : Bool} {mc ms : Nat} {scr : Option (Nat × (Nat → Int32))} {pc : Nat}
theorem qW_sz {p : Program} {l : Launch} {e : Env} {R : Room} {s : State} {m : MethodId} {args : Array Value} {below : List Frame} {meth : Method} {c : Code} {H : Heap} {locs : List Loc} {cells slots : Nat} {Q : State → Prop} {g : JFrame}
    (kk : H.size ≤ s.heap.size + cells → W p l e R s m args below meth c H locs cells slots Q g) : W p l e R s m args below meth c H locs cells slots Q g :=
  fun T hT X => kk (by rw [← hT]; exact X.same.2.2.1) T hT X
theorem qHR_lo {D : va_G} {ids : qI} {sz b : Nat} {hp : qH} {H : Heap} {s : State} {locs : List Loc} (h : qHR D ids sz b hp H) (hS : va_S (qA sz) s.heap H locs) (hsz : sz ≤ s.heap.size) : sz + hp.1.length ≤ H.size := by
  by_cases h0 : hp.1.length = 0
  · have := hS.1
    omega
  · have h1 : hp.1.length - 1 < hp.1.length := by omega
    have h2 := (h.1 _ _ (qws_get (ids := ids) (sz := sz) (b := b) (hp := hp) (List.getElem?_eq_getElem h1))).lt
    dsimp only at h2
    omega
theorem qrefF {m : MethodId} {pc : Nat} {lsA : Array Slot} {sz b o : Nat} {st : List Value} (h : qad sz b o = sz + o) : F0 m pc lsA ((Value.ref o :: st).map (qmv sz b)) = F0 m pc lsA (.ref (sz + o) :: st.map (qmv sz b)) := by
  rw [← h]
  rfl
theorem qrefF1 {m : MethodId} {pc : Nat} {lsA : Array Slot} {sz b o : Nat} {v : Value} {st : List Value} (h : qad sz b o = sz + o) : F0 m pc lsA ((v :: Value.ref o :: st).map (qmv sz b)) = F0 m pc lsA (qmv sz b v :: .ref (sz + o) :: st.map (qmv sz b)) := by
  rw [← h]
  rfl
theorem qrefF2 {m : MethodId} {pc : Nat} {lsA : Array Slot} {sz b o : Nat} {v w : Value} {st : List Value} (h : qad sz b o = sz + o) : F0 m pc lsA ((w :: v :: Value.ref o :: st).map (qmv sz b)) = F0 m pc lsA (qmv sz b w :: qmv sz b v :: .ref (sz + o) :: st.map (qmv sz b)) := by
  rw [← h]
  rfl
theorem ok_get {ci k idx N : Nat} {C : String} {T : u_T} (hd : decode cc pc = .ok (.getfield idx, 3)) (hc : vwCl[ci]? = some (C, T, N)) (hin : ∀ w ∈ u_ws C T N, w ∈ wsG) (hk : k < N) (hw : Cond.fieldLink own idx (T k).1 (T k).2.1 (T k).2.2.1 ∈ wsG) :
    OpOK mt cc own ml rt ini mc ms scr pc (oGet ci k (pc + 3)) := by
  rintro p l e R s m args below meth c D ids sz b d Q ⟨hx, hb, hml, hown, hts, hX, hsz, hlk, hrt, hini⟩ hR hscr ⟨pc0, ls, st, hp, kc, ks⟩ o hpc ho
  cases hpc
  unfold oGet at ho
  split at ho
  · rename_i pc1 ls1 o1 st1 hp1 r1 heq
    cases heq
    split at ho
    · rename_i cj fs hsh
      split at ho
      · rename_i f hcj hf
        cases ho
        have hcj := of_decide_eq_true hcj
        subst hcj
        intro hkk H locs lsA hz hH hS hL
        refine W.eq (qrefF (qad_lt hsh hH.2)) ?_
        have hkk := hkk H locs lsA hz hH hS hL
        dsimp only at hkk
        rw [List.map_cons, qmv_fa] at hkk
        exact va_get (ref := (T k).1) hx hb hts hin hown hX.1 hH.1 o1 (qws_get hsh) hc k hk (hts _ hw) (fun _ h => h) (by rw [List.getElem?_mapIdx, hf]; rfl) hd hkk
      · cases ho
    · cases ho
  · cases ho
theorem oPutI_inv {ci k n : Nat} {x : qC} {o : qC ⊕ (qQ ⊕ (Option Value × qC))} (h : oPutI ci k n x = some o) : ∃ (v : Int32) (a : Nat) (st : List Value) (fs : List qF), x.2.2.1 = .int v :: .ref a :: st ∧ x.2.2.2.1.1[a]? = some (.inl (ci, fs)) ∧ fs[k]? = some none ∧
    o = .inl (n, x.2.1, st, (x.2.2.2.1.1, qup x.2.2.2.1.2 a k v), x.2.2.2.2) := by
  obtain ⟨pc0, ls, st, hp, r⟩ := x
  unfold oPutI at h
  split at h
  · rename_i heq
    cases heq
    split at h
    · rename_i hsh
      split at h
      · rename_i hcj hf
        cases h
        have hcj := of_decide_eq_true hcj
        subst hcj
        exact ⟨_, _, _, _, rfl, hsh, hf, rfl⟩
      · cases h
    · cases h
  · cases h
theorem oPutZ_inv {ci k n : Nat} {x : qC} {o : qC ⊕ (qQ ⊕ (Option Value × qC))} (h : oPutZ ci k n x = some o) : ∃ (v : Int32) (a : Nat) (st : List Value) (fs : List qF), x.2.2.1 = .int v :: .ref a :: st ∧ x.2.2.2.1.1[a]? = some (.inl (ci, fs)) ∧ fs[k]? = some none ∧
    (v = 0 ∨ v = 1) ∧ o = .inl (n, x.2.1, st, (x.2.2.2.1.1, qup x.2.2.2.1.2 a k v), x.2.2.2.2) := by
  obtain ⟨pc0, ls, st, hp, r⟩ := x
  unfold oPutZ at h
  split at h
  · rename_i heq
    cases heq
    split at h
    · rename_i hv
      split at h
      · rename_i hsh
        split at h
        · rename_i hcj hf
          cases h
          have hcj := of_decide_eq_true hcj
          subst hcj
          exact ⟨_, _, _, _, rfl, hsh, hf, hv, rfl⟩
        · cases h
      · cases h
    · cases h
  · cases h
theorem qput_world {D : va_G} {ids : qI} {sz b a k ci : Nat} {hp : qH} {fs : List qF} {v : Int32} {H1 : Heap} (hH : hp.1.length ≤ qSCR) (hsh : hp.1[a]? = some (.inl (ci, fs))) (hf : fs[k]? = some none)
    (h : va_P D vwCl ((qws ids sz b hp).set a (sz + a, .inr (ci, (fs.mapIdx (fun j f => qfv sz b (hp.2 a) j f)).set k (.int v)))) H1) : qHR D ids sz b (hp.1, qup hp.2 a k v) H1 := by
  refine ⟨?_, hH⟩
  rw [qws_up k v hsh, qce_upd hf]
  exact h
theorem ok_putI {ci k idx N : Nat} {C : String} {T : u_T} {ty : Nat → FieldType} (hd : decode cc pc = .ok (.putfield idx, 3)) (hc : vwCl[ci]? = some (C, T, N)) (hin : ∀ w ∈ u_ws C T N, w ∈ wsG) (hty : ∀ k, k < N → parseFieldDescriptor (T k).2.2.1 = some (ty k)) (hnm : ∀ a, a < N → ∀ b, b < N → a ≠ b → (T a).2.1 ≠ (T b).2.1)
    (hk : k < N) (hw : Cond.fieldLink own idx (T k).1 (T k).2.1 (T k).2.2.1 ∈ wsG) (hfin : (T k).2.2.2 = false) (hI : parseFieldDescriptor (T k).2.2.1 = some .int) : OpOK mt cc own ml rt ini mc ms scr pc (oPutI ci k (pc + 3)) := by
  rintro p l e R s m args below meth c D ids sz b d Q ⟨hx, hb, hml, hown, hts, hX, hsz, hlk, hrt, hini⟩ hR hscr ⟨pc0, ls, st, hp, kc, ks⟩ o hpc ho
  cases hpc
  obtain ⟨v, a, st1, fs, hst, hsh, hf, rfl⟩ := oPutI_inv ho
  dsimp only at hst hsh
  subst hst
  intro hkk H locs lsA hz hH hS hL
  refine W.eq (qrefF1 (qad_lt hsh hH.2)) ?_
  refine va_put (ref := (T k).1) (v := .int v) (ty := .int) hx hb hts hin ty hty hnm hown hX.1 hH.1 (qD ids sz b hp) hS a (qws_get hsh) hc k hk (hts _ hw) (fun _ h => h) hfin hI rfl rfl (by simpa using (List.getElem?_eq_some_iff.mp hf).1) hd (fun H1 locs1 hP1 _ hS1 => ?_)
  exact hkk H1 locs1 lsA hz (qput_world hH.2 hsh hf hP1) hS1 hL
theorem ok_putZ {ci k idx N : Nat} {C : String} {T : u_T} {ty : Nat → FieldType} (hd : decode cc pc = .ok (.putfield idx, 3)) (hc : vwCl[ci]? = some (C, T, N)) (hin : ∀ w ∈ u_ws C T N, w ∈ wsG) (hty : ∀ k, k < N → parseFieldDescriptor (T k).2.2.1 = some (ty k)) (hnm : ∀ a, a < N → ∀ b, b < N → a ≠ b → (T a).2.1 ≠ (T b).2.1)
    (hk : k < N) (hw : Cond.fieldLink own idx (T k).1 (T k).2.1 (T k).2.2.1 ∈ wsG) (hfin : (T k).2.2.2 = false) (hI : parseFieldDescriptor (T k).2.2.1 = some .boolean) : OpOK mt cc own ml rt ini mc ms scr pc (oPutZ ci k (pc + 3)) := by
  rintro p l e R s m args below meth c D ids sz b d Q ⟨hx, hb, hml, hown, hts, hX, hsz, hlk, hrt, hini⟩ hR hscr ⟨pc0, ls, st, hp, kc, ks⟩ o hpc ho
  cases hpc
  obtain ⟨v, a, st1, fs, hst, hsh, hf, hv, rfl⟩ := oPutZ_inv ho
  dsimp only at hst hsh
  subst hst
  intro hkk H locs lsA hz hH hS hL
  refine W.eq (qrefF1 (qad_lt hsh hH.2)) ?_
  refine va_put (ref := (T k).1) (v := .int v) (ty := .boolean) hx hb hts hin ty hty hnm hown hX.1 hH.1 (qD ids sz b hp) hS a (qws_get hsh) hc k hk (hts _ hw) (fun _ h => h) hfin hI (by rcases hv with rfl | rfl <;> rfl) (by rcases hv with rfl | rfl <;> rfl) (by simpa using (List.getElem?_eq_some_iff.mp hf).1) hd (fun H1 locs1 hP1 _ hS1 => ?_)
  exact hkk H1 locs1 lsA hz (qput_world hH.2 hsh hf hP1) hS1 hL
theorem ok_putF {ci k idx N : Nat} {C : String} {T : u_T} {ty : Nat → FieldType} {tf : FieldType} (hd : decode cc pc = .ok (.putfield idx, 3)) (hc : vwCl[ci]? = some (C, T, N)) (hin : ∀ w ∈ u_ws C T N, w ∈ wsG) (hty : ∀ k, k < N → parseFieldDescriptor (T k).2.2.1 = some (ty k)) (hnm : ∀ a, a < N → ∀ b, b < N → a ≠ b → (T a).2.1 ≠ (T b).2.1)
    (hk : k < N) (hw : Cond.fieldLink own idx (T k).1 (T k).2.1 (T k).2.2.1 ∈ wsG) (hfin : (T k).2.2.2 = true) (hdecl : (T k).1 = own) (hii : ini = true) (hI : parseFieldDescriptor (T k).2.2.1 = some tf) (hn : ∀ a : Nat, narrow tf (.ref a) = .ref a ∧ fits tf (.ref a) = true) : OpOK mt cc own ml rt ini mc ms scr pc (oPutF ci k (pc + 3)) := by
  rintro p l e R s m args below meth c D ids sz b d Q ⟨hx, hb, hml, hown, hts, hX, hsz, hlk, hrt, hini⟩ hR hscr ⟨pc0, ls, st, hp, kc, ks⟩ o hpc ho
  cases hpc
  unfold oPutF at ho
  split at ho
  · rename_i pc1 ls1 v a st1 hp1 r1 heq
    cases heq
    split at ho
    · rename_i cj fs hsh
      split at ho
      · rename_i f hcj hf
        cases ho
        have hcj := of_decide_eq_true hcj
        subst hcj
        intro hkk H locs lsA hz hH hS hL
        have hl := (List.getElem?_eq_some_iff.mp hsh).1
        refine W.eq (qrefF1 (qad_lt hsh hH.2)) ?_
        refine va_putF (ref := (T k).1) (v := .ref (qad sz b v)) (ty := tf) hx hb hts hin ty hty hnm hown hX.1 hH.1 (qD ids sz b hp) hS a (qws_get hsh) hc k hk (hts _ hw) (fun _ h => h) hfin (hini hii) hdecl hI (hn _).1 (hn _).2 (by simpa using (List.getElem?_eq_some_iff.mp hf).1) hd (fun H1 locs1 hP1 _ hS1 => ?_)
        refine hkk H1 locs1 lsA (by dsimp only at hz ⊢; rw [List.length_set]; exact hz) ⟨?_, by dsimp only; rw [List.length_set]; exact hH.2⟩ hS1 hL
        rw [qws_sh _ hl]
        have e : qce ids sz b (hp.2 a) (.inl (cj, fs.set k (some (some v)))) = .inr (cj, (fs.mapIdx (fun j f => qfv sz b (hp.2 a) j f)).set k (.ref (qad sz b v))) := by
          show Sum.inr (cj, (fs.set k (some (some v))).mapIdx (fun j f => qfv sz b (hp.2 a) j f)) = _
          rw [qmapIdx_set]
          rfl
        rw [e]
        exact hP1
      · cases ho
    · cases ho
  · cases ho
theorem ok_iaload (hd : decode cc pc = .ok (.iaload, 1)) : OpOK mt cc own ml rt ini mc ms scr pc (oALd (pc + 1)) := by
  rintro p l e R s m args below meth c D ids sz b d Q ⟨hx, hb, hml, hown, hts, hX, hsz, hlk, hrt, hini⟩ hR hscr ⟨pc0, ls, st, hp, kc, ks⟩ o hpc ho
  cases hpc
  unfold oALd at ho
  split at ho
  · rename_i heq
    cases heq
    split at ho
    · rename_i N hsh
      split at ho
      · cases ho
      · rename_i hi
        cases ho
        intro hkk H locs lsA hz hH hS hL
        refine W.eq (qrefF1 (qad_lt hsh hH.2)) ?_
        exact va_iald hx hb hX.1 hH.1 _ 0 (qws_get hsh) rfl hi hd (hkk H locs lsA hz hH hS hL)
    · cases ho
  · cases ho
theorem ok_iastore (hd : decode cc pc = .ok (.iastore, 1)) : OpOK mt cc own ml rt ini mc ms scr pc (oASt (pc + 1)) := by
  rintro p l e R s m args below meth c D ids sz b d Q ⟨hx, hb, hml, hown, hts, hX, hsz, hlk, hrt, hini⟩ hR hscr ⟨pc0, ls, st, hp, kc, ks⟩ o hpc ho
  cases hpc
  unfold oASt at ho
  split at ho
  · rename_i heq
    cases heq
    split at ho
    · rename_i N hsh
      split at ho
      · cases ho
      · rename_i hi
        cases ho
        intro hkk H locs lsA hz hH hS hL
        refine W.eq (qrefF2 (qad_lt hsh hH.2)) ?_
        refine va_iast hx hb hX.1 hH.1 (qD ids sz b hp) hS _ 0 (qws_get hsh) rfl hi hd (fun H1 locs1 hP1 _ hS1 => ?_)
        refine hkk H1 locs1 lsA hz ⟨?_, hH.2⟩ hS1 hL
        rw [qws_up _ _ hsh]
        exact hP1
    · cases ho
  · cases ho
theorem qrf_eq {sz b : Nat} (r : Option Nat) : qmv sz b (qrf r) = va_rf (r.map (qad sz b)) := by cases r <;> rfl
theorem ok_aaload (hd : decode cc pc = .ok (.aaload, 1)) : OpOK mt cc own ml rt ini mc ms scr pc (oAALd (pc + 1)) := by
  rintro p l e R s m args below meth c D ids sz b d Q ⟨hx, hb, hml, hown, hts, hX, hsz, hlk, hrt, hini⟩ hR hscr ⟨pc0, ls, st, hp, kc, ks⟩ o hpc ho
  cases hpc
  unfold oAALd at ho
  split at ho
  · rename_i heq
    cases heq
    split at ho
    · rename_i t N rs hsh
      split at ho
      · cases ho
      · rename_i hi
        cases ho
        intro hkk H locs lsA hz hH hS hL
        refine W.eq (qrefF1 (qad_lt hsh hH.2)) ?_
        have hkk := hkk H locs lsA hz hH hS hL
        dsimp only at hkk
        rw [List.map_cons, qrf_eq] at hkk
        have hq := qws_get (ids := ids) (sz := sz) (b := b) hsh
        by_cases ht : t = 0
        · exact va_aldq (C := RX0) (cA := ids.2.1) hx hb hX.1 hH.1 _ 1 (by rw [hq]; simp only [qce, if_pos ht]; rfl) rfl hi hd hkk
        · exact va_aldq (C := RX2) (cA := ids.2.2) hx hb hX.1 hH.1 _ 2 (by rw [hq]; simp only [qce, if_neg ht]; rfl) rfl hi hd hkk
    · cases ho
  · cases ho
theorem ok_aastore (hd : decode cc pc = .ok (.aastore, 1)) : OpOK mt cc own ml rt ini mc ms scr pc (oAASt (pc + 1)) := by
  rintro p l e R s m args below meth c D ids sz b d Q ⟨hx, hb, hml, hown, hts, hX, hsz, hlk, hrt, hini⟩ hR hscr ⟨pc0, ls, st, hp, kc, ks⟩ o hpc ho
  cases hpc
  unfold oAASt at ho
  split at ho
  · rename_i pc1 ls1 v i a st1 hp1 r1 heq
    cases heq
    split at ho
    · rename_i t N rs cj fs hsh hsv
      split at ho
      · cases ho
      · rename_i hi
        split at ho
        · rename_i hcj hrl
          cases ho
          have hcj := of_decide_eq_true hcj
          have hrl := of_decide_eq_true hrl
          intro hkk H locs lsA hz hH hS hL
          have hl := (List.getElem?_eq_some_iff.mp hsh).1
          have hil : i.toNatClampNeg < rs.length := by rw [hrl]; exact Nat.not_le.mp fun q => hi (Or.inr q)
          refine W.eq (g2 := F0 m pc0 lsA (.ref (sz + v) :: .int i :: .ref (sz + a) :: st1.map (qmv sz b))) (by rw [← qad_lt hsh hH.2, ← qad_lt hsv hH.2]; rfl) ?_
          have hq := qws_get (ids := ids) (sz := sz) (b := b) hsh
          have hv := qws_get (ids := ids) (sz := sz) (b := b) hsv
          have hfin : ∀ (H1 : Heap) (locs1 : List Loc), va_P D vwCl ((qws ids sz b hp).set a (sz + a, .inl ((if t = 0 then ids.2.1 else ids.2.2), (N, .inr (.inr (.inr (.inr (va_up (fun j => (rs.getD j none).map (qad sz b)) i.toNatClampNeg (some (sz + v)))))))))) H1 →
              va_S (qA sz) s.heap H1 locs1 → W p l e R s m args below meth c H1 locs1 kc ks Q (F0 m (pc0 + 1) lsA (st1.map (qmv sz b))) := by
            intro H1 locs1 hP1 hS1
            refine hkk H1 locs1 lsA (by dsimp only at hz ⊢; rw [List.length_set]; exact hz) ⟨?_, by dsimp only; rw [List.length_set]; exact hH.2⟩ hS1 hL
            rw [qws_sh _ hl]
            have e : (fun j => ((rs.set i.toNatClampNeg (some v)).getD j none).map (qad sz b)) = va_up (fun j => (rs.getD j none).map (qad sz b)) i.toNatClampNeg (some (sz + v)) := by
              funext j
              unfold va_up
              rw [List.getD_eq_getElem?_getD, List.getElem?_set]
              by_cases hj : i.toNatClampNeg = j
              · subst hj
                rw [if_pos rfl, if_pos hil, if_pos rfl, ← qad_lt hsv hH.2]
                rfl
              · rw [if_neg hj, if_neg (Ne.symm hj)]
                simp only [List.getD_eq_getElem?_getD]
            show va_P D vwCl ((qws ids sz b hp).set a (sz + a, .inl ((if t = 0 then ids.2.1 else ids.2.2), (N, .inr (.inr (.inr (.inr (fun j => ((rs.set i.toNatClampNeg (some v)).getD j none).map (qad sz b)))))))) ) H1
            rw [e]
            exact hP1
          by_cases ht : t = 0
          · rw [if_pos ht] at hcj
            subst hcj
            refine va_astq (r := (RX0, TX0, 7)) (cA := ids.2.1) hx hb hX.1 hH.1 (qD ids sz b hp) hS a 1 v 0 (by rw [hq]; simp only [qce, if_pos ht]; rfl) rfl hv rfl hi hd (fun H1 locs1 hP1 _ hS1 => ?_)
            refine hfin H1 locs1 ?_ hS1
            rw [if_pos ht]
            exact hP1
          · rw [if_neg ht] at hcj
            subst hcj
            refine va_astq (r := (RX2, TX2, 4)) (cA := ids.2.2) hx hb hX.1 hH.1 (qD ids sz b hp) hS a 2 v 2 (by rw [hq]; simp only [qce, if_neg ht]; rfl) rfl hv rfl hi hd (fun H1 locs1 hP1 _ hS1 => ?_)
            refine hfin H1 locs1 ?_ hS1
            rw [if_neg ht]
            exact hP1
        · cases ho
    · cases ho
  · cases ho
theorem ok_alen (hd : decode cc pc = .ok (.arraylength, 1)) : OpOK mt cc own ml rt ini mc ms scr pc (oLen (pc + 1)) := by
  rintro p l e R s m args below meth c D ids sz b d Q ⟨hx, hb, hml, hown, hts, hX, hsz, hlk, hrt, hini⟩ hR hscr ⟨pc0, ls, st, hp, kc, ks⟩ o hpc ho
  cases hpc
  unfold oLen at ho
  split at ho
  · rename_i heq
    cases heq
    split at ho
    · rename_i N hsh
      cases ho
      intro hkk H locs lsA hz hH hS hL
      refine W.eq (qrefF (qad_lt hsh hH.2)) ?_
      exact va_alen hx hb hX.1 hH.1 _ 0 (qws_get hsh) rfl rfl hd (hkk H locs lsA hz hH hS hL)
    · rename_i t N rs hsh
      cases ho
      intro hkk H locs lsA hz hH hS hL
      refine W.eq (qrefF (qad_lt hsh hH.2)) ?_
      have hq := qws_get (ids := ids) (sz := sz) (b := b) hsh
      by_cases ht : t = 0
      · exact va_alen (cA := ids.2.1) (x := (N, .inr (.inr (.inr (.inr (fun j => (rs.getD j none).map (qad sz b))))))) (v := Int32.ofNat N) hx hb hX.1 hH.1 _ 1 (by rw [hq]; simp only [qce, if_pos ht]) rfl rfl hd (hkk H locs lsA hz hH hS hL)
      · exact va_alen (cA := ids.2.2) (x := (N, .inr (.inr (.inr (.inr (fun j => (rs.getD j none).map (qad sz b))))))) (v := Int32.ofNat N) hx hb hX.1 hH.1 _ 2 (by rw [hq]; simp only [qce, if_neg ht]) rfl rfl hd (hkk H locs lsA hz hH hS hL)
    · cases ho
  · cases ho
theorem ok_slen {L : Nat} {xs : Nat → Int32} (hd : decode cc pc = .ok (.arraylength, 1)) (hsc : scr = some (L, xs)) : OpOK mt cc own ml rt ini mc ms scr pc (oSLen L (pc + 1)) := by
  rintro p l e R s m args below meth c D ids sz b d Q ⟨hx, hb, hml, hown, hts, hX, hsz, hlk, hrt, hini⟩ hR hscr ⟨pc0, ls, st, hp, kc, ks⟩ o hpc ho
  cases hpc
  obtain ⟨h1, h2, h3⟩ := hscr _ hsc
  unfold oSLen at ho
  split at ho
  · rename_i heq
    cases heq
    split at ho
    · rename_i ha
      cases ho
      subst ha
      intro hkk H locs lsA hz hH hS hL
      exact va_slen (H0 := s.heap) hx hb h1 (by rw [h3]; exact h2) (fun h => by have h4 : sz ≤ b := h; omega) hS hd (hkk H locs lsA hz hH hS hL)
    · cases ho
  · cases ho
theorem ok_sld {L : Nat} {xs : Nat → Int32} (hd : decode cc pc = .ok (.iaload, 1)) (hsc : scr = some (L, xs)) : OpOK mt cc own ml rt ini mc ms scr pc (oSLd L xs (pc + 1)) := by
  rintro p l e R s m args below meth c D ids sz b d Q ⟨hx, hb, hml, hown, hts, hX, hsz, hlk, hrt, hini⟩ hR hscr ⟨pc0, ls, st, hp, kc, ks⟩ o hpc ho
  cases hpc
  obtain ⟨h1, h2, h3⟩ := hscr _ hsc
  unfold oSLd at ho
  split at ho
  · rename_i heq
    cases heq
    split at ho
    · rename_i ha
      cases ho
      obtain ⟨ha, hi⟩ := ha
      subst ha
      intro hkk H locs lsA hz hH hS hL
      exact va_sld (H0 := s.heap) hx hb h1 (by rw [h3]; exact h2) (fun h => by have h4 : sz ≤ b := h; omega) hS hi hd (hkk H locs lsA hz hH hS hL)
    · cases ho
  · cases ho
end OK4
end
section
/-! ===== core 5: new cells, copies, calls, returns ===== -/
section OK5
variable {mt : List qM} {cc : ByteArray} {own : String} {ml : Nat} {rt : Option FieldType} {ini : Bool} {mc ms : Nat} {scr : Option (Nat × (Nat → Int32))} {pc : Nat}
/-- where the next cell comes -/
theorem qnewat {sz b len : Nat} {x : Nat} (h : x = sz + len) (hl : len + 1 ≤ qSCR) : x = qad sz b len := by
  unfold qad
  rw [if_neg (by omega)]
  exact h
theorem ok_new {ci N idx : Nat} {C : String} {T : u_T} {ty : Nat → FieldType} {fs : List qF} (hd : decode cc pc = .ok (.new idx, 3)) (hc : vwCl[ci]? = some (C, T, N)) (hin : ∀ w ∈ u_ws C T N, w ∈ wsG) (hty : ∀ k, k < N → parseFieldDescriptor (T k).2.2.1 = some (ty k))
    (h1 : Cond.classLink own idx C ∈ wsG) (h2 : Cond.instantiable C N ∈ wsG) (h3 : Cond.initialized C ∈ wsG) (hl : fs.length = N) (hfs : ∀ j, j < N → defaultValue (ty j) = match fs[j]? with
      | some none => .int 0
      | _ => .null) (hfs2 : ∀ f ∈ fs, f = none ∨ f = some none) : OpOK mt cc own ml rt ini mc ms scr pc (oNew ci N fs mc ms (pc + 3)) := by
  rintro p l e R s m args below meth c D ids sz b d Q ⟨hx, hb, hml, hown, hts, hX, hsz, hlk, hrt, hini⟩ hR hscr ⟨pc0, ls, st, hp, kc, ks⟩ o hpc ho
  cases hpc
  unfold oNew at ho
  dsimp only at ho
  split at ho
  · rename_i hroom
    obtain ⟨g1, g2, g3⟩ := hroom
    cases ho
    intro hkk H locs lsA hz hH hS hL
    show W p l e R s m args below meth c H locs kc ks Q (F0 m pc0 lsA (st.map (qmv sz b)))
    refine qW_sz (fun hup => ?_)
    have hlo := qHR_lo hH hS hsz
    dsimp only at hz hlo
    have hH0 : H.size = sz + hp.1.length := by omega
    have hKn := hX.1.1 ci _ hc
    refine W.newcK (g := F0 m pc0 lsA (st.map (qmv sz b))) hx hb hown (hts _ h1) (hts _ h2) (hts _ h3) rfl hd (by omega) (by omega) hKn.2.1 rfl fun H1 kC hkC e1 z1 o1 => ?_
    have hkp : ∀ (k : Nat) (x : Nat × va_E), (qws ids sz b hp)[k]? = some x → H1[x.1]? = H[x.1]? := fun k x hx => o1 x.1 ((hH.1 k x hx).lt)
    have e2 : F0 m (pc0 + 3) lsA ((Value.ref hp.1.length :: st).map (qmv sz b)) = { F0 m pc0 lsA (st.map (qmv sz b)) with pc := (F0 m pc0 lsA (st.map (qmv sz b))).pc + 3, stack := .ref H.size :: (F0 m pc0 lsA (st.map (qmv sz b))).stack } := by
      rw [qnewat (b := b) hH0 g3]
      rfl
    rw [← e2]
    refine hkk H1 locs lsA (by dsimp only; rw [List.length_append, List.length_singleton]; omega) ⟨?_, by dsimp only; rw [List.length_append, List.length_singleton]; exact g3⟩ ⟨Nat.le_trans hS.1 (by omega), fun x y1 y2 => (o1 x (Nat.lt_of_lt_of_le y1 hS.1)).trans (hS.2.1 x y1 y2), hS.2.2⟩ hL
    rw [qws_new _ _ (fun o k ho => by simp [qz, Nat.ne_of_lt ho])]
    refine (hH.1.kept hkp).app (fun k x hx => ?_)
    have hz0 : k < 1 := (List.getElem?_eq_some_iff.mp hx).1
    rw [show k = 0 by omega] at hx
    cases hx
    rw [← hH0]
    refine ⟨_, hc, (u_born ty hts hin hKn hkC e1 hty).to fun j hj => ?_⟩
    rw [hfs j hj]
    have hj2 : j < fs.length := by omega
    have hm := hfs2 _ (List.getElem_mem hj2)
    unfold vp_V
    rw [List.getD_eq_getElem?_getD, List.getElem?_mapIdx, List.getElem?_eq_getElem hj2]
    rcases hm with hm | hm
    · rw [hm]
      simp [qfv, qz]
    · rw [hm]
      rfl
  · cases ho
theorem ok_newI (hd : decode cc pc = .ok (.newarray .int, 2)) (h1 : Cond.arrayClass .int ∈ wsG) : OpOK mt cc own ml rt ini mc ms scr pc (oNewI mc ms (pc + 2)) := by
  rintro p l e R s m args below meth c D ids sz b d Q ⟨hx, hb, hml, hown, hts, hX, hsz, hlk, hrt, hini⟩ hR hscr ⟨pc0, ls, st, hp, kc, ks⟩ o hpc ho
  cases hpc
  unfold oNewI at ho
  split at ho
  · rename_i pc1 ls1 z st1 hp1 kc1 ks1 heq
    cases heq
    split at ho
    · rename_i hroom
      obtain ⟨g0, g00, g1, g2, g3⟩ := hroom
      cases ho
      intro hkk H locs lsA hz hH hS hL
      show W p l e R s m args below meth c H locs kc ks Q (F0 m pc0 lsA ((.int z :: st1).map (qmv sz b)))
      refine qW_sz (fun hup => ?_)
      have hlo := qHR_lo hH hS hsz
      dsimp only at hz hlo
      have hH0 : H.size = sz + hp.1.length := by omega
      refine va_newaK (atype := .int) (g := F0 m pc0 lsA (.int z :: st1.map (qmv sz b))) hx hb (hts _ h1) rfl hd rfl g0 rfl (by show z.toNatClampNeg * 4 ≤ _; omega) (by omega) (by omega) rfl fun H1 cA e1 z1 o1 hAr hNm => ?_
      have hcA : cA = ids.1 := by
        have h5 := (hX.1.2 0 (ids.1, .int) rfl).2
        exact Option.some.inj (hNm.symm.trans h5)
      subst hcA
      have hkp : ∀ (k : Nat) (x : Nat × va_E), (qws ids sz b hp)[k]? = some x → H1[x.1]? = H[x.1]? := fun k x hx => o1 x.1 ((hH.1 k x hx).lt)
      have e2 : F0 m (pc0 + 2) lsA ((Value.ref hp.1.length :: st1).map (qmv sz b)) = { F0 m pc0 lsA (.int z :: st1.map (qmv sz b)) with pc := (F0 m pc0 lsA (.int z :: st1.map (qmv sz b))).pc + 2, stack := .ref H.size :: st1.map (qmv sz b) } := by
        rw [qnewat (b := b) hH0 g3]
        rfl
      rw [← e2]
      refine hkk H1 locs lsA (by dsimp only; rw [List.length_append, List.length_singleton]; omega) ⟨?_, by dsimp only; rw [List.length_append, List.length_singleton]; exact g3⟩ ⟨Nat.le_trans hS.1 (by omega), fun x y1 y2 => (o1 x (Nat.lt_of_lt_of_le y1 hS.1)).trans (hS.2.1 x y1 y2), hS.2.2⟩ hL
      rw [qws_new _ _ (fun o k ho => by simp [qz, Nat.ne_of_lt ho])]
      refine (hH.1.kept hkp).app (fun k x hx => ?_)
      have hz0 : k < 1 := (List.getElem?_eq_some_iff.mp hx).1
      rw [show k = 0 by omega] at hx
      cases hx
      rw [← hH0]
      show H1[H.size]? = some (vp_cell ids.1 (z.toNatClampNeg, .inl (qz hp.2 hp.1.length hp.1.length)))
      rw [vp_cell_i]
      rw [show (fun j => Value.int (qz hp.2 hp.1.length hp.1.length j)) = (fun _ => defaultValue .int) from funext fun j => by simp [qz, defaultValue]]
      exact e1
    · cases ho
  · cases ho
theorem ok_newR {t idx : Nat} {C : String} (hd : decode cc pc = .ok (.anewarray idx, 3)) (h1 : Cond.classLink own idx C ∈ wsG) (hC : (t = 0 ∧ C = RX0) ∨ (t = 1 ∧ C = RX2)) : OpOK mt cc own ml rt ini mc ms scr pc (oNewR t mc ms (pc + 3)) := by
  rintro p l e R s m args below meth c D ids sz b d Q ⟨hx, hb, hml, hown, hts, hX, hsz, hlk, hrt, hini⟩ hR hscr ⟨pc0, ls, st, hp, kc, ks⟩ o hpc ho
  cases hpc
  unfold oNewR at ho
  split at ho
  · rename_i pc1 ls1 z st1 hp1 kc1 ks1 heq
    cases heq
    split at ho
    · rename_i hroom
      obtain ⟨g0, g00, g1, g2, g3⟩ := hroom
      cases ho
      intro hkk H locs lsA hz hH hS hL
      show W p l e R s m args below meth c H locs kc ks Q (F0 m pc0 lsA ((.int z :: st1).map (qmv sz b)))
      refine qW_sz (fun hup => ?_)
      have hlo := qHR_lo hH hS hsz
      dsimp only at hz hlo
      have hH0 : H.size = sz + hp.1.length := by omega
      have hover : va_AO C s := by
        rcases hC with ⟨-, rfl⟩ | ⟨-, rfl⟩
        · exact hX.2.1
        · exact hX.2.2.1
      refine W.anew (g := F0 m pc0 lsA (.int z :: st1.map (qmv sz b))) hx hb hown (hts _ h1) (va_AO.use hover) rfl hd rfl g0 (by omega) (by omega) (by omega) fun cA kA comp f1 f2 f3 f4 => ?_
      generalize hH1 : H.push ({ cls := cA, slots := Array.replicate z.toNatClampNeg .null, vm := .none } : Cell) = H1
      have z1 : H1.size = H.size + 1 := by rw [← hH1, Array.size_push]
      have e1 : H1[H.size]? = some (arrV cA z.toNatClampNeg (fun _ => .null)) := by rw [← hH1, Array.getElem?_push_size, ← arrV_new]
      have o1 : ∀ q : Nat, q < H.size → H1[q]? = H[q]? := fun q hq => by rw [← hH1, Array.getElem?_push, if_neg (Nat.ne_of_lt hq)]
      have hcA : cA = if t = 0 then ids.2.1 else ids.2.2 := by
        rcases hC with ⟨ht, rfl⟩ | ⟨ht, rfl⟩
        · obtain ⟨kA', comp', k1, k2, k3, k4⟩ := (hX.1.2 1 (ids.2.1, .object RX0) rfl).2
          rw [if_pos ht]
          exact Option.some.inj (f1.symm.trans k4)
        · obtain ⟨kA', comp', k1, k2, k3, k4⟩ := (hX.1.2 2 (ids.2.2, .object RX2) rfl).2
          rw [if_neg (by omega)]
          exact Option.some.inj (f1.symm.trans k4)
      subst hcA
      have hkp : ∀ (k : Nat) (x : Nat × va_E), (qws ids sz b hp)[k]? = some x → H1[x.1]? = H[x.1]? := fun k x hx => o1 x.1 ((hH.1 k x hx).lt)
      have e2 : F0 m (pc0 + 3) lsA ((Value.ref hp.1.length :: st1).map (qmv sz b)) = { F0 m pc0 lsA (.int z :: st1.map (qmv sz b)) with pc := (F0 m pc0 lsA (.int z :: st1.map (qmv sz b))).pc + 3, stack := .ref H.size :: st1.map (qmv sz b) } := by
        rw [qnewat (b := b) hH0 g3]
        rfl
      rw [← e2]
      refine hkk H1 locs lsA (by dsimp only; rw [List.length_append, List.length_singleton]; omega) ⟨?_, by dsimp only; rw [List.length_append, List.length_singleton]; exact g3⟩ ⟨Nat.le_trans hS.1 (by omega), fun x y1 y2 => (o1 x (Nat.lt_of_lt_of_le y1 hS.1)).trans (hS.2.1 x y1 y2), hS.2.2⟩ hL
      rw [qws_new _ _ (fun o k ho => rfl)]
      refine (hH.1.kept hkp).app (fun k x hx => ?_)
      have hz0 : k < 1 := (List.getElem?_eq_some_iff.mp hx).1
      rw [show k = 0 by omega] at hx
      cases hx
      rw [← hH0]
      show H1[H.size]? = some (vp_cell (if t = 0 then ids.2.1 else ids.2.2) (z.toNatClampNeg, .inr (.inr (.inr (.inr (fun j => ((List.replicate z.toNatClampNeg none).getD j none).map (qad sz b)))))))
      rw [vp_cell_q]
      rw [show (fun j => va_rf (((List.replicate z.toNatClampNeg (none : Option Nat)).getD j none).map (qad sz b))) = (fun _ => Value.null) from funext fun j => by
        rw [List.getD_eq_getElem?_getD, List.getElem?_replicate]
        split <;> rfl]
      exact e1
    · cases ho
  · cases ho
theorem ok_objInit {idx : Nat} (hd : decode cc pc = .ok (.invokespecial idx, 3)) (h1 : Cond.methodLink own idx objectInit ∈ wsG) (h2 : Cond.instanceMethod objectInit ∈ wsG) (h3 : Cond.code objectInit ⟨#[0xb1]⟩ 1 none ∈ wsG) : OpOK mt cc own ml rt ini mc ms scr pc (oObj (pc + 3)) := by
  rintro p l e R s m args below meth c D ids sz b d Q ⟨hx, hb, hml, hown, hts, hX, hsz, hlk, hrt, hini⟩ hR hscr ⟨pc0, ls, st, hp, kc, ks⟩ o hpc ho
  cases hpc
  unfold oObj at ho
  split at ho
  · rename_i pc1 ls1 a st1 h1 heq
    cases heq
    split at ho
    · rename_i hc8
      have hc8 := of_decide_eq_true hc8
      cases ho
      intro hkk H locs lsA hz hH hS hL
      have hcat : ((st1.map (qmv sz b)).map fun v => v.category).sum ≤ 8 := by
        rw [List.map_map, show (fun v => v.category) ∘ qmv sz b = fun v : Value => v.category from funext fun v => qmv_cat sz b v]
        exact hc8
      refine W.objInit (g := F0 m pc0 lsA (.ref (qad sz b a) :: st1.map (qmv sz b))) hx hb hown (hts _ (by assumption)) (hts _ h2) (hts _ h3) rfl (by rw [hml]; exact hL.1.1) rfl hd (by omega) (by show 2 * 0 + _ + 12 ≤ _; omega) ?_
      exact hkk H locs lsA hz hH hS hL
    · cases ho
  · cases ho
theorem ok_copy {idx : Nat} (hd : decode cc pc = .ok (.invokestatic idx, 3)) (h1 : Cond.methodLink own idx arraycopyName ∈ wsG) (h2 : Cond.native arraycopyName ∈ wsG) (h3 : Cond.static arraycopyName ∈ wsG) (h4 : Cond.initialized "java/lang/System" ∈ wsG) : OpOK mt cc own ml rt ini mc ms scr pc (oCopy (pc + 3)) := by
  rintro p l e R s m args below meth c D ids sz b d Q ⟨hx, hb, hml, hown, hts, hX, hsz, hlk, hrt, hini⟩ hR hscr ⟨pc0, ls, st, hp, kc, ks⟩ o hpc ho
  cases hpc
  unfold oCopy at ho
  split at ho
  · rename_i pc1 ls1 z dp a sp a0 st1 hp1 r1 heq
    cases heq
    split at ho
    · rename_i n0 n1 hs0 hs1
      split at ho
      · rename_i hc
        obtain ⟨c1, c2, c3, c4, c5, c6⟩ := hc
        cases ho
        intro hkk H locs lsA hz hH hS hL
        have hcat : ((st1.map (qmv sz b)).map fun v => v.category).sum ≤ 8 := by
          rw [List.map_map, show (fun v => v.category) ∘ qmv sz b = fun v : Value => v.category from funext fun v => qmv_cat sz b v]
          exact c6
        refine W.eq (g2 := F0 m pc0 lsA (.int z :: .int dp :: .ref (sz + a) :: .int sp :: .ref (sz + a0) :: st1.map (qmv sz b))) (by rw [← qad_lt hs0 hH.2, ← qad_lt hs1 hH.2]; rfl) ?_
        refine va_copyi (ty := .int) hx hb (by rw [hml]; exact hL.1.1.symm) hown (hts _ h1) (hts _ h2) (hts _ h3) (hts _ h4) hX.1 hH.1 (qD ids sz b hp) hS a0 a 0 0 (qws_get hs0) (qws_get hs1) rfl rfl rfl c1 c2 c3 c4 c5 (fun _ _ => rfl) (by omega) (by
          have : nativeFrameWords "java/lang/System" "arraycopy" 5 = 7 := by decide +kernel
          rw [this]
          omega) hd (fun H1 locs1 hP1 _ hS1 => ?_)
        refine hkk H1 locs1 lsA hz ⟨?_, hH.2⟩ hS1 hL
        rw [qws_row _ hs1]
        exact hP1
      · cases ho
    · cases ho
  · cases ho
theorem ok_retI (hd : decode cc pc = .ok (.ireturn, 1)) (hr : rt = some .int) : OpOK mt cc own ml rt ini mc ms scr pc oRetI := by
  rintro p l e R s m args below meth c D ids sz b d Q ⟨hx, hb, hml, hown, hts, hX, hsz, hlk, hrt, hini⟩ hR hscr ⟨pc0, ls, st, hp, kc, ks⟩ o hpc ho
  cases hpc
  unfold oRetI at ho
  split at ho
  · rename_i heq
    cases heq
    cases ho
    refine ⟨rfl, fun y hy => by cases hy; exact ⟨rfl, hd⟩, fun Qc free H locs lsA k n hq hf => ?_⟩
    exact W.iret hx hb (hrt.trans hr) hq hf hd hlk
  · cases ho
theorem ok_retZ (hd : decode cc pc = .ok (.ireturn, 1)) (hr : rt = some .boolean) : OpOK mt cc own ml rt ini mc ms scr pc oRetZ := by
  rintro p l e R s m args below meth c D ids sz b d Q ⟨hx, hb, hml, hown, hts, hX, hsz, hlk, hrt, hini⟩ hR hscr ⟨pc0, ls, st, hp, kc, ks⟩ o hpc ho
  cases hpc
  unfold oRetZ at ho
  split at ho
  · rename_i heq
    cases heq
    split at ho
    · rename_i hv
      cases ho
      refine ⟨rfl, fun y hy => by cases hy; exact ⟨rfl, hd⟩, fun Qc free H locs lsA k n hq hf => ?_⟩
      exact W.zret hx hb (hrt.trans hr) (by rcases hv with rfl | rfl <;> rfl) hq hf hd hlk
    · cases ho
  · cases ho
theorem ok_retV (hd : decode cc pc = .ok (.return_, 1)) (hr : rt = none) : OpOK mt cc own ml rt ini mc ms scr pc oRetV := by
  rintro p l e R s m args below meth c D ids sz b d Q ⟨hx, hb, hml, hown, hts, hX, hsz, hlk, hrt, hini⟩ hR hscr ⟨pc0, ls, st, hp, kc, ks⟩ o hpc ho
  cases hpc
  unfold oRetV at ho
  split at ho
  · rename_i heq
    cases heq
    cases ho
    refine ⟨rfl, fun y hy => (by cases hy), fun Qc free H locs lsA k n hq hf => ?_⟩
    exact W.vret hx hb (hrt.trans hr) hq hf hd hlk
  · cases ho
end OK5
end
section
/-! ===== core 6: calls; the soundness of runs ===== -/
section Calls6
variable {p : Program} {l : Launch} {e : Env} {R : Room} {s : State} {m : MethodId} {args : Array Value} {below : List Frame} {meth : Method} {c : Code} {H : Heap} {locs : List Loc} {cells slots : Nat} {Q : State → Prop}
theorem qcall {pc : Nat} {ls : Array Slot} {st0 rest : List Value} {mc ms : Nat} {D : va_G} {ids : qI} {sz b : Nat} {v : Option Value} {hp1 : qH} {a : Array Value}
    (hr : va_Run p l e R s m args below meth c H locs cells slots mc ms (F0 m pc ls st0) rest (qQC D ids sz b v hp1 a) (qA sz)) (hS : va_S (qA sz) s.heap H locs)
    (kk : ∀ (H1 : Heap) (locs1 : List Loc), qHR D ids sz b hp1 H1 → va_S (qA sz) s.heap H1 locs1 → W p l e R s m args below meth c H1 locs1 (cells + mc) (slots + ms) Q (F0 m (pc + 3) ls ((v.map (qmv sz b)).toList ++ rest))) : W p l e R s m args below meth c H locs cells slots Q (F0 m pc ls st0) := by
  intro T hT X
  obtain ⟨v', st₀, t, T', L, h0, X', hL, e1, e2, ⟨ho, hHR, hz, hk⟩, st⟩ := hr T hT X
  cases ho
  rw [h0] at hz hk
  obtain ⟨t2, a1, b1⟩ := kk T'.heap (locs ++ L) (by rw [e1]; exact hHR) ⟨Nat.le_trans hS.1 (by rw [e1]; exact hz), fun q g1 g2 => by rw [e1, hk q (Nat.lt_of_lt_of_le g1 hS.1) g2]; exact hS.2.1 q g1 g2, fun q hq => by
      rcases List.mem_append.mp hq with h | h
      · exact hS.2.2 q h
      · exact hL q h⟩ T' rfl X'
  exact ⟨t2, st t2 a1, b1⟩
theorem qblind {D : va_G} {ids : qI} {sz b : Nat} {as : List Value} {hp : qH} : FrameBlind (va_Pc as (qPC D ids sz b hp)) := by
  rintro a U g mk ⟨h1, h2, h3, h4⟩
  exact ⟨h1, h2, qX.same (u := U) (U := U.calling g mk a) rfl h3, h4⟩
theorem qgoodc {t : qM} (h : qMOK t) : GoodIn wsG (Cond.code t.1 t.2.1 t.2.2.1 t.2.2.2.1 :: wsG) := by
  intro w hw
  rcases List.mem_cons.mp hw with rfl | hw
  · exact qgood _ h.2.1
  · exact qgood _ hw
theorem qcat_map {sz b : Nat} {st : List Value} (h : qcat st ≤ 8) : ((st.map (qmv sz b)).map fun v => v.category).sum ≤ 8 := by
  rw [List.map_map, show (fun v => v.category) ∘ qmv sz b = fun v : Value => v.category from funext fun v => qmv_cat sz b v]
  exact h
theorem qsplit {st : List Value} {na : Nat} {v : Value} (h : st[na]? = some v) : st = st.take na ++ v :: st.drop (na + 1) := by
  have hl := (List.getElem?_eq_some_iff.mp h).1
  have h2 : st[na] = v := (List.getElem?_eq_some_iff.mp h).2
  conv => lhs; rw [← List.take_append_drop na st, List.drop_eq_getElem_cons hl, h2]
theorem qrevmap {sz b : Nat} (l : List Value) : ((l.reverse).map (qmv sz b)).reverse = l.map (qmv sz b) := by
  rw [← List.map_reverse, List.reverse_reverse]
end Calls6
section OK6
variable {mt : List qM} {cc : ByteArray} {own : String} {ml : Nat} {rt : Option FieldType} {ini : Bool} {mc ms : Nat} {scr : Option (Nat × (Nat → Int32))} {pc : Nat}
theorem ok_callV {y ci na kc ks idx N : Nat} {t0 : qM} {C : String} {T : u_T} (hd : decode cc pc = .ok (.invokevirtual idx, 3)) (hm : mt[y]? = some t0) (hkc : t0.2.2.2.2.1 = kc) (hks : t0.2.2.2.2.2 = ks) (hcl : vwCl[ci]? = some (C, T, N)) (h1 : Cond.methodLink own idx t0.1 ∈ wsG) (h2 : Cond.instanceMethod t0.1 ∈ wsG)
    (h3 : Cond.selects C t0.1 t0.1 ∈ wsG) (hn : (parseMethodDescriptor t0.1.desc).map (fun d => d.parameters.length) = some na) : OpOK mt cc own ml rt ini mc ms scr pc (oCallV y ci na kc ks mc ms (pc + 3)) := by
  rintro p l e R s m args below meth c D ids sz b d Q ⟨hx, hb, hml, hown, hts, hX, hsz, hlk, hrt, hini⟩ hR hscr ⟨pc0, ls, st, hp, k, q⟩ o hpc ho
  cases hpc
  unfold oCallV at ho
  dsimp only at ho
  split at ho
  · rename_i a hst
    split at ho
    · rename_i cj fs hsh
      split at ho
      · rename_i hcj hc8 hbud
        have hcj := of_decide_eq_true hcj
        have hc8 := of_decide_eq_true hc8
        have hbud := of_decide_eq_true hbud
        subst hcj
        cases ho
        intro t v hp1 ht hok hM hlen hkk H locs lsA hz hH hS hL
        cases hm.symm.trans ht
        subst hkc
        subst hks
        show W p l e R s m args below meth c H locs k q Q (F0 m pc0 lsA (st.map (qmv sz b)))
        refine qW_sz (fun hup => ?_)
        have hlo := qHR_lo hH hS hsz
        dsimp only at hz hlo hlen hM
        have hH0 : H.size = sz + hp.1.length := by omega
        obtain ⟨o1, o2, o3, o4, o5⟩ := hok
        have hstk : st.map (qmv sz b) = (((st.take na).reverse).map (qmv sz b)).reverse ++ .ref (sz + a) :: (st.drop (na + 1)).map (qmv sz b) := by
          conv => lhs; rw [qsplit hst]
          rw [List.map_append, List.map_cons, qrevmap, ← qad_lt hsh hH.2]
          rfl
        have hlen2 : (((st.take na).reverse).map (qmv sz b)).length = na := by
          have hl := (List.getElem?_eq_some_iff.mp hst).1
          rw [List.length_map, List.length_reverse, List.length_take]
          omega
        refine qcall (va_runV (C := C) (b := sz + a) (As := ((st.take na).reverse).map (qmv sz b)) (rest := (st.drop (na + 1)).map (qmv sz b)) (nL := ml) ⟨hx, hb, hml, hown, hts⟩ hM
          ⟨callB_of na hts (qgoodc ⟨o1, o2, o3, o4, o5⟩) rfl rfl rfl (hts _ o3) (hts _ h1) ⟨o5.1, o5.2, hn⟩ ⟨by show d + 1 ≤ _; omega, by show 8 + (_ + 11) + 100 * d ≤ _; omega⟩, hts _ h2, hts _ h3⟩
          ⟨qblind, va_recv hX.1 hH.1 hcl (qws_get hsh), fun U hU hW => ⟨by rw [← qad_lt hsh hH.2]; rfl, by rw [hU]; exact hH, hX.warm hW, by rw [hU]; exact hH0⟩⟩ rfl hlen2 hL.1.1 hstk (lv_room (qcat_map hc8)) hd ⟨by omega, by omega⟩) hS (fun H1 locs1 hH1 hS1 => ?_)
        have := hkk H1 locs1 lsA (by dsimp only; omega) hH1 hS1 hL
        dsimp only at this
        rw [List.map_append] at this
        cases v <;> exact this
      · cases ho
    · cases ho
  · cases ho
theorem ok_callS {y na kc ks idx : Nat} {t0 : qM} (hd : decode cc pc = .ok (.invokestatic idx, 3)) (hm : mt[y]? = some t0) (hkc : t0.2.2.2.2.1 = kc) (hks : t0.2.2.2.2.2 = ks) (h1 : Cond.methodLink own idx t0.1 ∈ wsG) (h2 : Cond.static t0.1 ∈ wsG)
    (hn : (parseMethodDescriptor t0.1.desc).map (fun d => d.parameters.length) = some na) : OpOK mt cc own ml rt ini mc ms scr pc (oCallS y na kc ks mc ms (pc + 3)) := by
  rintro p l e R s m args below meth c D ids sz b d Q ⟨hx, hb, hml, hown, hts, hX, hsz, hlk, hrt, hini⟩ hR hscr ⟨pc0, ls, st, hp, k, q⟩ o hpc ho
  cases hpc
  unfold oCallS at ho
  dsimp only at ho
  split at ho
  · rename_i hna hc8 hbud
    have hna := of_decide_eq_true hna
    have hc8 := of_decide_eq_true hc8
    have hbud := of_decide_eq_true hbud
    cases ho
    intro t v hp1 ht hok hM hlen hkk H locs lsA hz hH hS hL
    cases hm.symm.trans ht
    subst hkc
    subst hks
    show W p l e R s m args below meth c H locs k q Q (F0 m pc0 lsA (st.map (qmv sz b)))
    refine qW_sz (fun hup => ?_)
    have hlo := qHR_lo hH hS hsz
    dsimp only at hz hlo hlen hM
    have hH0 : H.size = sz + hp.1.length := by omega
    obtain ⟨o1, o2, o3, o4, o5⟩ := hok
    have hstk : st.map (qmv sz b) = (((st.take na).reverse).map (qmv sz b)).reverse ++ (st.drop na).map (qmv sz b) := by
      rw [qrevmap, ← List.map_append, List.take_append_drop]
    have hlen2 : (((st.take na).reverse).map (qmv sz b)).length = na := by
      rw [List.length_map, List.length_reverse, List.length_take]
      omega
    refine qcall (va_runS (As := ((st.take na).reverse).map (qmv sz b)) (rest := (st.drop na).map (qmv sz b)) (nL := ml) ⟨hx, hb, hml, hown, hts⟩ hM
      ⟨callB_of na hts (qgoodc ⟨o1, o2, o3, o4, o5⟩) rfl rfl rfl (hts _ o3) (hts _ h1) ⟨o5.1, o5.2, hn⟩ ⟨by show d + 1 ≤ _; omega, by show 8 + (_ + 11) + 100 * d ≤ _; omega⟩, hts _ h2⟩
      ⟨qblind, fun U hU hW => ⟨rfl, by rw [hU]; exact hH, hX.warm hW, by rw [hU]; exact hH0⟩⟩ rfl hlen2 hL.1.1 hstk (lv_room (qcat_map hc8)) hd ⟨by omega, by omega⟩) hS (fun H1 locs1 hH1 hS1 => ?_)
    have := hkk H1 locs1 lsA (by dsimp only; omega) hH1 hS1 hL
    dsimp only at this
    rw [List.map_append] at this
    cases v <;> exact this
  · cases ho
theorem ok_callI {y na kc ks idx : Nat} {t0 : qM} (hd : decode cc pc = .ok (.invokespecial idx, 3)) (hm : mt[y]? = some t0) (hkc : t0.2.2.2.2.1 = kc) (hks : t0.2.2.2.2.2 = ks) (h1 : Cond.methodLink own idx t0.1 ∈ wsG) (h2 : Cond.instanceMethod t0.1 ∈ wsG) (hin : t0.1.name = "<init>") (hr0 : t0.2.2.2.1 = none)
    (hn : (parseMethodDescriptor t0.1.desc).map (fun d => d.parameters.length) = some na) : OpOK mt cc own ml rt ini mc ms scr pc (oCallI y na kc ks mc ms (pc + 3)) := by
  rintro p l e R s m args below meth c D ids sz b d Q ⟨hx, hb, hml, hown, hts, hX, hsz, hlk, hrt, hini⟩ hR hscr ⟨pc0, ls, st, hp, k, q⟩ o hpc ho
  cases hpc
  unfold oCallI at ho
  dsimp only at ho
  split at ho
  · rename_i a hst
    split at ho
    · rename_i hc8 hbud
      have hc8 := of_decide_eq_true hc8
      have hbud := of_decide_eq_true hbud
      cases ho
      intro t v hp1 ht hok hM hlen hkk H locs lsA hz hH hS hL
      cases hm.symm.trans ht
      subst hkc
      subst hks
      show W p l e R s m args below meth c H locs k q Q (F0 m pc0 lsA (st.map (qmv sz b)))
      refine qW_sz (fun hup => ?_)
      have hlo := qHR_lo hH hS hsz
      dsimp only at hz hlo hlen hM
      have hH0 : H.size = sz + hp.1.length := by omega
      have hgc := qgoodc hok
      obtain ⟨o1, o2, o3, o4, o5⟩ := hok
      have hstk : st.map (qmv sz b) = (((st.take na).reverse).map (qmv sz b)).reverse ++ .ref (qad sz b a) :: (st.drop (na + 1)).map (qmv sz b) := by
        conv => lhs; rw [qsplit hst]
        rw [List.map_append, List.map_cons, qrevmap]
        rfl
      have hlen2 : (((st.take na).reverse).map (qmv sz b)).length = na := by
        have hl := (List.getElem?_eq_some_iff.mp hst).1
        rw [List.length_map, List.length_reverse, List.length_take]
        omega
      refine qcall (va_runI (b := qad sz b a) (As := ((st.take na).reverse).map (qmv sz b)) (rest := (st.drop (na + 1)).map (qmv sz b)) (nL := ml) ⟨hx, hb, hml, hown, hts⟩ hM
        ⟨callB_of na hts hgc (by rw [hr0]) rfl rfl (hts _ o3) (hts _ h1) ⟨o5.1, o5.2, hn⟩ ⟨by show d + 1 ≤ _; omega, by show 8 + (_ + 11) + 100 * d ≤ _; omega⟩, hin, hts _ h2⟩
        ⟨qblind, fun U hU hW => ⟨rfl, by rw [hU]; exact hH, hX.warm hW, by rw [hU]; exact hH0⟩⟩ rfl hlen2 hL.1.1 hstk (lv_room (qcat_map hc8)) hd ⟨by omega, by omega⟩) hS (fun H1 locs1 hH1 hS1 => ?_)
      have := hkk H1 locs1 lsA (by dsimp only; omega) hH1 hS1 hL
      dsimp only at this
      rw [List.map_append] at this
      cases v <;> exact this
    · cases ho
  · cases ho
theorem ok_callIN {y na kc ks idx : Nat} {t0 : qM} (hd : decode cc pc = .ok (.invokespecial idx, 3)) (hm : mt[y]? = some t0) (hkc : t0.2.2.2.2.1 = kc) (hks : t0.2.2.2.2.2 = ks) (h1 : (own, idx, t0.1) ∈ qnest) (h2 : Cond.instanceMethod t0.1 ∈ wsG) (hin : t0.1.name = "<init>") (hr0 : t0.2.2.2.1 = none)
    (hn : (parseMethodDescriptor t0.1.desc).map (fun d => d.parameters.length) = some na) : OpOK mt cc own ml rt ini mc ms scr pc (oCallI y na kc ks mc ms (pc + 3)) := by
  rintro p l e R s m args below meth c D ids sz b d Q ⟨hx, hb, hml, hown, hts, hX, hsz, hlk, hrt, hini⟩ hR hscr ⟨pc0, ls, st, hp, k, q⟩ o hpc ho
  cases hpc
  unfold oCallI at ho
  dsimp only at ho
  split at ho
  · rename_i a hst
    split at ho
    · rename_i hc8 hbud
      have hc8 := of_decide_eq_true hc8
      have hbud := of_decide_eq_true hbud
      cases ho
      intro t v hp1 ht hok hM hlen hkk H locs lsA hz hH hS hL
      cases hm.symm.trans ht
      subst hkc
      subst hks
      show W p l e R s m args below meth c H locs k q Q (F0 m pc0 lsA (st.map (qmv sz b)))
      refine qW_sz (fun hup => ?_)
      have hlo := qHR_lo hH hS hsz
      dsimp only at hz hlo hlen hM
      have hH0 : H.size = sz + hp.1.length := by omega
      have hgc := qgoodc hok
      obtain ⟨o1, o2, o3, o4, o5⟩ := hok
      have hstk : st.map (qmv sz b) = (((st.take na).reverse).map (qmv sz b)).reverse ++ .ref (qad sz b a) :: (st.drop (na + 1)).map (qmv sz b) := by
        conv => lhs; rw [qsplit hst]
        rw [List.map_append, List.map_cons, qrevmap]
        rfl
      have hlen2 : (((st.take na).reverse).map (qmv sz b)).length = na := by
        have hl := (List.getElem?_eq_some_iff.mp hst).1
        rw [List.length_map, List.length_reverse, List.length_take]
        omega
      refine qcall (va_runIN (host := RX5) (b := qad sz b a) (As := ((st.take na).reverse).map (qmv sz b)) (rest := (st.drop (na + 1)).map (qmv sz b)) (nL := ml) ⟨hx, hb, hml, hown, hts⟩ hM
        ⟨va_cnB na hts hgc (by rw [hr0]) rfl rfl (hX.2.2.2 _ h1) (hts _ o3) ⟨o5.1, o5.2, hn⟩ ⟨by show d + 1 ≤ _; omega, by show 8 + (_ + 11) + 100 * d ≤ _; omega⟩, hin, hts _ h2⟩
        ⟨qblind, fun U hU hW => ⟨rfl, by rw [hU]; exact hH, hX.warm hW, by rw [hU]; exact hH0⟩⟩ rfl hlen2 hL.1.1 hstk (lv_room (qcat_map hc8)) hd ⟨by omega, by omega⟩) hS (fun H1 locs1 hH1 hS1 => ?_)
      have := hkk H1 locs1 lsA (by dsimp only; omega) hH1 hS1 hL
      dsimp only at this
      rw [List.map_append] at this
      cases v <;> exact this
    · cases ho
  · cases ho
end OK6
theorem qlookup {cd : List (Nat × qOp)} {a : Nat} {op : qOp} (h : cd.lookup a = some op) : (a, op) ∈ cd := by
  induction cd with
  | nil => cases h
  | cons x l ih =>
    obtain ⟨k, o⟩ := x
    rw [List.lookup_cons] at h
    cases hk : (a == k) with
    | true =>
      rw [hk] at h
      cases h
      rw [beq_iff_eq.mp hk]
      exact List.mem_cons_self
    | false =>
      rw [hk] at h
      exact List.mem_cons_of_mem _ (ih h)
def qCodeOK (mt : List qM) (t : qM) (cd : List (Nat × qOp)) : Prop := ∀ x ∈ cd, OpOK mt t.2.1 t.1.cls t.2.2.1 t.2.2.2.1 (t.1.name == "<init>") t.2.2.2.2.1 t.2.2.2.2.2 none x.1 x.2
theorem Rn_sound {mt : List qM} {cc : ByteArray} {own : String} {ml : Nat} {rt : Option FieldType} {ini : Bool} {mc ms : Nat} {scr : Option (Nat × (Nat → Int32))} {call : Nat → List Value → qH → Option Value → qH → Prop} {cd : List (Nat × qOp)}
    {p : Program} {l : Launch} {e : Env} {R : Room} {s : State} {m : MethodId} {args : Array Value} {below : List Frame} {meth : Method} {c : Code} {D : va_G} {ids : qI} {sz b d : Nat} {Q : State → Prop}
    (K : qK p s m args c meth cc own ml rt ini D ids sz) (hR : d + 1 ≤ R.frames ∧ 100 * (d + 1) ≤ R.locals ∧ mc ≤ R.cells ∧ ms ≤ R.slots) (hscr : ∀ q, scr = some q → va_X b q.1 q.2 s s.heap ∧ b < sz ∧ s.heap.size = sz)
    (hcd : ∀ x ∈ cd, OpOK mt cc own ml rt ini mc ms scr x.1 x.2)
    (hcall : ∀ (y : Nat) (as : List Value) (hp : qH) (v : Option Value) (hp1 : qH), call y as hp v hp1 → ∃ t : qM, mt[y]? = some t ∧ qMOK t ∧ qMet d l D ids sz b t as hp v hp1 ∧ hp1.1.length = hp.1.length + t.2.2.2.2.1)
    (r : Option Value × qC) (hret : ∀ (op : qOp) (x : qC), (x.1, op) ∈ cd → op x = some (.inr (.inr r)) → qW p l e R s m args below meth c D ids sz b ml Q x) :
    ∀ (n : Nat) (x : qC), Rn call cd n x r → qW p l e R s m args below meth c D ids sz b ml Q x := by
  intro n
  induction n with
  | zero => intro x h; exact absurd h (by simp [Rn])
  | succ n ih =>
    intro x h
    rcases h with ⟨mask, h⟩ | h
    · intro H locs lsA hz hH hS hL
      exact ih _ h H locs lsA hz hH hS (hL.drop mask)
    · cases hlk : cd.lookup x.1 with
      | none => rw [hlk] at h; exact h.elim
      | some op =>
        rw [hlk] at h
        dsimp only at h
        have hmem := qlookup hlk
        cases hop : op x with
        | none => rw [hop] at h; exact h.elim
        | some o =>
          rw [hop] at h
          have hok := hcd _ hmem p l e R s m args below meth c D ids sz b d Q K hR hscr x o rfl hop
          rcases o with x' | q | r'
          · exact hok (ih _ h)
          · obtain ⟨v, h1, hc1, hc2⟩ := h
            obtain ⟨t, ht1, ht2, ht3, ht4⟩ := hcall _ _ _ _ _ hc1
            exact hok t v h1 ht1 ht2 ht3 ht4 (ih _ hc2)
          · have hrr : r' = r := h
            subst hrr
            exact hret op x hmem hop
/-- THE SOUNDNESS OF THE ABSTRACT MACHINE -/
theorem qsound {mt : List qM} {cds : List (List (Nat × qOp))} (hok : ∀ (y : Nat) (t : qM) (k : List (Nat × qOp)), mt[y]? = some t → cds[y]? = some k → qMOK t ∧ qCodeOK mt t k) :
    ∀ (d y : Nat) (as : List Value) (hp : qH) (v : Option Value) (hp1 : qH), Ex mt cds d y as hp v hp1 →
      ∃ t : qM, mt[y]? = some t ∧ qMOK t ∧ hp1.1.length = hp.1.length + t.2.2.2.2.1 ∧ ∀ (l : Launch) (D : va_G) (ids : qI) (sz b : Nat), qMet d l D ids sz b t as hp v hp1 := by
  intro d
  induction d with
  | zero => intro y as hp v hp1 h; exact absurd h (by simp [Ex])
  | succ d ih =>
    intro y as hp v hp1 h
    obtain ⟨t, k, n, x, ht, hk, hel, hrun, hx1, hlen, hb1, hb2⟩ := h
    obtain ⟨hM, hC⟩ := hok y t k ht hk
    refine ⟨t, ht, hM, hlen, fun l D ids sz b => ?_⟩
    unfold qMet
    refine Met.ofW (cc := t.2.1) (maxL := t.2.2.1) (ret := t.2.2.2.1) hM.1 rfl ?_
    intro p e s m args below meth c s₁ B hml hv
    obtain ⟨rfl, hH, hX, hsize⟩ := hv
    have hts := atoms_spec (ws := Cond.code t.1 t.2.1 t.2.2.1 t.2.2.2.1 :: wsG) B.pre
    have hown : s.vm.findClass t.1.cls = some m.cls := findClass_of_methodNamed B.named
    rw [lg_entry_eq]
    have K : qK p s m ((as.map (qmv sz b)).toArray) c meth t.2.1 t.1.cls t.2.2.1 t.2.2.2.1 (t.1.name == "<init>") D ids sz :=
      ⟨B.exec, B.bytes, hml, hown, fun w hw => hts w (List.mem_cons_of_mem _ hw), hX, by omega, B.notSynchronized, B.returns, fun h => by
        have h2 := (name_of_methodNamed B.named B.method).1
        rw [h2]
        exact beq_iff_eq.mp h⟩
    have main := Rn_sound (mt := mt) (scr := none) (R := qroom (d + 1) t.2.2.2.2.1 t.2.2.2.2.2) (d := d) (l := l) (e := e) (below := below) (b := b)
      (Q := MQ below (qQC D ids sz b v hp1) ((as.map (qmv sz b)).toArray) s t.2.2.2.2.1 t.2.2.2.2.2 (qA sz)) K ⟨Nat.le_refl _, Nat.le_refl _, Nat.le_refl _, Nat.le_refl _⟩ (fun q h => by cases h) hC
      (fun y as hp v hp1 h => by
        obtain ⟨t', a1, a2, a3, a4⟩ := ih y as hp v hp1 h
        exact ⟨t', a1, a2, a4 l D ids sz b, a3⟩) (v, x) (fun op x' hmem hop => ?_) n _ hrun
    · exact main s.heap [] _ (by show sz + hp.1.length = s.heap.size + 0; omega) hH va_S.rf (qLV.entry as hel)
    · have hfin := hC _ hmem p l e (qroom (d + 1) t.2.2.2.2.1 t.2.2.2.2.2) s m _ below meth c D ids sz b d (fun _ => True) K ⟨Nat.le_refl _, Nat.le_refl _, Nat.le_refl _, Nat.le_refl _⟩ (fun q h => by cases h) x' _ rfl hop
      obtain ⟨e1, -, hW⟩ := hfin
      dsimp only at e1
      subst e1
      intro H locs lsA hz hH1 hS hL
      refine W.widen (k := t.2.2.2.2.1) (n := t.2.2.2.2.2) hb1 hb2 ?_
      rw [hx1] at hH1
      exact hW (qQC D ids sz b v hp1) (qA sz) H locs lsA _ _ (fun t' ht' hWm => ⟨rfl, by rw [ht']; exact hH1, hS.F ht'⟩) hS.2.2
end
