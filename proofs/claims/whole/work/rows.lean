section
-- ===== PART A: goes FIRST, ahead of the names: the tables' words, and 'selects' of the private methods out of them =====
/-- a private method of a class that the tables say can be made, by its rows of tables_1 -/
def lw_okq (q : MethodName × Nat) : Prop := (q.1.cls ≠ "java/lang/invoke/MethodHandle" ∧ q.1.cls ≠ "java/lang/invoke/VarHandle") ∧ Cond.instantiable q.1.cls q.2 ∈ tables_1 ∧ Cond.privateMethod q.1 ∈ tables_1 ∧ Cond.instanceMethod q.1 ∈ tables_1
theorem lw_p0 : lw_okq (⟨"QuarrelSales", "isThing", "(I)Z"⟩, 7) := ⟨⟨by decide +kernel, by decide +kernel⟩, List.mem_of_getElem? (i := 12) (by decide +kernel), List.mem_of_getElem? (i := 232) (by decide +kernel), List.mem_of_getElem? (i := 233) (by decide +kernel)⟩
theorem lw_p1 : lw_okq (⟨"QuarrelSales", "isSide", "(I)Z"⟩, 7) := ⟨⟨by decide +kernel, by decide +kernel⟩, List.mem_of_getElem? (i := 12) (by decide +kernel), List.mem_of_getElem? (i := 240) (by decide +kernel), List.mem_of_getElem? (i := 241) (by decide +kernel)⟩
theorem lw_p2 : lw_okq (⟨"QuarrelSales$Tape", "readThing", "(I)Z"⟩, 4) := ⟨⟨by decide +kernel, by decide +kernel⟩, List.mem_of_getElem? (i := 120) (by decide +kernel), List.mem_of_getElem? (i := 298) (by decide +kernel), List.mem_of_getElem? (i := 299) (by decide +kernel)⟩
theorem lw_p3 : lw_okq (⟨"QuarrelSales$Tape", "nextSign", "()I"⟩, 4) := ⟨⟨by decide +kernel, by decide +kernel⟩, List.mem_of_getElem? (i := 120) (by decide +kernel), List.mem_of_getElem? (i := 302) (by decide +kernel), List.mem_of_getElem? (i := 303) (by decide +kernel)⟩
theorem lw_p4 : lw_okq (⟨"QuarrelSales$Tape", "fault", "()I"⟩, 4) := ⟨⟨by decide +kernel, by decide +kernel⟩, List.mem_of_getElem? (i := 120) (by decide +kernel), List.mem_of_getElem? (i := 306) (by decide +kernel), List.mem_of_getElem? (i := 307) (by decide +kernel)⟩
theorem lw_p5 : lw_okq (⟨"QuarrelSales$Tape", "readSuit", "(II)Z"⟩, 4) := ⟨⟨by decide +kernel, by decide +kernel⟩, List.mem_of_getElem? (i := 120) (by decide +kernel), List.mem_of_getElem? (i := 325) (by decide +kernel), List.mem_of_getElem? (i := 326) (by decide +kernel)⟩
theorem lw_p6 : lw_okq (⟨"QuarrelSales$Court", "leaveSides", "(I)V"⟩, 7) := ⟨⟨by decide +kernel, by decide +kernel⟩, List.mem_of_getElem? (i := 26) (by decide +kernel), List.mem_of_getElem? (i := 364) (by decide +kernel), List.mem_of_getElem? (i := 365) (by decide +kernel)⟩
theorem lw_p7 : lw_okq (⟨"QuarrelSales$Court", "changeSides", "(III)V"⟩, 7) := ⟨⟨by decide +kernel, by decide +kernel⟩, List.mem_of_getElem? (i := 26) (by decide +kernel), List.mem_of_getElem? (i := 368) (by decide +kernel), List.mem_of_getElem? (i := 369) (by decide +kernel)⟩
theorem lw_p8 : lw_okq (⟨"QuarrelSales", "trySale", "(II)V"⟩, 7) := ⟨⟨by decide +kernel, by decide +kernel⟩, List.mem_of_getElem? (i := 12) (by decide +kernel), List.mem_of_getElem? (i := 412) (by decide +kernel), List.mem_of_getElem? (i := 413) (by decide +kernel)⟩
theorem lw_p9 : lw_okq (⟨"QuarrelSales", "gainOf", "(I)I"⟩, 7) := ⟨⟨by decide +kernel, by decide +kernel⟩, List.mem_of_getElem? (i := 12) (by decide +kernel), List.mem_of_getElem? (i := 421) (by decide +kernel), List.mem_of_getElem? (i := 422) (by decide +kernel)⟩
theorem lw_p10 : lw_okq (⟨"QuarrelSales", "makeFirstAgreed", "()Z"⟩, 7) := ⟨⟨by decide +kernel, by decide +kernel⟩, List.mem_of_getElem? (i := 12) (by decide +kernel), List.mem_of_getElem? (i := 436) (by decide +kernel), List.mem_of_getElem? (i := 437) (by decide +kernel)⟩
theorem lw_p11 : lw_okq (⟨"QuarrelSales$Court", "widen", "(I)I"⟩, 7) := ⟨⟨by decide +kernel, by decide +kernel⟩, List.mem_of_getElem? (i := 26) (by decide +kernel), List.mem_of_getElem? (i := 457) (by decide +kernel), List.mem_of_getElem? (i := 458) (by decide +kernel)⟩
theorem lw_p12 : lw_okq (⟨"QuarrelSales$Search", "usefulThings", "(III)I"⟩, 5) := ⟨⟨by decide +kernel, by decide +kernel⟩, List.mem_of_getElem? (i := 92) (by decide +kernel), List.mem_of_getElem? (i := 483) (by decide +kernel), List.mem_of_getElem? (i := 484) (by decide +kernel)⟩
theorem lw_p13 : lw_okq (⟨"QuarrelSales$Search", "step", "(III)Z"⟩, 5) := ⟨⟨by decide +kernel, by decide +kernel⟩, List.mem_of_getElem? (i := 92) (by decide +kernel), List.mem_of_getElem? (i := 489) (by decide +kernel), List.mem_of_getElem? (i := 490) (by decide +kernel)⟩
theorem lw_p14 : lw_okq (⟨"QuarrelSales$Search", "choose", "(I)V"⟩, 5) := ⟨⟨by decide +kernel, by decide +kernel⟩, List.mem_of_getElem? (i := 92) (by decide +kernel), List.mem_of_getElem? (i := 494) (by decide +kernel), List.mem_of_getElem? (i := 495) (by decide +kernel)⟩
theorem lw_p15 : lw_okq (⟨"QuarrelSales$Search", "isSide", "(II)Z"⟩, 5) := ⟨⟨by decide +kernel, by decide +kernel⟩, List.mem_of_getElem? (i := 92) (by decide +kernel), List.mem_of_getElem? (i := 511) (by decide +kernel), List.mem_of_getElem? (i := 512) (by decide +kernel)⟩
def lw_privs_1 : List (MethodName × Nat) := [(⟨"QuarrelSales", "isThing", "(I)Z"⟩, 7), (⟨"QuarrelSales", "isSide", "(I)Z"⟩, 7), (⟨"QuarrelSales$Tape", "readThing", "(I)Z"⟩, 4), (⟨"QuarrelSales$Tape", "nextSign", "()I"⟩, 4), (⟨"QuarrelSales$Tape", "fault", "()I"⟩, 4), (⟨"QuarrelSales$Tape", "readSuit", "(II)Z"⟩, 4), (⟨"QuarrelSales$Court", "leaveSides", "(I)V"⟩, 7), (⟨"QuarrelSales$Court", "changeSides", "(III)V"⟩, 7), (⟨"QuarrelSales", "trySale", "(II)V"⟩, 7), (⟨"QuarrelSales", "gainOf", "(I)I"⟩, 7), (⟨"QuarrelSales", "makeFirstAgreed", "()Z"⟩, 7), (⟨"QuarrelSales$Court", "widen", "(I)I"⟩, 7), (⟨"QuarrelSales$Search", "usefulThings", "(III)I"⟩, 5), (⟨"QuarrelSales$Search", "step", "(III)Z"⟩, 5), (⟨"QuarrelSales$Search", "choose", "(I)V"⟩, 5), (⟨"QuarrelSales$Search", "isSide", "(II)Z"⟩, 5)]
theorem lw_r1 : ∀ q ∈ lw_privs_1, lw_okq q := List.forall_mem_cons.mpr ⟨lw_p0, List.forall_mem_cons.mpr ⟨lw_p1, List.forall_mem_cons.mpr ⟨lw_p2, List.forall_mem_cons.mpr ⟨lw_p3, List.forall_mem_cons.mpr ⟨lw_p4, List.forall_mem_cons.mpr ⟨lw_p5, List.forall_mem_cons.mpr ⟨lw_p6, List.forall_mem_cons.mpr ⟨lw_p7, List.forall_mem_cons.mpr ⟨lw_p8, List.forall_mem_cons.mpr ⟨lw_p9, List.forall_mem_cons.mpr ⟨lw_p10, List.forall_mem_cons.mpr ⟨lw_p11, List.forall_mem_cons.mpr ⟨lw_p12, List.forall_mem_cons.mpr ⟨lw_p13, List.forall_mem_cons.mpr ⟨lw_p14, List.forall_mem_cons.mpr ⟨lw_p15, fun _ h => absurd h List.not_mem_nil⟩⟩⟩⟩⟩⟩⟩⟩⟩⟩⟩⟩⟩⟩⟩⟩
theorem lw_p16 : lw_okq (⟨"QuarrelSales$Search", "weigh", "(I[II)V"⟩, 5) := ⟨⟨by decide +kernel, by decide +kernel⟩, List.mem_of_getElem? (i := 92) (by decide +kernel), List.mem_of_getElem? (i := 515) (by decide +kernel), List.mem_of_getElem? (i := 516) (by decide +kernel)⟩
theorem lw_p17 : lw_okq (⟨"QuarrelSales", "dealOne", "(LQuarrelSales$Sheet;I)Z"⟩, 7) := ⟨⟨by decide +kernel, by decide +kernel⟩, List.mem_of_getElem? (i := 12) (by decide +kernel), List.mem_of_getElem? (i := 568) (by decide +kernel), List.mem_of_getElem? (i := 569) (by decide +kernel)⟩
theorem lw_p18 : lw_okq (⟨"QuarrelSalesModel", "ends", "()I"⟩, 29) := ⟨⟨by decide +kernel, by decide +kernel⟩, List.mem_of_getElem? (i := 597) (by decide +kernel), List.mem_of_getElem? (i := 708) (by decide +kernel), List.mem_of_getElem? (i := 709) (by decide +kernel)⟩
theorem lw_p19 : lw_okq (⟨"QuarrelSalesModel", "stands", "(I)I"⟩, 29) := ⟨⟨by decide +kernel, by decide +kernel⟩, List.mem_of_getElem? (i := 597) (by decide +kernel), List.mem_of_getElem? (i := 712) (by decide +kernel), List.mem_of_getElem? (i := 713) (by decide +kernel)⟩
theorem lw_p20 : lw_okq (⟨"QuarrelSalesModel", "isOver", "(I)Z"⟩, 29) := ⟨⟨by decide +kernel, by decide +kernel⟩, List.mem_of_getElem? (i := 597) (by decide +kernel), List.mem_of_getElem? (i := 716) (by decide +kernel), List.mem_of_getElem? (i := 717) (by decide +kernel)⟩
theorem lw_p21 : lw_okq (⟨"QuarrelSalesModel", "isThing", "(I)Z"⟩, 29) := ⟨⟨by decide +kernel, by decide +kernel⟩, List.mem_of_getElem? (i := 597) (by decide +kernel), List.mem_of_getElem? (i := 729) (by decide +kernel), List.mem_of_getElem? (i := 730) (by decide +kernel)⟩
theorem lw_p22 : lw_okq (⟨"QuarrelSalesModel", "isSide", "(I)Z"⟩, 29) := ⟨⟨by decide +kernel, by decide +kernel⟩, List.mem_of_getElem? (i := 597) (by decide +kernel), List.mem_of_getElem? (i := 737) (by decide +kernel), List.mem_of_getElem? (i := 738) (by decide +kernel)⟩
theorem lw_p23 : lw_okq (⟨"QuarrelSalesModel", "comes", "(II)I"⟩, 29) := ⟨⟨by decide +kernel, by decide +kernel⟩, List.mem_of_getElem? (i := 597) (by decide +kernel), List.mem_of_getElem? (i := 743) (by decide +kernel), List.mem_of_getElem? (i := 744) (by decide +kernel)⟩
theorem lw_p24 : lw_okq (⟨"QuarrelSalesModel", "valueOf", "(I)I"⟩, 29) := ⟨⟨by decide +kernel, by decide +kernel⟩, List.mem_of_getElem? (i := 597) (by decide +kernel), List.mem_of_getElem? (i := 764) (by decide +kernel), List.mem_of_getElem? (i := 765) (by decide +kernel)⟩
theorem lw_p25 : lw_okq (⟨"QuarrelSalesModel", "standsIn", "(I)I"⟩, 29) := ⟨⟨by decide +kernel, by decide +kernel⟩, List.mem_of_getElem? (i := 597) (by decide +kernel), List.mem_of_getElem? (i := 768) (by decide +kernel), List.mem_of_getElem? (i := 769) (by decide +kernel)⟩
theorem lw_p26 : lw_okq (⟨"QuarrelSalesModel", "costAll", "()I"⟩, 29) := ⟨⟨by decide +kernel, by decide +kernel⟩, List.mem_of_getElem? (i := 597) (by decide +kernel), List.mem_of_getElem? (i := 780) (by decide +kernel), List.mem_of_getElem? (i := 781) (by decide +kernel)⟩
theorem lw_p27 : lw_okq (⟨"QuarrelSalesModel", "readAll", "(Z)I"⟩, 29) := ⟨⟨by decide +kernel, by decide +kernel⟩, List.mem_of_getElem? (i := 597) (by decide +kernel), List.mem_of_getElem? (i := 796) (by decide +kernel), List.mem_of_getElem? (i := 797) (by decide +kernel)⟩
theorem lw_p28 : lw_okq (⟨"QuarrelSalesModel", "thingClause", "(I)V"⟩, 29) := ⟨⟨by decide +kernel, by decide +kernel⟩, List.mem_of_getElem? (i := 597) (by decide +kernel), List.mem_of_getElem? (i := 800) (by decide +kernel), List.mem_of_getElem? (i := 801) (by decide +kernel)⟩
theorem lw_p29 : lw_okq (⟨"QuarrelSalesModel", "has", "(I)Z"⟩, 29) := ⟨⟨by decide +kernel, by decide +kernel⟩, List.mem_of_getElem? (i := 597) (by decide +kernel), List.mem_of_getElem? (i := 804) (by decide +kernel), List.mem_of_getElem? (i := 805) (by decide +kernel)⟩
theorem lw_p30 : lw_okq (⟨"QuarrelSalesModel", "here", "()I"⟩, 29) := ⟨⟨by decide +kernel, by decide +kernel⟩, List.mem_of_getElem? (i := 597) (by decide +kernel), List.mem_of_getElem? (i := 808) (by decide +kernel), List.mem_of_getElem? (i := 809) (by decide +kernel)⟩
theorem lw_p31 : lw_okq (⟨"QuarrelSalesModel", "digit", "(I)I"⟩, 29) := ⟨⟨by decide +kernel, by decide +kernel⟩, List.mem_of_getElem? (i := 597) (by decide +kernel), List.mem_of_getElem? (i := 812) (by decide +kernel), List.mem_of_getElem? (i := 813) (by decide +kernel)⟩
def lw_privs_2 : List (MethodName × Nat) := [(⟨"QuarrelSales$Search", "weigh", "(I[II)V"⟩, 5), (⟨"QuarrelSales", "dealOne", "(LQuarrelSales$Sheet;I)Z"⟩, 7), (⟨"QuarrelSalesModel", "ends", "()I"⟩, 29), (⟨"QuarrelSalesModel", "stands", "(I)I"⟩, 29), (⟨"QuarrelSalesModel", "isOver", "(I)Z"⟩, 29), (⟨"QuarrelSalesModel", "isThing", "(I)Z"⟩, 29), (⟨"QuarrelSalesModel", "isSide", "(I)Z"⟩, 29), (⟨"QuarrelSalesModel", "comes", "(II)I"⟩, 29), (⟨"QuarrelSalesModel", "valueOf", "(I)I"⟩, 29), (⟨"QuarrelSalesModel", "standsIn", "(I)I"⟩, 29), (⟨"QuarrelSalesModel", "costAll", "()I"⟩, 29), (⟨"QuarrelSalesModel", "readAll", "(Z)I"⟩, 29), (⟨"QuarrelSalesModel", "thingClause", "(I)V"⟩, 29), (⟨"QuarrelSalesModel", "has", "(I)Z"⟩, 29), (⟨"QuarrelSalesModel", "here", "()I"⟩, 29), (⟨"QuarrelSalesModel", "digit", "(I)I"⟩, 29)]
theorem lw_r2 : ∀ q ∈ lw_privs_2, lw_okq q := List.forall_mem_cons.mpr ⟨lw_p16, List.forall_mem_cons.mpr ⟨lw_p17, List.forall_mem_cons.mpr ⟨lw_p18, List.forall_mem_cons.mpr ⟨lw_p19, List.forall_mem_cons.mpr ⟨lw_p20, List.forall_mem_cons.mpr ⟨lw_p21, List.forall_mem_cons.mpr ⟨lw_p22, List.forall_mem_cons.mpr ⟨lw_p23, List.forall_mem_cons.mpr ⟨lw_p24, List.forall_mem_cons.mpr ⟨lw_p25, List.forall_mem_cons.mpr ⟨lw_p26, List.forall_mem_cons.mpr ⟨lw_p27, List.forall_mem_cons.mpr ⟨lw_p28, List.forall_mem_cons.mpr ⟨lw_p29, List.forall_mem_cons.mpr ⟨lw_p30, List.forall_mem_cons.mpr ⟨lw_p31, fun _ h => absurd h List.not_mem_nil⟩⟩⟩⟩⟩⟩⟩⟩⟩⟩⟩⟩⟩⟩⟩⟩
theorem lw_p32 : lw_okq (⟨"QuarrelSalesModel", "side", "(I)I"⟩, 29) := ⟨⟨by decide +kernel, by decide +kernel⟩, List.mem_of_getElem? (i := 597) (by decide +kernel), List.mem_of_getElem? (i := 817) (by decide +kernel), List.mem_of_getElem? (i := 818) (by decide +kernel)⟩
theorem lw_p33 : lw_okq (⟨"QuarrelSalesModel", "comesTo", "(II)V"⟩, 29) := ⟨⟨by decide +kernel, by decide +kernel⟩, List.mem_of_getElem? (i := 597) (by decide +kernel), List.mem_of_getElem? (i := 832) (by decide +kernel), List.mem_of_getElem? (i := 833) (by decide +kernel)⟩
theorem lw_p34 : lw_okq (⟨"QuarrelSalesModel", "sells", "(II)I"⟩, 29) := ⟨⟨by decide +kernel, by decide +kernel⟩, List.mem_of_getElem? (i := 597) (by decide +kernel), List.mem_of_getElem? (i := 836) (by decide +kernel), List.mem_of_getElem? (i := 837) (by decide +kernel)⟩
theorem lw_p35 : lw_okq (⟨"QuarrelSalesModel", "stay", "(I)V"⟩, 29) := ⟨⟨by decide +kernel, by decide +kernel⟩, List.mem_of_getElem? (i := 597) (by decide +kernel), List.mem_of_getElem? (i := 840) (by decide +kernel), List.mem_of_getElem? (i := 841) (by decide +kernel)⟩
theorem lw_p36 : lw_okq (⟨"QuarrelSalesModel", "weds", "(II)I"⟩, 29) := ⟨⟨by decide +kernel, by decide +kernel⟩, List.mem_of_getElem? (i := 597) (by decide +kernel), List.mem_of_getElem? (i := 856) (by decide +kernel), List.mem_of_getElem? (i := 857) (by decide +kernel)⟩
theorem lw_p37 : lw_okq (⟨"QuarrelSalesModel", "gainOf", "(III)I"⟩, 29) := ⟨⟨by decide +kernel, by decide +kernel⟩, List.mem_of_getElem? (i := 597) (by decide +kernel), List.mem_of_getElem? (i := 869) (by decide +kernel), List.mem_of_getElem? (i := 870) (by decide +kernel)⟩
theorem lw_p38 : lw_okq (⟨"QuarrelSalesModel", "keeps", "()V"⟩, 29) := ⟨⟨by decide +kernel, by decide +kernel⟩, List.mem_of_getElem? (i := 597) (by decide +kernel), List.mem_of_getElem? (i := 873) (by decide +kernel), List.mem_of_getElem? (i := 874) (by decide +kernel)⟩
theorem lw_p39 : lw_okq (⟨"QuarrelSalesModel", "back", "()V"⟩, 29) := ⟨⟨by decide +kernel, by decide +kernel⟩, List.mem_of_getElem? (i := 597) (by decide +kernel), List.mem_of_getElem? (i := 877) (by decide +kernel), List.mem_of_getElem? (i := 878) (by decide +kernel)⟩
theorem lw_p40 : lw_okq (⟨"QuarrelSalesModel", "priceOf", "(II)I"⟩, 29) := ⟨⟨by decide +kernel, by decide +kernel⟩, List.mem_of_getElem? (i := 597) (by decide +kernel), List.mem_of_getElem? (i := 885) (by decide +kernel), List.mem_of_getElem? (i := 886) (by decide +kernel)⟩
theorem lw_p41 : lw_okq (⟨"QuarrelSalesModel", "deals", "()Z"⟩, 29) := ⟨⟨by decide +kernel, by decide +kernel⟩, List.mem_of_getElem? (i := 597) (by decide +kernel), List.mem_of_getElem? (i := 894) (by decide +kernel), List.mem_of_getElem? (i := 895) (by decide +kernel)⟩
theorem lw_p42 : lw_okq (⟨"QuarrelSalesModel", "groupOf", "(I)I"⟩, 29) := ⟨⟨by decide +kernel, by decide +kernel⟩, List.mem_of_getElem? (i := 597) (by decide +kernel), List.mem_of_getElem? (i := 903) (by decide +kernel), List.mem_of_getElem? (i := 904) (by decide +kernel)⟩
theorem lw_p43 : lw_okq (⟨"QuarrelSalesModel", "neverOf", "()I"⟩, 29) := ⟨⟨by decide +kernel, by decide +kernel⟩, List.mem_of_getElem? (i := 597) (by decide +kernel), List.mem_of_getElem? (i := 911) (by decide +kernel), List.mem_of_getElem? (i := 912) (by decide +kernel)⟩
theorem lw_p44 : lw_okq (⟨"QuarrelSalesModel", "fewestOf", "()I"⟩, 29) := ⟨⟨by decide +kernel, by decide +kernel⟩, List.mem_of_getElem? (i := 597) (by decide +kernel), List.mem_of_getElem? (i := 921) (by decide +kernel), List.mem_of_getElem? (i := 922) (by decide +kernel)⟩
theorem lw_p45 : lw_okq (⟨"QuarrelSalesModel", "done", "(II)Z"⟩, 29) := ⟨⟨by decide +kernel, by decide +kernel⟩, List.mem_of_getElem? (i := 597) (by decide +kernel), List.mem_of_getElem? (i := 925) (by decide +kernel), List.mem_of_getElem? (i := 926) (by decide +kernel)⟩
theorem lw_p46 : lw_okq (⟨"QuarrelSalesModel", "notes", "(I)V"⟩, 29) := ⟨⟨by decide +kernel, by decide +kernel⟩, List.mem_of_getElem? (i := 597) (by decide +kernel), List.mem_of_getElem? (i := 929) (by decide +kernel), List.mem_of_getElem? (i := 930) (by decide +kernel)⟩
theorem lw_p47 : lw_okq (⟨"QuarrelSalesModel", "bestOf", "(I)I"⟩, 29) := ⟨⟨by decide +kernel, by decide +kernel⟩, List.mem_of_getElem? (i := 597) (by decide +kernel), List.mem_of_getElem? (i := 939) (by decide +kernel), List.mem_of_getElem? (i := 940) (by decide +kernel)⟩
def lw_privs_3 : List (MethodName × Nat) := [(⟨"QuarrelSalesModel", "side", "(I)I"⟩, 29), (⟨"QuarrelSalesModel", "comesTo", "(II)V"⟩, 29), (⟨"QuarrelSalesModel", "sells", "(II)I"⟩, 29), (⟨"QuarrelSalesModel", "stay", "(I)V"⟩, 29), (⟨"QuarrelSalesModel", "weds", "(II)I"⟩, 29), (⟨"QuarrelSalesModel", "gainOf", "(III)I"⟩, 29), (⟨"QuarrelSalesModel", "keeps", "()V"⟩, 29), (⟨"QuarrelSalesModel", "back", "()V"⟩, 29), (⟨"QuarrelSalesModel", "priceOf", "(II)I"⟩, 29), (⟨"QuarrelSalesModel", "deals", "()Z"⟩, 29), (⟨"QuarrelSalesModel", "groupOf", "(I)I"⟩, 29), (⟨"QuarrelSalesModel", "neverOf", "()I"⟩, 29), (⟨"QuarrelSalesModel", "fewestOf", "()I"⟩, 29), (⟨"QuarrelSalesModel", "done", "(II)Z"⟩, 29), (⟨"QuarrelSalesModel", "notes", "(I)V"⟩, 29), (⟨"QuarrelSalesModel", "bestOf", "(I)I"⟩, 29)]
theorem lw_r3 : ∀ q ∈ lw_privs_3, lw_okq q := List.forall_mem_cons.mpr ⟨lw_p32, List.forall_mem_cons.mpr ⟨lw_p33, List.forall_mem_cons.mpr ⟨lw_p34, List.forall_mem_cons.mpr ⟨lw_p35, List.forall_mem_cons.mpr ⟨lw_p36, List.forall_mem_cons.mpr ⟨lw_p37, List.forall_mem_cons.mpr ⟨lw_p38, List.forall_mem_cons.mpr ⟨lw_p39, List.forall_mem_cons.mpr ⟨lw_p40, List.forall_mem_cons.mpr ⟨lw_p41, List.forall_mem_cons.mpr ⟨lw_p42, List.forall_mem_cons.mpr ⟨lw_p43, List.forall_mem_cons.mpr ⟨lw_p44, List.forall_mem_cons.mpr ⟨lw_p45, List.forall_mem_cons.mpr ⟨lw_p46, List.forall_mem_cons.mpr ⟨lw_p47, fun _ h => absurd h List.not_mem_nil⟩⟩⟩⟩⟩⟩⟩⟩⟩⟩⟩⟩⟩⟩⟩⟩
theorem lw_p48 : lw_okq (⟨"QuarrelSalesModel", "savesOf", "(II)I"⟩, 29) := ⟨⟨by decide +kernel, by decide +kernel⟩, List.mem_of_getElem? (i := 597) (by decide +kernel), List.mem_of_getElem? (i := 947) (by decide +kernel), List.mem_of_getElem? (i := 948) (by decide +kernel)⟩
theorem lw_p49 : lw_okq (⟨"QuarrelSalesModel", "lay", "([II)I"⟩, 29) := ⟨⟨by decide +kernel, by decide +kernel⟩, List.mem_of_getElem? (i := 597) (by decide +kernel), List.mem_of_getElem? (i := 968) (by decide +kernel), List.mem_of_getElem? (i := 969) (by decide +kernel)⟩
theorem lw_p50 : lw_okq (⟨"QuarrelSalesModel", "finds", "(IIII)I"⟩, 29) := ⟨⟨by decide +kernel, by decide +kernel⟩, List.mem_of_getElem? (i := 597) (by decide +kernel), List.mem_of_getElem? (i := 990) (by decide +kernel), List.mem_of_getElem? (i := 991) (by decide +kernel)⟩
def lw_privs_4 : List (MethodName × Nat) := [(⟨"QuarrelSalesModel", "savesOf", "(II)I"⟩, 29), (⟨"QuarrelSalesModel", "lay", "([II)I"⟩, 29), (⟨"QuarrelSalesModel", "finds", "(IIII)I"⟩, 29)]
theorem lw_r4 : ∀ q ∈ lw_privs_4, lw_okq q := List.forall_mem_cons.mpr ⟨lw_p48, List.forall_mem_cons.mpr ⟨lw_p49, List.forall_mem_cons.mpr ⟨lw_p50, fun _ h => absurd h List.not_mem_nil⟩⟩⟩
def lw_privs : List (MethodName × Nat) := lw_privs_1 ++ (lw_privs_2 ++ (lw_privs_3 ++ (lw_privs_4)))
def lw_tbl : List Cond := k2_sels lw_privs ++ tables_1
theorem lw_privs_ok : ∀ q ∈ lw_privs, lw_okq q := by
  show ∀ q ∈ lw_privs_1 ++ (lw_privs_2 ++ (lw_privs_3 ++ (lw_privs_4))), lw_okq q
  exact List.forall_mem_append.mpr ⟨lw_r1, List.forall_mem_append.mpr ⟨lw_r2, List.forall_mem_append.mpr ⟨lw_r3, lw_r4⟩⟩⟩
end
section
theorem goodIn_r {big : List Cond} (ws : List Cond) (ps : List Nat) (hp : ws = ps.filterMap (fun i => big[i]?)) (h : ws.all goodWord = true) : GoodIn big ws := by
  intro w hw
  have h1 := List.all_eq_true.mp h w hw
  rw [hp] at hw
  obtain ⟨i, -, hi⟩ := List.mem_filterMap.mp hw
  have hm : w ∈ big := by first | exact List.mem_of_getElem? hi | exact List.getElem?_mem hi
  exact ⟨hm, good_of_word h1⟩
theorem goodIn_app {big a b : List Cond} (ha : GoodIn big a) (hb : GoodIn big b) : GoodIn big (a ++ b) := fun w h => (List.mem_append.mp h).elim (ha w) (hb w)
theorem goodIn_ca {big a b : List Cond} {c : Cond} (ha : GoodIn big (c :: a)) (hb : GoodIn big b) : GoodIn big (c :: (a ++ b)) := fun w h => (List.mem_cons.mp h).elim (fun e => ha w (List.mem_cons.mpr (Or.inl e))) (fun h => (List.mem_append.mp h).elim (fun h => ha w (List.mem_cons.mpr (Or.inr h))) (hb w))
theorem goodIn_sub {big ws : List Cond} (hm : ∀ w ∈ ws, w ∈ big) (h : ws.all goodWord = true) : GoodIn big ws := fun w hw => ⟨hm w hw, good_of_word (List.all_eq_true.mp h w hw)⟩
def RX0 : String := "QuarrelSales$Court"
def TX0 : u_T := fun k => match k with
  | 0 => ("QuarrelSales$Court", "laws", "[I", true)
  | 1 => ("QuarrelSales$Court", "hands", "[I", true)
  | 2 => ("QuarrelSales$Court", "firsts", "[I", true)
  | 3 => ("QuarrelSales$Court", "seconds", "[I", true)
  | 4 => ("QuarrelSales$Court", "things", "I", false)
  | 5 => ("QuarrelSales$Court", "suits", "I", false)
  | _ => ("QuarrelSales$Court", "overs", "I", false)
def tyX0 : Nat → FieldType := fun k => match k with
  | 0 => .array .int
  | 1 => .array .int
  | 2 => .array .int
  | 3 => .array .int
  | 4 => .int
  | 5 => .int
  | _ => .int
theorem nmX0 : ∀ a, a < 7 → ∀ b, b < 7 → a ≠ b → (TX0 a).2.1 ≠ (TX0 b).2.1 := by decide +kernel
theorem tyX0_ok : ∀ k, k < 7 → parseFieldDescriptor (TX0 k).2.2.1 = some (tyX0 k) := by decide +kernel
abbrev cX0_init : ByteArray := prog_2_method_1_code
def yX0_init : MethodName := ⟨RX0, "<init>", "()V"⟩
abbrev cX0_become : ByteArray := prog_2_method_2_code
def yX0_become : MethodName := ⟨RX0, "become", "(LQuarrelSales$Court;)V"⟩
abbrev cX0_isOver : ByteArray := prog_2_method_3_code
def yX0_isOver : MethodName := ⟨RX0, "isOver", "(I)Z"⟩
abbrev cX0_standing : ByteArray := prog_2_method_4_code
def yX0_standing : MethodName := ⟨RX0, "standing", "(I)I"⟩
abbrev cX0_addSuit : ByteArray := prog_2_method_5_code
def yX0_addSuit : MethodName := ⟨RX0, "addSuit", "(II)I"⟩
abbrev cX0_settle : ByteArray := prog_2_method_6_code
def yX0_settle : MethodName := ⟨RX0, "settle", "()I"⟩
abbrev cX0_move : ByteArray := prog_2_method_7_code
def yX0_move : MethodName := ⟨RX0, "move", "(II)I"⟩
abbrev cX0_exchange : ByteArray := prog_2_method_8_code
def yX0_exchange : MethodName := ⟨RX0, "exchange", "(II)I"⟩
abbrev cX0_leaveSides : ByteArray := prog_2_method_9_code
def yX0_leaveSides : MethodName := ⟨RX0, "leaveSides", "(I)V"⟩
abbrev cX0_changeSides : ByteArray := prog_2_method_10_code
def yX0_changeSides : MethodName := ⟨RX0, "changeSides", "(III)V"⟩
abbrev cX0_marry : ByteArray := prog_2_method_11_code
def yX0_marry : MethodName := ⟨RX0, "marry", "(II)I"⟩
abbrev cX0_addThing : ByteArray := prog_2_method_12_code
def yX0_addThing : MethodName := ⟨RX0, "addThing", "(I)I"⟩
abbrev cX0_split : ByteArray := prog_2_method_13_code
def yX0_split : MethodName := ⟨RX0, "split", "(II)I"⟩
abbrev cX0_countStood : ByteArray := prog_2_method_14_code
def yX0_countStood : MethodName := ⟨RX0, "countStood", "(I)I"⟩
abbrev cX0_costOfAll : ByteArray := prog_2_method_15_code
def yX0_costOfAll : MethodName := ⟨RX0, "costOfAll", "([I)I"⟩
abbrev cX0_costTo : ByteArray := prog_2_method_16_code
def yX0_costTo : MethodName := ⟨RX0, "costTo", "(I[I)I"⟩
abbrev cX0_neverEnding : ByteArray := prog_2_method_17_code
def yX0_neverEnding : MethodName := ⟨RX0, "neverEnding", "()I"⟩
abbrev cX0_sidesOf : ByteArray := prog_2_method_18_code
def yX0_sidesOf : MethodName := ⟨RX0, "sidesOf", "(I)I"⟩
abbrev cX0_groupOf : ByteArray := prog_2_method_19_code
def yX0_groupOf : MethodName := ⟨RX0, "groupOf", "(I)I"⟩
abbrev cX0_widen : ByteArray := prog_2_method_20_code
def yX0_widen : MethodName := ⟨RX0, "widen", "(I)I"⟩
abbrev cX0_countGroups : ByteArray := prog_2_method_21_code
def yX0_countGroups : MethodName := ⟨RX0, "countGroups", "()I"⟩
def RX1 : String := "QuarrelSales$Search"
def TX1 : u_T := fun k => match k with
  | 0 => ("QuarrelSales$Search", "stages", "[LQuarrelSales$Court;", true)
  | 1 => ("QuarrelSales$Search", "row", "[I", true)
  | 2 => ("QuarrelSales$Search", "chosen", "[I", true)
  | 3 => ("QuarrelSales$Search", "sales", "I", false)
  | _ => ("QuarrelSales$Search", "least", "I", false)
def tyX1 : Nat → FieldType := fun k => match k with
  | 0 => .array (.object "QuarrelSales$Court")
  | 1 => .array .int
  | 2 => .array .int
  | 3 => .int
  | _ => .int
theorem nmX1 : ∀ a, a < 5 → ∀ b, b < 5 → a ≠ b → (TX1 a).2.1 ≠ (TX1 b).2.1 := by decide +kernel
theorem tyX1_ok : ∀ k, k < 5 → parseFieldDescriptor (TX1 k).2.2.1 = some (tyX1 k) := by decide +kernel
abbrev cX1_init : ByteArray := prog_3_method_1_code
def yX1_init : MethodName := ⟨RX1, "<init>", "()V"⟩
abbrev cX1_seekFewest : ByteArray := prog_3_method_2_code
def yX1_seekFewest : MethodName := ⟨RX1, "seekFewest", "(LQuarrelSales$Court;)I"⟩
abbrev cX1_endsAll : ByteArray := prog_3_method_3_code
def yX1_endsAll : MethodName := ⟨RX1, "endsAll", "(LQuarrelSales$Search;III)Z"⟩
abbrev cX1_usefulThings : ByteArray := prog_3_method_4_code
def yX1_usefulThings : MethodName := ⟨RX1, "usefulThings", "(III)I"⟩
abbrev cX1_step : ByteArray := prog_3_method_5_code
def yX1_step : MethodName := ⟨RX1, "step", "(III)Z"⟩
abbrev cX1_seekBest : ByteArray := prog_3_method_6_code
def yX1_seekBest : MethodName := ⟨RX1, "seekBest", "(LQuarrelSales$Court;[II)V"⟩
abbrev cX1_weighRows : ByteArray := prog_3_method_7_code
def yX1_weighRows : MethodName := ⟨RX1, "weighRows", "(LQuarrelSales$Search;I[II)V"⟩
abbrev cX1_isSide : ByteArray := prog_3_method_8_code
def yX1_isSide : MethodName := ⟨RX1, "isSide", "(II)Z"⟩
abbrev cX1_weigh : ByteArray := prog_3_method_9_code
def yX1_weigh : MethodName := ⟨RX1, "weigh", "(I[II)V"⟩
abbrev cX1_choose : ByteArray := prog_3_method_10_code
def yX1_choose : MethodName := ⟨RX1, "choose", "(I)V"⟩
def RX2 : String := "QuarrelSales$Sheet"
def TX2 : u_T := fun k => match k with
  | 0 => ("QuarrelSales$Sheet", "items", "[I", true)
  | 1 => ("QuarrelSales$Sheet", "isNothing", "Z", false)
  | 2 => ("QuarrelSales$Sheet", "lane", "I", false)
  | _ => ("QuarrelSales$Sheet", "length", "I", false)
def tyX2 : Nat → FieldType := fun k => match k with
  | 0 => .array .int
  | 1 => .boolean
  | 2 => .int
  | _ => .int
theorem nmX2 : ∀ a, a < 4 → ∀ b, b < 4 → a ≠ b → (TX2 a).2.1 ≠ (TX2 b).2.1 := by decide +kernel
theorem tyX2_ok : ∀ k, k < 4 → parseFieldDescriptor (TX2 k).2.2.1 = some (tyX2 k) := by decide +kernel
abbrev cX2_init : ByteArray := prog_4_method_1_code
def yX2_init : MethodName := ⟨RX2, "<init>", "()V"⟩
abbrev cX2_begin : ByteArray := prog_4_method_2_code
def yX2_begin : MethodName := ⟨RX2, "begin", "(II)V"⟩
abbrev cX2_refuses : ByteArray := prog_4_method_3_code
def yX2_refuses : MethodName := ⟨RX2, "refuses", "(I)I"⟩
abbrev cX2_holds : ByteArray := prog_4_method_4_code
def yX2_holds : MethodName := ⟨RX2, "holds", "(II)Z"⟩
abbrev cX2_lowestBits : ByteArray := prog_4_method_5_code
def yX2_lowestBits : MethodName := ⟨RX2, "lowestBits", "(II)I"⟩
def RX3 : String := "QuarrelSales$Tape"
def TX3 : u_T := fun k => match k with
  | 0 => ("QuarrelSales$Tape", "signs", "[I", true)
  | 1 => ("QuarrelSales$Tape", "at", "I", false)
  | 2 => ("QuarrelSales$Tape", "length", "I", false)
  | _ => ("QuarrelSales$Tape", "found", "[I", true)
def tyX3 : Nat → FieldType := fun k => match k with
  | 0 => .array .int
  | 1 => .int
  | 2 => .int
  | _ => .array .int
theorem nmX3 : ∀ a, a < 4 → ∀ b, b < 4 → a ≠ b → (TX3 a).2.1 ≠ (TX3 b).2.1 := by decide +kernel
theorem tyX3_ok : ∀ k, k < 4 → parseFieldDescriptor (TX3 k).2.2.1 = some (tyX3 k) := by decide +kernel
abbrev cX3_init : ByteArray := prog_5_method_1_code
def yX3_init : MethodName := ⟨RX3, "<init>", "()V"⟩
abbrev cX3_byteOf : ByteArray := prog_5_method_2_code
def yX3_byteOf : MethodName := ⟨RX3, "byteOf", "(JI)I"⟩
abbrev cX3_isPlain : ByteArray := prog_5_method_3_code
def yX3_isPlain : MethodName := ⟨RX3, "isPlain", "(JI)Z"⟩
abbrev cX3_add : ByteArray := prog_5_method_4_code
def yX3_add : MethodName := ⟨RX3, "add", "(JI)V"⟩
abbrev cX3_nextSign : ByteArray := prog_5_method_5_code
def yX3_nextSign : MethodName := ⟨RX3, "nextSign", "()I"⟩
abbrev cX3_fault : ByteArray := prog_5_method_6_code
def yX3_fault : MethodName := ⟨RX3, "fault", "()I"⟩
abbrev cX3_readThings : ByteArray := prog_5_method_7_code
def yX3_readThings : MethodName := ⟨RX3, "readThings", "()I"⟩
abbrev cX3_readThing : ByteArray := prog_5_method_8_code
def yX3_readThing : MethodName := ⟨RX3, "readThing", "(I)Z"⟩
abbrev cX3_readSuits : ByteArray := prog_5_method_9_code
def yX3_readSuits : MethodName := ⟨RX3, "readSuits", "(I)I"⟩
abbrev cX3_readSuit : ByteArray := prog_5_method_10_code
def yX3_readSuit : MethodName := ⟨RX3, "readSuit", "(II)Z"⟩
abbrev cX3_sideOf : ByteArray := prog_5_method_11_code
def yX3_sideOf : MethodName := ⟨RX3, "sideOf", "(II)I"⟩
def RX4 : String := "QuarrelSales$Village"
def TX4 : u_T := fun k => match k with
  | 0 => ("QuarrelSales$Village", "court", "LQuarrelSales$Court;", true)
  | 1 => ("QuarrelSales$Village", "purses", "[I", true)
  | 2 => ("QuarrelSales$Village", "costs", "[I", true)
  | 3 => ("QuarrelSales$Village", "worths", "[I", true)
  | _ => ("QuarrelSales$Village", "sold", "I", false)
def tyX4 : Nat → FieldType := fun k => match k with
  | 0 => .object "QuarrelSales$Court"
  | 1 => .array .int
  | 2 => .array .int
  | 3 => .array .int
  | _ => .int
theorem nmX4 : ∀ a, a < 5 → ∀ b, b < 5 → a ≠ b → (TX4 a).2.1 ≠ (TX4 b).2.1 := by decide +kernel
theorem tyX4_ok : ∀ k, k < 5 → parseFieldDescriptor (TX4 k).2.2.1 = some (tyX4 k) := by decide +kernel
abbrev cX4_init : ByteArray := prog_6_method_1_code
def yX4_init : MethodName := ⟨RX4, "<init>", "()V"⟩
abbrev cX4_become : ByteArray := prog_6_method_2_code
def yX4_become : MethodName := ⟨RX4, "become", "(LQuarrelSales$Village;)V"⟩
abbrev cX4_addThing : ByteArray := prog_6_method_3_code
def yX4_addThing : MethodName := ⟨RX4, "addThing", "(I)I"⟩
abbrev cX4_takeThings : ByteArray := prog_6_method_4_code
def yX4_takeThings : MethodName := ⟨RX4, "takeThings", "([II)V"⟩
abbrev cX4_sell : ByteArray := prog_6_method_5_code
def yX4_sell : MethodName := ⟨RX4, "sell", "(III)I"⟩
abbrev cX4_split : ByteArray := prog_6_method_6_code
def yX4_split : MethodName := ⟨RX4, "split", "(II)I"⟩
abbrev cX4_valueTo : ByteArray := prog_6_method_7_code
def yX4_valueTo : MethodName := ⟨RX4, "valueTo", "(ILQuarrelSales$Court;)I"⟩
def RX5 : String := "QuarrelSales"
def TX5 : u_T := fun k => match k with
  | 0 => ("QuarrelSales", "now", "LQuarrelSales$Village;", true)
  | 1 => ("QuarrelSales", "kept", "LQuarrelSales$Village;", true)
  | 2 => ("QuarrelSales", "isKept", "Z", false)
  | 3 => ("QuarrelSales", "trial", "LQuarrelSales$Court;", true)
  | 4 => ("QuarrelSales", "search", "LQuarrelSales$Search;", true)
  | 5 => ("QuarrelSales", "tape", "LQuarrelSales$Tape;", true)
  | _ => ("QuarrelSales", "sheets", "[LQuarrelSales$Sheet;", true)
def tyX5 : Nat → FieldType := fun k => match k with
  | 0 => .object "QuarrelSales$Village"
  | 1 => .object "QuarrelSales$Village"
  | 2 => .boolean
  | 3 => .object "QuarrelSales$Court"
  | 4 => .object "QuarrelSales$Search"
  | 5 => .object "QuarrelSales$Tape"
  | _ => .array (.object "QuarrelSales$Sheet")
theorem nmX5 : ∀ a, a < 7 → ∀ b, b < 7 → a ≠ b → (TX5 a).2.1 ≠ (TX5 b).2.1 := by decide +kernel
theorem tyX5_ok : ∀ k, k < 7 → parseFieldDescriptor (TX5 k).2.2.1 = some (tyX5 k) := by decide +kernel
abbrev cX5_init : ByteArray := prog_1_method_1_code
def yX5_init : MethodName := ⟨RX5, "<init>", "()V"⟩
abbrev cX5_person : ByteArray := prog_1_method_2_code
def yX5_person : MethodName := ⟨RX5, "person", "(III)I"⟩
abbrev cX5_rule : ByteArray := prog_1_method_3_code
def yX5_rule : MethodName := ⟨RX5, "rule", "(II)I"⟩
abbrev cX5_thing : ByteArray := prog_1_method_4_code
def yX5_thing : MethodName := ⟨RX5, "thing", "(I)I"⟩
abbrev cX5_worth : ByteArray := prog_1_method_5_code
def yX5_worth : MethodName := ⟨RX5, "worth", "(III)I"⟩
abbrev cX5_suit : ByteArray := prog_1_method_6_code
def yX5_suit : MethodName := ⟨RX5, "suit", "(II)I"⟩
abbrev cX5_told : ByteArray := prog_1_method_7_code
def yX5_told : MethodName := ⟨RX5, "told", "(II)I"⟩
abbrev cX5_hand : ByteArray := prog_1_method_8_code
def yX5_hand : MethodName := ⟨RX5, "hand", "(I)I"⟩
abbrev cX5_purse : ByteArray := prog_1_method_9_code
def yX5_purse : MethodName := ⟨RX5, "purse", "(I)I"⟩
abbrev cX5_value : ByteArray := prog_1_method_10_code
def yX5_value : MethodName := ⟨RX5, "value", "(I)I"⟩
abbrev cX5_type : ByteArray := prog_1_method_11_code
def yX5_type : MethodName := ⟨RX5, "type", "(JI)I"⟩
abbrev cX5_village : ByteArray := prog_1_method_12_code
def yX5_village : MethodName := ⟨RX5, "village", "()I"⟩
abbrev cX5_suits : ByteArray := prog_1_method_13_code
def yX5_suits : MethodName := ⟨RX5, "suits", "()I"⟩
abbrev cX5_count : ByteArray := prog_1_method_14_code
def yX5_count : MethodName := ⟨RX5, "count", "(I)I"⟩
abbrev cX5_sale : ByteArray := prog_1_method_15_code
def yX5_sale : MethodName := ⟨RX5, "sale", "(III)I"⟩
abbrev cX5_swap : ByteArray := prog_1_method_16_code
def yX5_swap : MethodName := ⟨RX5, "swap", "(II)I"⟩
abbrev cX5_give : ByteArray := prog_1_method_17_code
def yX5_give : MethodName := ⟨RX5, "give", "(I)I"⟩
abbrev cX5_wed : ByteArray := prog_1_method_18_code
def yX5_wed : MethodName := ⟨RX5, "wed", "(II)I"⟩
abbrev cX5_part : ByteArray := prog_1_method_19_code
def yX5_part : MethodName := ⟨RX5, "part", "(II)I"⟩
abbrev cX5_gain : ByteArray := prog_1_method_20_code
def yX5_gain : MethodName := ⟨RX5, "gain", "(III)I"⟩
abbrev cX5_agreed : ByteArray := prog_1_method_21_code
def yX5_agreed : MethodName := ⟨RX5, "agreed", "(II)I"⟩
abbrev cX5_rest : ByteArray := prog_1_method_22_code
def yX5_rest : MethodName := ⟨RX5, "rest", "(I)I"⟩
abbrev cX5_group : ByteArray := prog_1_method_23_code
def yX5_group : MethodName := ⟨RX5, "group", "(I)I"⟩
abbrev cX5_never : ByteArray := prog_1_method_24_code
def yX5_never : MethodName := ⟨RX5, "never", "()I"⟩
abbrev cX5_fewest : ByteArray := prog_1_method_25_code
def yX5_fewest : MethodName := ⟨RX5, "fewest", "(I)I"⟩
abbrev cX5_best : ByteArray := prog_1_method_26_code
def yX5_best : MethodName := ⟨RX5, "best", "(II)I"⟩
abbrev cX5_saves : ByteArray := prog_1_method_27_code
def yX5_saves : MethodName := ⟨RX5, "saves", "(II)I"⟩
abbrev cX5_match : ByteArray := prog_1_method_28_code
def yX5_match : MethodName := ⟨RX5, "match", "()I"⟩
abbrev cX5_against : ByteArray := prog_1_method_29_code
def yX5_against : MethodName := ⟨RX5, "against", "(III)I"⟩
abbrev cX5_pays : ByteArray := prog_1_method_30_code
def yX5_pays : MethodName := ⟨RX5, "pays", "(IIIII)I"⟩
abbrev cX5_image : ByteArray := prog_1_method_31_code
def yX5_image : MethodName := ⟨RX5, "image", "()I"⟩
abbrev cX5_restore : ByteArray := prog_1_method_32_code
def yX5_restore : MethodName := ⟨RX5, "restore", "()I"⟩
abbrev cX5_deal : ByteArray := prog_1_method_33_code
def yX5_deal : MethodName := ⟨RX5, "deal", "(IIII)I"⟩
abbrev cX5_sheet : ByteArray := prog_1_method_34_code
def yX5_sheet : MethodName := ⟨RX5, "sheet", "(III)I"⟩
abbrev cX5_drop : ByteArray := prog_1_method_35_code
def yX5_drop : MethodName := ⟨RX5, "drop", "(I)I"⟩
abbrev cX5_item : ByteArray := prog_1_method_36_code
def yX5_item : MethodName := ⟨RX5, "item", "(IIII)I"⟩
abbrev cX5_copy : ByteArray := prog_1_method_37_code
def yX5_copy : MethodName := ⟨RX5, "copy", "(IIIII)I"⟩
abbrev cX5_isWithin : ByteArray := prog_1_method_38_code
def yX5_isWithin : MethodName := ⟨RX5, "isWithin", "(II)Z"⟩
abbrev cX5_isPerson : ByteArray := prog_1_method_39_code
def yX5_isPerson : MethodName := ⟨RX5, "isPerson", "(I)Z"⟩
abbrev cX5_isSheet : ByteArray := prog_1_method_40_code
def yX5_isSheet : MethodName := ⟨RX5, "isSheet", "(I)Z"⟩
abbrev cX5_isLane : ByteArray := prog_1_method_41_code
def yX5_isLane : MethodName := ⟨RX5, "isLane", "(I)Z"⟩
abbrev cX5_isThing : ByteArray := prog_1_method_42_code
def yX5_isThing : MethodName := ⟨RX5, "isThing", "(I)Z"⟩
abbrev cX5_isSide : ByteArray := prog_1_method_43_code
def yX5_isSide : MethodName := ⟨RX5, "isSide", "(I)Z"⟩
abbrev cX5_put : ByteArray := prog_1_method_44_code
def yX5_put : MethodName := ⟨RX5, "put", "([III)I"⟩
abbrev cX5_trySale : ByteArray := prog_1_method_45_code
def yX5_trySale : MethodName := ⟨RX5, "trySale", "(II)V"⟩
abbrev cX5_gainOf : ByteArray := prog_1_method_46_code
def yX5_gainOf : MethodName := ⟨RX5, "gainOf", "(I)I"⟩
abbrev cX5_makeFirstAgreed : ByteArray := prog_1_method_47_code
def yX5_makeFirstAgreed : MethodName := ⟨RX5, "makeFirstAgreed", "()Z"⟩
abbrev cX5_dealOne : ByteArray := prog_1_method_48_code
def yX5_dealOne : MethodName := ⟨RX5, "dealOne", "(LQuarrelSales$Sheet;I)Z"⟩
def RX6 : String := "QuarrelSalesModel"
def TX6 : u_T := fun k => match k with
  | 0 => ("QuarrelSalesModel", "purses", "[I", true)
  | 1 => ("QuarrelSalesModel", "costs", "[I", true)
  | 2 => ("QuarrelSalesModel", "laws", "[I", true)
  | 3 => ("QuarrelSalesModel", "things", "I", false)
  | 4 => ("QuarrelSalesModel", "hands", "[I", true)
  | 5 => ("QuarrelSalesModel", "worths", "[I", true)
  | 6 => ("QuarrelSalesModel", "suits", "I", false)
  | 7 => ("QuarrelSalesModel", "firsts", "[I", true)
  | 8 => ("QuarrelSalesModel", "seconds", "[I", true)
  | 9 => ("QuarrelSalesModel", "over", "I", false)
  | 10 => ("QuarrelSalesModel", "sales", "I", false)
  | 11 => ("QuarrelSalesModel", "tape", "[I", true)
  | 12 => ("QuarrelSalesModel", "taped", "I", false)
  | 13 => ("QuarrelSalesModel", "at", "I", false)
  | 14 => ("QuarrelSalesModel", "wrong", "Z", false)
  | 15 => ("QuarrelSalesModel", "read", "[I", true)
  | 16 => ("QuarrelSalesModel", "keptHands", "[I", true)
  | 17 => ("QuarrelSalesModel", "keptFirsts", "[I", true)
  | 18 => ("QuarrelSalesModel", "keptSeconds", "[I", true)
  | 19 => ("QuarrelSalesModel", "keptOver", "I", false)
  | 20 => ("QuarrelSalesModel", "tried", "[I", true)
  | 21 => ("QuarrelSalesModel", "found", "[I", true)
  | 22 => ("QuarrelSalesModel", "bestMany", "I", false)
  | 23 => ("QuarrelSalesModel", "image", "[I", true)
  | 24 => ("QuarrelSalesModel", "isImage", "Z", false)
  | 25 => ("QuarrelSalesModel", "lanes", "[I", true)
  | 26 => ("QuarrelSalesModel", "sizes", "[I", true)
  | 27 => ("QuarrelSalesModel", "items", "[I", true)
  | _ => ("QuarrelSalesModel", "moved", "[I", true)
def tyX6 : Nat → FieldType := fun k => match k with
  | 0 => .array .int
  | 1 => .array .int
  | 2 => .array .int
  | 3 => .int
  | 4 => .array .int
  | 5 => .array .int
  | 6 => .int
  | 7 => .array .int
  | 8 => .array .int
  | 9 => .int
  | 10 => .int
  | 11 => .array .int
  | 12 => .int
  | 13 => .int
  | 14 => .boolean
  | 15 => .array .int
  | 16 => .array .int
  | 17 => .array .int
  | 18 => .array .int
  | 19 => .int
  | 20 => .array .int
  | 21 => .array .int
  | 22 => .int
  | 23 => .array .int
  | 24 => .boolean
  | 25 => .array .int
  | 26 => .array .int
  | 27 => .array .int
  | _ => .array .int
theorem nmX6 : ∀ a, a < 29 → ∀ b, b < 29 → a ≠ b → (TX6 a).2.1 ≠ (TX6 b).2.1 := by decide +kernel
theorem tyX6_ok : ∀ k, k < 29 → parseFieldDescriptor (TX6 k).2.2.1 = some (tyX6 k) := by decide +kernel
abbrev cX6_in : ByteArray := prog_8_method_2_code
def yX6_in : MethodName := ⟨RX6, "in", "(JJJ)Z"⟩
abbrev cX6_init : ByteArray := prog_8_method_3_code
def yX6_init : MethodName := ⟨RX6, "<init>", "()V"⟩
abbrev cX6_isPerson : ByteArray := prog_8_method_4_code
def yX6_isPerson : MethodName := ⟨RX6, "isPerson", "(I)Z"⟩
abbrev cX6_isThing : ByteArray := prog_8_method_5_code
def yX6_isThing : MethodName := ⟨RX6, "isThing", "(I)Z"⟩
abbrev cX6_isSide : ByteArray := prog_8_method_6_code
def yX6_isSide : MethodName := ⟨RX6, "isSide", "(I)Z"⟩
abbrev cX6_stands : ByteArray := prog_8_method_7_code
def yX6_stands : MethodName := ⟨RX6, "stands", "(I)I"⟩
abbrev cX6_isOver : ByteArray := prog_8_method_8_code
def yX6_isOver : MethodName := ⟨RX6, "isOver", "(I)Z"⟩
abbrev cX6_ends : ByteArray := prog_8_method_9_code
def yX6_ends : MethodName := ⟨RX6, "ends", "()I"⟩
abbrev cX6_person : ByteArray := prog_8_method_10_code
def yX6_person : MethodName := ⟨RX6, "person", "(III)I"⟩
abbrev cX6_rule : ByteArray := prog_8_method_11_code
def yX6_rule : MethodName := ⟨RX6, "rule", "(II)I"⟩
abbrev cX6_thing : ByteArray := prog_8_method_12_code
def yX6_thing : MethodName := ⟨RX6, "thing", "(I)I"⟩
abbrev cX6_worth : ByteArray := prog_8_method_13_code
def yX6_worth : MethodName := ⟨RX6, "worth", "(III)I"⟩
abbrev cX6_comes : ByteArray := prog_8_method_14_code
def yX6_comes : MethodName := ⟨RX6, "comes", "(II)I"⟩
abbrev cX6_suit : ByteArray := prog_8_method_15_code
def yX6_suit : MethodName := ⟨RX6, "suit", "(II)I"⟩
abbrev cX6_told : ByteArray := prog_8_method_16_code
def yX6_told : MethodName := ⟨RX6, "told", "(II)I"⟩
abbrev cX6_hand : ByteArray := prog_8_method_17_code
def yX6_hand : MethodName := ⟨RX6, "hand", "(I)I"⟩
abbrev cX6_purse : ByteArray := prog_8_method_18_code
def yX6_purse : MethodName := ⟨RX6, "purse", "(I)I"⟩
abbrev cX6_standsIn : ByteArray := prog_8_method_19_code
def yX6_standsIn : MethodName := ⟨RX6, "standsIn", "(I)I"⟩
abbrev cX6_valueOf : ByteArray := prog_8_method_20_code
def yX6_valueOf : MethodName := ⟨RX6, "valueOf", "(I)I"⟩
abbrev cX6_value : ByteArray := prog_8_method_21_code
def yX6_value : MethodName := ⟨RX6, "value", "(I)I"⟩
abbrev cX6_size : ByteArray := prog_8_method_22_code
def yX6_size : MethodName := ⟨RX6, "size", "(I)I"⟩
abbrev cX6_costAll : ByteArray := prog_8_method_23_code
def yX6_costAll : MethodName := ⟨RX6, "costAll", "()I"⟩
abbrev cX6_count : ByteArray := prog_8_method_24_code
def yX6_count : MethodName := ⟨RX6, "count", "(I)I"⟩
abbrev cX6_type : ByteArray := prog_8_method_25_code
def yX6_type : MethodName := ⟨RX6, "type", "(JI)I"⟩
abbrev cX6_here : ByteArray := prog_8_method_26_code
def yX6_here : MethodName := ⟨RX6, "here", "()I"⟩
abbrev cX6_has : ByteArray := prog_8_method_27_code
def yX6_has : MethodName := ⟨RX6, "has", "(I)Z"⟩
abbrev cX6_digit : ByteArray := prog_8_method_28_code
def yX6_digit : MethodName := ⟨RX6, "digit", "(I)I"⟩
abbrev cX6_thingClause : ByteArray := prog_8_method_29_code
def yX6_thingClause : MethodName := ⟨RX6, "thingClause", "(I)V"⟩
abbrev cX6_side : ByteArray := prog_8_method_30_code
def yX6_side : MethodName := ⟨RX6, "side", "(I)I"⟩
abbrev cX6_readAll : ByteArray := prog_8_method_31_code
def yX6_readAll : MethodName := ⟨RX6, "readAll", "(Z)I"⟩
abbrev cX6_village : ByteArray := prog_8_method_32_code
def yX6_village : MethodName := ⟨RX6, "village", "()I"⟩
abbrev cX6_suits : ByteArray := prog_8_method_33_code
def yX6_suits : MethodName := ⟨RX6, "suits", "()I"⟩
abbrev cX6_stay : ByteArray := prog_8_method_34_code
def yX6_stay : MethodName := ⟨RX6, "stay", "(I)V"⟩
abbrev cX6_sells : ByteArray := prog_8_method_35_code
def yX6_sells : MethodName := ⟨RX6, "sells", "(II)I"⟩
abbrev cX6_comesTo : ByteArray := prog_8_method_36_code
def yX6_comesTo : MethodName := ⟨RX6, "comesTo", "(II)V"⟩
abbrev cX6_sale : ByteArray := prog_8_method_37_code
def yX6_sale : MethodName := ⟨RX6, "sale", "(III)I"⟩
abbrev cX6_swap : ByteArray := prog_8_method_38_code
def yX6_swap : MethodName := ⟨RX6, "swap", "(II)I"⟩
abbrev cX6_give : ByteArray := prog_8_method_39_code
def yX6_give : MethodName := ⟨RX6, "give", "(I)I"⟩
abbrev cX6_weds : ByteArray := prog_8_method_40_code
def yX6_weds : MethodName := ⟨RX6, "weds", "(II)I"⟩
abbrev cX6_wed : ByteArray := prog_8_method_41_code
def yX6_wed : MethodName := ⟨RX6, "wed", "(II)I"⟩
abbrev cX6_part : ByteArray := prog_8_method_42_code
def yX6_part : MethodName := ⟨RX6, "part", "(II)I"⟩
abbrev cX6_keeps : ByteArray := prog_8_method_43_code
def yX6_keeps : MethodName := ⟨RX6, "keeps", "()V"⟩
abbrev cX6_back : ByteArray := prog_8_method_44_code
def yX6_back : MethodName := ⟨RX6, "back", "()V"⟩
abbrev cX6_gainOf : ByteArray := prog_8_method_45_code
def yX6_gainOf : MethodName := ⟨RX6, "gainOf", "(III)I"⟩
abbrev cX6_gain : ByteArray := prog_8_method_46_code
def yX6_gain : MethodName := ⟨RX6, "gain", "(III)I"⟩
abbrev cX6_priceOf : ByteArray := prog_8_method_47_code
def yX6_priceOf : MethodName := ⟨RX6, "priceOf", "(II)I"⟩
abbrev cX6_agreed : ByteArray := prog_8_method_48_code
def yX6_agreed : MethodName := ⟨RX6, "agreed", "(II)I"⟩
abbrev cX6_deals : ByteArray := prog_8_method_49_code
def yX6_deals : MethodName := ⟨RX6, "deals", "()Z"⟩
abbrev cX6_rest : ByteArray := prog_8_method_50_code
def yX6_rest : MethodName := ⟨RX6, "rest", "(I)I"⟩
abbrev cX6_groupOf : ByteArray := prog_8_method_51_code
def yX6_groupOf : MethodName := ⟨RX6, "groupOf", "(I)I"⟩
abbrev cX6_group : ByteArray := prog_8_method_52_code
def yX6_group : MethodName := ⟨RX6, "group", "(I)I"⟩
abbrev cX6_neverOf : ByteArray := prog_8_method_53_code
def yX6_neverOf : MethodName := ⟨RX6, "neverOf", "()I"⟩
abbrev cX6_never : ByteArray := prog_8_method_54_code
def yX6_never : MethodName := ⟨RX6, "never", "()I"⟩
abbrev cX6_done : ByteArray := prog_8_method_55_code
def yX6_done : MethodName := ⟨RX6, "done", "(II)Z"⟩
abbrev cX6_notes : ByteArray := prog_8_method_56_code
def yX6_notes : MethodName := ⟨RX6, "notes", "(I)V"⟩
abbrev cX6_fewestOf : ByteArray := prog_8_method_57_code
def yX6_fewestOf : MethodName := ⟨RX6, "fewestOf", "()I"⟩
abbrev cX6_fewest : ByteArray := prog_8_method_58_code
def yX6_fewest : MethodName := ⟨RX6, "fewest", "(I)I"⟩
abbrev cX6_bestOf : ByteArray := prog_8_method_59_code
def yX6_bestOf : MethodName := ⟨RX6, "bestOf", "(I)I"⟩
abbrev cX6_best : ByteArray := prog_8_method_60_code
def yX6_best : MethodName := ⟨RX6, "best", "(II)I"⟩
abbrev cX6_savesOf : ByteArray := prog_8_method_61_code
def yX6_savesOf : MethodName := ⟨RX6, "savesOf", "(II)I"⟩
abbrev cX6_saves : ByteArray := prog_8_method_62_code
def yX6_saves : MethodName := ⟨RX6, "saves", "(II)I"⟩
abbrev cX6_match : ByteArray := prog_8_method_63_code
def yX6_match : MethodName := ⟨RX6, "match", "()I"⟩
abbrev cX6_against : ByteArray := prog_8_method_64_code
def yX6_against : MethodName := ⟨RX6, "against", "(III)I"⟩
abbrev cX6_pays : ByteArray := prog_8_method_65_code
def yX6_pays : MethodName := ⟨RX6, "pays", "(IIIII)I"⟩
abbrev cX6_lay : ByteArray := prog_8_method_66_code
def yX6_lay : MethodName := ⟨RX6, "lay", "([II)I"⟩
abbrev cX6_gives : ByteArray := prog_8_method_67_code
def yX6_gives : MethodName := ⟨RX6, "gives", "([II[I)I"⟩
abbrev cX6_image : ByteArray := prog_8_method_68_code
def yX6_image : MethodName := ⟨RX6, "image", "()I"⟩
abbrev cX6_restore : ByteArray := prog_8_method_69_code
def yX6_restore : MethodName := ⟨RX6, "restore", "()I"⟩
abbrev cX6_isSheet : ByteArray := prog_8_method_70_code
def yX6_isSheet : MethodName := ⟨RX6, "isSheet", "(I)Z"⟩
abbrev cX6_isLane : ByteArray := prog_8_method_71_code
def yX6_isLane : MethodName := ⟨RX6, "isLane", "(I)Z"⟩
abbrev cX6_finds : ByteArray := prog_8_method_72_code
def yX6_finds : MethodName := ⟨RX6, "finds", "(IIII)I"⟩
abbrev cX6_deal : ByteArray := prog_8_method_73_code
def yX6_deal : MethodName := ⟨RX6, "deal", "(IIII)I"⟩
abbrev cX6_sheet : ByteArray := prog_8_method_74_code
def yX6_sheet : MethodName := ⟨RX6, "sheet", "(III)I"⟩
abbrev cX6_drop : ByteArray := prog_8_method_75_code
def yX6_drop : MethodName := ⟨RX6, "drop", "(I)I"⟩
abbrev cX6_item : ByteArray := prog_8_method_76_code
def yX6_item : MethodName := ⟨RX6, "item", "(IIII)I"⟩
abbrev cX6_copy : ByteArray := prog_8_method_77_code
def yX6_copy : MethodName := ⟨RX6, "copy", "(IIIII)I"⟩
def RJ6 : String := "java/lang/Integer"
def TJ6 : u_T := fun k => match k with
  | _ => ("", "", "", false)
def tyJ6 : Nat → FieldType := fun k => match k with
  | _ => .int
theorem nmJ6 : ∀ a, a < 0 → ∀ b, b < 0 → a ≠ b → (TJ6 a).2.1 ≠ (TJ6 b).2.1 := by decide +kernel
theorem tyJ6_ok : ∀ k, k < 0 → parseFieldDescriptor (TJ6 k).2.2.1 = some (tyJ6 k) := by decide +kernel
abbrev cJ6_bitCount_0f7a4 : ByteArray := prog_9_method_49_code
def yJ6_bitCount_0f7a4 : MethodName := ⟨RJ6, "bitCount", "(I)I"⟩
def RJ9 : String := "java/lang/Math"
def TJ9 : u_T := fun k => match k with
  | _ => ("", "", "", false)
def tyJ9 : Nat → FieldType := fun k => match k with
  | _ => .int
theorem nmJ9 : ∀ a, a < 0 → ∀ b, b < 0 → a ≠ b → (TJ9 a).2.1 ≠ (TJ9 b).2.1 := by decide +kernel
theorem tyJ9_ok : ∀ k, k < 0 → parseFieldDescriptor (TJ9 k).2.2.1 = some (tyJ9 k) := by decide +kernel
abbrev cJ9_max_7cf53 : ByteArray := prog_10_method_65_code
def yJ9_max_7cf53 : MethodName := ⟨RJ9, "max", "(II)I"⟩
abbrev cJ9_min_7cf53 : ByteArray := prog_10_method_69_code
def yJ9_min_7cf53 : MethodName := ⟨RJ9, "min", "(II)I"⟩
def RJ10 : String := "java/lang/System"
def TJ10 : u_T := fun k => match k with
  | _ => ("", "", "", false)
def tyJ10 : Nat → FieldType := fun k => match k with
  | _ => .int
theorem nmJ10 : ∀ a, a < 0 → ∀ b, b < 0 → a ≠ b → (TJ10 a).2.1 ≠ (TJ10 b).2.1 := by decide +kernel
theorem tyJ10_ok : ∀ k, k < 0 → parseFieldDescriptor (TJ10 k).2.2.1 = some (tyJ10 k) := by decide +kernel
def RL : String := "QuarrelSalesLaw"
abbrev cL_law : ByteArray := code
def yL_law : MethodName := ⟨RL, "law", "([I)Z"⟩
abbrev vwCl : List vw_C := [(RX0, TX0, 7), (RX1, TX1, 5), (RX2, TX2, 4), (RX3, TX3, 4), (RX4, TX4, 5), (RX5, TX5, 7), (RX6, TX6, 29)]
end
section
/-! ===== core 1: an abstract machine: shapes, values, configurations, ops ===== -/
/-- a field: a number (none), null, or the place of a cell -/
abbrev qF : Type := Option (Option Nat)
/-- a cell's shape: an object (class, fields), a row of ints (length), a row of references (0 Court, 1 Sheet; length; places) -/
abbrev qS : Type := (Nat × List qF) ⊕ (Nat ⊕ (Nat × Nat × List (Option Nat)))
/-- a heap: the shapes of the cells in the order of their making, and every number in them -/
abbrev qH : Type := List qS × (Nat → Nat → Int32)
/-- pc, locals, stack, heap, cells made, slots made -/
abbrev qC : Type := Nat × List Value × List Value × qH × Nat × Nat
/-- a call: method, arguments, the configuration behind it (without the answer) -/
abbrev qQ : Type := Nat × List Value × qC
abbrev qO : Type := Option (qC ⊕ (qQ ⊕ (Option Value × qC)))
abbrev qOp : Type := qC → qO
def qU : Value := .retAddr 0
def qSCR : Nat := 1000000
def qok (v : Value) : Bool := match v with
  | .long _ => false
  | .double _ => false
  | _ => true
def qup (h : Nat → Nat → Int32) (o k : Nat) (v : Int32) : Nat → Nat → Int32 := fun o' k' => if o' = o then (if k' = k then v else h o' k') else h o' k'
def qz (h : Nat → Nat → Int32) (o : Nat) : Nat → Nat → Int32 := fun o' k' => if o' = o then 0 else h o' k'
/-- a row of ints as a whole -/
def qrow (h : Nat → Nat → Int32) (o : Nat) (f : Nat → Int32) : Nat → Nat → Int32 := fun o' k' => if o' = o then f k' else h o' k'
def qfa (h : Nat → Nat → Int32) (o k : Nat) (f : qF) : Value := match f with
  | none => .int (h o k)
  | some none => .null
  | some (some p) => .ref p
def qcat (st : List Value) : Nat := (st.map fun v => v.category).sum
def qdrp : List Bool → List Value → List Value
  | [], l => l
  | _ :: _, [] => []
  | b :: bs, v :: l => (match b with | true => v | false => qU) :: qdrp bs l
/-! ops: the numbers ahead are written by a program; n is the pc behind -/
def oI (v : Int32) (n : Nat) : qOp := fun c => match c with
  | (_, ls, st, h) => some (.inl (n, ls, .int v :: st, h))
def oL (v : Int64) (n : Nat) : qOp := fun c => match c with
  | (_, ls, st, h) => some (.inl (n, ls, .long v :: st, h))
def oLdI (i n : Nat) : qOp := fun c => match c with
  | (_, ls, st, h) => match ls[i]? with
    | some (.int x) => some (.inl (n, ls, .int x :: st, h))
    | _ => none
def oLdL (i n : Nat) : qOp := fun c => match c with
  | (_, ls, st, h) => match ls[i]? with
    | some (.long x) => some (.inl (n, ls, .long x :: st, h))
    | _ => none
def oLdA (i n : Nat) : qOp := fun c => match c with
  | (_, ls, st, h) => match ls[i]? with
    | some (.ref x) => some (.inl (n, ls, .ref x :: st, h))
    | _ => none
def qpre (ls : List Value) (i : Nat) : Bool := match i with
  | 0 => true
  | j + 1 => match ls[j]? with
    | some v => qok v
    | none => false
def oStI (i n : Nat) : qOp := fun c => match c with
  | (_, ls, .int x :: st, h) => match qpre ls i, decide (i < ls.length) with
    | true, true => some (.inl (n, ls.set i (.int x), st, h))
    | _, _ => none
  | _ => none
def oStA (i n : Nat) : qOp := fun c => match c with
  | (_, ls, .ref x :: st, h) => match qpre ls i, decide (i < ls.length) with
    | true, true => some (.inl (n, ls.set i (.ref x), st, h))
    | _, _ => none
  | _ => none
def oInc (i : Nat) (k : Int32) (n : Nat) : qOp := fun c => match c with
  | (_, ls, st, h) => match ls[i]? with
    | some (.int x) => match qpre ls i with
      | true => some (.inl (n, ls.set i (.int (x + k)), st, h))
      | false => none
    | _ => none
def oBin (f : Int32 → Int32 → Int32) (n : Nat) : qOp := fun c => match c with
  | (_, ls, .int y :: .int x :: st, h) => some (.inl (n, ls, .int (f x y) :: st, h))
  | _ => none
def oDiv (f : Int32 → Int32 → Int32) (n : Nat) : qOp := fun c => match c with
  | (_, ls, .int y :: .int x :: st, h) => if y = 0 then none else some (.inl (n, ls, .int (f x y) :: st, h))
  | _ => none
def oUn (f : Int32 → Int32) (n : Nat) : qOp := fun c => match c with
  | (_, ls, .int x :: st, h) => some (.inl (n, ls, .int (f x) :: st, h))
  | _ => none
def oI2L (n : Nat) : qOp := fun c => match c with
  | (_, ls, .int x :: st, h) => some (.inl (n, ls, .long x.toInt64 :: st, h))
  | _ => none
def oL2I (n : Nat) : qOp := fun c => match c with
  | (_, ls, .long x :: st, h) => some (.inl (n, ls, .int x.toInt32 :: st, h))
  | _ => none
def oLBin (f : Int64 → Int64 → Int64) (n : Nat) : qOp := fun c => match c with
  | (_, ls, .long y :: .long x :: st, h) => some (.inl (n, ls, .long (f x y) :: st, h))
  | _ => none
def oLSh (f : Int64 → Int32 → Int64) (n : Nat) : qOp := fun c => match c with
  | (_, ls, .int y :: .long x :: st, h) => some (.inl (n, ls, .long (f x y) :: st, h))
  | _ => none
def oLcmp (n : Nat) : qOp := fun c => match c with
  | (_, ls, .long y :: .long x :: st, h) => some (.inl (n, ls, .int (lg_cmp x y) :: st, h))
  | _ => none
def oDup (n : Nat) : qOp := fun c => match c with
  | (_, ls, v :: st, h) => match qok v with
    | true => some (.inl (n, ls, v :: v :: st, h))
    | false => none
  | _ => none
def oPop (n : Nat) : qOp := fun c => match c with
  | (_, ls, v :: st, h) => match qok v with
    | true => some (.inl (n, ls, st, h))
    | false => none
  | _ => none
def oGoto (t : Nat) : qOp := fun c => match c with
  | (_, ls, st, h) => some (.inl (t, ls, st, h))
def oIfEq (t n : Nat) : qOp := fun c => match c with
  | (_, ls, .int x :: st, h) => some (.inl ((if x = 0 then t else n), ls, st, h))
  | _ => none
def oIfNe (t n : Nat) : qOp := fun c => match c with
  | (_, ls, .int x :: st, h) => some (.inl ((if ¬ x = 0 then t else n), ls, st, h))
  | _ => none
def oIfLt (t n : Nat) : qOp := fun c => match c with
  | (_, ls, .int x :: st, h) => some (.inl ((if x < 0 then t else n), ls, st, h))
  | _ => none
def oIfGe (t n : Nat) : qOp := fun c => match c with
  | (_, ls, .int x :: st, h) => some (.inl ((if 0 ≤ x then t else n), ls, st, h))
  | _ => none
def oIfGt (t n : Nat) : qOp := fun c => match c with
  | (_, ls, .int x :: st, h) => some (.inl ((if 0 < x then t else n), ls, st, h))
  | _ => none
def oIfLe (t n : Nat) : qOp := fun c => match c with
  | (_, ls, .int x :: st, h) => some (.inl ((if x ≤ 0 then t else n), ls, st, h))
  | _ => none
def oCmEq (t n : Nat) : qOp := fun c => match c with
  | (_, ls, .int y :: .int x :: st, h) => some (.inl ((if x = y then t else n), ls, st, h))
  | _ => none
def oCmNe (t n : Nat) : qOp := fun c => match c with
  | (_, ls, .int y :: .int x :: st, h) => some (.inl ((if ¬ x = y then t else n), ls, st, h))
  | _ => none
def oCmLt (t n : Nat) : qOp := fun c => match c with
  | (_, ls, .int y :: .int x :: st, h) => some (.inl ((if x < y then t else n), ls, st, h))
  | _ => none
def oCmGe (t n : Nat) : qOp := fun c => match c with
  | (_, ls, .int y :: .int x :: st, h) => some (.inl ((if y ≤ x then t else n), ls, st, h))
  | _ => none
def oCmGt (t n : Nat) : qOp := fun c => match c with
  | (_, ls, .int y :: .int x :: st, h) => some (.inl ((if y < x then t else n), ls, st, h))
  | _ => none
def oCmLe (t n : Nat) : qOp := fun c => match c with
  | (_, ls, .int y :: .int x :: st, h) => some (.inl ((if x ≤ y then t else n), ls, st, h))
  | _ => none
def oSw (lo : Int) (ts : List Nat) (d : Nat) : qOp := fun c => match c with
  | (_, ls, .int x :: st, h) => some (.inl ((if x.toInt < lo ∨ lo + (ts.length : Int) - 1 < x.toInt then d else ts.getD (x.toInt - lo).toNat d), ls, st, h))
  | _ => none
def oGet (ci k n : Nat) : qOp := fun c => match c with
  | (_, ls, .ref o :: st, hp, r) => match hp.1[o]? with
    | some (.inl (cj, fs)) => match decide (cj = ci), fs[k]? with
      | true, some f => some (.inl (n, ls, qfa hp.2 o k f :: st, hp, r))
      | _, _ => none
    | _ => none
  | _ => none
def oPutI (ci k n : Nat) : qOp := fun c => match c with
  | (_, ls, .int v :: .ref o :: st, hp, r) => match hp.1[o]? with
    | some (.inl (cj, fs)) => match decide (cj = ci), fs[k]? with
      | true, some none => some (.inl (n, ls, st, (hp.1, qup hp.2 o k v), r))
      | _, _ => none
    | _ => none
  | _ => none
def oPutZ (ci k n : Nat) : qOp := fun c => match c with
  | (_, ls, .int v :: .ref o :: st, hp, r) => if v = 0 ∨ v = 1 then (match hp.1[o]? with
    | some (.inl (cj, fs)) => match decide (cj = ci), fs[k]? with
      | true, some none => some (.inl (n, ls, st, (hp.1, qup hp.2 o k v), r))
      | _, _ => none
    | _ => none) else none
  | _ => none
/-- a final field of a constructor -/
def oPutF (ci k n : Nat) : qOp := fun c => match c with
  | (_, ls, .ref v :: .ref o :: st, hp, r) => match hp.1[o]? with
    | some (.inl (cj, fs)) => match decide (cj = ci), fs[k]? with
      | true, some (some _) => some (.inl (n, ls, st, (hp.1.set o (.inl (cj, fs.set k (some (some v)))), hp.2), r))
      | _, _ => none
    | _ => none
  | _ => none
def oALd (n : Nat) : qOp := fun c => match c with
  | (_, ls, .int i :: .ref a :: st, hp, r) => match hp.1[a]? with
    | some (.inr (.inl N)) => if i < 0 ∨ N ≤ i.toNatClampNeg then none else some (.inl (n, ls, .int (hp.2 a i.toNatClampNeg) :: st, hp, r))
    | _ => none
  | _ => none
def oASt (n : Nat) : qOp := fun c => match c with
  | (_, ls, .int x :: .int i :: .ref a :: st, hp, r) => match hp.1[a]? with
    | some (.inr (.inl N)) => if i < 0 ∨ N ≤ i.toNatClampNeg then none else some (.inl (n, ls, st, (hp.1, qup hp.2 a i.toNatClampNeg x), r))
    | _ => none
  | _ => none
def qrf (r : Option Nat) : Value := match r with
  | none => .null
  | some p => .ref p
def oAALd (n : Nat) : qOp := fun c => match c with
  | (_, ls, .int i :: .ref a :: st, hp, r) => match hp.1[a]? with
    | some (.inr (.inr (_, N, rs))) => if i < 0 ∨ N ≤ i.toNatClampNeg then none else some (.inl (n, ls, qrf (rs.getD i.toNatClampNeg none) :: st, hp, r))
    | _ => none
  | _ => none
def oAASt (n : Nat) : qOp := fun c => match c with
  | (_, ls, .ref v :: .int i :: .ref a :: st, hp, r) => match hp.1[a]?, hp.1[v]? with
    | some (.inr (.inr (t, N, rs))), some (.inl (cj, _)) => if i < 0 ∨ N ≤ i.toNatClampNeg then none else match decide (cj = if t = 0 then 0 else 2), decide (rs.length = N) with
      | true, true => some (.inl (n, ls, st, (hp.1.set a (.inr (.inr (t, N, rs.set i.toNatClampNeg (some v)))), hp.2), r))
      | _, _ => none
    | _, _ => none
  | _ => none
def oLen (n : Nat) : qOp := fun c => match c with
  | (_, ls, .ref a :: st, hp, r) => match hp.1[a]? with
    | some (.inr (.inl N)) => some (.inl (n, ls, .int (Int32.ofNat N) :: st, hp, r))
    | some (.inr (.inr (_, N, _))) => some (.inl (n, ls, .int (Int32.ofNat N) :: st, hp, r))
    | _ => none
  | _ => none
/-- the law's own script -/
def oSLd (L : Nat) (xs : Nat → Int32) (n : Nat) : qOp := fun c => match c with
  | (_, ls, .int i :: .ref a :: st, h) => if a = qSCR ∧ ¬ (i < 0 ∨ L ≤ i.toNatClampNeg) then some (.inl (n, ls, .int (xs i.toNatClampNeg) :: st, h)) else none
  | _ => none
def oSLen (L n : Nat) : qOp := fun c => match c with
  | (_, ls, .ref a :: st, h) => if a = qSCR then some (.inl (n, ls, .int (Int32.ofNat L) :: st, h)) else none
  | _ => none
def oNew (ci N : Nat) (fs : List qF) (mc ms n : Nat) : qOp := fun c => match c with
  | (_, ls, st, hp, k, q) => if k + 1 ≤ mc ∧ q + N ≤ ms ∧ hp.1.length + 1 ≤ qSCR then some (.inl (n, ls, .ref hp.1.length :: st, (hp.1 ++ [.inl (ci, fs)], qz hp.2 hp.1.length), k + 1, q + N)) else none
def oNewI (mc ms n : Nat) : qOp := fun c => match c with
  | (_, ls, .int z :: st, hp, k, q) => if ¬ z < 0 ∧ z.toNatClampNeg ≤ 1000 ∧ k + 1 ≤ mc ∧ q + z.toNatClampNeg ≤ ms ∧ hp.1.length + 1 ≤ qSCR then some (.inl (n, ls, .ref hp.1.length :: st, (hp.1 ++ [.inr (.inl z.toNatClampNeg)], qz hp.2 hp.1.length), k + 1, q + z.toNatClampNeg)) else none
  | _ => none
def oNewR (t mc ms n : Nat) : qOp := fun c => match c with
  | (_, ls, .int z :: st, hp, k, q) => if ¬ z < 0 ∧ z.toNatClampNeg ≤ 1000 ∧ k + 1 ≤ mc ∧ q + z.toNatClampNeg ≤ ms ∧ hp.1.length + 1 ≤ qSCR then some (.inl (n, ls, .ref hp.1.length :: st, (hp.1 ++ [.inr (.inr (t, z.toNatClampNeg, List.replicate z.toNatClampNeg none))], hp.2), k + 1, q + z.toNatClampNeg)) else none
  | _ => none
def oObj (n : Nat) : qOp := fun c => match c with
  | (_, ls, .ref _ :: st, h) => match decide (qcat st ≤ 8) with
    | true => some (.inl (n, ls, st, h))
    | false => none
  | _ => none
def oCopy (n : Nat) : qOp := fun c => match c with
  | (_, ls, .int z :: .int dp :: .ref a :: .int sp :: .ref a0 :: st, hp, r) => match hp.1[a0]?, hp.1[a]? with
    | some (.inr (.inl n0)), some (.inr (.inl n1)) => if ¬ sp < 0 ∧ ¬ dp < 0 ∧ ¬ z < 0 ∧ sp.toNatClampNeg + z.toNatClampNeg ≤ n0 ∧ dp.toNatClampNeg + z.toNatClampNeg ≤ n1 ∧ qcat st ≤ 8 then some (.inl (n, ls, st, (hp.1, qrow hp.2 a (va_cpy (hp.2 a0) (hp.2 a) sp.toNatClampNeg dp.toNatClampNeg z.toNatClampNeg)), r)) else none
    | _, _ => none
  | _ => none
/-- calls: method, number of arguments (the receiver too), what it makes, this method's budget -/
def oCallS (y na kc ks mc ms n : Nat) : qOp := fun c => match c with
  | (_, ls, st, hp, k, q) => match decide (na ≤ st.length), decide (qcat (st.drop na) ≤ 8), decide (k + kc ≤ mc ∧ q + ks ≤ ms) with
    | true, true, true => some (.inr (.inl (y, (st.take na).reverse, (n, ls, st.drop na, hp, k + kc, q + ks))))
    | _, _, _ => none
def oCallV (y ci na kc ks mc ms n : Nat) : qOp := fun c => match c with
  | (_, ls, st, hp, k, q) => match st[na]? with
    | some (.ref o) => match hp.1[o]? with
      | some (.inl (cj, _)) => match decide (cj = ci), decide (qcat (st.drop (na + 1)) ≤ 8), decide (k + kc ≤ mc ∧ q + ks ≤ ms) with
        | true, true, true => some (.inr (.inl (y, .ref o :: (st.take na).reverse, (n, ls, st.drop (na + 1), hp, k + kc, q + ks))))
        | _, _, _ => none
      | _ => none
    | _ => none
def oCallI (y na kc ks mc ms n : Nat) : qOp := fun c => match c with
  | (_, ls, st, hp, k, q) => match st[na]? with
    | some (.ref o) => match decide (qcat (st.drop (na + 1)) ≤ 8), decide (k + kc ≤ mc ∧ q + ks ≤ ms) with
        | true, true => some (.inr (.inl (y, .ref o :: (st.take na).reverse, (n, ls, st.drop (na + 1), hp, k + kc, q + ks))))
        | _, _ => none
    | _ => none
def oRetI : qOp := fun c => match c with
  | (pc, ls, [.int x], h) => some (.inr (.inr (some (.int x), (pc, ls, [.int x], h))))
  | _ => none
def oRetZ : qOp := fun c => match c with
  | (pc, ls, [.int x], h) => if x = 0 ∨ x = 1 then some (.inr (.inr (some (.int x), (pc, ls, [.int x], h)))) else none
  | _ => none
def oRetV : qOp := fun c => match c with
  | (pc, ls, [], h) => some (.inr (.inr (none, (pc, ls, [], h))))
  | _ => none
/-! runs -/
abbrev qM : Type := MethodName × ByteArray × Nat × Option FieldType × Nat × Nat
def Rn (call : Nat → List Value → qH → Option Value → qH → Prop) (cd : List (Nat × qOp)) : Nat → qC → Option Value × qC → Prop
  | 0, _, _ => False
  | k + 1, c, r => (∃ mask, Rn call cd k (c.1, qdrp mask c.2.1, c.2.2) r) ∨ match cd.lookup c.1 with
    | none => False
    | some op => match op c with
      | none => False
      | some (.inl c') => Rn call cd k c' r
      | some (.inr (.inl q)) => ∃ (v : Option Value) (h1 : qH), call q.1 q.2.1 q.2.2.2.2.2.1 v h1 ∧ Rn call cd k (q.2.2.1, q.2.2.2.1, v.toList ++ q.2.2.2.2.1, h1, q.2.2.2.2.2.2) r
      | some (.inr (.inr x)) => x = r
def qEnt (as : List Value) : List Value := as.flatMap fun v => match qok v with
  | true => [v]
  | false => [v, qU]
def qEn (ml : Nat) (as : List Value) : List Value := qEnt as ++ List.replicate (ml - (qEnt as).length) qU
def Ex (mt : List qM) (cd : List (List (Nat × qOp))) : Nat → Nat → List Value → qH → Option Value → qH → Prop
  | 0, _, _, _, _, _ => False
  | d + 1, y, as, hp, v, hp1 => ∃ (t : qM) (k : List (Nat × qOp)) (n : Nat) (c : qC), mt[y]? = some t ∧ cd[y]? = some k ∧ (qEnt as).length ≤ t.2.2.1 ∧ Rn (Ex mt cd d) k n (0, qEn t.2.2.1 as, [], hp, 0, 0) (v, c) ∧ c.2.2.2.1 = hp1 ∧ c.2.2.2.2.1 ≤ t.2.2.2.2.1 ∧ c.2.2.2.2.2 ≤ t.2.2.2.2.2
end
section
/-! ===== core 2: what an abstract heap is on the machine ===== -/
def wsG : List Cond := lw_tbl.filter goodWord
theorem qmem {w : Cond} (i : Nat) (h : lw_tbl[i]? = some w) (g : goodWord w = true) : w ∈ wsG := List.mem_filter.mpr ⟨List.mem_of_getElem? h, g⟩
theorem qmems {ws : List Cond} (is : List Nat) (h : ws = is.filterMap (fun i => lw_tbl[i]?)) (g : ws.all goodWord = true) : ∀ w ∈ ws, w ∈ wsG := by
  intro w hw
  refine List.mem_filter.mpr ⟨?_, List.all_eq_true.mp g w hw⟩
  rw [h] at hw
  obtain ⟨i, -, hi⟩ := List.mem_filterMap.mp hw
  exact List.mem_of_getElem? hi
theorem qgood : GoodIn wsG wsG := fun w hw => ⟨hw, good_of_word (List.mem_filter.mp hw).2⟩
def qad (sz b k : Nat) : Nat := if k = qSCR then b else sz + k
def qmv (sz b : Nat) (v : Value) : Value := match v with
  | .ref k => .ref (qad sz b k)
  | v => v
theorem qmv_cat (sz b : Nat) (v : Value) : (qmv sz b v).category = v.category := by cases v <;> rfl
theorem qok_cat {v : Value} : qok v = true ↔ v.category = 1 := by cases v <;> simp [qok, Value.category]
theorem qok_cat2 {v : Value} : qok v = false ↔ v.category = 2 := by cases v <;> simp [qok, Value.category]
def qfv (sz b : Nat) (h : Nat → Int32) (k : Nat) (f : qF) : Value := match f with
  | none => .int (h k)
  | some none => .null
  | some (some p) => .ref (qad sz b p)
theorem qmv_fa (sz b : Nat) (h : Nat → Nat → Int32) (o k : Nat) (f : qF) : qmv sz b (qfa h o k f) = qfv sz b (h o) k f := by
  rcases f with _ | _ | p <;> rfl
abbrev qI : Type := ClassId × ClassId × ClassId
def qce (ids : qI) (sz b : Nat) (h : Nat → Int32) (s : qS) : va_E := match s with
  | .inl (ci, fs) => .inr (ci, fs.mapIdx (fun k f => qfv sz b h k f))
  | .inr (.inl n) => .inl (ids.1, (n, .inl h))
  | .inr (.inr (t, n, rs)) => .inl ((if t = 0 then ids.2.1 else ids.2.2), (n, .inr (.inr (.inr (.inr (fun j => (rs.getD j none).map (qad sz b)))))))
def qws (ids : qI) (sz b : Nat) (hp : qH) : va_W := hp.1.mapIdx (fun k s => (sz + k, qce ids sz b (hp.2 k) s))
def qtys (ids : qI) : List (ClassId × FieldType) := [(ids.1, .int), (ids.2.1, .object RX0), (ids.2.2, .object RX2)]
def qHR (D : va_G) (ids : qI) (sz b : Nat) (hp : qH) (H : Heap) : Prop := va_P D vwCl (qws ids sz b hp) H ∧ H.size = sz + hp.1.length ∧ hp.1.length ≤ qSCR
def qA (sz : Nat) : Nat → Prop := fun q => sz ≤ q
theorem qws_get {ids : qI} {sz b : Nat} {hp : qH} {o : Nat} {s : qS} (h : hp.1[o]? = some s) : (qws ids sz b hp)[o]? = some (sz + o, qce ids sz b (hp.2 o) s) := by
  unfold qws
  rw [List.getElem?_mapIdx, h]
  rfl
theorem qws_inv {ids : qI} {sz b : Nat} {hp : qH} {o : Nat} {q : Nat × va_E} (h : (qws ids sz b hp)[o]? = some q) : q.1 = sz + o := by
  unfold qws at h
  rw [List.getElem?_mapIdx] at h
  cases hs : hp.1[o]? with
  | none => rw [hs] at h; cases h
  | some s => rw [hs] at h; cases h; rfl
theorem qD (ids : qI) (sz b : Nat) (hp : qH) : va_D (qA sz) (qws ids sz b hp) := by
  refine ⟨fun i j p q hi hj hpq => ?_, fun k q hk => ?_⟩
  · have h1 := qws_inv hi
    have h2 := qws_inv hj
    omega
  · have h1 := qws_inv hk
    show sz ≤ q.1
    omega
theorem qad_lt {sz b k : Nat} {sh : List qS} {s : qS} (h : sh[k]? = some s) (hl : sh.length ≤ qSCR) : qad sz b k = sz + k := by
  have h1 := (List.getElem?_eq_some_iff.mp h).1
  unfold qad
  rw [if_neg (by omega)]
/-- writing a number -/
theorem qws_up {ids : qI} {sz b : Nat} {hp : qH} {o : Nat} {s : qS} (k : Nat) (v : Int32) (h : hp.1[o]? = some s) :
    qws ids sz b (hp.1, qup hp.2 o k v) = (qws ids sz b hp).set o (sz + o, qce ids sz b (upd (hp.2 o) k v) s) := by
  apply List.ext_getElem?
  intro i
  unfold qws
  rw [List.getElem?_set, List.getElem?_mapIdx, List.getElem?_mapIdx]
  have hl := (List.getElem?_eq_some_iff.mp h).1
  by_cases hi : o = i
  · subst hi
    rw [if_pos rfl, if_pos (by simpa using hl), h]
    simp only [Option.map_some]
    congr 3
    funext j
    simp [qup, upd]
  · rw [if_neg hi]
    congr 1
    funext s'
    congr 2
    funext j
    simp [qup, Ne.symm hi]
theorem qws_row {ids : qI} {sz b : Nat} {hp : qH} {o : Nat} {s : qS} (f : Nat → Int32) (h : hp.1[o]? = some s) :
    qws ids sz b (hp.1, qrow hp.2 o f) = (qws ids sz b hp).set o (sz + o, qce ids sz b f s) := by
  apply List.ext_getElem?
  intro i
  unfold qws
  rw [List.getElem?_set, List.getElem?_mapIdx, List.getElem?_mapIdx]
  have hl := (List.getElem?_eq_some_iff.mp h).1
  by_cases hi : o = i
  · subst hi
    rw [if_pos rfl, if_pos (by simpa using hl), h]
    simp only [Option.map_some]
    congr 3
    funext j
    simp [qrow]
  · rw [if_neg hi]
    congr 1
    funext s'
    congr 2
    funext j
    simp [qrow, Ne.symm hi]
theorem qws_sh {ids : qI} {sz b : Nat} {hp : qH} {o : Nat} (s : qS) (h : o < hp.1.length) :
    qws ids sz b (hp.1.set o s, hp.2) = (qws ids sz b hp).set o (sz + o, qce ids sz b (hp.2 o) s) := by
  apply List.ext_getElem?
  intro i
  unfold qws
  rw [List.getElem?_set, List.getElem?_mapIdx, List.getElem?_mapIdx, List.getElem?_set]
  by_cases hi : o = i
  · subst hi
    rw [if_pos rfl, if_pos rfl, if_pos h, if_pos (by simpa using h)]
    rfl
  · rw [if_neg hi, if_neg hi]
theorem qws_new {ids : qI} {sz b : Nat} {hp : qH} (s : qS) (h2 : Nat → Nat → Int32) (he : ∀ o k, o < hp.1.length → h2 o k = hp.2 o k) :
    qws ids sz b (hp.1 ++ [s], h2) = qws ids sz b hp ++ [(sz + hp.1.length, qce ids sz b (h2 hp.1.length) s)] := by
  apply List.ext_getElem?
  intro i
  unfold qws
  rw [List.getElem?_mapIdx]
  by_cases hi : i < hp.1.length
  · rw [List.getElem?_append_left hi, List.getElem?_append_left (by simpa using hi), List.getElem?_mapIdx]
    have : h2 i = hp.2 i := funext fun k => he i k hi
    show Option.map (fun s_1 => (sz + i, qce ids sz b (h2 i) s_1)) _ = _
    rw [this]
  · by_cases hj : i = hp.1.length
    · subst hj
      rw [List.getElem?_append_right (Nat.le_refl _), List.getElem?_append_right (by simp)]
      simp
    · rw [List.getElem?_eq_none (by simp; omega), List.getElem?_eq_none (by simp; omega)]
      rfl
theorem qmapIdx_set {α β : Type} (f : Nat → α → β) (l : List α) (k : Nat) (v : α) : (l.set k v).mapIdx f = (l.mapIdx f).set k (f k v) := by
  apply List.ext_getElem?
  intro i
  rw [List.getElem?_set, List.getElem?_mapIdx, List.getElem?_mapIdx, List.getElem?_set]
  by_cases hi : k = i
  · subst hi
    by_cases hl : k < l.length
    · rw [if_pos rfl, if_pos rfl, if_pos hl, if_pos (by simpa using hl)]
      rfl
    · rw [if_pos rfl, if_pos rfl, if_neg hl, if_neg (by simpa using hl)]
      rfl
  · rw [if_neg hi, if_neg hi]
theorem qce_upd {ids : qI} {sz b : Nat} {h : Nat → Int32} {ci k : Nat} {v : Int32} {fs : List qF} (hf : fs[k]? = some none) :
    qce ids sz b (upd h k v) (.inl (ci, fs)) = .inr (ci, (fs.mapIdx (fun j f => qfv sz b h j f)).set k (.int v)) := by
  show Sum.inr (ci, fs.mapIdx (fun j f => qfv sz b (upd h k v) j f)) = _
  congr 2
  apply List.ext_getElem?
  intro i
  have hl := (List.getElem?_eq_some_iff.mp hf).1
  rw [List.getElem?_set, List.getElem?_mapIdx, List.getElem?_mapIdx]
  by_cases hi : k = i
  · subst hi
    rw [if_pos rfl, if_pos (by simpa using hl), hf]
    simp [qfv, upd]
  · rw [if_neg hi]
    congr 1
    funext f
    rcases f with _ | _ | p <;> simp [qfv, upd, Ne.symm hi]
/-! locals -/
def qAs (sz b : Nat) (pl : List Value) : List (Nat × Value) := (List.range pl.length).filterMap (fun i => match pl[i]? with
  | some v => if v = qU then none else some (i, qmv sz b v)
  | none => none)
theorem qAs_mem {sz b : Nat} {pl : List Value} {q : Nat × Value} : q ∈ qAs sz b pl ↔ ∃ v, pl[q.1]? = some v ∧ v ≠ qU ∧ q.2 = qmv sz b v := by
  unfold qAs
  rw [List.mem_filterMap]
  constructor
  · rintro ⟨i, -, h⟩
    cases hp : pl[i]? with
    | none => rw [hp] at h; cases h
    | some v =>
      rw [hp] at h
      dsimp only at h
      by_cases hv : v = qU
      · rw [if_pos hv] at h; cases h
      · rw [if_neg hv] at h
        cases h
        exact ⟨v, hp, hv, rfl⟩
  · rintro ⟨v, h1, h2, h3⟩
    refine ⟨q.1, List.mem_range.mpr (List.getElem?_eq_some_iff.mp h1).1, ?_⟩
    rw [h1]
    dsimp only
    rw [if_neg h2, ← h3]
def qLV (sz b : Nat) (lsA : Array Slot) (ml : Nat) (pl : List Value) : Prop := lv_has lsA ml (qAs sz b pl) ∧ pl.length = ml
theorem qLV.at {sz b : Nat} {lsA : Array Slot} {ml : Nat} {pl : List Value} (h : qLV sz b lsA ml pl) {i : Nat} {v : Value} (hv : pl[i]? = some v) (hu : v ≠ qU) : lsA[i]? = some (.val (qmv sz b v)) :=
  h.1.2.2 (i, qmv sz b v) (qAs_mem.mpr ⟨v, hv, hu, rfl⟩)
theorem qLV.st {sz b : Nat} {lsA lsB : Array Slot} {ml : Nat} {pl : List Value} (h : qLV sz b lsA ml pl) {i : Nat} {v : Value} (hp : qpre pl i = true)
    (hs : lv_has lsB ml ((i, qmv sz b v) :: (qAs sz b pl).filter (fun q => !(q.1 == i) && !(q.1 + 1 == i && q.2.category == 2)))) : qLV sz b lsB ml (pl.set i v) := by
  refine ⟨⟨hs.1, hs.2.1, fun q hq => ?_⟩, by rw [List.length_set]; exact h.2⟩
  obtain ⟨w, hw, hu, e⟩ := qAs_mem.mp hq
  by_cases hqi : i = q.1
  · subst hqi
    have hl := (List.getElem?_eq_some_iff.mp hw).1
    rw [List.length_set] at hl
    rw [List.getElem?_set_self hl] at hw
    cases hw
    have := hs.2.2 (q.1, qmv sz b v) List.mem_cons_self
    rw [e]
    exact this
  · rw [List.getElem?_set_ne hqi] at hw
    refine hs.2.2 q (List.mem_cons_of_mem _ (List.mem_filter.mpr ⟨qAs_mem.mpr ⟨w, hw, hu, e⟩, ?_⟩))
    have h1 : (q.1 == i) = false := by simpa using Ne.symm hqi
    rw [h1]
    by_cases h2 : q.1 + 1 = i
    · subst h2
      unfold qpre at hp
      dsimp only at hp
      rw [hw] at hp
      dsimp only at hp
      have h3 := qok_cat.mp hp
      rw [e, qmv_cat, h3]
      simp
    · simp [h2]
theorem qdrp_len : ∀ (mask : List Bool) (pl : List Value), (qdrp mask pl).length = pl.length
  | [], l => rfl
  | _ :: _, [] => rfl
  | b :: bs, v :: l => by simp [qdrp, qdrp_len bs l]
theorem qdrp_get : ∀ (mask : List Bool) (pl : List Value) (i : Nat) (v : Value), (qdrp mask pl)[i]? = some v → v ≠ qU → pl[i]? = some v
  | [], l, i, v, h, _ => h
  | _ :: _, [], i, v, h, _ => by simp [qdrp] at h
  | b :: bs, w :: l, 0, v, h, hu => by
    cases b
    · simp [qdrp] at h
      exact absurd h.symm hu
    · simpa [qdrp] using h
  | b :: bs, w :: l, i + 1, v, h, hu => by
    simp only [qdrp, List.getElem?_cons_succ] at h ⊢
    exact qdrp_get bs l i v h hu
theorem qLV.drop {sz b : Nat} {lsA : Array Slot} {ml : Nat} {pl : List Value} (h : qLV sz b lsA ml pl) (mask : List Bool) : qLV sz b lsA ml (qdrp mask pl) := by
  refine ⟨⟨h.1.1, h.1.2.1, fun q hq => ?_⟩, by rw [qdrp_len]; exact h.2⟩
  obtain ⟨v, hv, hu, e⟩ := qAs_mem.mp hq
  exact h.1.2.2 q (qAs_mem.mpr ⟨v, qdrp_get _ _ _ _ hv hu, hu, e⟩)
theorem qEnt_args {sz b : Nat} : ∀ (as : List Value) (off i : Nat) (v : Value), (qEnt as)[i]? = some v → v ≠ qU → (off + i, qmv sz b v) ∈ lv_args off (as.map (qmv sz b))
  | [], off, i, v, h, _ => by simp [qEnt] at h
  | a :: as, off, i, v, h, hu => by
    have he : qEnt (a :: as) = (match qok a with | true => [a] | false => [a, qU]) ++ qEnt as := rfl
    rw [he] at h
    show _ ∈ (off, qmv sz b a) :: lv_args (if (qmv sz b a).category = 2 then off + 2 else off + 1) (as.map (qmv sz b))
    rw [qmv_cat]
    cases hk : qok a with
    | true =>
      rw [hk] at h
      rw [if_neg (by rw [qok_cat.mp hk]; decide)]
      cases i with
      | zero => simp at h; subst h; exact List.mem_cons_self
      | succ j =>
        simp only [List.singleton_append, List.getElem?_cons_succ] at h
        have := qEnt_args (sz := sz) (b := b) as (off + 1) j v h hu
        rw [show off + 1 + j = off + (j + 1) by omega] at this
        exact List.mem_cons_of_mem _ this
    | false =>
      rw [hk] at h
      rw [if_pos (qok_cat2.mp hk)]
      match i, h with
      | 0, h => simp at h; subst h; exact List.mem_cons_self
      | 1, h => simp at h; exact absurd h.symm hu
      | j + 2, h =>
        simp only [List.cons_append, List.nil_append, List.getElem?_cons_succ] at h
        have := qEnt_args (sz := sz) (b := b) as (off + 2) j v h hu
        rw [show off + 2 + j = off + (j + 2) by omega] at this
        exact List.mem_cons_of_mem _ this
theorem qEnt_len {sz b : Nat} (as : List Value) : (lg_sl (as.map (qmv sz b))).length = (qEnt as).length := by
  induction as with
  | nil => rfl
  | cons a as ih =>
    have he : qEnt (a :: as) = (match qok a with | true => [a] | false => [a, qU]) ++ qEnt as := rfl
    have h2 : lg_sl ((a :: as).map (qmv sz b)) = (if (qmv sz b a).category = 2 then [.val (qmv sz b a), .second] else [.val (qmv sz b a)]) ++ lg_sl (as.map (qmv sz b)) := rfl
    rw [he, h2, List.length_append, List.length_append, ih, qmv_cat]
    cases hk : qok a with
    | true => rw [if_neg (by rw [qok_cat.mp hk]; decide)]; rfl
    | false => rw [if_pos (qok_cat2.mp hk)]; rfl
theorem qLV.entry {sz b ml : Nat} (as : List Value) (hl : (qEnt as).length ≤ ml) :
    qLV sz b ((lg_sl (as.map (qmv sz b)) ++ List.replicate (ml - (lg_sl (as.map (qmv sz b))).length) Slot.unset).toArray) ml (qEn ml as) := by
  have h := lv_entry (as.map (qmv sz b)) (n := ml) (by rw [qEnt_len]; exact hl)
  refine ⟨⟨h.1, h.2.1, fun q hq => ?_⟩, by unfold qEn; simp; omega⟩
  obtain ⟨v, hv, hu, e⟩ := qAs_mem.mp hq
  refine h.2.2 q ?_
  have hin : (qEnt as)[q.1]? = some v := by
    unfold qEn at hv
    by_cases hi : q.1 < (qEnt as).length
    · rwa [List.getElem?_append_left hi] at hv
    · rw [List.getElem?_append_right (by omega)] at hv
      have h2 := List.mem_of_getElem? hv
      exact absurd (List.eq_of_mem_replicate h2) hu
  have h3 := qEnt_args (sz := sz) (b := b) as 0 q.1 v hin hu
  rw [Nat.zero_add, ← e] at h3
  exact h3
end
