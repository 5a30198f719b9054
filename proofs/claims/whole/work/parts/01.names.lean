-- ===== PART A: goes FIRST, ahead of the names: the tables' words, and 'selects' of the private methods out of them =====
/-- a private method of a class that the tables say can be made, by its rows of tables_1 -/
def lw_okq (q : MethodName × Nat) : Prop := (q.1.cls ≠ "java/lang/invoke/MethodHandle" ∧ q.1.cls ≠ "java/lang/invoke/VarHandle") ∧ Cond.instantiable q.1.cls q.2 ∈ tables_1 ∧ Cond.privateMethod q.1 ∈ tables_1 ∧ Cond.instanceMethod q.1 ∈ tables_1
theorem lw_p0 : lw_okq (⟨"SacredHens$Reader", "step", "()V"⟩, 8) := ⟨⟨by decide +kernel, by decide +kernel⟩, List.mem_of_getElem? (i := 45) (by decide +kernel), List.mem_of_getElem? (i := 394) (by decide +kernel), List.mem_of_getElem? (i := 395) (by decide +kernel)⟩
theorem lw_p1 : lw_okq (⟨"SacredHens$Reader", "byteAt", "(I)I"⟩, 8) := ⟨⟨by decide +kernel, by decide +kernel⟩, List.mem_of_getElem? (i := 45) (by decide +kernel), List.mem_of_getElem? (i := 398) (by decide +kernel), List.mem_of_getElem? (i := 399) (by decide +kernel)⟩
theorem lw_p2 : lw_okq (⟨"SacredHens$Reader", "readLine", "()V"⟩, 8) := ⟨⟨by decide +kernel, by decide +kernel⟩, List.mem_of_getElem? (i := 45) (by decide +kernel), List.mem_of_getElem? (i := 408) (by decide +kernel), List.mem_of_getElem? (i := 409) (by decide +kernel)⟩
theorem lw_p3 : lw_okq (⟨"SacredHens$Reader", "readCamp", "()V"⟩, 8) := ⟨⟨by decide +kernel, by decide +kernel⟩, List.mem_of_getElem? (i := 45) (by decide +kernel), List.mem_of_getElem? (i := 412) (by decide +kernel), List.mem_of_getElem? (i := 413) (by decide +kernel)⟩
theorem lw_p4 : lw_okq (⟨"SacredHens$Reader", "takeWord", "(Ljava/lang/String;)V"⟩, 8) := ⟨⟨by decide +kernel, by decide +kernel⟩, List.mem_of_getElem? (i := 45) (by decide +kernel), List.mem_of_getElem? (i := 417) (by decide +kernel), List.mem_of_getElem? (i := 418) (by decide +kernel)⟩
theorem lw_p5 : lw_okq (⟨"SacredHens$Reader", "isWord", "(Ljava/lang/String;)Z"⟩, 8) := ⟨⟨by decide +kernel, by decide +kernel⟩, List.mem_of_getElem? (i := 45) (by decide +kernel), List.mem_of_getElem? (i := 421) (by decide +kernel), List.mem_of_getElem? (i := 422) (by decide +kernel)⟩
theorem lw_p6 : lw_okq (⟨"SacredHens$Reader", "fail", "(I)V"⟩, 8) := ⟨⟨by decide +kernel, by decide +kernel⟩, List.mem_of_getElem? (i := 45) (by decide +kernel), List.mem_of_getElem? (i := 473) (by decide +kernel), List.mem_of_getElem? (i := 474) (by decide +kernel)⟩
theorem lw_p7 : lw_okq (⟨"SacredHens$Reader", "takeNumber", "(II)I"⟩, 8) := ⟨⟨by decide +kernel, by decide +kernel⟩, List.mem_of_getElem? (i := 45) (by decide +kernel), List.mem_of_getElem? (i := 478) (by decide +kernel), List.mem_of_getElem? (i := 479) (by decide +kernel)⟩
theorem lw_p8 : lw_okq (⟨"SacredHens$Reader", "readMark", "()V"⟩, 8) := ⟨⟨by decide +kernel, by decide +kernel⟩, List.mem_of_getElem? (i := 45) (by decide +kernel), List.mem_of_getElem? (i := 486) (by decide +kernel), List.mem_of_getElem? (i := 487) (by decide +kernel)⟩
theorem lw_p9 : lw_okq (⟨"SacredHens$Reader", "readAugur", "()V"⟩, 8) := ⟨⟨by decide +kernel, by decide +kernel⟩, List.mem_of_getElem? (i := 45) (by decide +kernel), List.mem_of_getElem? (i := 491) (by decide +kernel), List.mem_of_getElem? (i := 492) (by decide +kernel)⟩
theorem lw_p10 : lw_okq (⟨"SacredHens$Reader", "readBill", "()V"⟩, 8) := ⟨⟨by decide +kernel, by decide +kernel⟩, List.mem_of_getElem? (i := 45) (by decide +kernel), List.mem_of_getElem? (i := 499) (by decide +kernel), List.mem_of_getElem? (i := 500) (by decide +kernel)⟩
theorem lw_p11 : lw_okq (⟨"SacredHens$Reader", "takeSign", "()V"⟩, 8) := ⟨⟨by decide +kernel, by decide +kernel⟩, List.mem_of_getElem? (i := 45) (by decide +kernel), List.mem_of_getElem? (i := 505) (by decide +kernel), List.mem_of_getElem? (i := 506) (by decide +kernel)⟩
theorem lw_p12 : lw_okq (⟨"SacredHens$Season", "live", "(LSacredHens$Camp;Z)V"⟩, 8) := ⟨⟨by decide +kernel, by decide +kernel⟩, List.mem_of_getElem? (i := 78) (by decide +kernel), List.mem_of_getElem? (i := 584) (by decide +kernel), List.mem_of_getElem? (i := 585) (by decide +kernel)⟩
theorem lw_p13 : lw_okq (⟨"SacredHens$Season", "layOut", "(LSacredHens$Camp;)V"⟩, 8) := ⟨⟨by decide +kernel, by decide +kernel⟩, List.mem_of_getElem? (i := 78) (by decide +kernel), List.mem_of_getElem? (i := 588) (by decide +kernel), List.mem_of_getElem? (i := 589) (by decide +kernel)⟩
theorem lw_p14 : lw_okq (⟨"SacredHens$Season", "nextDraw", "()I"⟩, 8) := ⟨⟨by decide +kernel, by decide +kernel⟩, List.mem_of_getElem? (i := 78) (by decide +kernel), List.mem_of_getElem? (i := 602) (by decide +kernel), List.mem_of_getElem? (i := 603) (by decide +kernel)⟩
theorem lw_p15 : lw_okq (⟨"SacredHens$Season", "settle", "(LSacredHens$Camp;IIZ)V"⟩, 8) := ⟨⟨by decide +kernel, by decide +kernel⟩, List.mem_of_getElem? (i := 78) (by decide +kernel), List.mem_of_getElem? (i := 611) (by decide +kernel), List.mem_of_getElem? (i := 612) (by decide +kernel)⟩
def lw_privs_1 : List (MethodName × Nat) := [(⟨"SacredHens$Reader", "step", "()V"⟩, 8), (⟨"SacredHens$Reader", "byteAt", "(I)I"⟩, 8), (⟨"SacredHens$Reader", "readLine", "()V"⟩, 8), (⟨"SacredHens$Reader", "readCamp", "()V"⟩, 8), (⟨"SacredHens$Reader", "takeWord", "(Ljava/lang/String;)V"⟩, 8), (⟨"SacredHens$Reader", "isWord", "(Ljava/lang/String;)Z"⟩, 8), (⟨"SacredHens$Reader", "fail", "(I)V"⟩, 8), (⟨"SacredHens$Reader", "takeNumber", "(II)I"⟩, 8), (⟨"SacredHens$Reader", "readMark", "()V"⟩, 8), (⟨"SacredHens$Reader", "readAugur", "()V"⟩, 8), (⟨"SacredHens$Reader", "readBill", "()V"⟩, 8), (⟨"SacredHens$Reader", "takeSign", "()V"⟩, 8), (⟨"SacredHens$Season", "live", "(LSacredHens$Camp;Z)V"⟩, 8), (⟨"SacredHens$Season", "layOut", "(LSacredHens$Camp;)V"⟩, 8), (⟨"SacredHens$Season", "nextDraw", "()I"⟩, 8), (⟨"SacredHens$Season", "settle", "(LSacredHens$Camp;IIZ)V"⟩, 8)]
theorem lw_r1 : ∀ q ∈ lw_privs_1, lw_okq q := List.forall_mem_cons.mpr ⟨lw_p0, List.forall_mem_cons.mpr ⟨lw_p1, List.forall_mem_cons.mpr ⟨lw_p2, List.forall_mem_cons.mpr ⟨lw_p3, List.forall_mem_cons.mpr ⟨lw_p4, List.forall_mem_cons.mpr ⟨lw_p5, List.forall_mem_cons.mpr ⟨lw_p6, List.forall_mem_cons.mpr ⟨lw_p7, List.forall_mem_cons.mpr ⟨lw_p8, List.forall_mem_cons.mpr ⟨lw_p9, List.forall_mem_cons.mpr ⟨lw_p10, List.forall_mem_cons.mpr ⟨lw_p11, List.forall_mem_cons.mpr ⟨lw_p12, List.forall_mem_cons.mpr ⟨lw_p13, List.forall_mem_cons.mpr ⟨lw_p14, List.forall_mem_cons.mpr ⟨lw_p15, fun _ h => absurd h List.not_mem_nil⟩⟩⟩⟩⟩⟩⟩⟩⟩⟩⟩⟩⟩⟩⟩⟩
theorem lw_p16 : lw_okq (⟨"SacredHens$Season", "whyNot", "(LSacredHens$Camp;IIZ)I"⟩, 8) := ⟨⟨by decide +kernel, by decide +kernel⟩, List.mem_of_getElem? (i := 78) (by decide +kernel), List.mem_of_getElem? (i := 615) (by decide +kernel), List.mem_of_getElem? (i := 616) (by decide +kernel)⟩
theorem lw_p17 : lw_okq (⟨"SacredHens$Season", "hasPassedAhead", "(II)Z"⟩, 8) := ⟨⟨by decide +kernel, by decide +kernel⟩, List.mem_of_getElem? (i := 78) (by decide +kernel), List.mem_of_getElem? (i := 620) (by decide +kernel), List.mem_of_getElem? (i := 621) (by decide +kernel)⟩
theorem lw_p18 : lw_okq (⟨"SacredHens", "worthOfPlan", "(I)I"⟩, 12) := ⟨⟨by decide +kernel, by decide +kernel⟩, List.mem_of_getElem? (i := 20) (by decide +kernel), List.mem_of_getElem? (i := 712) (by decide +kernel), List.mem_of_getElem? (i := 713) (by decide +kernel)⟩
theorem lw_p19 : lw_okq (⟨"SacredHens", "worthOfPlans", "(IIII)I"⟩, 12) := ⟨⟨by decide +kernel, by decide +kernel⟩, List.mem_of_getElem? (i := 20) (by decide +kernel), List.mem_of_getElem? (i := 716) (by decide +kernel), List.mem_of_getElem? (i := 717) (by decide +kernel)⟩
theorem lw_p20 : lw_okq (⟨"SacredHens$Planner", "openBill", "(II)V"⟩, 8) := ⟨⟨by decide +kernel, by decide +kernel⟩, List.mem_of_getElem? (i := 114) (by decide +kernel), List.mem_of_getElem? (i := 739) (by decide +kernel), List.mem_of_getElem? (i := 740) (by decide +kernel)⟩
theorem lw_p21 : lw_okq (⟨"SacredHens$Planner", "goBack", "(I)V"⟩, 8) := ⟨⟨by decide +kernel, by decide +kernel⟩, List.mem_of_getElem? (i := 114) (by decide +kernel), List.mem_of_getElem? (i := 743) (by decide +kernel), List.mem_of_getElem? (i := 744) (by decide +kernel)⟩
theorem lw_p22 : lw_okq (⟨"SacredHens$Planner", "settle", "(II)V"⟩, 8) := ⟨⟨by decide +kernel, by decide +kernel⟩, List.mem_of_getElem? (i := 114) (by decide +kernel), List.mem_of_getElem? (i := 753) (by decide +kernel), List.mem_of_getElem? (i := 754) (by decide +kernel)⟩
theorem lw_p23 : lw_okq (⟨"SacredHens$Planner", "firstBill", "(II)I"⟩, 8) := ⟨⟨by decide +kernel, by decide +kernel⟩, List.mem_of_getElem? (i := 114) (by decide +kernel), List.mem_of_getElem? (i := 766) (by decide +kernel), List.mem_of_getElem? (i := 767) (by decide +kernel)⟩
theorem lw_p24 : lw_okq (⟨"SacredHens$Chain", "lengthOf", "(LSacredHens$Camp;I)I"⟩, 1) := ⟨⟨by decide +kernel, by decide +kernel⟩, List.mem_of_getElem? (i := 145) (by decide +kernel), List.mem_of_getElem? (i := 794) (by decide +kernel), List.mem_of_getElem? (i := 795) (by decide +kernel)⟩
theorem lw_p25 : lw_okq (⟨"SacredHens$Chain", "dayOfPass", "(LSacredHens$Camp;II)I"⟩, 1) := ⟨⟨by decide +kernel, by decide +kernel⟩, List.mem_of_getElem? (i := 145) (by decide +kernel), List.mem_of_getElem? (i := 805) (by decide +kernel), List.mem_of_getElem? (i := 806) (by decide +kernel)⟩
theorem lw_p26 : lw_okq (⟨"SacredHens", "worthWithout", "(I)I"⟩, 12) := ⟨⟨by decide +kernel, by decide +kernel⟩, List.mem_of_getElem? (i := 20) (by decide +kernel), List.mem_of_getElem? (i := 830) (by decide +kernel), List.mem_of_getElem? (i := 831) (by decide +kernel)⟩
theorem lw_p27 : lw_okq (⟨"SacredHens$Chain", "leastCost", "(LSacredHens$Camp;I)I"⟩, 1) := ⟨⟨by decide +kernel, by decide +kernel⟩, List.mem_of_getElem? (i := 145) (by decide +kernel), List.mem_of_getElem? (i := 854) (by decide +kernel), List.mem_of_getElem? (i := 855) (by decide +kernel)⟩
theorem lw_p28 : lw_okq (⟨"SacredHens", "spoilingDay", "(I)I"⟩, 12) := ⟨⟨by decide +kernel, by decide +kernel⟩, List.mem_of_getElem? (i := 20) (by decide +kernel), List.mem_of_getElem? (i := 872) (by decide +kernel), List.mem_of_getElem? (i := 873) (by decide +kernel)⟩
theorem lw_p29 : lw_okq (⟨"SacredHens", "fewestAugurs", "(I)I"⟩, 12) := ⟨⟨by decide +kernel, by decide +kernel⟩, List.mem_of_getElem? (i := 20) (by decide +kernel), List.mem_of_getElem? (i := 897) (by decide +kernel), List.mem_of_getElem? (i := 898) (by decide +kernel)⟩
theorem lw_p30 : lw_okq (⟨"SacredHens", "loneAugurs", "(I)I"⟩, 12) := ⟨⟨by decide +kernel, by decide +kernel⟩, List.mem_of_getElem? (i := 20) (by decide +kernel), List.mem_of_getElem? (i := 913) (by decide +kernel), List.mem_of_getElem? (i := 914) (by decide +kernel)⟩
theorem lw_p31 : lw_okq (⟨"SacredHens", "fallingWith", "(I)I"⟩, 12) := ⟨⟨by decide +kernel, by decide +kernel⟩, List.mem_of_getElem? (i := 20) (by decide +kernel), List.mem_of_getElem? (i := 943) (by decide +kernel), List.mem_of_getElem? (i := 944) (by decide +kernel)⟩
def lw_privs_2 : List (MethodName × Nat) := [(⟨"SacredHens$Season", "whyNot", "(LSacredHens$Camp;IIZ)I"⟩, 8), (⟨"SacredHens$Season", "hasPassedAhead", "(II)Z"⟩, 8), (⟨"SacredHens", "worthOfPlan", "(I)I"⟩, 12), (⟨"SacredHens", "worthOfPlans", "(IIII)I"⟩, 12), (⟨"SacredHens$Planner", "openBill", "(II)V"⟩, 8), (⟨"SacredHens$Planner", "goBack", "(I)V"⟩, 8), (⟨"SacredHens$Planner", "settle", "(II)V"⟩, 8), (⟨"SacredHens$Planner", "firstBill", "(II)I"⟩, 8), (⟨"SacredHens$Chain", "lengthOf", "(LSacredHens$Camp;I)I"⟩, 1), (⟨"SacredHens$Chain", "dayOfPass", "(LSacredHens$Camp;II)I"⟩, 1), (⟨"SacredHens", "worthWithout", "(I)I"⟩, 12), (⟨"SacredHens$Chain", "leastCost", "(LSacredHens$Camp;I)I"⟩, 1), (⟨"SacredHens", "spoilingDay", "(I)I"⟩, 12), (⟨"SacredHens", "fewestAugurs", "(I)I"⟩, 12), (⟨"SacredHens", "loneAugurs", "(I)I"⟩, 12), (⟨"SacredHens", "fallingWith", "(I)I"⟩, 12)]
theorem lw_r2 : ∀ q ∈ lw_privs_2, lw_okq q := List.forall_mem_cons.mpr ⟨lw_p16, List.forall_mem_cons.mpr ⟨lw_p17, List.forall_mem_cons.mpr ⟨lw_p18, List.forall_mem_cons.mpr ⟨lw_p19, List.forall_mem_cons.mpr ⟨lw_p20, List.forall_mem_cons.mpr ⟨lw_p21, List.forall_mem_cons.mpr ⟨lw_p22, List.forall_mem_cons.mpr ⟨lw_p23, List.forall_mem_cons.mpr ⟨lw_p24, List.forall_mem_cons.mpr ⟨lw_p25, List.forall_mem_cons.mpr ⟨lw_p26, List.forall_mem_cons.mpr ⟨lw_p27, List.forall_mem_cons.mpr ⟨lw_p28, List.forall_mem_cons.mpr ⟨lw_p29, List.forall_mem_cons.mpr ⟨lw_p30, List.forall_mem_cons.mpr ⟨lw_p31, fun _ h => absurd h List.not_mem_nil⟩⟩⟩⟩⟩⟩⟩⟩⟩⟩⟩⟩⟩⟩⟩⟩
theorem lw_p32 : lw_okq (⟨"SacredHens", "lookAtSeen", "(I)I"⟩, 12) := ⟨⟨by decide +kernel, by decide +kernel⟩, List.mem_of_getElem? (i := 20) (by decide +kernel), List.mem_of_getElem? (i := 968) (by decide +kernel), List.mem_of_getElem? (i := 969) (by decide +kernel)⟩
theorem lw_p33 : lw_okq (⟨"SacredHens$Hens", "readRow", "(LSacredHens$Camp;LSacredHens$Row;)Z"⟩, 7) := ⟨⟨by decide +kernel, by decide +kernel⟩, List.mem_of_getElem? (i := 157) (by decide +kernel), List.mem_of_getElem? (i := 983) (by decide +kernel), List.mem_of_getElem? (i := 984) (by decide +kernel)⟩
theorem lw_p34 : lw_okq (⟨"SacredHens$Hens", "weigh", "(LSacredHens$Camp;II)V"⟩, 7) := ⟨⟨by decide +kernel, by decide +kernel⟩, List.mem_of_getElem? (i := 157) (by decide +kernel), List.mem_of_getElem? (i := 987) (by decide +kernel), List.mem_of_getElem? (i := 988) (by decide +kernel)⟩
theorem lw_p35 : lw_okq (⟨"SacredHens", "lookAtList", "(I)I"⟩, 12) := ⟨⟨by decide +kernel, by decide +kernel⟩, List.mem_of_getElem? (i := 20) (by decide +kernel), List.mem_of_getElem? (i := 1029) (by decide +kernel), List.mem_of_getElem? (i := 1030) (by decide +kernel)⟩
theorem lw_p36 : lw_okq (⟨"SacredHens$SignList", "wins", "()I"⟩, 1) := ⟨⟨by decide +kernel, by decide +kernel⟩, List.mem_of_getElem? (i := 189) (by decide +kernel), List.mem_of_getElem? (i := 1059) (by decide +kernel), List.mem_of_getElem? (i := 1060) (by decide +kernel)⟩
theorem lw_p37 : lw_okq (⟨"SacredHens", "slotsInUse", "()I"⟩, 12) := ⟨⟨by decide +kernel, by decide +kernel⟩, List.mem_of_getElem? (i := 20) (by decide +kernel), List.mem_of_getElem? (i := 1164) (by decide +kernel), List.mem_of_getElem? (i := 1165) (by decide +kernel)⟩
theorem lw_p38 : lw_okq (⟨"SacredHensModel", "advance", "()V"⟩, 42) := ⟨⟨by decide +kernel, by decide +kernel⟩, List.mem_of_getElem? (i := 1211) (by decide +kernel), List.mem_of_getElem? (i := 1372) (by decide +kernel), List.mem_of_getElem? (i := 1373) (by decide +kernel)⟩
theorem lw_p39 : lw_okq (⟨"SacredHensModel", "see", "(I)I"⟩, 42) := ⟨⟨by decide +kernel, by decide +kernel⟩, List.mem_of_getElem? (i := 1211) (by decide +kernel), List.mem_of_getElem? (i := 1376) (by decide +kernel), List.mem_of_getElem? (i := 1377) (by decide +kernel)⟩
theorem lw_p40 : lw_okq (⟨"SacredHensModel", "good", "()Z"⟩, 42) := ⟨⟨by decide +kernel, by decide +kernel⟩, List.mem_of_getElem? (i := 1211) (by decide +kernel), List.mem_of_getElem? (i := 1386) (by decide +kernel), List.mem_of_getElem? (i := 1387) (by decide +kernel)⟩
theorem lw_p41 : lw_okq (⟨"SacredHensModel", "readLine", "()V"⟩, 42) := ⟨⟨by decide +kernel, by decide +kernel⟩, List.mem_of_getElem? (i := 1211) (by decide +kernel), List.mem_of_getElem? (i := 1390) (by decide +kernel), List.mem_of_getElem? (i := 1391) (by decide +kernel)⟩
theorem lw_p42 : lw_okq (⟨"SacredHensModel", "readFirst", "()V"⟩, 42) := ⟨⟨by decide +kernel, by decide +kernel⟩, List.mem_of_getElem? (i := 1211) (by decide +kernel), List.mem_of_getElem? (i := 1394) (by decide +kernel), List.mem_of_getElem? (i := 1395) (by decide +kernel)⟩
theorem lw_p43 : lw_okq (⟨"SacredHensModel", "needs", "(Ljava/lang/String;)V"⟩, 42) := ⟨⟨by decide +kernel, by decide +kernel⟩, List.mem_of_getElem? (i := 1211) (by decide +kernel), List.mem_of_getElem? (i := 1399) (by decide +kernel), List.mem_of_getElem? (i := 1400) (by decide +kernel)⟩
theorem lw_p44 : lw_okq (⟨"SacredHensModel", "takes", "(Ljava/lang/String;)Z"⟩, 42) := ⟨⟨by decide +kernel, by decide +kernel⟩, List.mem_of_getElem? (i := 1211) (by decide +kernel), List.mem_of_getElem? (i := 1403) (by decide +kernel), List.mem_of_getElem? (i := 1404) (by decide +kernel)⟩
theorem lw_p45 : lw_okq (⟨"SacredHensModel", "is", "(Ljava/lang/String;)Z"⟩, 42) := ⟨⟨by decide +kernel, by decide +kernel⟩, List.mem_of_getElem? (i := 1211) (by decide +kernel), List.mem_of_getElem? (i := 1407) (by decide +kernel), List.mem_of_getElem? (i := 1408) (by decide +kernel)⟩
theorem lw_p46 : lw_okq (⟨"SacredHensModel", "errs", "(I)V"⟩, 42) := ⟨⟨by decide +kernel, by decide +kernel⟩, List.mem_of_getElem? (i := 1211) (by decide +kernel), List.mem_of_getElem? (i := 1413) (by decide +kernel), List.mem_of_getElem? (i := 1414) (by decide +kernel)⟩
theorem lw_p47 : lw_okq (⟨"SacredHensModel", "told", "(Ljava/lang/String;II)I"⟩, 42) := ⟨⟨by decide +kernel, by decide +kernel⟩, List.mem_of_getElem? (i := 1211) (by decide +kernel), List.mem_of_getElem? (i := 1418) (by decide +kernel), List.mem_of_getElem? (i := 1419) (by decide +kernel)⟩
def lw_privs_3 : List (MethodName × Nat) := [(⟨"SacredHens", "lookAtSeen", "(I)I"⟩, 12), (⟨"SacredHens$Hens", "readRow", "(LSacredHens$Camp;LSacredHens$Row;)Z"⟩, 7), (⟨"SacredHens$Hens", "weigh", "(LSacredHens$Camp;II)V"⟩, 7), (⟨"SacredHens", "lookAtList", "(I)I"⟩, 12), (⟨"SacredHens$SignList", "wins", "()I"⟩, 1), (⟨"SacredHens", "slotsInUse", "()I"⟩, 12), (⟨"SacredHensModel", "advance", "()V"⟩, 42), (⟨"SacredHensModel", "see", "(I)I"⟩, 42), (⟨"SacredHensModel", "good", "()Z"⟩, 42), (⟨"SacredHensModel", "readLine", "()V"⟩, 42), (⟨"SacredHensModel", "readFirst", "()V"⟩, 42), (⟨"SacredHensModel", "needs", "(Ljava/lang/String;)V"⟩, 42), (⟨"SacredHensModel", "takes", "(Ljava/lang/String;)Z"⟩, 42), (⟨"SacredHensModel", "is", "(Ljava/lang/String;)Z"⟩, 42), (⟨"SacredHensModel", "errs", "(I)V"⟩, 42), (⟨"SacredHensModel", "told", "(Ljava/lang/String;II)I"⟩, 42)]
theorem lw_r3 : ∀ q ∈ lw_privs_3, lw_okq q := List.forall_mem_cons.mpr ⟨lw_p32, List.forall_mem_cons.mpr ⟨lw_p33, List.forall_mem_cons.mpr ⟨lw_p34, List.forall_mem_cons.mpr ⟨lw_p35, List.forall_mem_cons.mpr ⟨lw_p36, List.forall_mem_cons.mpr ⟨lw_p37, List.forall_mem_cons.mpr ⟨lw_p38, List.forall_mem_cons.mpr ⟨lw_p39, List.forall_mem_cons.mpr ⟨lw_p40, List.forall_mem_cons.mpr ⟨lw_p41, List.forall_mem_cons.mpr ⟨lw_p42, List.forall_mem_cons.mpr ⟨lw_p43, List.forall_mem_cons.mpr ⟨lw_p44, List.forall_mem_cons.mpr ⟨lw_p45, List.forall_mem_cons.mpr ⟨lw_p46, List.forall_mem_cons.mpr ⟨lw_p47, fun _ h => absurd h List.not_mem_nil⟩⟩⟩⟩⟩⟩⟩⟩⟩⟩⟩⟩⟩⟩⟩⟩
theorem lw_p48 : lw_okq (⟨"SacredHensModel", "number", "(II)I"⟩, 42) := ⟨⟨by decide +kernel, by decide +kernel⟩, List.mem_of_getElem? (i := 1211) (by decide +kernel), List.mem_of_getElem? (i := 1422) (by decide +kernel), List.mem_of_getElem? (i := 1423) (by decide +kernel)⟩
theorem lw_p49 : lw_okq (⟨"SacredHensModel", "readNext", "()V"⟩, 42) := ⟨⟨by decide +kernel, by decide +kernel⟩, List.mem_of_getElem? (i := 1211) (by decide +kernel), List.mem_of_getElem? (i := 1429) (by decide +kernel), List.mem_of_getElem? (i := 1430) (by decide +kernel)⟩
theorem lw_p50 : lw_okq (⟨"SacredHensModel", "readAugur", "()V"⟩, 42) := ⟨⟨by decide +kernel, by decide +kernel⟩, List.mem_of_getElem? (i := 1211) (by decide +kernel), List.mem_of_getElem? (i := 1436) (by decide +kernel), List.mem_of_getElem? (i := 1437) (by decide +kernel)⟩
theorem lw_p51 : lw_okq (⟨"SacredHensModel", "readBill", "()V"⟩, 42) := ⟨⟨by decide +kernel, by decide +kernel⟩, List.mem_of_getElem? (i := 1211) (by decide +kernel), List.mem_of_getElem? (i := 1443) (by decide +kernel), List.mem_of_getElem? (i := 1444) (by decide +kernel)⟩
theorem lw_p52 : lw_okq (⟨"SacredHensModel", "isAugur", "(I)Z"⟩, 42) := ⟨⟨by decide +kernel, by decide +kernel⟩, List.mem_of_getElem? (i := 1211) (by decide +kernel), List.mem_of_getElem? (i := 1453) (by decide +kernel), List.mem_of_getElem? (i := 1454) (by decide +kernel)⟩
theorem lw_p53 : lw_okq (⟨"SacredHensModel", "ofAugur", "(II)I"⟩, 42) := ⟨⟨by decide +kernel, by decide +kernel⟩, List.mem_of_getElem? (i := 1211) (by decide +kernel), List.mem_of_getElem? (i := 1457) (by decide +kernel), List.mem_of_getElem? (i := 1458) (by decide +kernel)⟩
theorem lw_p54 : lw_okq (⟨"SacredHensModel", "isBill", "(I)Z"⟩, 42) := ⟨⟨by decide +kernel, by decide +kernel⟩, List.mem_of_getElem? (i := 1211) (by decide +kernel), List.mem_of_getElem? (i := 1465) (by decide +kernel), List.mem_of_getElem? (i := 1466) (by decide +kernel)⟩
theorem lw_p55 : lw_okq (⟨"SacredHensModel", "of", "(II)I"⟩, 42) := ⟨⟨by decide +kernel, by decide +kernel⟩, List.mem_of_getElem? (i := 1211) (by decide +kernel), List.mem_of_getElem? (i := 1469) (by decide +kernel), List.mem_of_getElem? (i := 1470) (by decide +kernel)⟩
theorem lw_p56 : lw_okq (⟨"SacredHensModel", "isCamp", "()Z"⟩, 42) := ⟨⟨by decide +kernel, by decide +kernel⟩, List.mem_of_getElem? (i := 1211) (by decide +kernel), List.mem_of_getElem? (i := 1477) (by decide +kernel), List.mem_of_getElem? (i := 1478) (by decide +kernel)⟩
theorem lw_p57 : lw_okq (⟨"SacredHensModel", "isSide", "(I)Z"⟩, 42) := ⟨⟨by decide +kernel, by decide +kernel⟩, List.mem_of_getElem? (i := 1211) (by decide +kernel), List.mem_of_getElem? (i := 1485) (by decide +kernel), List.mem_of_getElem? (i := 1486) (by decide +kernel)⟩
theorem lw_p58 : lw_okq (⟨"SacredHensModel", "skyOf", "(I)I"⟩, 42) := ⟨⟨by decide +kernel, by decide +kernel⟩, List.mem_of_getElem? (i := 1211) (by decide +kernel), List.mem_of_getElem? (i := 1489) (by decide +kernel), List.mem_of_getElem? (i := 1490) (by decide +kernel)⟩
theorem lw_p59 : lw_okq (⟨"SacredHensModel", "allAugurs", "()I"⟩, 42) := ⟨⟨by decide +kernel, by decide +kernel⟩, List.mem_of_getElem? (i := 1211) (by decide +kernel), List.mem_of_getElem? (i := 1493) (by decide +kernel), List.mem_of_getElem? (i := 1494) (by decide +kernel)⟩
theorem lw_p60 : lw_okq (⟨"SacredHensModel", "skyBy", "(II)I"⟩, 42) := ⟨⟨by decide +kernel, by decide +kernel⟩, List.mem_of_getElem? (i := 1211) (by decide +kernel), List.mem_of_getElem? (i := 1497) (by decide +kernel), List.mem_of_getElem? (i := 1498) (by decide +kernel)⟩
theorem lw_p61 : lw_okq (⟨"SacredHensModel", "daysOf", "(I)I"⟩, 42) := ⟨⟨by decide +kernel, by decide +kernel⟩, List.mem_of_getElem? (i := 1211) (by decide +kernel), List.mem_of_getElem? (i := 1504) (by decide +kernel), List.mem_of_getElem? (i := 1505) (by decide +kernel)⟩
theorem lw_p62 : lw_okq (⟨"SacredHensModel", "isDay", "(J)Z"⟩, 42) := ⟨⟨by decide +kernel, by decide +kernel⟩, List.mem_of_getElem? (i := 1211) (by decide +kernel), List.mem_of_getElem? (i := 1512) (by decide +kernel), List.mem_of_getElem? (i := 1513) (by decide +kernel)⟩
theorem lw_p63 : lw_okq (⟨"SacredHensModel", "asksDay", "(I)Z"⟩, 42) := ⟨⟨by decide +kernel, by decide +kernel⟩, List.mem_of_getElem? (i := 1211) (by decide +kernel), List.mem_of_getElem? (i := 1520) (by decide +kernel), List.mem_of_getElem? (i := 1521) (by decide +kernel)⟩
def lw_privs_4 : List (MethodName × Nat) := [(⟨"SacredHensModel", "number", "(II)I"⟩, 42), (⟨"SacredHensModel", "readNext", "()V"⟩, 42), (⟨"SacredHensModel", "readAugur", "()V"⟩, 42), (⟨"SacredHensModel", "readBill", "()V"⟩, 42), (⟨"SacredHensModel", "isAugur", "(I)Z"⟩, 42), (⟨"SacredHensModel", "ofAugur", "(II)I"⟩, 42), (⟨"SacredHensModel", "isBill", "(I)Z"⟩, 42), (⟨"SacredHensModel", "of", "(II)I"⟩, 42), (⟨"SacredHensModel", "isCamp", "()Z"⟩, 42), (⟨"SacredHensModel", "isSide", "(I)Z"⟩, 42), (⟨"SacredHensModel", "skyOf", "(I)I"⟩, 42), (⟨"SacredHensModel", "allAugurs", "()I"⟩, 42), (⟨"SacredHensModel", "skyBy", "(II)I"⟩, 42), (⟨"SacredHensModel", "daysOf", "(I)I"⟩, 42), (⟨"SacredHensModel", "isDay", "(J)Z"⟩, 42), (⟨"SacredHensModel", "asksDay", "(I)Z"⟩, 42)]
theorem lw_r4 : ∀ q ∈ lw_privs_4, lw_okq q := List.forall_mem_cons.mpr ⟨lw_p48, List.forall_mem_cons.mpr ⟨lw_p49, List.forall_mem_cons.mpr ⟨lw_p50, List.forall_mem_cons.mpr ⟨lw_p51, List.forall_mem_cons.mpr ⟨lw_p52, List.forall_mem_cons.mpr ⟨lw_p53, List.forall_mem_cons.mpr ⟨lw_p54, List.forall_mem_cons.mpr ⟨lw_p55, List.forall_mem_cons.mpr ⟨lw_p56, List.forall_mem_cons.mpr ⟨lw_p57, List.forall_mem_cons.mpr ⟨lw_p58, List.forall_mem_cons.mpr ⟨lw_p59, List.forall_mem_cons.mpr ⟨lw_p60, List.forall_mem_cons.mpr ⟨lw_p61, List.forall_mem_cons.mpr ⟨lw_p62, List.forall_mem_cons.mpr ⟨lw_p63, fun _ h => absurd h List.not_mem_nil⟩⟩⟩⟩⟩⟩⟩⟩⟩⟩⟩⟩⟩⟩⟩⟩
theorem lw_p64 : lw_okq (⟨"SacredHensModel", "asksCamp", "()Z"⟩, 42) := ⟨⟨by decide +kernel, by decide +kernel⟩, List.mem_of_getElem? (i := 1211) (by decide +kernel), List.mem_of_getElem? (i := 1524) (by decide +kernel), List.mem_of_getElem? (i := 1525) (by decide +kernel)⟩
theorem lw_p65 : lw_okq (⟨"SacredHensModel", "layAsked", "()V"⟩, 42) := ⟨⟨by decide +kernel, by decide +kernel⟩, List.mem_of_getElem? (i := 1211) (by decide +kernel), List.mem_of_getElem? (i := 1528) (by decide +kernel), List.mem_of_getElem? (i := 1529) (by decide +kernel)⟩
theorem lw_p66 : lw_okq (⟨"SacredHensModel", "goDays", "()V"⟩, 42) := ⟨⟨by decide +kernel, by decide +kernel⟩, List.mem_of_getElem? (i := 1211) (by decide +kernel), List.mem_of_getElem? (i := 1532) (by decide +kernel), List.mem_of_getElem? (i := 1533) (by decide +kernel)⟩
theorem lw_p67 : lw_okq (⟨"SacredHensModel", "doEat", "(I)Z"⟩, 42) := ⟨⟨by decide +kernel, by decide +kernel⟩, List.mem_of_getElem? (i := 1211) (by decide +kernel), List.mem_of_getElem? (i := 1536) (by decide +kernel), List.mem_of_getElem? (i := 1537) (by decide +kernel)⟩
theorem lw_p68 : lw_okq (⟨"SacredHensModel", "drawsWell", "()Z"⟩, 42) := ⟨⟨by decide +kernel, by decide +kernel⟩, List.mem_of_getElem? (i := 1211) (by decide +kernel), List.mem_of_getElem? (i := 1540) (by decide +kernel), List.mem_of_getElem? (i := 1541) (by decide +kernel)⟩
theorem lw_p69 : lw_okq (⟨"SacredHensModel", "whyOn", "(IIZ)I"⟩, 42) := ⟨⟨by decide +kernel, by decide +kernel⟩, List.mem_of_getElem? (i := 1211) (by decide +kernel), List.mem_of_getElem? (i := 1549) (by decide +kernel), List.mem_of_getElem? (i := 1550) (by decide +kernel)⟩
theorem lw_p70 : lw_okq (⟨"SacredHensModel", "actsOf", "(I)I"⟩, 42) := ⟨⟨by decide +kernel, by decide +kernel⟩, List.mem_of_getElem? (i := 1211) (by decide +kernel), List.mem_of_getElem? (i := 1569) (by decide +kernel), List.mem_of_getElem? (i := 1570) (by decide +kernel)⟩
theorem lw_p71 : lw_okq (⟨"SacredHensModel", "allDays", "()I"⟩, 42) := ⟨⟨by decide +kernel, by decide +kernel⟩, List.mem_of_getElem? (i := 1211) (by decide +kernel), List.mem_of_getElem? (i := 1581) (by decide +kernel), List.mem_of_getElem? (i := 1582) (by decide +kernel)⟩
theorem lw_p72 : lw_okq (⟨"SacredHensModel", "runOf", "(I)I"⟩, 42) := ⟨⟨by decide +kernel, by decide +kernel⟩, List.mem_of_getElem? (i := 1211) (by decide +kernel), List.mem_of_getElem? (i := 1585) (by decide +kernel), List.mem_of_getElem? (i := 1586) (by decide +kernel)⟩
theorem lw_p73 : lw_okq (⟨"SacredHensModel", "asksBill", "(I)Z"⟩, 42) := ⟨⟨by decide +kernel, by decide +kernel⟩, List.mem_of_getElem? (i := 1211) (by decide +kernel), List.mem_of_getElem? (i := 1602) (by decide +kernel), List.mem_of_getElem? (i := 1603) (by decide +kernel)⟩
theorem lw_p74 : lw_okq (⟨"SacredHensModel", "layPlans", "(I)I"⟩, 42) := ⟨⟨by decide +kernel, by decide +kernel⟩, List.mem_of_getElem? (i := 1211) (by decide +kernel), List.mem_of_getElem? (i := 1618) (by decide +kernel), List.mem_of_getElem? (i := 1619) (by decide +kernel)⟩
theorem lw_p75 : lw_okq (⟨"SacredHensModel", "layOwn", "(I)V"⟩, 42) := ⟨⟨by decide +kernel, by decide +kernel⟩, List.mem_of_getElem? (i := 1211) (by decide +kernel), List.mem_of_getElem? (i := 1622) (by decide +kernel), List.mem_of_getElem? (i := 1623) (by decide +kernel)⟩
theorem lw_p76 : lw_okq (⟨"SacredHensModel", "freeDays", "(I)I"⟩, 42) := ⟨⟨by decide +kernel, by decide +kernel⟩, List.mem_of_getElem? (i := 1211) (by decide +kernel), List.mem_of_getElem? (i := 1626) (by decide +kernel), List.mem_of_getElem? (i := 1627) (by decide +kernel)⟩
theorem lw_p77 : lw_okq (⟨"SacredHensModel", "layState", "(III)V"⟩, 42) := ⟨⟨by decide +kernel, by decide +kernel⟩, List.mem_of_getElem? (i := 1211) (by decide +kernel), List.mem_of_getElem? (i := 1630) (by decide +kernel), List.mem_of_getElem? (i := 1631) (by decide +kernel)⟩
theorem lw_p78 : lw_okq (⟨"SacredHensModel", "then", "(I)I"⟩, 42) := ⟨⟨by decide +kernel, by decide +kernel⟩, List.mem_of_getElem? (i := 1211) (by decide +kernel), List.mem_of_getElem? (i := 1637) (by decide +kernel), List.mem_of_getElem? (i := 1638) (by decide +kernel)⟩
theorem lw_p79 : lw_okq (⟨"SacredHensModel", "mayPass", "(II)Z"⟩, 42) := ⟨⟨by decide +kernel, by decide +kernel⟩, List.mem_of_getElem? (i := 1211) (by decide +kernel), List.mem_of_getElem? (i := 1641) (by decide +kernel), List.mem_of_getElem? (i := 1642) (by decide +kernel)⟩
def lw_privs_5 : List (MethodName × Nat) := [(⟨"SacredHensModel", "asksCamp", "()Z"⟩, 42), (⟨"SacredHensModel", "layAsked", "()V"⟩, 42), (⟨"SacredHensModel", "goDays", "()V"⟩, 42), (⟨"SacredHensModel", "doEat", "(I)Z"⟩, 42), (⟨"SacredHensModel", "drawsWell", "()Z"⟩, 42), (⟨"SacredHensModel", "whyOn", "(IIZ)I"⟩, 42), (⟨"SacredHensModel", "actsOf", "(I)I"⟩, 42), (⟨"SacredHensModel", "allDays", "()I"⟩, 42), (⟨"SacredHensModel", "runOf", "(I)I"⟩, 42), (⟨"SacredHensModel", "asksBill", "(I)Z"⟩, 42), (⟨"SacredHensModel", "layPlans", "(I)I"⟩, 42), (⟨"SacredHensModel", "layOwn", "(I)V"⟩, 42), (⟨"SacredHensModel", "freeDays", "(I)I"⟩, 42), (⟨"SacredHensModel", "layState", "(III)V"⟩, 42), (⟨"SacredHensModel", "then", "(I)I"⟩, 42), (⟨"SacredHensModel", "mayPass", "(II)Z"⟩, 42)]
theorem lw_r5 : ∀ q ∈ lw_privs_5, lw_okq q := List.forall_mem_cons.mpr ⟨lw_p64, List.forall_mem_cons.mpr ⟨lw_p65, List.forall_mem_cons.mpr ⟨lw_p66, List.forall_mem_cons.mpr ⟨lw_p67, List.forall_mem_cons.mpr ⟨lw_p68, List.forall_mem_cons.mpr ⟨lw_p69, List.forall_mem_cons.mpr ⟨lw_p70, List.forall_mem_cons.mpr ⟨lw_p71, List.forall_mem_cons.mpr ⟨lw_p72, List.forall_mem_cons.mpr ⟨lw_p73, List.forall_mem_cons.mpr ⟨lw_p74, List.forall_mem_cons.mpr ⟨lw_p75, List.forall_mem_cons.mpr ⟨lw_p76, List.forall_mem_cons.mpr ⟨lw_p77, List.forall_mem_cons.mpr ⟨lw_p78, List.forall_mem_cons.mpr ⟨lw_p79, fun _ h => absurd h List.not_mem_nil⟩⟩⟩⟩⟩⟩⟩⟩⟩⟩⟩⟩⟩⟩⟩⟩
theorem lw_p80 : lw_okq (⟨"SacredHensModel", "startState", "()I"⟩, 42) := ⟨⟨by decide +kernel, by decide +kernel⟩, List.mem_of_getElem? (i := 1211) (by decide +kernel), List.mem_of_getElem? (i := 1645) (by decide +kernel), List.mem_of_getElem? (i := 1646) (by decide +kernel)⟩
theorem lw_p81 : lw_okq (⟨"SacredHensModel", "withoutOf", "(I)I"⟩, 42) := ⟨⟨by decide +kernel, by decide +kernel⟩, List.mem_of_getElem? (i := 1211) (by decide +kernel), List.mem_of_getElem? (i := 1669) (by decide +kernel), List.mem_of_getElem? (i := 1670) (by decide +kernel)⟩
theorem lw_p82 : lw_okq (⟨"SacredHensModel", "needsOf", "(I)I"⟩, 42) := ⟨⟨by decide +kernel, by decide +kernel⟩, List.mem_of_getElem? (i := 1211) (by decide +kernel), List.mem_of_getElem? (i := 1681) (by decide +kernel), List.mem_of_getElem? (i := 1682) (by decide +kernel)⟩
theorem lw_p83 : lw_okq (⟨"SacredHensModel", "soonestBy", "(II)I"⟩, 42) := ⟨⟨by decide +kernel, by decide +kernel⟩, List.mem_of_getElem? (i := 1211) (by decide +kernel), List.mem_of_getElem? (i := 1700) (by decide +kernel), List.mem_of_getElem? (i := 1701) (by decide +kernel)⟩
theorem lw_p84 : lw_okq (⟨"SacredHensModel", "stopOf", "(I)I"⟩, 42) := ⟨⟨by decide +kernel, by decide +kernel⟩, List.mem_of_getElem? (i := 1211) (by decide +kernel), List.mem_of_getElem? (i := 1712) (by decide +kernel), List.mem_of_getElem? (i := 1713) (by decide +kernel)⟩
theorem lw_p85 : lw_okq (⟨"SacredHensModel", "spoilOf", "(I)I"⟩, 42) := ⟨⟨by decide +kernel, by decide +kernel⟩, List.mem_of_getElem? (i := 1211) (by decide +kernel), List.mem_of_getElem? (i := 1724) (by decide +kernel), List.mem_of_getElem? (i := 1725) (by decide +kernel)⟩
theorem lw_p86 : lw_okq (⟨"SacredHensModel", "chosenOf", "(I)I"⟩, 42) := ⟨⟨by decide +kernel, by decide +kernel⟩, List.mem_of_getElem? (i := 1211) (by decide +kernel), List.mem_of_getElem? (i := 1744) (by decide +kernel), List.mem_of_getElem? (i := 1745) (by decide +kernel)⟩
theorem lw_p87 : lw_okq (⟨"SacredHensModel", "sideAugurs", "(I)I"⟩, 42) := ⟨⟨by decide +kernel, by decide +kernel⟩, List.mem_of_getElem? (i := 1211) (by decide +kernel), List.mem_of_getElem? (i := 1748) (by decide +kernel), List.mem_of_getElem? (i := 1749) (by decide +kernel)⟩
theorem lw_p88 : lw_okq (⟨"SacredHensModel", "fallsBy", "(I)I"⟩, 42) := ⟨⟨by decide +kernel, by decide +kernel⟩, List.mem_of_getElem? (i := 1211) (by decide +kernel), List.mem_of_getElem? (i := 1789) (by decide +kernel), List.mem_of_getElem? (i := 1790) (by decide +kernel)⟩
theorem lw_p89 : lw_okq (⟨"SacredHensModel", "worthBy", "(I)I"⟩, 42) := ⟨⟨by decide +kernel, by decide +kernel⟩, List.mem_of_getElem? (i := 1211) (by decide +kernel), List.mem_of_getElem? (i := 1797) (by decide +kernel), List.mem_of_getElem? (i := 1798) (by decide +kernel)⟩
theorem lw_p90 : lw_okq (⟨"SacredHensModel", "layPairs", "(I)I"⟩, 42) := ⟨⟨by decide +kernel, by decide +kernel⟩, List.mem_of_getElem? (i := 1211) (by decide +kernel), List.mem_of_getElem? (i := 1805) (by decide +kernel), List.mem_of_getElem? (i := 1806) (by decide +kernel)⟩
theorem lw_p91 : lw_okq (⟨"SacredHensModel", "numberAt", "(II)J"⟩, 42) := ⟨⟨by decide +kernel, by decide +kernel⟩, List.mem_of_getElem? (i := 1211) (by decide +kernel), List.mem_of_getElem? (i := 1813) (by decide +kernel), List.mem_of_getElem? (i := 1814) (by decide +kernel)⟩
theorem lw_p92 : lw_okq (⟨"SacredHensModel", "eatsBy", "(II)Z"⟩, 42) := ⟨⟨by decide +kernel, by decide +kernel⟩, List.mem_of_getElem? (i := 1211) (by decide +kernel), List.mem_of_getElem? (i := 1817) (by decide +kernel), List.mem_of_getElem? (i := 1818) (by decide +kernel)⟩
theorem lw_p93 : lw_okq (⟨"SacredHensModel", "fedSet", "()I"⟩, 42) := ⟨⟨by decide +kernel, by decide +kernel⟩, List.mem_of_getElem? (i := 1211) (by decide +kernel), List.mem_of_getElem? (i := 1825) (by decide +kernel), List.mem_of_getElem? (i := 1826) (by decide +kernel)⟩
theorem lw_p94 : lw_okq (⟨"SacredHensModel", "askOf", "()I"⟩, 42) := ⟨⟨by decide +kernel, by decide +kernel⟩, List.mem_of_getElem? (i := 1211) (by decide +kernel), List.mem_of_getElem? (i := 1841) (by decide +kernel), List.mem_of_getElem? (i := 1842) (by decide +kernel)⟩
theorem lw_p95 : lw_okq (⟨"SacredHensModel", "layList", "(IZ)I"⟩, 42) := ⟨⟨by decide +kernel, by decide +kernel⟩, List.mem_of_getElem? (i := 1211) (by decide +kernel), List.mem_of_getElem? (i := 1853) (by decide +kernel), List.mem_of_getElem? (i := 1854) (by decide +kernel)⟩
def lw_privs_6 : List (MethodName × Nat) := [(⟨"SacredHensModel", "startState", "()I"⟩, 42), (⟨"SacredHensModel", "withoutOf", "(I)I"⟩, 42), (⟨"SacredHensModel", "needsOf", "(I)I"⟩, 42), (⟨"SacredHensModel", "soonestBy", "(II)I"⟩, 42), (⟨"SacredHensModel", "stopOf", "(I)I"⟩, 42), (⟨"SacredHensModel", "spoilOf", "(I)I"⟩, 42), (⟨"SacredHensModel", "chosenOf", "(I)I"⟩, 42), (⟨"SacredHensModel", "sideAugurs", "(I)I"⟩, 42), (⟨"SacredHensModel", "fallsBy", "(I)I"⟩, 42), (⟨"SacredHensModel", "worthBy", "(I)I"⟩, 42), (⟨"SacredHensModel", "layPairs", "(I)I"⟩, 42), (⟨"SacredHensModel", "numberAt", "(II)J"⟩, 42), (⟨"SacredHensModel", "eatsBy", "(II)Z"⟩, 42), (⟨"SacredHensModel", "fedSet", "()I"⟩, 42), (⟨"SacredHensModel", "askOf", "()I"⟩, 42), (⟨"SacredHensModel", "layList", "(IZ)I"⟩, 42)]
theorem lw_r6 : ∀ q ∈ lw_privs_6, lw_okq q := List.forall_mem_cons.mpr ⟨lw_p80, List.forall_mem_cons.mpr ⟨lw_p81, List.forall_mem_cons.mpr ⟨lw_p82, List.forall_mem_cons.mpr ⟨lw_p83, List.forall_mem_cons.mpr ⟨lw_p84, List.forall_mem_cons.mpr ⟨lw_p85, List.forall_mem_cons.mpr ⟨lw_p86, List.forall_mem_cons.mpr ⟨lw_p87, List.forall_mem_cons.mpr ⟨lw_p88, List.forall_mem_cons.mpr ⟨lw_p89, List.forall_mem_cons.mpr ⟨lw_p90, List.forall_mem_cons.mpr ⟨lw_p91, List.forall_mem_cons.mpr ⟨lw_p92, List.forall_mem_cons.mpr ⟨lw_p93, List.forall_mem_cons.mpr ⟨lw_p94, List.forall_mem_cons.mpr ⟨lw_p95, fun _ h => absurd h List.not_mem_nil⟩⟩⟩⟩⟩⟩⟩⟩⟩⟩⟩⟩⟩⟩⟩⟩
theorem lw_p96 : lw_okq (⟨"SacredHensModel", "keepAct", "(I)Z"⟩, 42) := ⟨⟨by decide +kernel, by decide +kernel⟩, List.mem_of_getElem? (i := 1211) (by decide +kernel), List.mem_of_getElem? (i := 1906) (by decide +kernel), List.mem_of_getElem? (i := 1907) (by decide +kernel)⟩
theorem lw_p97 : lw_okq (⟨"SacredHensModel", "goDrawn", "(J)I"⟩, 42) := ⟨⟨by decide +kernel, by decide +kernel⟩, List.mem_of_getElem? (i := 1211) (by decide +kernel), List.mem_of_getElem? (i := 1930) (by decide +kernel), List.mem_of_getElem? (i := 1931) (by decide +kernel)⟩
def lw_privs_7 : List (MethodName × Nat) := [(⟨"SacredHensModel", "keepAct", "(I)Z"⟩, 42), (⟨"SacredHensModel", "goDrawn", "(J)I"⟩, 42)]
theorem lw_r7 : ∀ q ∈ lw_privs_7, lw_okq q := List.forall_mem_cons.mpr ⟨lw_p96, List.forall_mem_cons.mpr ⟨lw_p97, fun _ h => absurd h List.not_mem_nil⟩⟩
def lw_privs : List (MethodName × Nat) := lw_privs_1 ++ (lw_privs_2 ++ (lw_privs_3 ++ (lw_privs_4 ++ (lw_privs_5 ++ (lw_privs_6 ++ (lw_privs_7))))))
def lw_tbl : List Cond := k2_sels lw_privs ++ tables_1
theorem lw_privs_ok : ∀ q ∈ lw_privs, lw_okq q := by
  show ∀ q ∈ lw_privs_1 ++ (lw_privs_2 ++ (lw_privs_3 ++ (lw_privs_4 ++ (lw_privs_5 ++ (lw_privs_6 ++ (lw_privs_7)))))), lw_okq q
  exact List.forall_mem_append.mpr ⟨lw_r1, List.forall_mem_append.mpr ⟨lw_r2, List.forall_mem_append.mpr ⟨lw_r3, List.forall_mem_append.mpr ⟨lw_r4, List.forall_mem_append.mpr ⟨lw_r5, List.forall_mem_append.mpr ⟨lw_r6, lw_r7⟩⟩⟩⟩⟩⟩
-- ===== end of PART A; then your names; then what follows =====
def RX0 : String := "SacredHens$Camp"
def TX0 : u_T := fun k => match k with
  | 0 => ("SacredHens$Camp", "lines", "I", false)
  | 1 => ("SacredHens$Camp", "days", "I", false)
  | 2 => ("SacredHens$Camp", "hungerTold", "I", false)
  | 3 => ("SacredHens$Camp", "greed", "I", false)
  | 4 => ("SacredHens$Camp", "odds", "I", false)
  | 5 => ("SacredHens$Camp", "marked", "I", false)
  | 6 => ("SacredHens$Camp", "augurs", "I", false)
  | 7 => ("SacredHens$Camp", "augurSide", "[I", true)
  | 8 => ("SacredHens$Camp", "augurFirst", "[I", true)
  | 9 => ("SacredHens$Camp", "augurLast", "[I", true)
  | 10 => ("SacredHens$Camp", "bills", "I", false)
  | 11 => ("SacredHens$Camp", "billSide", "[I", true)
  | 12 => ("SacredHens$Camp", "billWorth", "[I", true)
  | 13 => ("SacredHens$Camp", "billAfter", "[I", true)
  | 14 => ("SacredHens$Camp", "acts", "I", false)
  | 15 => ("SacredHens$Camp", "actDay", "[I", true)
  | _ => ("SacredHens$Camp", "actBill", "[I", true)
def tyX0 : Nat → FieldType := fun k => match k with
  | 0 => .int
  | 1 => .int
  | 2 => .int
  | 3 => .int
  | 4 => .int
  | 5 => .int
  | 6 => .int
  | 7 => .array .int
  | 8 => .array .int
  | 9 => .array .int
  | 10 => .int
  | 11 => .array .int
  | 12 => .array .int
  | 13 => .array .int
  | 14 => .int
  | 15 => .array .int
  | _ => .array .int
theorem nmX0 : ∀ a, a < 17 → ∀ b, b < 17 → a ≠ b → (TX0 a).2.1 ≠ (TX0 b).2.1 := by decide +kernel
theorem tyX0_ok : ∀ k, k < 17 → parseFieldDescriptor (TX0 k).2.2.1 = some (tyX0 k) := by decide +kernel
abbrev cX0_init : ByteArray := prog_2_method_1_code
def yX0_init : MethodName := ⟨RX0, "<init>", "()V"⟩
abbrev cX0_forget : ByteArray := prog_2_method_2_code
def yX0_forget : MethodName := ⟨RX0, "forget", "()V"⟩
abbrev cX0_becomeLike : ByteArray := prog_2_method_3_code
def yX0_becomeLike : MethodName := ⟨RX0, "becomeLike", "(LSacredHens$Camp;)V"⟩
abbrev cX0_isTold : ByteArray := prog_2_method_4_code
def yX0_isTold : MethodName := ⟨RX0, "isTold", "()Z"⟩
abbrev cX0_hasDay : ByteArray := prog_2_method_5_code
def yX0_hasDay : MethodName := ⟨RX0, "hasDay", "(I)Z"⟩
abbrev cX0_hasSide : ByteArray := prog_2_method_6_code
def yX0_hasSide : MethodName := ⟨RX0, "hasSide", "(I)Z"⟩
abbrev cX0_hasAugur : ByteArray := prog_2_method_7_code
def yX0_hasAugur : MethodName := ⟨RX0, "hasAugur", "(I)Z"⟩
abbrev cX0_hasBill : ByteArray := prog_2_method_8_code
def yX0_hasBill : MethodName := ⟨RX0, "hasBill", "(I)Z"⟩
abbrev cX0_allDays : ByteArray := prog_2_method_9_code
def yX0_allDays : MethodName := ⟨RX0, "allDays", "()I"⟩
abbrev cX0_allBills : ByteArray := prog_2_method_10_code
def yX0_allBills : MethodName := ⟨RX0, "allBills", "()I"⟩
abbrev cX0_augursOf : ByteArray := prog_2_method_11_code
def yX0_augursOf : MethodName := ⟨RX0, "augursOf", "(I)I"⟩
abbrev cX0_billsOf : ByteArray := prog_2_method_12_code
def yX0_billsOf : MethodName := ⟨RX0, "billsOf", "(I)I"⟩
abbrev cX0_daysOfAugur : ByteArray := prog_2_method_13_code
def yX0_daysOfAugur : MethodName := ⟨RX0, "daysOfAugur", "(I)I"⟩
abbrev cX0_skyOf : ByteArray := prog_2_method_14_code
def yX0_skyOf : MethodName := ⟨RX0, "skyOf", "(I)I"⟩
abbrev cX0_augursOn : ByteArray := prog_2_method_15_code
def yX0_augursOn : MethodName := ⟨RX0, "augursOn", "(I)I"⟩
abbrev cX0_clearDays : ByteArray := prog_2_method_16_code
def yX0_clearDays : MethodName := ⟨RX0, "clearDays", "(I)I"⟩
abbrev cX0_worthOf : ByteArray := prog_2_method_17_code
def yX0_worthOf : MethodName := ⟨RX0, "worthOf", "(I)I"⟩
abbrev cX0_needsOf : ByteArray := prog_2_method_18_code
def yX0_needsOf : MethodName := ⟨RX0, "needsOf", "(I)I"⟩
abbrev cX0_heirsOf : ByteArray := prog_2_method_19_code
def yX0_heirsOf : MethodName := ⟨RX0, "heirsOf", "(I)I"⟩
abbrev cX0_firstHungryDay : ByteArray := prog_2_method_20_code
def yX0_firstHungryDay : MethodName := ⟨RX0, "firstHungryDay", "()I"⟩
abbrev cX0_fedDays : ByteArray := prog_2_method_21_code
def yX0_fedDays : MethodName := ⟨RX0, "fedDays", "()I"⟩
abbrev cX0_askedDays : ByteArray := prog_2_method_22_code
def yX0_askedDays : MethodName := ⟨RX0, "askedDays", "()I"⟩
abbrev cX0_isFree : ByteArray := prog_2_method_23_code
def yX0_isFree : MethodName := ⟨RX0, "isFree", "(I)Z"⟩
abbrev cX0_isAskedFor : ByteArray := prog_2_method_24_code
def yX0_isAskedFor : MethodName := ⟨RX0, "isAskedFor", "(I)Z"⟩
abbrev cX0_act : ByteArray := prog_2_method_25_code
def yX0_act : MethodName := ⟨RX0, "act", "(II)V"⟩
def RX1 : String := "SacredHens$Chain"
def TX1 : u_T := fun k => match k with
  | _ => ("SacredHens$Chain", "cost", "[I", true)
def tyX1 : Nat → FieldType := fun k => match k with
  | _ => .array .int
theorem nmX1 : ∀ a, a < 1 → ∀ b, b < 1 → a ≠ b → (TX1 a).2.1 ≠ (TX1 b).2.1 := by decide +kernel
theorem tyX1_ok : ∀ k, k < 1 → parseFieldDescriptor (TX1 k).2.2.1 = some (tyX1 k) := by decide +kernel
abbrev cX1_init : ByteArray := prog_3_method_1_code
def yX1_init : MethodName := ⟨RX1, "<init>", "()V"⟩
abbrev cX1_soonestDay : ByteArray := prog_3_method_2_code
def yX1_soonestDay : MethodName := ⟨RX1, "soonestDay", "(LSacredHens$Camp;I)I"⟩
abbrev cX1_latestDay : ByteArray := prog_3_method_3_code
def yX1_latestDay : MethodName := ⟨RX1, "latestDay", "(LSacredHens$Camp;I)I"⟩
abbrev cX1_fewestToStop : ByteArray := prog_3_method_4_code
def yX1_fewestToStop : MethodName := ⟨RX1, "fewestToStop", "(LSacredHens$Camp;I)I"⟩
abbrev cX1_daysToStop : ByteArray := prog_3_method_5_code
def yX1_daysToStop : MethodName := ⟨RX1, "daysToStop", "(LSacredHens$Camp;I)I"⟩
abbrev cX1_lengthOf : ByteArray := prog_3_method_6_code
def yX1_lengthOf : MethodName := ⟨RX1, "lengthOf", "(LSacredHens$Camp;I)I"⟩
abbrev cX1_dayOfPass : ByteArray := prog_3_method_7_code
def yX1_dayOfPass : MethodName := ⟨RX1, "dayOfPass", "(LSacredHens$Camp;II)I"⟩
abbrev cX1_leastCost : ByteArray := prog_3_method_8_code
def yX1_leastCost : MethodName := ⟨RX1, "leastCost", "(LSacredHens$Camp;I)I"⟩
def RX2 : String := "SacredHens$Hens"
def TX2 : u_T := fun k => match k with
  | 0 => ("SacredHens$Hens", "pairs", "I", false)
  | 1 => ("SacredHens$Hens", "fedDays", "I", false)
  | 2 => ("SacredHens$Hens", "perhapsUnfed", "I", false)
  | 3 => ("SacredHens$Hens", "leastHunger", "I", false)
  | 4 => ("SacredHens$Hens", "eatingOn", "[I", true)
  | 5 => ("SacredHens$Hens", "seenEating", "I", false)
  | _ => ("SacredHens$Hens", "seenFasting", "I", false)
def tyX2 : Nat → FieldType := fun k => match k with
  | 0 => .int
  | 1 => .int
  | 2 => .int
  | 3 => .int
  | 4 => .array .int
  | 5 => .int
  | _ => .int
theorem nmX2 : ∀ a, a < 7 → ∀ b, b < 7 → a ≠ b → (TX2 a).2.1 ≠ (TX2 b).2.1 := by decide +kernel
theorem tyX2_ok : ∀ k, k < 7 → parseFieldDescriptor (TX2 k).2.2.1 = some (tyX2 k) := by decide +kernel
abbrev cX2_init : ByteArray := prog_4_method_1_code
def yX2_init : MethodName := ⟨RX2, "<init>", "()V"⟩
abbrev cX2_look : ByteArray := prog_4_method_2_code
def yX2_look : MethodName := ⟨RX2, "look", "(LSacredHens$Camp;LSacredHens$Row;)Z"⟩
abbrev cX2_readRow : ByteArray := prog_4_method_3_code
def yX2_readRow : MethodName := ⟨RX2, "readRow", "(LSacredHens$Camp;LSacredHens$Row;)Z"⟩
abbrev cX2_weigh : ByteArray := prog_4_method_4_code
def yX2_weigh : MethodName := ⟨RX2, "weigh", "(LSacredHens$Camp;II)V"⟩
abbrev cX2_eatingDays : ByteArray := prog_4_method_5_code
def yX2_eatingDays : MethodName := ⟨RX2, "eatingDays", "(LSacredHens$Camp;II)I"⟩
abbrev cX2_leftAtWorst : ByteArray := prog_4_method_6_code
def yX2_leftAtWorst : MethodName := ⟨RX2, "leftAtWorst", "(I)I"⟩
abbrev cX2_dayToKnow : ByteArray := prog_4_method_7_code
def yX2_dayToKnow : MethodName := ⟨RX2, "dayToKnow", "(I)I"⟩
def RX3 : String := "SacredHens$Planner"
def TX3 : u_T := fun k => match k with
  | 0 => ("SacredHens$Planner", "most", "[I", true)
  | 1 => ("SacredHens$Planner", "ways", "[I", true)
  | 2 => ("SacredHens$Planner", "weight", "[I", true)
  | 3 => ("SacredHens$Planner", "ahead", "[I", true)
  | 4 => ("SacredHens$Planner", "openOn", "[I", true)
  | 5 => ("SacredHens$Planner", "from", "I", false)
  | 6 => ("SacredHens$Planner", "days", "I", false)
  | _ => ("SacredHens$Planner", "pause", "I", false)
def tyX3 : Nat → FieldType := fun k => match k with
  | 0 => .array .int
  | 1 => .array .int
  | 2 => .array .int
  | 3 => .array .int
  | 4 => .array .int
  | 5 => .int
  | 6 => .int
  | _ => .int
theorem nmX3 : ∀ a, a < 8 → ∀ b, b < 8 → a ≠ b → (TX3 a).2.1 ≠ (TX3 b).2.1 := by decide +kernel
theorem tyX3_ok : ∀ k, k < 8 → parseFieldDescriptor (TX3 k).2.2.1 = some (tyX3 k) := by decide +kernel
abbrev cX3_init : ByteArray := prog_5_method_1_code
def yX3_init : MethodName := ⟨RX3, "<init>", "()V"⟩
abbrev cX3_billsByWorth : ByteArray := prog_5_method_2_code
def yX3_billsByWorth : MethodName := ⟨RX3, "billsByWorth", "(LSacredHens$Camp;)V"⟩
abbrev cX3_billsAlike : ByteArray := prog_5_method_3_code
def yX3_billsAlike : MethodName := ⟨RX3, "billsAlike", "(LSacredHens$Camp;)V"⟩
abbrev cX3_solve : ByteArray := prog_5_method_4_code
def yX3_solve : MethodName := ⟨RX3, "solve", "(LSacredHens$Camp;IIII)I"⟩
abbrev cX3_openBill : ByteArray := prog_5_method_5_code
def yX3_openBill : MethodName := ⟨RX3, "openBill", "(II)V"⟩
abbrev cX3_goBack : ByteArray := prog_5_method_6_code
def yX3_goBack : MethodName := ⟨RX3, "goBack", "(I)V"⟩
abbrev cX3_settle : ByteArray := prog_5_method_7_code
def yX3_settle : MethodName := ⟨RX3, "settle", "(II)V"⟩
abbrev cX3_howManyPlans : ByteArray := prog_5_method_8_code
def yX3_howManyPlans : MethodName := ⟨RX3, "howManyPlans", "()I"⟩
abbrev cX3_daysOfFirstPlan : ByteArray := prog_5_method_9_code
def yX3_daysOfFirstPlan : MethodName := ⟨RX3, "daysOfFirstPlan", "()I"⟩
abbrev cX3_billInFirstPlan : ByteArray := prog_5_method_10_code
def yX3_billInFirstPlan : MethodName := ⟨RX3, "billInFirstPlan", "(I)I"⟩
abbrev cX3_firstBill : ByteArray := prog_5_method_11_code
def yX3_firstBill : MethodName := ⟨RX3, "firstBill", "(II)I"⟩
def RX4 : String := "SacredHens$Reader"
def TX4 : u_T := fun k => match k with
  | 0 => ("SacredHens$Reader", "faultKind", "I", false)
  | 1 => ("SacredHens$Reader", "faultPlace", "I", false)
  | 2 => ("SacredHens$Reader", "tape", "LSacredHens$Tape;", false)
  | 3 => ("SacredHens$Reader", "camp", "LSacredHens$Camp;", false)
  | 4 => ("SacredHens$Reader", "kind", "I", false)
  | 5 => ("SacredHens$Reader", "start", "I", false)
  | 6 => ("SacredHens$Reader", "stop", "I", false)
  | _ => ("SacredHens$Reader", "number", "I", false)
def tyX4 : Nat → FieldType := fun k => match k with
  | 0 => .int
  | 1 => .int
  | 2 => .object "SacredHens$Tape"
  | 3 => .object "SacredHens$Camp"
  | 4 => .int
  | 5 => .int
  | 6 => .int
  | _ => .int
theorem nmX4 : ∀ a, a < 8 → ∀ b, b < 8 → a ≠ b → (TX4 a).2.1 ≠ (TX4 b).2.1 := by decide +kernel
theorem tyX4_ok : ∀ k, k < 8 → parseFieldDescriptor (TX4 k).2.2.1 = some (tyX4 k) := by decide +kernel
abbrev cX4_init : ByteArray := prog_6_method_1_code
def yX4_init : MethodName := ⟨RX4, "<init>", "()V"⟩
abbrev cX4_read : ByteArray := prog_6_method_2_code
def yX4_read : MethodName := ⟨RX4, "read", "(LSacredHens$Tape;LSacredHens$Camp;)Z"⟩
abbrev cX4_readLine : ByteArray := prog_6_method_3_code
def yX4_readLine : MethodName := ⟨RX4, "readLine", "()V"⟩
abbrev cX4_readCamp : ByteArray := prog_6_method_4_code
def yX4_readCamp : MethodName := ⟨RX4, "readCamp", "()V"⟩
abbrev cX4_readMark : ByteArray := prog_6_method_5_code
def yX4_readMark : MethodName := ⟨RX4, "readMark", "()V"⟩
abbrev cX4_readAugur : ByteArray := prog_6_method_6_code
def yX4_readAugur : MethodName := ⟨RX4, "readAugur", "()V"⟩
abbrev cX4_readBill : ByteArray := prog_6_method_7_code
def yX4_readBill : MethodName := ⟨RX4, "readBill", "()V"⟩
abbrev cX4_takeSign : ByteArray := prog_6_method_8_code
def yX4_takeSign : MethodName := ⟨RX4, "takeSign", "()V"⟩
abbrev cX4_takeWord : ByteArray := prog_6_method_9_code
def yX4_takeWord : MethodName := ⟨RX4, "takeWord", "(Ljava/lang/String;)V"⟩
abbrev cX4_takeNumber : ByteArray := prog_6_method_10_code
def yX4_takeNumber : MethodName := ⟨RX4, "takeNumber", "(II)I"⟩
abbrev cX4_fail : ByteArray := prog_6_method_11_code
def yX4_fail : MethodName := ⟨RX4, "fail", "(I)V"⟩
abbrev cX4_isWord : ByteArray := prog_6_method_12_code
def yX4_isWord : MethodName := ⟨RX4, "isWord", "(Ljava/lang/String;)Z"⟩
abbrev cX4_step : ByteArray := prog_6_method_13_code
def yX4_step : MethodName := ⟨RX4, "step", "()V"⟩
abbrev cX4_byteAt : ByteArray := prog_6_method_14_code
def yX4_byteAt : MethodName := ⟨RX4, "byteAt", "(I)I"⟩
abbrev cX4_kindOf : ByteArray := prog_6_method_15_code
def yX4_kindOf : MethodName := ⟨RX4, "kindOf", "(I)I"⟩
def RX5 : String := "SacredHens$Row"
def TX5 : u_T := fun k => match k with
  | 0 => ("SacredHens$Row", "numbers", "[J", true)
  | 1 => ("SacredHens$Row", "width", "I", false)
  | _ => ("SacredHens$Row", "size", "I", false)
def tyX5 : Nat → FieldType := fun k => match k with
  | 0 => .array .long
  | 1 => .int
  | _ => .int
theorem nmX5 : ∀ a, a < 3 → ∀ b, b < 3 → a ≠ b → (TX5 a).2.1 ≠ (TX5 b).2.1 := by decide +kernel
theorem tyX5_ok : ∀ k, k < 3 → parseFieldDescriptor (TX5 k).2.2.1 = some (tyX5 k) := by decide +kernel
abbrev cX5_init : ByteArray := prog_7_method_1_code
def yX5_init : MethodName := ⟨RX5, "<init>", "()V"⟩
abbrev cX5_isThere : ByteArray := prog_7_method_2_code
def yX5_isThere : MethodName := ⟨RX5, "isThere", "()Z"⟩
abbrev cX5_begin : ByteArray := prog_7_method_3_code
def yX5_begin : MethodName := ⟨RX5, "begin", "(II)V"⟩
abbrev cX5_cut : ByteArray := prog_7_method_4_code
def yX5_cut : MethodName := ⟨RX5, "cut", "(J)J"⟩
abbrev cX5_reaches : ByteArray := prog_7_method_5_code
def yX5_reaches : MethodName := ⟨RX5, "reaches", "(II)Z"⟩
def RX6 : String := "SacredHens$Season"
def TX6 : u_T := fun k => match k with
  | 0 => ("SacredHens$Season", "hungerOn", "[I", true)
  | 1 => ("SacredHens$Season", "askDay", "[I", true)
  | 2 => ("SacredHens$Season", "passDay", "[I", true)
  | 3 => ("SacredHens$Season", "reason", "[I", true)
  | 4 => ("SacredHens$Season", "draws", "I", false)
  | 5 => ("SacredHens$Season", "doneOn", "[I", true)
  | 6 => ("SacredHens$Season", "clearOf", "[I", true)
  | _ => ("SacredHens$Season", "drawState", "J", false)
def tyX6 : Nat → FieldType := fun k => match k with
  | 0 => .array .int
  | 1 => .array .int
  | 2 => .array .int
  | 3 => .array .int
  | 4 => .int
  | 5 => .array .int
  | 6 => .array .int
  | _ => .long
theorem nmX6 : ∀ a, a < 8 → ∀ b, b < 8 → a ≠ b → (TX6 a).2.1 ≠ (TX6 b).2.1 := by decide +kernel
theorem tyX6_ok : ∀ k, k < 8 → parseFieldDescriptor (TX6 k).2.2.1 = some (tyX6 k) := by decide +kernel
abbrev cX6_init : ByteArray := prog_8_method_1_code
def yX6_init : MethodName := ⟨RX6, "<init>", "()V"⟩
abbrev cX6_play : ByteArray := prog_8_method_2_code
def yX6_play : MethodName := ⟨RX6, "play", "(LSacredHens$Camp;)V"⟩
abbrev cX6_draw : ByteArray := prog_8_method_3_code
def yX6_draw : MethodName := ⟨RX6, "draw", "(LSacredHens$Camp;I)V"⟩
abbrev cX6_live : ByteArray := prog_8_method_4_code
def yX6_live : MethodName := ⟨RX6, "live", "(LSacredHens$Camp;Z)V"⟩
abbrev cX6_layOut : ByteArray := prog_8_method_5_code
def yX6_layOut : MethodName := ⟨RX6, "layOut", "(LSacredHens$Camp;)V"⟩
abbrev cX6_nextDraw : ByteArray := prog_8_method_6_code
def yX6_nextDraw : MethodName := ⟨RX6, "nextDraw", "()I"⟩
abbrev cX6_settle : ByteArray := prog_8_method_7_code
def yX6_settle : MethodName := ⟨RX6, "settle", "(LSacredHens$Camp;IIZ)V"⟩
abbrev cX6_whyNot : ByteArray := prog_8_method_8_code
def yX6_whyNot : MethodName := ⟨RX6, "whyNot", "(LSacredHens$Camp;IIZ)I"⟩
abbrev cX6_hasPassedAhead : ByteArray := prog_8_method_9_code
def yX6_hasPassedAhead : MethodName := ⟨RX6, "hasPassedAhead", "(II)Z"⟩
abbrev cX6_couldPass : ByteArray := prog_8_method_10_code
def yX6_couldPass : MethodName := ⟨RX6, "couldPass", "(LSacredHens$Camp;II)Z"⟩
abbrev cX6_lastActAhead : ByteArray := prog_8_method_11_code
def yX6_lastActAhead : MethodName := ⟨RX6, "lastActAhead", "(I)I"⟩
abbrev cX6_passingOn : ByteArray := prog_8_method_12_code
def yX6_passingOn : MethodName := ⟨RX6, "passingOn", "(LSacredHens$Camp;I)I"⟩
abbrev cX6_passing : ByteArray := prog_8_method_13_code
def yX6_passing : MethodName := ⟨RX6, "passing", "(LSacredHens$Camp;)I"⟩
def RX7 : String := "SacredHens$SignList"
def TX7 : u_T := fun k => match k with
  | _ => ("SacredHens$SignList", "counts", "[I", true)
def tyX7 : Nat → FieldType := fun k => match k with
  | _ => .array .int
theorem nmX7 : ∀ a, a < 1 → ∀ b, b < 1 → a ≠ b → (TX7 a).2.1 ≠ (TX7 b).2.1 := by decide +kernel
theorem tyX7_ok : ∀ k, k < 1 → parseFieldDescriptor (TX7 k).2.2.1 = some (tyX7 k) := by decide +kernel
abbrev cX7_init : ByteArray := prog_9_method_1_code
def yX7_init : MethodName := ⟨RX7, "<init>", "()V"⟩
abbrev cX7_look : ByteArray := prog_9_method_2_code
def yX7_look : MethodName := ⟨RX7, "look", "(LSacredHens$Row;)Z"⟩
abbrev cX7_howMany : ByteArray := prog_9_method_3_code
def yX7_howMany : MethodName := ⟨RX7, "howMany", "(II)I"⟩
abbrev cX7_withSign : ByteArray := prog_9_method_4_code
def yX7_withSign : MethodName := ⟨RX7, "withSign", "(I)I"⟩
abbrev cX7_wins : ByteArray := prog_9_method_5_code
def yX7_wins : MethodName := ⟨RX7, "wins", "()I"⟩
abbrev cX7_allWays : ByteArray := prog_9_method_6_code
def yX7_allWays : MethodName := ⟨RX7, "allWays", "()J"⟩
abbrev cX7_waysAsGood : ByteArray := prog_9_method_7_code
def yX7_waysAsGood : MethodName := ⟨RX7, "waysAsGood", "()J"⟩
abbrev cX7_choose : ByteArray := prog_9_method_8_code
def yX7_choose : MethodName := ⟨RX7, "choose", "(II)J"⟩
def RX8 : String := "SacredHens$Tape"
def TX8 : u_T := fun k => match k with
  | 0 => ("SacredHens$Tape", "bytes", "[B", true)
  | _ => ("SacredHens$Tape", "length", "I", false)
def tyX8 : Nat → FieldType := fun k => match k with
  | 0 => .array .byte
  | _ => .int
theorem nmX8 : ∀ a, a < 2 → ∀ b, b < 2 → a ≠ b → (TX8 a).2.1 ≠ (TX8 b).2.1 := by decide +kernel
theorem tyX8_ok : ∀ k, k < 2 → parseFieldDescriptor (TX8 k).2.2.1 = some (tyX8 k) := by decide +kernel
abbrev cX8_init : ByteArray := prog_10_method_1_code
def yX8_init : MethodName := ⟨RX8, "<init>", "()V"⟩
abbrev cX8_append : ByteArray := prog_10_method_2_code
def yX8_append : MethodName := ⟨RX8, "append", "(I)V"⟩
def RX9 : String := "SacredHens"
def TX9 : u_T := fun k => match k with
  | 0 => ("SacredHens", "tape", "LSacredHens$Tape;", true)
  | 1 => ("SacredHens", "reader", "LSacredHens$Reader;", true)
  | 2 => ("SacredHens", "season", "LSacredHens$Season;", true)
  | 3 => ("SacredHens", "planner", "LSacredHens$Planner;", true)
  | 4 => ("SacredHens", "chain", "LSacredHens$Chain;", true)
  | 5 => ("SacredHens", "slots", "[LSacredHens$Row;", true)
  | 6 => ("SacredHens", "hens", "LSacredHens$Hens;", true)
  | 7 => ("SacredHens", "signs", "LSacredHens$SignList;", true)
  | 8 => ("SacredHens", "images", "[LSacredHens$Camp;", true)
  | 9 => ("SacredHens", "imageKept", "[Z", true)
  | 10 => ("SacredHens", "now", "LSacredHens$Camp;", false)
  | _ => ("SacredHens", "spare", "LSacredHens$Camp;", false)
def tyX9 : Nat → FieldType := fun k => match k with
  | 0 => .object "SacredHens$Tape"
  | 1 => .object "SacredHens$Reader"
  | 2 => .object "SacredHens$Season"
  | 3 => .object "SacredHens$Planner"
  | 4 => .object "SacredHens$Chain"
  | 5 => .array (.object "SacredHens$Row")
  | 6 => .object "SacredHens$Hens"
  | 7 => .object "SacredHens$SignList"
  | 8 => .array (.object "SacredHens$Camp")
  | 9 => .array .boolean
  | 10 => .object "SacredHens$Camp"
  | _ => .object "SacredHens$Camp"
theorem nmX9 : ∀ a, a < 12 → ∀ b, b < 12 → a ≠ b → (TX9 a).2.1 ≠ (TX9 b).2.1 := by decide +kernel
theorem tyX9_ok : ∀ k, k < 12 → parseFieldDescriptor (TX9 k).2.2.1 = some (tyX9 k) := by decide +kernel
abbrev cX9_init : ByteArray := prog_1_method_1_code
def yX9_init : MethodName := ⟨RX9, "<init>", "()V"⟩
abbrev cX9_feed : ByteArray := prog_1_method_2_code
def yX9_feed : MethodName := ⟨RX9, "feed", "(IIIII)I"⟩
abbrev cX9_end : ByteArray := prog_1_method_3_code
def yX9_end : MethodName := ⟨RX9, "end", "(I)I"⟩
abbrev cX9_camp : ByteArray := prog_1_method_4_code
def yX9_camp : MethodName := ⟨RX9, "camp", "()I"⟩
abbrev cX9_fault : ByteArray := prog_1_method_5_code
def yX9_fault : MethodName := ⟨RX9, "fault", "(I)I"⟩
abbrev cX9_augur : ByteArray := prog_1_method_6_code
def yX9_augur : MethodName := ⟨RX9, "augur", "(II)I"⟩
abbrev cX9_bill : ByteArray := prog_1_method_7_code
def yX9_bill : MethodName := ⟨RX9, "bill", "(II)I"⟩
abbrev cX9_marks : ByteArray := prog_1_method_8_code
def yX9_marks : MethodName := ⟨RX9, "marks", "()I"⟩
abbrev cX9_sky : ByteArray := prog_1_method_9_code
def yX9_sky : MethodName := ⟨RX9, "sky", "(I)I"⟩
abbrev cX9_watch : ByteArray := prog_1_method_10_code
def yX9_watch : MethodName := ⟨RX9, "watch", "(I)I"⟩
abbrev cX9_hunger : ByteArray := prog_1_method_11_code
def yX9_hunger : MethodName := ⟨RX9, "hunger", "(I)I"⟩
abbrev cX9_eat : ByteArray := prog_1_method_12_code
def yX9_eat : MethodName := ⟨RX9, "eat", "()I"⟩
abbrev cX9_open : ByteArray := prog_1_method_13_code
def yX9_open : MethodName := ⟨RX9, "open", "(I)I"⟩
abbrev cX9_best : ByteArray := prog_1_method_14_code
def yX9_best : MethodName := ⟨RX9, "best", "(I)I"⟩
abbrev cX9_asked : ByteArray := prog_1_method_15_code
def yX9_asked : MethodName := ⟨RX9, "asked", "()I"⟩
abbrev cX9_fattened : ByteArray := prog_1_method_16_code
def yX9_fattened : MethodName := ⟨RX9, "fattened", "()I"⟩
abbrev cX9_fast : ByteArray := prog_1_method_17_code
def yX9_fast : MethodName := ⟨RX9, "fast", "()I"⟩
abbrev cX9_first : ByteArray := prog_1_method_18_code
def yX9_first : MethodName := ⟨RX9, "first", "(I)I"⟩
abbrev cX9_passed : ByteArray := prog_1_method_19_code
def yX9_passed : MethodName := ⟨RX9, "passed", "(I)I"⟩
abbrev cX9_when : ByteArray := prog_1_method_20_code
def yX9_when : MethodName := ⟨RX9, "when", "(I)I"⟩
abbrev cX9_why : ByteArray := prog_1_method_21_code
def yX9_why : MethodName := ⟨RX9, "why", "(I)I"⟩
abbrev cX9_worth : ByteArray := prog_1_method_22_code
def yX9_worth : MethodName := ⟨RX9, "worth", "(I)I"⟩
abbrev cX9_plan : ByteArray := prog_1_method_23_code
def yX9_plan : MethodName := ⟨RX9, "plan", "(I)I"⟩
abbrev cX9_planned : ByteArray := prog_1_method_24_code
def yX9_planned : MethodName := ⟨RX9, "planned", "(II)I"⟩
abbrev cX9_ways : ByteArray := prog_1_method_25_code
def yX9_ways : MethodName := ⟨RX9, "ways", "(I)I"⟩
abbrev cX9_many : ByteArray := prog_1_method_26_code
def yX9_many : MethodName := ⟨RX9, "many", "(I)I"⟩
abbrev cX9_soonest : ByteArray := prog_1_method_27_code
def yX9_soonest : MethodName := ⟨RX9, "soonest", "(I)I"⟩
abbrev cX9_latest : ByteArray := prog_1_method_28_code
def yX9_latest : MethodName := ⟨RX9, "latest", "(I)I"⟩
abbrev cX9_deepest : ByteArray := prog_1_method_29_code
def yX9_deepest : MethodName := ⟨RX9, "deepest", "()I"⟩
abbrev cX9_without : ByteArray := prog_1_method_30_code
def yX9_without : MethodName := ⟨RX9, "without", "(I)I"⟩
abbrev cX9_value : ByteArray := prog_1_method_31_code
def yX9_value : MethodName := ⟨RX9, "value", "(I)I"⟩
abbrev cX9_together : ByteArray := prog_1_method_32_code
def yX9_together : MethodName := ⟨RX9, "together", "()I"⟩
abbrev cX9_stop : ByteArray := prog_1_method_33_code
def yX9_stop : MethodName := ⟨RX9, "stop", "(I)I"⟩
abbrev cX9_stops : ByteArray := prog_1_method_34_code
def yX9_stops : MethodName := ⟨RX9, "stops", "(I)I"⟩
abbrev cX9_spoil : ByteArray := prog_1_method_35_code
def yX9_spoil : MethodName := ⟨RX9, "spoil", "(I)I"⟩
abbrev cX9_spoilt : ByteArray := prog_1_method_36_code
def yX9_spoilt : MethodName := ⟨RX9, "spoilt", "(I)I"⟩
abbrev cX9_bribe : ByteArray := prog_1_method_37_code
def yX9_bribe : MethodName := ⟨RX9, "bribe", "(I)I"⟩
abbrev cX9_unmark : ByteArray := prog_1_method_38_code
def yX9_unmark : MethodName := ⟨RX9, "unmark", "(I)I"⟩
abbrev cX9_worthOfPlan : ByteArray := prog_1_method_39_code
def yX9_worthOfPlan : MethodName := ⟨RX9, "worthOfPlan", "(I)I"⟩
abbrev cX9_worthWithout : ByteArray := prog_1_method_40_code
def yX9_worthWithout : MethodName := ⟨RX9, "worthWithout", "(I)I"⟩
abbrev cX9_worthOfPlans : ByteArray := prog_1_method_41_code
def yX9_worthOfPlans : MethodName := ⟨RX9, "worthOfPlans", "(IIII)I"⟩
abbrev cX9_spoilingDay : ByteArray := prog_1_method_42_code
def yX9_spoilingDay : MethodName := ⟨RX9, "spoilingDay", "(I)I"⟩
abbrev cX9_college : ByteArray := prog_1_method_43_code
def yX9_college : MethodName := ⟨RX9, "college", "(I)I"⟩
abbrev cX9_chosen : ByteArray := prog_1_method_44_code
def yX9_chosen : MethodName := ⟨RX9, "chosen", "(I)I"⟩
abbrev cX9_hold : ByteArray := prog_1_method_45_code
def yX9_hold : MethodName := ⟨RX9, "hold", "(II)I"⟩
abbrev cX9_idle : ByteArray := prog_1_method_46_code
def yX9_idle : MethodName := ⟨RX9, "idle", "(I)I"⟩
abbrev cX9_lone : ByteArray := prog_1_method_47_code
def yX9_lone : MethodName := ⟨RX9, "lone", "(I)I"⟩
abbrev cX9_tenure : ByteArray := prog_1_method_48_code
def yX9_tenure : MethodName := ⟨RX9, "tenure", "(I)I"⟩
abbrev cX9_clear : ByteArray := prog_1_method_49_code
def yX9_clear : MethodName := ⟨RX9, "clear", "(I)I"⟩
abbrev cX9_run : ByteArray := prog_1_method_50_code
def yX9_run : MethodName := ⟨RX9, "run", "(I)I"⟩
abbrev cX9_both : ByteArray := prog_1_method_51_code
def yX9_both : MethodName := ⟨RX9, "both", "()I"⟩
abbrev cX9_fewestAugurs : ByteArray := prog_1_method_52_code
def yX9_fewestAugurs : MethodName := ⟨RX9, "fewestAugurs", "(I)I"⟩
abbrev cX9_loneAugurs : ByteArray := prog_1_method_53_code
def yX9_loneAugurs : MethodName := ⟨RX9, "loneAugurs", "(I)I"⟩
abbrev cX9_falls : ByteArray := prog_1_method_54_code
def yX9_falls : MethodName := ⟨RX9, "falls", "(I)I"⟩
abbrev cX9_worst : ByteArray := prog_1_method_55_code
def yX9_worst : MethodName := ⟨RX9, "worst", "()I"⟩
abbrev cX9_needs : ByteArray := prog_1_method_56_code
def yX9_needs : MethodName := ⟨RX9, "needs", "(I)I"⟩
abbrev cX9_heirs : ByteArray := prog_1_method_57_code
def yX9_heirs : MethodName := ⟨RX9, "heirs", "(I)I"⟩
abbrev cX9_fallingWith : ByteArray := prog_1_method_58_code
def yX9_fallingWith : MethodName := ⟨RX9, "fallingWith", "(I)I"⟩
abbrev cX9_fits : ByteArray := prog_1_method_59_code
def yX9_fits : MethodName := ⟨RX9, "fits", "(I)I"⟩
abbrev cX9_fed : ByteArray := prog_1_method_60_code
def yX9_fed : MethodName := ⟨RX9, "fed", "(I)I"⟩
abbrev cX9_starved : ByteArray := prog_1_method_61_code
def yX9_starved : MethodName := ⟨RX9, "starved", "(I)I"⟩
abbrev cX9_least : ByteArray := prog_1_method_62_code
def yX9_least : MethodName := ⟨RX9, "least", "(I)I"⟩
abbrev cX9_ask : ByteArray := prog_1_method_63_code
def yX9_ask : MethodName := ⟨RX9, "ask", "(I)I"⟩
abbrev cX9_leaves : ByteArray := prog_1_method_64_code
def yX9_leaves : MethodName := ⟨RX9, "leaves", "(I)I"⟩
abbrev cX9_lookAtSeen : ByteArray := prog_1_method_65_code
def yX9_lookAtSeen : MethodName := ⟨RX9, "lookAtSeen", "(I)I"⟩
abbrev cX9_tally : ByteArray := prog_1_method_66_code
def yX9_tally : MethodName := ⟨RX9, "tally", "(III)I"⟩
abbrev cX9_doubt : ByteArray := prog_1_method_67_code
def yX9_doubt : MethodName := ⟨RX9, "doubt", "(II)J"⟩
abbrev cX9_share : ByteArray := prog_1_method_68_code
def yX9_share : MethodName := ⟨RX9, "share", "(III)I"⟩
abbrev cX9_leans : ByteArray := prog_1_method_69_code
def yX9_leans : MethodName := ⟨RX9, "leans", "(I)I"⟩
abbrev cX9_lookAtList : ByteArray := prog_1_method_70_code
def yX9_lookAtList : MethodName := ⟨RX9, "lookAtList", "(I)I"⟩
abbrev cX9_rests : ByteArray := prog_1_method_71_code
def yX9_rests : MethodName := ⟨RX9, "rests", "(II)I"⟩
abbrev cX9_believes : ByteArray := prog_1_method_72_code
def yX9_believes : MethodName := ⟨RX9, "believes", "(I)I"⟩
abbrev cX9_isAtRest : ByteArray := prog_1_method_73_code
def yX9_isAtRest : MethodName := ⟨RX9, "isAtRest", "(IIZZ)Z"⟩
abbrev cX9_generalHas : ByteArray := prog_1_method_74_code
def yX9_generalHas : MethodName := ⟨RX9, "generalHas", "(IIZZ)I"⟩
abbrev cX9_augurHas : ByteArray := prog_1_method_75_code
def yX9_augurHas : MethodName := ⟨RX9, "augurHas", "(IIZZ)I"⟩
abbrev cX9_chance : ByteArray := prog_1_method_76_code
def yX9_chance : MethodName := ⟨RX9, "chance", "(I)J"⟩
abbrev cX9_asks : ByteArray := prog_1_method_77_code
def yX9_asks : MethodName := ⟨RX9, "asks", "(II)I"⟩
abbrev cX9_feeds : ByteArray := prog_1_method_78_code
def yX9_feeds : MethodName := ⟨RX9, "feeds", "(I)I"⟩
abbrev cX9_undo : ByteArray := prog_1_method_79_code
def yX9_undo : MethodName := ⟨RX9, "undo", "()I"⟩
abbrev cX9_anew : ByteArray := prog_1_method_80_code
def yX9_anew : MethodName := ⟨RX9, "anew", "()I"⟩
abbrev cX9_drawn : ByteArray := prog_1_method_81_code
def yX9_drawn : MethodName := ⟨RX9, "drawn", "(II)I"⟩
abbrev cX9_luck : ByteArray := prog_1_method_82_code
def yX9_luck : MethodName := ⟨RX9, "luck", "(III)I"⟩
abbrev cX9_rate : ByteArray := prog_1_method_83_code
def yX9_rate : MethodName := ⟨RX9, "rate", "(II)I"⟩
abbrev cX9_count : ByteArray := prog_1_method_84_code
def yX9_count : MethodName := ⟨RX9, "count", "(I)I"⟩
abbrev cX9_image : ByteArray := prog_1_method_85_code
def yX9_image : MethodName := ⟨RX9, "image", "(I)I"⟩
abbrev cX9_back : ByteArray := prog_1_method_86_code
def yX9_back : MethodName := ⟨RX9, "back", "(I)I"⟩
abbrev cX9_row : ByteArray := prog_1_method_87_code
def yX9_row : MethodName := ⟨RX9, "row", "(III)I"⟩
abbrev cX9_write : ByteArray := prog_1_method_88_code
def yX9_write : MethodName := ⟨RX9, "write", "(IIJ)I"⟩
abbrev cX9_paste : ByteArray := prog_1_method_89_code
def yX9_paste : MethodName := ⟨RX9, "paste", "(IIIII)I"⟩
abbrev cX9_slotsInUse : ByteArray := prog_1_method_90_code
def yX9_slotsInUse : MethodName := ⟨RX9, "slotsInUse", "()I"⟩
abbrev cX9_hasSlot : ByteArray := prog_1_method_91_code
def yX9_hasSlot : MethodName := ⟨RX9, "hasSlot", "(I)Z"⟩
abbrev cX9_hasImage : ByteArray := prog_1_method_92_code
def yX9_hasImage : MethodName := ⟨RX9, "hasImage", "(I)Z"⟩
abbrev cX9_isChoice : ByteArray := prog_1_method_93_code
def yX9_isChoice : MethodName := ⟨RX9, "isChoice", "(I)Z"⟩
abbrev cX9_isWorth : ByteArray := prog_1_method_94_code
def yX9_isWorth : MethodName := ⟨RX9, "isWorth", "(I)Z"⟩
abbrev cX9_isSeed : ByteArray := prog_1_method_95_code
def yX9_isSeed : MethodName := ⟨RX9, "isSeed", "(I)Z"⟩
abbrev cX9_holds : ByteArray := prog_1_method_96_code
def yX9_holds : MethodName := ⟨RX9, "holds", "(II)Z"⟩
abbrev cX9_longestRun : ByteArray := prog_1_method_97_code
def yX9_longestRun : MethodName := ⟨RX9, "longestRun", "(I)I"⟩
abbrev cX9_partOfFraction : ByteArray := prog_1_method_98_code
def yX9_partOfFraction : MethodName := ⟨RX9, "partOfFraction", "(JJI)J"⟩
abbrev cX9_greatestCommon : ByteArray := prog_1_method_99_code
def yX9_greatestCommon : MethodName := ⟨RX9, "greatestCommon", "(JJ)J"⟩
def RX10 : String := "SacredHensModel"
def TX10 : u_T := fun k => match k with
  | 0 => ("SacredHensModel", "thrown", "I", false)
  | 1 => ("SacredHensModel", "world", "[I", true)
  | 2 => ("SacredHensModel", "images", "[I", true)
  | 3 => ("SacredHensModel", "hasImage", "[Z", true)
  | 4 => ("SacredHensModel", "tape", "[B", true)
  | 5 => ("SacredHensModel", "taped", "I", false)
  | 6 => ("SacredHensModel", "five", "[I", true)
  | 7 => ("SacredHensModel", "size", "I", false)
  | 8 => ("SacredHensModel", "at", "I", false)
  | 9 => ("SacredHensModel", "from", "I", false)
  | 10 => ("SacredHensModel", "token", "I", false)
  | 11 => ("SacredHensModel", "value", "I", false)
  | 12 => ("SacredHensModel", "faultKind", "I", false)
  | 13 => ("SacredHensModel", "faultPlace", "I", false)
  | 14 => ("SacredHensModel", "fresh", "[I", true)
  | 15 => ("SacredHensModel", "askedOn", "[I", true)
  | 16 => ("SacredHensModel", "hungerOn", "[I", true)
  | 17 => ("SacredHensModel", "passedOn", "[I", true)
  | 18 => ("SacredHensModel", "whenOf", "[I", true)
  | 19 => ("SacredHensModel", "dayOf", "[I", true)
  | 20 => ("SacredHensModel", "drawX", "J", false)
  | 21 => ("SacredHensModel", "isDrawn", "Z", false)
  | 22 => ("SacredHensModel", "drawMany", "I", false)
  | 23 => ("SacredHensModel", "planWorth", "[I", true)
  | 24 => ("SacredHensModel", "planWays", "[I", true)
  | 25 => ("SacredHensModel", "planMany", "[I", true)
  | 26 => ("SacredHensModel", "own", "[I", true)
  | 27 => ("SacredHensModel", "owns", "I", false)
  | 28 => ("SacredHensModel", "watchBesides", "I", false)
  | 29 => ("SacredHensModel", "withoutAugur", "I", false)
  | 30 => ("SacredHensModel", "withoutMark", "I", false)
  | 31 => ("SacredHensModel", "freeOf", "[I", true)
  | 32 => ("SacredHensModel", "banned", "I", false)
  | 33 => ("SacredHensModel", "spoiltWorth", "I", false)
  | 34 => ("SacredHensModel", "pairs", "[I", true)
  | 35 => ("SacredHensModel", "pairMany", "I", false)
  | 36 => ("SacredHensModel", "askWorst", "I", false)
  | 37 => ("SacredHensModel", "tallies", "[I", true)
  | 38 => ("SacredHensModel", "many", "[I", true)
  | 39 => ("SacredHensModel", "width", "[I", true)
  | 40 => ("SacredHensModel", "numbers", "[J", true)
  | _ => ("SacredHensModel", "moving", "[J", true)
def tyX10 : Nat → FieldType := fun k => match k with
  | 0 => .int
  | 1 => .array .int
  | 2 => .array .int
  | 3 => .array .boolean
  | 4 => .array .byte
  | 5 => .int
  | 6 => .array .int
  | 7 => .int
  | 8 => .int
  | 9 => .int
  | 10 => .int
  | 11 => .int
  | 12 => .int
  | 13 => .int
  | 14 => .array .int
  | 15 => .array .int
  | 16 => .array .int
  | 17 => .array .int
  | 18 => .array .int
  | 19 => .array .int
  | 20 => .long
  | 21 => .boolean
  | 22 => .int
  | 23 => .array .int
  | 24 => .array .int
  | 25 => .array .int
  | 26 => .array .int
  | 27 => .int
  | 28 => .int
  | 29 => .int
  | 30 => .int
  | 31 => .array .int
  | 32 => .int
  | 33 => .int
  | 34 => .array .int
  | 35 => .int
  | 36 => .int
  | 37 => .array .int
  | 38 => .array .int
  | 39 => .array .int
  | 40 => .array .long
  | _ => .array .long
theorem nmX10 : ∀ a, a < 42 → ∀ b, b < 42 → a ≠ b → (TX10 a).2.1 ≠ (TX10 b).2.1 := by decide +kernel
theorem tyX10_ok : ∀ k, k < 42 → parseFieldDescriptor (TX10 k).2.2.1 = some (tyX10 k) := by decide +kernel
abbrev cX10_init : ByteArray := prog_12_method_1_code
def yX10_init : MethodName := ⟨RX10, "<init>", "()V"⟩
abbrev cX10_in : ByteArray := prog_12_method_3_code
def yX10_in : MethodName := ⟨RX10, "in", "(JJJ)Z"⟩
abbrev cX10_bits : ByteArray := prog_12_method_4_code
def yX10_bits : MethodName := ⟨RX10, "bits", "(I)I"⟩
abbrev cX10_bit : ByteArray := prog_12_method_5_code
def yX10_bit : MethodName := ⟨RX10, "bit", "(II)I"⟩
abbrev cX10_image : ByteArray := prog_12_method_6_code
def yX10_image : MethodName := ⟨RX10, "image", "(I)I"⟩
abbrev cX10_back : ByteArray := prog_12_method_7_code
def yX10_back : MethodName := ⟨RX10, "back", "(I)I"⟩
abbrev cX10_isCamp : ByteArray := prog_12_method_8_code
def yX10_isCamp : MethodName := ⟨RX10, "isCamp", "()Z"⟩
abbrev cX10_isDay : ByteArray := prog_12_method_9_code
def yX10_isDay : MethodName := ⟨RX10, "isDay", "(J)Z"⟩
abbrev cX10_isAugur : ByteArray := prog_12_method_10_code
def yX10_isAugur : MethodName := ⟨RX10, "isAugur", "(I)Z"⟩
abbrev cX10_isBill : ByteArray := prog_12_method_11_code
def yX10_isBill : MethodName := ⟨RX10, "isBill", "(I)Z"⟩
abbrev cX10_isSide : ByteArray := prog_12_method_12_code
def yX10_isSide : MethodName := ⟨RX10, "isSide", "(I)Z"⟩
abbrev cX10_ofAugur : ByteArray := prog_12_method_13_code
def yX10_ofAugur : MethodName := ⟨RX10, "ofAugur", "(II)I"⟩
abbrev cX10_of : ByteArray := prog_12_method_14_code
def yX10_of : MethodName := ⟨RX10, "of", "(II)I"⟩
abbrev cX10_feed : ByteArray := prog_12_method_15_code
def yX10_feed : MethodName := ⟨RX10, "feed", "(IIIII)I"⟩
abbrev cX10_end : ByteArray := prog_12_method_16_code
def yX10_end : MethodName := ⟨RX10, "end", "(I)I"⟩
abbrev cX10_see : ByteArray := prog_12_method_17_code
def yX10_see : MethodName := ⟨RX10, "see", "(I)I"⟩
abbrev cX10_advance : ByteArray := prog_12_method_18_code
def yX10_advance : MethodName := ⟨RX10, "advance", "()V"⟩
abbrev cX10_good : ByteArray := prog_12_method_19_code
def yX10_good : MethodName := ⟨RX10, "good", "()Z"⟩
abbrev cX10_errs : ByteArray := prog_12_method_20_code
def yX10_errs : MethodName := ⟨RX10, "errs", "(I)V"⟩
abbrev cX10_is : ByteArray := prog_12_method_21_code
def yX10_is : MethodName := ⟨RX10, "is", "(Ljava/lang/String;)Z"⟩
abbrev cX10_takes : ByteArray := prog_12_method_22_code
def yX10_takes : MethodName := ⟨RX10, "takes", "(Ljava/lang/String;)Z"⟩
abbrev cX10_needs : ByteArray := prog_12_method_23_code
def yX10_needs : MethodName := ⟨RX10, "needs", "(Ljava/lang/String;)V"⟩
abbrev cX10_number : ByteArray := prog_12_method_24_code
def yX10_number : MethodName := ⟨RX10, "number", "(II)I"⟩
abbrev cX10_told : ByteArray := prog_12_method_25_code
def yX10_told : MethodName := ⟨RX10, "told", "(Ljava/lang/String;II)I"⟩
abbrev cX10_fault : ByteArray := prog_12_method_26_code
def yX10_fault : MethodName := ⟨RX10, "fault", "(I)I"⟩
abbrev cX10_readFirst : ByteArray := prog_12_method_27_code
def yX10_readFirst : MethodName := ⟨RX10, "readFirst", "()V"⟩
abbrev cX10_readAugur : ByteArray := prog_12_method_28_code
def yX10_readAugur : MethodName := ⟨RX10, "readAugur", "()V"⟩
abbrev cX10_readBill : ByteArray := prog_12_method_29_code
def yX10_readBill : MethodName := ⟨RX10, "readBill", "()V"⟩
abbrev cX10_readNext : ByteArray := prog_12_method_30_code
def yX10_readNext : MethodName := ⟨RX10, "readNext", "()V"⟩
abbrev cX10_readLine : ByteArray := prog_12_method_31_code
def yX10_readLine : MethodName := ⟨RX10, "readLine", "()V"⟩
abbrev cX10_camp : ByteArray := prog_12_method_32_code
def yX10_camp : MethodName := ⟨RX10, "camp", "()I"⟩
abbrev cX10_augur : ByteArray := prog_12_method_33_code
def yX10_augur : MethodName := ⟨RX10, "augur", "(II)I"⟩
abbrev cX10_bill : ByteArray := prog_12_method_34_code
def yX10_bill : MethodName := ⟨RX10, "bill", "(II)I"⟩
abbrev cX10_marks : ByteArray := prog_12_method_35_code
def yX10_marks : MethodName := ⟨RX10, "marks", "()I"⟩
abbrev cX10_daysOf : ByteArray := prog_12_method_36_code
def yX10_daysOf : MethodName := ⟨RX10, "daysOf", "(I)I"⟩
abbrev cX10_skyBy : ByteArray := prog_12_method_37_code
def yX10_skyBy : MethodName := ⟨RX10, "skyBy", "(II)I"⟩
abbrev cX10_allAugurs : ByteArray := prog_12_method_38_code
def yX10_allAugurs : MethodName := ⟨RX10, "allAugurs", "()I"⟩
abbrev cX10_skyOf : ByteArray := prog_12_method_39_code
def yX10_skyOf : MethodName := ⟨RX10, "skyOf", "(I)I"⟩
abbrev cX10_sky : ByteArray := prog_12_method_40_code
def yX10_sky : MethodName := ⟨RX10, "sky", "(I)I"⟩
abbrev cX10_watch : ByteArray := prog_12_method_41_code
def yX10_watch : MethodName := ⟨RX10, "watch", "(I)I"⟩
abbrev cX10_layAsked : ByteArray := prog_12_method_42_code
def yX10_layAsked : MethodName := ⟨RX10, "layAsked", "()V"⟩
abbrev cX10_doEat : ByteArray := prog_12_method_43_code
def yX10_doEat : MethodName := ⟨RX10, "doEat", "(I)Z"⟩
abbrev cX10_whyOn : ByteArray := prog_12_method_44_code
def yX10_whyOn : MethodName := ⟨RX10, "whyOn", "(IIZ)I"⟩
abbrev cX10_drawsWell : ByteArray := prog_12_method_45_code
def yX10_drawsWell : MethodName := ⟨RX10, "drawsWell", "()Z"⟩
abbrev cX10_goDays : ByteArray := prog_12_method_46_code
def yX10_goDays : MethodName := ⟨RX10, "goDays", "()V"⟩
abbrev cX10_asksCamp : ByteArray := prog_12_method_47_code
def yX10_asksCamp : MethodName := ⟨RX10, "asksCamp", "()Z"⟩
abbrev cX10_asksDay : ByteArray := prog_12_method_48_code
def yX10_asksDay : MethodName := ⟨RX10, "asksDay", "(I)Z"⟩
abbrev cX10_asksBill : ByteArray := prog_12_method_49_code
def yX10_asksBill : MethodName := ⟨RX10, "asksBill", "(I)Z"⟩
abbrev cX10_hunger : ByteArray := prog_12_method_50_code
def yX10_hunger : MethodName := ⟨RX10, "hunger", "(I)I"⟩
abbrev cX10_eat : ByteArray := prog_12_method_51_code
def yX10_eat : MethodName := ⟨RX10, "eat", "()I"⟩
abbrev cX10_open : ByteArray := prog_12_method_52_code
def yX10_open : MethodName := ⟨RX10, "open", "(I)I"⟩
abbrev cX10_best : ByteArray := prog_12_method_53_code
def yX10_best : MethodName := ⟨RX10, "best", "(I)I"⟩
abbrev cX10_actsOf : ByteArray := prog_12_method_54_code
def yX10_actsOf : MethodName := ⟨RX10, "actsOf", "(I)I"⟩
abbrev cX10_asked : ByteArray := prog_12_method_55_code
def yX10_asked : MethodName := ⟨RX10, "asked", "()I"⟩
abbrev cX10_fattened : ByteArray := prog_12_method_56_code
def yX10_fattened : MethodName := ⟨RX10, "fattened", "()I"⟩
abbrev cX10_runOf : ByteArray := prog_12_method_57_code
def yX10_runOf : MethodName := ⟨RX10, "runOf", "(I)I"⟩
abbrev cX10_allDays : ByteArray := prog_12_method_58_code
def yX10_allDays : MethodName := ⟨RX10, "allDays", "()I"⟩
abbrev cX10_fast : ByteArray := prog_12_method_59_code
def yX10_fast : MethodName := ⟨RX10, "fast", "()I"⟩
abbrev cX10_first : ByteArray := prog_12_method_60_code
def yX10_first : MethodName := ⟨RX10, "first", "(I)I"⟩
abbrev cX10_passed : ByteArray := prog_12_method_61_code
def yX10_passed : MethodName := ⟨RX10, "passed", "(I)I"⟩
abbrev cX10_when : ByteArray := prog_12_method_62_code
def yX10_when : MethodName := ⟨RX10, "when", "(I)I"⟩
abbrev cX10_why : ByteArray := prog_12_method_63_code
def yX10_why : MethodName := ⟨RX10, "why", "(I)I"⟩
abbrev cX10_worth : ByteArray := prog_12_method_64_code
def yX10_worth : MethodName := ⟨RX10, "worth", "(I)I"⟩
abbrev cX10_state : ByteArray := prog_12_method_65_code
def yX10_state : MethodName := ⟨RX10, "state", "(III)I"⟩
abbrev cX10_then : ByteArray := prog_12_method_66_code
def yX10_then : MethodName := ⟨RX10, "then", "(I)I"⟩
abbrev cX10_layOwn : ByteArray := prog_12_method_67_code
def yX10_layOwn : MethodName := ⟨RX10, "layOwn", "(I)V"⟩
abbrev cX10_freeDays : ByteArray := prog_12_method_68_code
def yX10_freeDays : MethodName := ⟨RX10, "freeDays", "(I)I"⟩
abbrev cX10_mayPass : ByteArray := prog_12_method_69_code
def yX10_mayPass : MethodName := ⟨RX10, "mayPass", "(II)Z"⟩
abbrev cX10_layState : ByteArray := prog_12_method_70_code
def yX10_layState : MethodName := ⟨RX10, "layState", "(III)V"⟩
abbrev cX10_startState : ByteArray := prog_12_method_71_code
def yX10_startState : MethodName := ⟨RX10, "startState", "()I"⟩
abbrev cX10_layPlans : ByteArray := prog_12_method_72_code
def yX10_layPlans : MethodName := ⟨RX10, "layPlans", "(I)I"⟩
abbrev cX10_plan : ByteArray := prog_12_method_73_code
def yX10_plan : MethodName := ⟨RX10, "plan", "(I)I"⟩
abbrev cX10_ways : ByteArray := prog_12_method_74_code
def yX10_ways : MethodName := ⟨RX10, "ways", "(I)I"⟩
abbrev cX10_many : ByteArray := prog_12_method_75_code
def yX10_many : MethodName := ⟨RX10, "many", "(I)I"⟩
abbrev cX10_planned : ByteArray := prog_12_method_76_code
def yX10_planned : MethodName := ⟨RX10, "planned", "(II)I"⟩
abbrev cX10_together : ByteArray := prog_12_method_77_code
def yX10_together : MethodName := ⟨RX10, "together", "()I"⟩
abbrev cX10_withoutOf : ByteArray := prog_12_method_78_code
def yX10_withoutOf : MethodName := ⟨RX10, "withoutOf", "(I)I"⟩
abbrev cX10_without : ByteArray := prog_12_method_79_code
def yX10_without : MethodName := ⟨RX10, "without", "(I)I"⟩
abbrev cX10_value : ByteArray := prog_12_method_80_code
def yX10_value : MethodName := ⟨RX10, "value", "(I)I"⟩
abbrev cX10_needsOf : ByteArray := prog_12_method_81_code
def yX10_needsOf : MethodName := ⟨RX10, "needsOf", "(I)I"⟩
abbrev cX10_needs_ : ByteArray := prog_12_method_82_code
def yX10_needs_ : MethodName := ⟨RX10, "needs", "(I)I"⟩
abbrev cX10_heirs : ByteArray := prog_12_method_83_code
def yX10_heirs : MethodName := ⟨RX10, "heirs", "(I)I"⟩
abbrev cX10_deepest : ByteArray := prog_12_method_84_code
def yX10_deepest : MethodName := ⟨RX10, "deepest", "()I"⟩
abbrev cX10_latest : ByteArray := prog_12_method_85_code
def yX10_latest : MethodName := ⟨RX10, "latest", "(I)I"⟩
abbrev cX10_soonestBy : ByteArray := prog_12_method_86_code
def yX10_soonestBy : MethodName := ⟨RX10, "soonestBy", "(II)I"⟩
abbrev cX10_soonest : ByteArray := prog_12_method_87_code
def yX10_soonest : MethodName := ⟨RX10, "soonest", "(I)I"⟩
abbrev cX10_stopOf : ByteArray := prog_12_method_88_code
def yX10_stopOf : MethodName := ⟨RX10, "stopOf", "(I)I"⟩
abbrev cX10_stop : ByteArray := prog_12_method_89_code
def yX10_stop : MethodName := ⟨RX10, "stop", "(I)I"⟩
abbrev cX10_stops : ByteArray := prog_12_method_90_code
def yX10_stops : MethodName := ⟨RX10, "stops", "(I)I"⟩
abbrev cX10_spoilOf : ByteArray := prog_12_method_91_code
def yX10_spoilOf : MethodName := ⟨RX10, "spoilOf", "(I)I"⟩
abbrev cX10_spoil : ByteArray := prog_12_method_92_code
def yX10_spoil : MethodName := ⟨RX10, "spoil", "(I)I"⟩
abbrev cX10_spoilt : ByteArray := prog_12_method_93_code
def yX10_spoilt : MethodName := ⟨RX10, "spoilt", "(I)I"⟩
abbrev cX10_bribe : ByteArray := prog_12_method_94_code
def yX10_bribe : MethodName := ⟨RX10, "bribe", "(I)I"⟩
abbrev cX10_unmark : ByteArray := prog_12_method_95_code
def yX10_unmark : MethodName := ⟨RX10, "unmark", "(I)I"⟩
abbrev cX10_sideAugurs : ByteArray := prog_12_method_96_code
def yX10_sideAugurs : MethodName := ⟨RX10, "sideAugurs", "(I)I"⟩
abbrev cX10_chosenOf : ByteArray := prog_12_method_97_code
def yX10_chosenOf : MethodName := ⟨RX10, "chosenOf", "(I)I"⟩
abbrev cX10_college : ByteArray := prog_12_method_98_code
def yX10_college : MethodName := ⟨RX10, "college", "(I)I"⟩
abbrev cX10_chosen : ByteArray := prog_12_method_99_code
def yX10_chosen : MethodName := ⟨RX10, "chosen", "(I)I"⟩
abbrev cX10_hold : ByteArray := prog_12_method_100_code
def yX10_hold : MethodName := ⟨RX10, "hold", "(II)I"⟩
abbrev cX10_idle : ByteArray := prog_12_method_101_code
def yX10_idle : MethodName := ⟨RX10, "idle", "(I)I"⟩
abbrev cX10_lone : ByteArray := prog_12_method_102_code
def yX10_lone : MethodName := ⟨RX10, "lone", "(I)I"⟩
abbrev cX10_tenure : ByteArray := prog_12_method_103_code
def yX10_tenure : MethodName := ⟨RX10, "tenure", "(I)I"⟩
abbrev cX10_clear : ByteArray := prog_12_method_104_code
def yX10_clear : MethodName := ⟨RX10, "clear", "(I)I"⟩
abbrev cX10_run : ByteArray := prog_12_method_105_code
def yX10_run : MethodName := ⟨RX10, "run", "(I)I"⟩
abbrev cX10_both : ByteArray := prog_12_method_106_code
def yX10_both : MethodName := ⟨RX10, "both", "()I"⟩
abbrev cX10_fallsBy : ByteArray := prog_12_method_107_code
def yX10_fallsBy : MethodName := ⟨RX10, "fallsBy", "(I)I"⟩
abbrev cX10_falls : ByteArray := prog_12_method_108_code
def yX10_falls : MethodName := ⟨RX10, "falls", "(I)I"⟩
abbrev cX10_worthBy : ByteArray := prog_12_method_109_code
def yX10_worthBy : MethodName := ⟨RX10, "worthBy", "(I)I"⟩
abbrev cX10_worst : ByteArray := prog_12_method_110_code
def yX10_worst : MethodName := ⟨RX10, "worst", "()I"⟩
abbrev cX10_numberAt : ByteArray := prog_12_method_111_code
def yX10_numberAt : MethodName := ⟨RX10, "numberAt", "(II)J"⟩
abbrev cX10_eatsBy : ByteArray := prog_12_method_112_code
def yX10_eatsBy : MethodName := ⟨RX10, "eatsBy", "(II)Z"⟩
abbrev cX10_layPairs : ByteArray := prog_12_method_113_code
def yX10_layPairs : MethodName := ⟨RX10, "layPairs", "(I)I"⟩
abbrev cX10_fits : ByteArray := prog_12_method_114_code
def yX10_fits : MethodName := ⟨RX10, "fits", "(I)I"⟩
abbrev cX10_fedSet : ByteArray := prog_12_method_115_code
def yX10_fedSet : MethodName := ⟨RX10, "fedSet", "()I"⟩
abbrev cX10_fed : ByteArray := prog_12_method_116_code
def yX10_fed : MethodName := ⟨RX10, "fed", "(I)I"⟩
abbrev cX10_starved : ByteArray := prog_12_method_117_code
def yX10_starved : MethodName := ⟨RX10, "starved", "(I)I"⟩
abbrev cX10_least : ByteArray := prog_12_method_118_code
def yX10_least : MethodName := ⟨RX10, "least", "(I)I"⟩
abbrev cX10_askOf : ByteArray := prog_12_method_119_code
def yX10_askOf : MethodName := ⟨RX10, "askOf", "()I"⟩
abbrev cX10_ask : ByteArray := prog_12_method_120_code
def yX10_ask : MethodName := ⟨RX10, "ask", "(I)I"⟩
abbrev cX10_leaves : ByteArray := prog_12_method_121_code
def yX10_leaves : MethodName := ⟨RX10, "leaves", "(I)I"⟩
abbrev cX10_layList : ByteArray := prog_12_method_122_code
def yX10_layList : MethodName := ⟨RX10, "layList", "(IZ)I"⟩
abbrev cX10_tally : ByteArray := prog_12_method_123_code
def yX10_tally : MethodName := ⟨RX10, "tally", "(III)I"⟩
abbrev cX10_choose : ByteArray := prog_12_method_124_code
def yX10_choose : MethodName := ⟨RX10, "choose", "(II)J"⟩
abbrev cX10_divisor : ByteArray := prog_12_method_125_code
def yX10_divisor : MethodName := ⟨RX10, "divisor", "(JJ)J"⟩
abbrev cX10_part : ByteArray := prog_12_method_126_code
def yX10_part : MethodName := ⟨RX10, "part", "(JJI)J"⟩
abbrev cX10_doubt : ByteArray := prog_12_method_127_code
def yX10_doubt : MethodName := ⟨RX10, "doubt", "(II)J"⟩
abbrev cX10_share : ByteArray := prog_12_method_128_code
def yX10_share : MethodName := ⟨RX10, "share", "(III)I"⟩
abbrev cX10_leans : ByteArray := prog_12_method_129_code
def yX10_leans : MethodName := ⟨RX10, "leans", "(I)I"⟩
abbrev cX10_general : ByteArray := prog_12_method_130_code
def yX10_general : MethodName := ⟨RX10, "general", "(ZZII)I"⟩
abbrev cX10_augur_ : ByteArray := prog_12_method_131_code
def yX10_augur_ : MethodName := ⟨RX10, "augur", "(ZZII)I"⟩
abbrev cX10_isRest : ByteArray := prog_12_method_132_code
def yX10_isRest : MethodName := ⟨RX10, "isRest", "(ZZII)Z"⟩
abbrev cX10_rests : ByteArray := prog_12_method_133_code
def yX10_rests : MethodName := ⟨RX10, "rests", "(II)I"⟩
abbrev cX10_believes : ByteArray := prog_12_method_134_code
def yX10_believes : MethodName := ⟨RX10, "believes", "(I)I"⟩
abbrev cX10_chance : ByteArray := prog_12_method_135_code
def yX10_chance : MethodName := ⟨RX10, "chance", "(I)J"⟩
abbrev cX10_keepAct : ByteArray := prog_12_method_136_code
def yX10_keepAct : MethodName := ⟨RX10, "keepAct", "(I)Z"⟩
abbrev cX10_asks : ByteArray := prog_12_method_137_code
def yX10_asks : MethodName := ⟨RX10, "asks", "(II)I"⟩
abbrev cX10_feeds : ByteArray := prog_12_method_138_code
def yX10_feeds : MethodName := ⟨RX10, "feeds", "(I)I"⟩
abbrev cX10_undo : ByteArray := prog_12_method_139_code
def yX10_undo : MethodName := ⟨RX10, "undo", "()I"⟩
abbrev cX10_anew : ByteArray := prog_12_method_140_code
def yX10_anew : MethodName := ⟨RX10, "anew", "()I"⟩
abbrev cX10_goDrawn : ByteArray := prog_12_method_141_code
def yX10_goDrawn : MethodName := ⟨RX10, "goDrawn", "(J)I"⟩
abbrev cX10_isSeed : ByteArray := prog_12_method_142_code
def yX10_isSeed : MethodName := ⟨RX10, "isSeed", "(I)Z"⟩
abbrev cX10_drawn : ByteArray := prog_12_method_143_code
def yX10_drawn : MethodName := ⟨RX10, "drawn", "(II)I"⟩
abbrev cX10_luck : ByteArray := prog_12_method_144_code
def yX10_luck : MethodName := ⟨RX10, "luck", "(III)I"⟩
abbrev cX10_rate : ByteArray := prog_12_method_145_code
def yX10_rate : MethodName := ⟨RX10, "rate", "(II)I"⟩
abbrev cX10_count : ByteArray := prog_12_method_146_code
def yX10_count : MethodName := ⟨RX10, "count", "(I)I"⟩
abbrev cX10_isSlot : ByteArray := prog_12_method_147_code
def yX10_isSlot : MethodName := ⟨RX10, "isSlot", "(I)Z"⟩
abbrev cX10_cut : ByteArray := prog_12_method_148_code
def yX10_cut : MethodName := ⟨RX10, "cut", "(JI)J"⟩
abbrev cX10_row : ByteArray := prog_12_method_149_code
def yX10_row : MethodName := ⟨RX10, "row", "(III)I"⟩
abbrev cX10_write : ByteArray := prog_12_method_150_code
def yX10_write : MethodName := ⟨RX10, "write", "(IIJ)I"⟩
abbrev cX10_paste : ByteArray := prog_12_method_151_code
def yX10_paste : MethodName := ⟨RX10, "paste", "(IIIII)I"⟩
def RJ6 : String := "java/lang/Integer"
abbrev cJ6_compare_7cf53 : ByteArray := prog_13_method_40_code
def yJ6_compare_7cf53 : MethodName := ⟨RJ6, "compare", "(II)I"⟩
abbrev cJ6_bitCount_0f7a4 : ByteArray := prog_13_method_49_code
def yJ6_bitCount_0f7a4 : MethodName := ⟨RJ6, "bitCount", "(I)I"⟩
def RJ9 : String := "java/lang/Math"
abbrev cJ9_max_7cf53 : ByteArray := prog_14_method_65_code
def yJ9_max_7cf53 : MethodName := ⟨RJ9, "max", "(II)I"⟩
abbrev cJ9_min_7cf53 : ByteArray := prog_14_method_69_code
def yJ9_min_7cf53 : MethodName := ⟨RJ9, "min", "(II)I"⟩
def RJ0 : String := "java/lang/String"
abbrev cJ0_length_8abf5 : ByteArray := prog_15_method_54_code
def yJ0_length_8abf5 : MethodName := ⟨RJ0, "length", "()I"⟩
abbrev cJ0_charAt_5068e : ByteArray := prog_15_method_56_code
def yJ0_charAt_5068e : MethodName := ⟨RJ0, "charAt", "(I)C"⟩
abbrev cJ0_coder_7d493 : ByteArray := prog_15_method_152_code
def yJ0_coder_7d493 : MethodName := ⟨RJ0, "coder", "()B"⟩
abbrev cJ0_isLatin1_aae02 : ByteArray := prog_15_method_154_code
def yJ0_isLatin1_aae02 : MethodName := ⟨RJ0, "isLatin1", "()Z"⟩
abbrev cJ0_checkIndex_df160 : ByteArray := prog_15_method_155_code
def yJ0_checkIndex_df160 : MethodName := ⟨RJ0, "checkIndex", "(II)V"⟩
def RJ1 : String := "java/lang/StringLatin1"
abbrev cJ1_charAt_3b067 : ByteArray := prog_16_method_2_code
def yJ1_charAt_3b067 : MethodName := ⟨RJ1, "charAt", "([BI)C"⟩
def RJ2 : String := "java/lang/StringUTF16"
abbrev cJ2_getChar_3b067 : ByteArray := prog_17_method_5_code
def yJ2_getChar_3b067 : MethodName := ⟨RJ2, "getChar", "([BI)C"⟩
abbrev cJ2_length_9d52b : ByteArray := prog_17_method_6_code
def yJ2_length_9d52b : MethodName := ⟨RJ2, "length", "([B)I"⟩
abbrev cJ2_charAt_3b067 : ByteArray := prog_17_method_83_code
def yJ2_charAt_3b067 : MethodName := ⟨RJ2, "charAt", "([BI)C"⟩
abbrev cJ2_checkIndex_2214a : ByteArray := prog_17_method_91_code
def yJ2_checkIndex_2214a : MethodName := ⟨RJ2, "checkIndex", "(I[B)V"⟩
def RJ10 : String := "java/lang/System"
def RJ3 : String := "jdk/internal/util/Preconditions"
abbrev cJ3_checkIndex_8e157 : ByteArray := prog_19_method_11_code
def yJ3_checkIndex_8e157 : MethodName := ⟨RJ3, "checkIndex", "(IILjava/util/function/BiFunction;)I"⟩
def RL : String := "SacredHensLaw"
abbrev cL_law : ByteArray := code
def yL_law : MethodName := ⟨RL, "law", "([I)Z"⟩
abbrev vwCl : List vw_C := [(RX0, TX0, 17), (RX1, TX1, 1), (RX2, TX2, 7), (RX3, TX3, 8), (RX4, TX4, 8), (RX5, TX5, 3), (RX6, TX6, 8), (RX7, TX7, 1), (RX8, TX8, 2), (RX9, TX9, 12), (RX10, TX10, 42)]
