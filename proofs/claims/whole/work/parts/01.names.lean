-- ===== PART A: goes FIRST, ahead of the names: the tables' words, and 'selects' of the private methods out of them =====
/-- a private method of a class that the tables say can be made, by its rows of tables_1 -/
def lw_okq (q : MethodName × Nat) : Prop := (q.1.cls ≠ "java/lang/invoke/MethodHandle" ∧ q.1.cls ≠ "java/lang/invoke/VarHandle") ∧ Cond.instantiable q.1.cls q.2 ∈ tables_1 ∧ Cond.privateMethod q.1 ∈ tables_1 ∧ Cond.instanceMethod q.1 ∈ tables_1
theorem lw_p0 : lw_okq (⟨"LargerWithin$Reader", "beginsToken", "(I)Z"⟩, 10) := ⟨⟨by decide +kernel, by decide +kernel⟩, List.mem_of_getElem? (i := 70) (by decide +kernel), List.mem_of_getElem? (i := 417) (by decide +kernel), List.mem_of_getElem? (i := 418) (by decide +kernel)⟩
theorem lw_p1 : lw_okq (⟨"LargerWithin$Reader", "sign", "(I)I"⟩, 10) := ⟨⟨by decide +kernel, by decide +kernel⟩, List.mem_of_getElem? (i := 70) (by decide +kernel), List.mem_of_getElem? (i := 421) (by decide +kernel), List.mem_of_getElem? (i := 422) (by decide +kernel)⟩
theorem lw_p2 : lw_okq (⟨"LargerWithin$Reader", "readToken", "(I)V"⟩, 10) := ⟨⟨by decide +kernel, by decide +kernel⟩, List.mem_of_getElem? (i := 70) (by decide +kernel), List.mem_of_getElem? (i := 431) (by decide +kernel), List.mem_of_getElem? (i := 432) (by decide +kernel)⟩
theorem lw_p3 : lw_okq (⟨"LargerWithin$Reader", "readWord", "(I)V"⟩, 10) := ⟨⟨by decide +kernel, by decide +kernel⟩, List.mem_of_getElem? (i := 70) (by decide +kernel), List.mem_of_getElem? (i := 435) (by decide +kernel), List.mem_of_getElem? (i := 436) (by decide +kernel)⟩
theorem lw_p4 : lw_okq (⟨"LargerWithin$Reader", "behindWord", "(Ljava/lang/String;II)I"⟩, 10) := ⟨⟨by decide +kernel, by decide +kernel⟩, List.mem_of_getElem? (i := 70) (by decide +kernel), List.mem_of_getElem? (i := 443) (by decide +kernel), List.mem_of_getElem? (i := 444) (by decide +kernel)⟩
theorem lw_p5 : lw_okq (⟨"LargerWithin$Reader", "beginLine", "(I)V"⟩, 10) := ⟨⟨by decide +kernel, by decide +kernel⟩, List.mem_of_getElem? (i := 70) (by decide +kernel), List.mem_of_getElem? (i := 498) (by decide +kernel), List.mem_of_getElem? (i := 499) (by decide +kernel)⟩
theorem lw_p6 : lw_okq (⟨"LargerWithin$Reader", "blame", "(II)V"⟩, 10) := ⟨⟨by decide +kernel, by decide +kernel⟩, List.mem_of_getElem? (i := 70) (by decide +kernel), List.mem_of_getElem? (i := 508) (by decide +kernel), List.mem_of_getElem? (i := 509) (by decide +kernel)⟩
theorem lw_p7 : lw_okq (⟨"LargerWithin$Reader", "readNumber", "(I)V"⟩, 10) := ⟨⟨by decide +kernel, by decide +kernel⟩, List.mem_of_getElem? (i := 70) (by decide +kernel), List.mem_of_getElem? (i := 512) (by decide +kernel), List.mem_of_getElem? (i := 513) (by decide +kernel)⟩
theorem lw_p8 : lw_okq (⟨"LargerWithin$Reader", "isInBounds", "(I)Z"⟩, 10) := ⟨⟨by decide +kernel, by decide +kernel⟩, List.mem_of_getElem? (i := 70) (by decide +kernel), List.mem_of_getElem? (i := 516) (by decide +kernel), List.mem_of_getElem? (i := 517) (by decide +kernel)⟩
theorem lw_p9 : lw_okq (⟨"LargerWithin$Reader", "kindOfNumber", "()I"⟩, 10) := ⟨⟨by decide +kernel, by decide +kernel⟩, List.mem_of_getElem? (i := 70) (by decide +kernel), List.mem_of_getElem? (i := 524) (by decide +kernel), List.mem_of_getElem? (i := 525) (by decide +kernel)⟩
theorem lw_p10 : lw_okq (⟨"LargerWithin$Reader", "readStop", "(I)V"⟩, 10) := ⟨⟨by decide +kernel, by decide +kernel⟩, List.mem_of_getElem? (i := 70) (by decide +kernel), List.mem_of_getElem? (i := 540) (by decide +kernel), List.mem_of_getElem? (i := 541) (by decide +kernel)⟩
theorem lw_p11 : lw_okq (⟨"LargerWithin$Layout", "manyAbove", "(II)I"⟩, 4) := ⟨⟨by decide +kernel, by decide +kernel⟩, List.mem_of_getElem? (i := 48) (by decide +kernel), List.mem_of_getElem? (i := 609) (by decide +kernel), List.mem_of_getElem? (i := 610) (by decide +kernel)⟩
theorem lw_p12 : lw_okq (⟨"LargerWithin$Layout", "hasRoomFor", "(II)Z"⟩, 4) := ⟨⟨by decide +kernel, by decide +kernel⟩, List.mem_of_getElem? (i := 48) (by decide +kernel), List.mem_of_getElem? (i := 682) (by decide +kernel), List.mem_of_getElem? (i := 683) (by decide +kernel)⟩
theorem lw_p13 : lw_okq (⟨"LargerWithin$Layout", "outward", "(II)I"⟩, 4) := ⟨⟨by decide +kernel, by decide +kernel⟩, List.mem_of_getElem? (i := 48) (by decide +kernel), List.mem_of_getElem? (i := 730) (by decide +kernel), List.mem_of_getElem? (i := 731) (by decide +kernel)⟩
theorem lw_p14 : lw_okq (⟨"LargerWithin$Layout", "doAct", "(J)I"⟩, 4) := ⟨⟨by decide +kernel, by decide +kernel⟩, List.mem_of_getElem? (i := 48) (by decide +kernel), List.mem_of_getElem? (i := 767) (by decide +kernel), List.mem_of_getElem? (i := 768) (by decide +kernel)⟩
theorem lw_p15 : lw_okq (⟨"LargerWithin", "rowRefusal", "(I)I"⟩, 15) := ⟨⟨by decide +kernel, by decide +kernel⟩, List.mem_of_getElem? (i := 23) (by decide +kernel), List.mem_of_getElem? (i := 788) (by decide +kernel), List.mem_of_getElem? (i := 789) (by decide +kernel)⟩
def lw_privs_1 : List (MethodName × Nat) := [(⟨"LargerWithin$Reader", "beginsToken", "(I)Z"⟩, 10), (⟨"LargerWithin$Reader", "sign", "(I)I"⟩, 10), (⟨"LargerWithin$Reader", "readToken", "(I)V"⟩, 10), (⟨"LargerWithin$Reader", "readWord", "(I)V"⟩, 10), (⟨"LargerWithin$Reader", "behindWord", "(Ljava/lang/String;II)I"⟩, 10), (⟨"LargerWithin$Reader", "beginLine", "(I)V"⟩, 10), (⟨"LargerWithin$Reader", "blame", "(II)V"⟩, 10), (⟨"LargerWithin$Reader", "readNumber", "(I)V"⟩, 10), (⟨"LargerWithin$Reader", "isInBounds", "(I)Z"⟩, 10), (⟨"LargerWithin$Reader", "kindOfNumber", "()I"⟩, 10), (⟨"LargerWithin$Reader", "readStop", "(I)V"⟩, 10), (⟨"LargerWithin$Layout", "manyAbove", "(II)I"⟩, 4), (⟨"LargerWithin$Layout", "hasRoomFor", "(II)Z"⟩, 4), (⟨"LargerWithin$Layout", "outward", "(II)I"⟩, 4), (⟨"LargerWithin$Layout", "doAct", "(J)I"⟩, 4), (⟨"LargerWithin", "rowRefusal", "(I)I"⟩, 15)]
theorem lw_r1 : ∀ q ∈ lw_privs_1, lw_okq q := List.forall_mem_cons.mpr ⟨lw_p0, List.forall_mem_cons.mpr ⟨lw_p1, List.forall_mem_cons.mpr ⟨lw_p2, List.forall_mem_cons.mpr ⟨lw_p3, List.forall_mem_cons.mpr ⟨lw_p4, List.forall_mem_cons.mpr ⟨lw_p5, List.forall_mem_cons.mpr ⟨lw_p6, List.forall_mem_cons.mpr ⟨lw_p7, List.forall_mem_cons.mpr ⟨lw_p8, List.forall_mem_cons.mpr ⟨lw_p9, List.forall_mem_cons.mpr ⟨lw_p10, List.forall_mem_cons.mpr ⟨lw_p11, List.forall_mem_cons.mpr ⟨lw_p12, List.forall_mem_cons.mpr ⟨lw_p13, List.forall_mem_cons.mpr ⟨lw_p14, List.forall_mem_cons.mpr ⟨lw_p15, fun _ h => absurd h List.not_mem_nil⟩⟩⟩⟩⟩⟩⟩⟩⟩⟩⟩⟩⟩⟩⟩⟩
theorem lw_p16 : lw_okq (⟨"LargerWithin", "packingRefusal", "(I)I"⟩, 15) := ⟨⟨by decide +kernel, by decide +kernel⟩, List.mem_of_getElem? (i := 23) (by decide +kernel), List.mem_of_getElem? (i := 796) (by decide +kernel), List.mem_of_getElem? (i := 797) (by decide +kernel)⟩
theorem lw_p17 : lw_okq (⟨"LargerWithin$Packing", "blame", "(II)V"⟩, 5) := ⟨⟨by decide +kernel, by decide +kernel⟩, List.mem_of_getElem? (i := 131) (by decide +kernel), List.mem_of_getElem? (i := 818) (by decide +kernel), List.mem_of_getElem? (i := 819) (by decide +kernel)⟩
theorem lw_p18 : lw_okq (⟨"LargerWithin$Packing", "firstInItself", "()I"⟩, 5) := ⟨⟨by decide +kernel, by decide +kernel⟩, List.mem_of_getElem? (i := 131) (by decide +kernel), List.mem_of_getElem? (i := 822) (by decide +kernel), List.mem_of_getElem? (i := 823) (by decide +kernel)⟩
theorem lw_p19 : lw_okq (⟨"LargerWithin$Packing", "firstTooWide", "()I"⟩, 5) := ⟨⟨by decide +kernel, by decide +kernel⟩, List.mem_of_getElem? (i := 131) (by decide +kernel), List.mem_of_getElem? (i := 831) (by decide +kernel), List.mem_of_getElem? (i := 832) (by decide +kernel)⟩
theorem lw_p20 : lw_okq (⟨"LargerWithin$Packing", "firstTooHeavy", "()I"⟩, 5) := ⟨⟨by decide +kernel, by decide +kernel⟩, List.mem_of_getElem? (i := 131) (by decide +kernel), List.mem_of_getElem? (i := 837) (by decide +kernel), List.mem_of_getElem? (i := 838) (by decide +kernel)⟩
theorem lw_p21 : lw_okq (⟨"LargerWithin$Packing", "firstTooFull", "()I"⟩, 5) := ⟨⟨by decide +kernel, by decide +kernel⟩, List.mem_of_getElem? (i := 131) (by decide +kernel), List.mem_of_getElem? (i := 842) (by decide +kernel), List.mem_of_getElem? (i := 843) (by decide +kernel)⟩
theorem lw_p22 : lw_okq (⟨"LargerWithin$Packing", "firstReady", "(I)I"⟩, 5) := ⟨⟨by decide +kernel, by decide +kernel⟩, List.mem_of_getElem? (i := 131) (by decide +kernel), List.mem_of_getElem? (i := 869) (by decide +kernel), List.mem_of_getElem? (i := 870) (by decide +kernel)⟩
theorem lw_p23 : lw_okq (⟨"LargerWithin$Packing", "hasAllOfIts", "(II)Z"⟩, 5) := ⟨⟨by decide +kernel, by decide +kernel⟩, List.mem_of_getElem? (i := 131) (by decide +kernel), List.mem_of_getElem? (i := 873) (by decide +kernel), List.mem_of_getElem? (i := 874) (by decide +kernel)⟩
theorem lw_p24 : lw_okq (⟨"LargerWithin$Picked", "sumUp", "(II)V"⟩, 7) := ⟨⟨by decide +kernel, by decide +kernel⟩, List.mem_of_getElem? (i := 156) (by decide +kernel), List.mem_of_getElem? (i := 915) (by decide +kernel), List.mem_of_getElem? (i := 916) (by decide +kernel)⟩
theorem lw_p25 : lw_okq (⟨"LargerWithin$Picked", "sumUpOne", "(III)V"⟩, 7) := ⟨⟨by decide +kernel, by decide +kernel⟩, List.mem_of_getElem? (i := 156) (by decide +kernel), List.mem_of_getElem? (i := 923) (by decide +kernel), List.mem_of_getElem? (i := 924) (by decide +kernel)⟩
theorem lw_p26 : lw_okq (⟨"LargerWithin", "isThingSet", "(II)Z"⟩, 15) := ⟨⟨by decide +kernel, by decide +kernel⟩, List.mem_of_getElem? (i := 23) (by decide +kernel), List.mem_of_getElem? (i := 975) (by decide +kernel), List.mem_of_getElem? (i := 976) (by decide +kernel)⟩
theorem lw_p27 : lw_okq (⟨"LargerWithin$Household", "noteTakers", "()V"⟩, 10) := ⟨⟨by decide +kernel, by decide +kernel⟩, List.mem_of_getElem? (i := 184) (by decide +kernel), List.mem_of_getElem? (i := 991) (by decide +kernel), List.mem_of_getElem? (i := 992) (by decide +kernel)⟩
theorem lw_p28 : lw_okq (⟨"LargerWithin$Household", "takersOf", "(III)I"⟩, 10) := ⟨⟨by decide +kernel, by decide +kernel⟩, List.mem_of_getElem? (i := 184) (by decide +kernel), List.mem_of_getElem? (i := 1001) (by decide +kernel), List.mem_of_getElem? (i := 1002) (by decide +kernel)⟩
theorem lw_p29 : lw_okq (⟨"LargerWithin$Household", "priceOf", "(IZ)I"⟩, 10) := ⟨⟨by decide +kernel, by decide +kernel⟩, List.mem_of_getElem? (i := 184) (by decide +kernel), List.mem_of_getElem? (i := 1007) (by decide +kernel), List.mem_of_getElem? (i := 1008) (by decide +kernel)⟩
theorem lw_p30 : lw_okq (⟨"LargerWithin$Household", "offer", "(III)V"⟩, 10) := ⟨⟨by decide +kernel, by decide +kernel⟩, List.mem_of_getElem? (i := 184) (by decide +kernel), List.mem_of_getElem? (i := 1012) (by decide +kernel), List.mem_of_getElem? (i := 1013) (by decide +kernel)⟩
theorem lw_p31 : lw_okq (⟨"LargerWithin$Household", "extend", "(IIII)V"⟩, 10) := ⟨⟨by decide +kernel, by decide +kernel⟩, List.mem_of_getElem? (i := 184) (by decide +kernel), List.mem_of_getElem? (i := 1016) (by decide +kernel), List.mem_of_getElem? (i := 1017) (by decide +kernel)⟩
def lw_privs_2 : List (MethodName × Nat) := [(⟨"LargerWithin", "packingRefusal", "(I)I"⟩, 15), (⟨"LargerWithin$Packing", "blame", "(II)V"⟩, 5), (⟨"LargerWithin$Packing", "firstInItself", "()I"⟩, 5), (⟨"LargerWithin$Packing", "firstTooWide", "()I"⟩, 5), (⟨"LargerWithin$Packing", "firstTooHeavy", "()I"⟩, 5), (⟨"LargerWithin$Packing", "firstTooFull", "()I"⟩, 5), (⟨"LargerWithin$Packing", "firstReady", "(I)I"⟩, 5), (⟨"LargerWithin$Packing", "hasAllOfIts", "(II)Z"⟩, 5), (⟨"LargerWithin$Picked", "sumUp", "(II)V"⟩, 7), (⟨"LargerWithin$Picked", "sumUpOne", "(III)V"⟩, 7), (⟨"LargerWithin", "isThingSet", "(II)Z"⟩, 15), (⟨"LargerWithin$Household", "noteTakers", "()V"⟩, 10), (⟨"LargerWithin$Household", "takersOf", "(III)I"⟩, 10), (⟨"LargerWithin$Household", "priceOf", "(IZ)I"⟩, 10), (⟨"LargerWithin$Household", "offer", "(III)V"⟩, 10), (⟨"LargerWithin$Household", "extend", "(IIII)V"⟩, 10)]
theorem lw_r2 : ∀ q ∈ lw_privs_2, lw_okq q := List.forall_mem_cons.mpr ⟨lw_p16, List.forall_mem_cons.mpr ⟨lw_p17, List.forall_mem_cons.mpr ⟨lw_p18, List.forall_mem_cons.mpr ⟨lw_p19, List.forall_mem_cons.mpr ⟨lw_p20, List.forall_mem_cons.mpr ⟨lw_p21, List.forall_mem_cons.mpr ⟨lw_p22, List.forall_mem_cons.mpr ⟨lw_p23, List.forall_mem_cons.mpr ⟨lw_p24, List.forall_mem_cons.mpr ⟨lw_p25, List.forall_mem_cons.mpr ⟨lw_p26, List.forall_mem_cons.mpr ⟨lw_p27, List.forall_mem_cons.mpr ⟨lw_p28, List.forall_mem_cons.mpr ⟨lw_p29, List.forall_mem_cons.mpr ⟨lw_p30, List.forall_mem_cons.mpr ⟨lw_p31, fun _ h => absurd h List.not_mem_nil⟩⟩⟩⟩⟩⟩⟩⟩⟩⟩⟩⟩⟩⟩⟩⟩
theorem lw_p32 : lw_okq (⟨"LargerWithin$Household", "takes", "(II)Z"⟩, 10) := ⟨⟨by decide +kernel, by decide +kernel⟩, List.mem_of_getElem? (i := 184) (by decide +kernel), List.mem_of_getElem? (i := 1020) (by decide +kernel), List.mem_of_getElem? (i := 1021) (by decide +kernel)⟩
theorem lw_p33 : lw_okq (⟨"LargerWithin$Household", "takesNoMore", "(III)Z"⟩, 10) := ⟨⟨by decide +kernel, by decide +kernel⟩, List.mem_of_getElem? (i := 184) (by decide +kernel), List.mem_of_getElem? (i := 1024) (by decide +kernel), List.mem_of_getElem? (i := 1025) (by decide +kernel)⟩
theorem lw_p34 : lw_okq (⟨"LargerWithin", "isItemOf", "(II)Z"⟩, 15) := ⟨⟨by decide +kernel, by decide +kernel⟩, List.mem_of_getElem? (i := 23) (by decide +kernel), List.mem_of_getElem? (i := 1037) (by decide +kernel), List.mem_of_getElem? (i := 1038) (by decide +kernel)⟩
theorem lw_p35 : lw_okq (⟨"LargerWithin$Household", "lineUp", "(I)V"⟩, 10) := ⟨⟨by decide +kernel, by decide +kernel⟩, List.mem_of_getElem? (i := 184) (by decide +kernel), List.mem_of_getElem? (i := 1045) (by decide +kernel), List.mem_of_getElem? (i := 1046) (by decide +kernel)⟩
theorem lw_p36 : lw_okq (⟨"LargerWithin$Household", "greatestPart", "(II)I"⟩, 10) := ⟨⟨by decide +kernel, by decide +kernel⟩, List.mem_of_getElem? (i := 184) (by decide +kernel), List.mem_of_getElem? (i := 1049) (by decide +kernel), List.mem_of_getElem? (i := 1050) (by decide +kernel)⟩
theorem lw_p37 : lw_okq (⟨"LargerWithin$Household", "canTake", "(II)Z"⟩, 10) := ⟨⟨by decide +kernel, by decide +kernel⟩, List.mem_of_getElem? (i := 184) (by decide +kernel), List.mem_of_getElem? (i := 1053) (by decide +kernel), List.mem_of_getElem? (i := 1054) (by decide +kernel)⟩
theorem lw_p38 : lw_okq (⟨"LargerWithin", "canBeShut", "(II)Z"⟩, 15) := ⟨⟨by decide +kernel, by decide +kernel⟩, List.mem_of_getElem? (i := 23) (by decide +kernel), List.mem_of_getElem? (i := 1062) (by decide +kernel), List.mem_of_getElem? (i := 1063) (by decide +kernel)⟩
theorem lw_p39 : lw_okq (⟨"LargerWithin$Shutting", "placeFrom", "(IZ)V"⟩, 9) := ⟨⟨by decide +kernel, by decide +kernel⟩, List.mem_of_getElem? (i := 221) (by decide +kernel), List.mem_of_getElem? (i := 1072) (by decide +kernel), List.mem_of_getElem? (i := 1073) (by decide +kernel)⟩
theorem lw_p40 : lw_okq (⟨"LargerWithin$Shutting", "mayHost", "(II)Z"⟩, 9) := ⟨⟨by decide +kernel, by decide +kernel⟩, List.mem_of_getElem? (i := 221) (by decide +kernel), List.mem_of_getElem? (i := 1076) (by decide +kernel), List.mem_of_getElem? (i := 1077) (by decide +kernel)⟩
theorem lw_p41 : lw_okq (⟨"LargerWithin$Shutting", "move", "(III)V"⟩, 9) := ⟨⟨by decide +kernel, by decide +kernel⟩, List.mem_of_getElem? (i := 221) (by decide +kernel), List.mem_of_getElem? (i := 1085) (by decide +kernel), List.mem_of_getElem? (i := 1086) (by decide +kernel)⟩
theorem lw_p42 : lw_okq (⟨"LargerWithin$Shutting", "isSound", "(II)Z"⟩, 9) := ⟨⟨by decide +kernel, by decide +kernel⟩, List.mem_of_getElem? (i := 221) (by decide +kernel), List.mem_of_getElem? (i := 1089) (by decide +kernel), List.mem_of_getElem? (i := 1090) (by decide +kernel)⟩
theorem lw_p43 : lw_okq (⟨"LargerWithin$Shutting", "fitsNow", "(I)Z"⟩, 9) := ⟨⟨by decide +kernel, by decide +kernel⟩, List.mem_of_getElem? (i := 221) (by decide +kernel), List.mem_of_getElem? (i := 1093) (by decide +kernel), List.mem_of_getElem? (i := 1094) (by decide +kernel)⟩
theorem lw_p44 : lw_okq (⟨"LargerWithin$Nest", "notePairs", "(I)V"⟩, 6) := ⟨⟨by decide +kernel, by decide +kernel⟩, List.mem_of_getElem? (i := 286) (by decide +kernel), List.mem_of_getElem? (i := 1147) (by decide +kernel), List.mem_of_getElem? (i := 1148) (by decide +kernel)⟩
theorem lw_p45 : lw_okq (⟨"LargerWithin$Nest", "mostAround", "(II)I"⟩, 6) := ⟨⟨by decide +kernel, by decide +kernel⟩, List.mem_of_getElem? (i := 286) (by decide +kernel), List.mem_of_getElem? (i := 1155) (by decide +kernel), List.mem_of_getElem? (i := 1156) (by decide +kernel)⟩
theorem lw_p46 : lw_okq (⟨"LargerWithin$Nest", "manyWith", "(IIII)I"⟩, 6) := ⟨⟨by decide +kernel, by decide +kernel⟩, List.mem_of_getElem? (i := 286) (by decide +kernel), List.mem_of_getElem? (i := 1160) (by decide +kernel), List.mem_of_getElem? (i := 1161) (by decide +kernel)⟩
theorem lw_p47 : lw_okq (⟨"LargerWithin$Nest", "lineUp", "()V"⟩, 6) := ⟨⟨by decide +kernel, by decide +kernel⟩, List.mem_of_getElem? (i := 286) (by decide +kernel), List.mem_of_getElem? (i := 1165) (by decide +kernel), List.mem_of_getElem? (i := 1166) (by decide +kernel)⟩
def lw_privs_3 : List (MethodName × Nat) := [(⟨"LargerWithin$Household", "takes", "(II)Z"⟩, 10), (⟨"LargerWithin$Household", "takesNoMore", "(III)Z"⟩, 10), (⟨"LargerWithin", "isItemOf", "(II)Z"⟩, 15), (⟨"LargerWithin$Household", "lineUp", "(I)V"⟩, 10), (⟨"LargerWithin$Household", "greatestPart", "(II)I"⟩, 10), (⟨"LargerWithin$Household", "canTake", "(II)Z"⟩, 10), (⟨"LargerWithin", "canBeShut", "(II)Z"⟩, 15), (⟨"LargerWithin$Shutting", "placeFrom", "(IZ)V"⟩, 9), (⟨"LargerWithin$Shutting", "mayHost", "(II)Z"⟩, 9), (⟨"LargerWithin$Shutting", "move", "(III)V"⟩, 9), (⟨"LargerWithin$Shutting", "isSound", "(II)Z"⟩, 9), (⟨"LargerWithin$Shutting", "fitsNow", "(I)Z"⟩, 9), (⟨"LargerWithin$Nest", "notePairs", "(I)V"⟩, 6), (⟨"LargerWithin$Nest", "mostAround", "(II)I"⟩, 6), (⟨"LargerWithin$Nest", "manyWith", "(IIII)I"⟩, 6), (⟨"LargerWithin$Nest", "lineUp", "()V"⟩, 6)]
theorem lw_r3 : ∀ q ∈ lw_privs_3, lw_okq q := List.forall_mem_cons.mpr ⟨lw_p32, List.forall_mem_cons.mpr ⟨lw_p33, List.forall_mem_cons.mpr ⟨lw_p34, List.forall_mem_cons.mpr ⟨lw_p35, List.forall_mem_cons.mpr ⟨lw_p36, List.forall_mem_cons.mpr ⟨lw_p37, List.forall_mem_cons.mpr ⟨lw_p38, List.forall_mem_cons.mpr ⟨lw_p39, List.forall_mem_cons.mpr ⟨lw_p40, List.forall_mem_cons.mpr ⟨lw_p41, List.forall_mem_cons.mpr ⟨lw_p42, List.forall_mem_cons.mpr ⟨lw_p43, List.forall_mem_cons.mpr ⟨lw_p44, List.forall_mem_cons.mpr ⟨lw_p45, List.forall_mem_cons.mpr ⟨lw_p46, List.forall_mem_cons.mpr ⟨lw_p47, fun _ h => absurd h List.not_mem_nil⟩⟩⟩⟩⟩⟩⟩⟩⟩⟩⟩⟩⟩⟩⟩⟩
theorem lw_p48 : lw_okq (⟨"LargerWithin$Nest", "firstAround", "(III)I"⟩, 6) := ⟨⟨by decide +kernel, by decide +kernel⟩, List.mem_of_getElem? (i := 286) (by decide +kernel), List.mem_of_getElem? (i := 1169) (by decide +kernel), List.mem_of_getElem? (i := 1170) (by decide +kernel)⟩
theorem lw_p49 : lw_okq (⟨"LargerWithin$Voyage", "sortIn", "(LLargerWithin$Row;)V"⟩, 7) := ⟨⟨by decide +kernel, by decide +kernel⟩, List.mem_of_getElem? (i := 311) (by decide +kernel), List.mem_of_getElem? (i := 1205) (by decide +kernel), List.mem_of_getElem? (i := 1206) (by decide +kernel)⟩
theorem lw_p50 : lw_okq (⟨"LargerWithin$Voyage", "chooseNext", "(I)V"⟩, 7) := ⟨⟨by decide +kernel, by decide +kernel⟩, List.mem_of_getElem? (i := 311) (by decide +kernel), List.mem_of_getElem? (i := 1209) (by decide +kernel), List.mem_of_getElem? (i := 1210) (by decide +kernel)⟩
theorem lw_p51 : lw_okq (⟨"LargerWithin", "weighIfSound", "(IIII)I"⟩, 15) := ⟨⟨by decide +kernel, by decide +kernel⟩, List.mem_of_getElem? (i := 23) (by decide +kernel), List.mem_of_getElem? (i := 1225) (by decide +kernel), List.mem_of_getElem? (i := 1226) (by decide +kernel)⟩
theorem lw_p52 : lw_okq (⟨"LargerWithin$Chest", "begin", "(I)V"⟩, 8) := ⟨⟨by decide +kernel, by decide +kernel⟩, List.mem_of_getElem? (i := 255) (by decide +kernel), List.mem_of_getElem? (i := 1233) (by decide +kernel), List.mem_of_getElem? (i := 1234) (by decide +kernel)⟩
theorem lw_p53 : lw_okq (⟨"LargerWithin$Chest", "note", "(I)V"⟩, 8) := ⟨⟨by decide +kernel, by decide +kernel⟩, List.mem_of_getElem? (i := 255) (by decide +kernel), List.mem_of_getElem? (i := 1243) (by decide +kernel), List.mem_of_getElem? (i := 1244) (by decide +kernel)⟩
theorem lw_p54 : lw_okq (⟨"LargerWithin$Chest", "noteSetsWith", "()V"⟩, 8) := ⟨⟨by decide +kernel, by decide +kernel⟩, List.mem_of_getElem? (i := 255) (by decide +kernel), List.mem_of_getElem? (i := 1286) (by decide +kernel), List.mem_of_getElem? (i := 1287) (by decide +kernel)⟩
theorem lw_p55 : lw_okq (⟨"LargerWithin$Chest", "looksFor", "(I)I"⟩, 8) := ⟨⟨by decide +kernel, by decide +kernel⟩, List.mem_of_getElem? (i := 255) (by decide +kernel), List.mem_of_getElem? (i := 1290) (by decide +kernel), List.mem_of_getElem? (i := 1291) (by decide +kernel)⟩
theorem lw_p56 : lw_okq (⟨"LargerWithin", "carryOut", "(I)I"⟩, 15) := ⟨⟨by decide +kernel, by decide +kernel⟩, List.mem_of_getElem? (i := 23) (by decide +kernel), List.mem_of_getElem? (i := 1331) (by decide +kernel), List.mem_of_getElem? (i := 1332) (by decide +kernel)⟩
theorem lw_p57 : lw_okq (⟨"LargerWithin", "carryIn", "(II)I"⟩, 15) := ⟨⟨by decide +kernel, by decide +kernel⟩, List.mem_of_getElem? (i := 23) (by decide +kernel), List.mem_of_getElem? (i := 1335) (by decide +kernel), List.mem_of_getElem? (i := 1336) (by decide +kernel)⟩
theorem lw_p58 : lw_okq (⟨"LargerWithin$Row", "cut", "(J)J"⟩, 3) := ⟨⟨by decide +kernel, by decide +kernel⟩, List.mem_of_getElem? (i := 112) (by decide +kernel), List.mem_of_getElem? (i := 1360) (by decide +kernel), List.mem_of_getElem? (i := 1361) (by decide +kernel)⟩
theorem lw_p59 : lw_okq (⟨"LargerWithinModel", "next", "()V"⟩, 40) := ⟨⟨by decide +kernel, by decide +kernel⟩, List.mem_of_getElem? (i := 1392) (by decide +kernel), List.mem_of_getElem? (i := 1531) (by decide +kernel), List.mem_of_getElem? (i := 1532) (by decide +kernel)⟩
theorem lw_p60 : lw_okq (⟨"LargerWithinModel", "see", "(I)I"⟩, 40) := ⟨⟨by decide +kernel, by decide +kernel⟩, List.mem_of_getElem? (i := 1392) (by decide +kernel), List.mem_of_getElem? (i := 1535) (by decide +kernel), List.mem_of_getElem? (i := 1536) (by decide +kernel)⟩
theorem lw_p61 : lw_okq (⟨"LargerWithinModel", "keyAt", "()I"⟩, 40) := ⟨⟨by decide +kernel, by decide +kernel⟩, List.mem_of_getElem? (i := 1392) (by decide +kernel), List.mem_of_getElem? (i := 1542) (by decide +kernel), List.mem_of_getElem? (i := 1543) (by decide +kernel)⟩
theorem lw_p62 : lw_okq (⟨"LargerWithinModel", "is", "(I)Z"⟩, 40) := ⟨⟨by decide +kernel, by decide +kernel⟩, List.mem_of_getElem? (i := 1392) (by decide +kernel), List.mem_of_getElem? (i := 1552) (by decide +kernel), List.mem_of_getElem? (i := 1553) (by decide +kernel)⟩
theorem lw_p63 : lw_okq (⟨"LargerWithinModel", "readBox", "()V"⟩, 40) := ⟨⟨by decide +kernel, by decide +kernel⟩, List.mem_of_getElem? (i := 1392) (by decide +kernel), List.mem_of_getElem? (i := 1556) (by decide +kernel), List.mem_of_getElem? (i := 1557) (by decide +kernel)⟩
def lw_privs_4 : List (MethodName × Nat) := [(⟨"LargerWithin$Nest", "firstAround", "(III)I"⟩, 6), (⟨"LargerWithin$Voyage", "sortIn", "(LLargerWithin$Row;)V"⟩, 7), (⟨"LargerWithin$Voyage", "chooseNext", "(I)V"⟩, 7), (⟨"LargerWithin", "weighIfSound", "(IIII)I"⟩, 15), (⟨"LargerWithin$Chest", "begin", "(I)V"⟩, 8), (⟨"LargerWithin$Chest", "note", "(I)V"⟩, 8), (⟨"LargerWithin$Chest", "noteSetsWith", "()V"⟩, 8), (⟨"LargerWithin$Chest", "looksFor", "(I)I"⟩, 8), (⟨"LargerWithin", "carryOut", "(I)I"⟩, 15), (⟨"LargerWithin", "carryIn", "(II)I"⟩, 15), (⟨"LargerWithin$Row", "cut", "(J)J"⟩, 3), (⟨"LargerWithinModel", "next", "()V"⟩, 40), (⟨"LargerWithinModel", "see", "(I)I"⟩, 40), (⟨"LargerWithinModel", "keyAt", "()I"⟩, 40), (⟨"LargerWithinModel", "is", "(I)Z"⟩, 40), (⟨"LargerWithinModel", "readBox", "()V"⟩, 40)]
theorem lw_r4 : ∀ q ∈ lw_privs_4, lw_okq q := List.forall_mem_cons.mpr ⟨lw_p48, List.forall_mem_cons.mpr ⟨lw_p49, List.forall_mem_cons.mpr ⟨lw_p50, List.forall_mem_cons.mpr ⟨lw_p51, List.forall_mem_cons.mpr ⟨lw_p52, List.forall_mem_cons.mpr ⟨lw_p53, List.forall_mem_cons.mpr ⟨lw_p54, List.forall_mem_cons.mpr ⟨lw_p55, List.forall_mem_cons.mpr ⟨lw_p56, List.forall_mem_cons.mpr ⟨lw_p57, List.forall_mem_cons.mpr ⟨lw_p58, List.forall_mem_cons.mpr ⟨lw_p59, List.forall_mem_cons.mpr ⟨lw_p60, List.forall_mem_cons.mpr ⟨lw_p61, List.forall_mem_cons.mpr ⟨lw_p62, List.forall_mem_cons.mpr ⟨lw_p63, fun _ h => absurd h List.not_mem_nil⟩⟩⟩⟩⟩⟩⟩⟩⟩⟩⟩⟩⟩⟩⟩⟩
theorem lw_p64 : lw_okq (⟨"LargerWithinModel", "fails", "(I)V"⟩, 40) := ⟨⟨by decide +kernel, by decide +kernel⟩, List.mem_of_getElem? (i := 1392) (by decide +kernel), List.mem_of_getElem? (i := 1560) (by decide +kernel), List.mem_of_getElem? (i := 1561) (by decide +kernel)⟩
theorem lw_p65 : lw_okq (⟨"LargerWithinModel", "takes", "(II)I"⟩, 40) := ⟨⟨by decide +kernel, by decide +kernel⟩, List.mem_of_getElem? (i := 1392) (by decide +kernel), List.mem_of_getElem? (i := 1564) (by decide +kernel), List.mem_of_getElem? (i := 1565) (by decide +kernel)⟩
theorem lw_p66 : lw_okq (⟨"LargerWithinModel", "takesBehind", "(III)I"⟩, 40) := ⟨⟨by decide +kernel, by decide +kernel⟩, List.mem_of_getElem? (i := 1392) (by decide +kernel), List.mem_of_getElem? (i := 1568) (by decide +kernel), List.mem_of_getElem? (i := 1569) (by decide +kernel)⟩
theorem lw_p67 : lw_okq (⟨"LargerWithinModel", "must", "(I)V"⟩, 40) := ⟨⟨by decide +kernel, by decide +kernel⟩, List.mem_of_getElem? (i := 1392) (by decide +kernel), List.mem_of_getElem? (i := 1572) (by decide +kernel), List.mem_of_getElem? (i := 1573) (by decide +kernel)⟩
theorem lw_p68 : lw_okq (⟨"LargerWithinModel", "readThing", "()V"⟩, 40) := ⟨⟨by decide +kernel, by decide +kernel⟩, List.mem_of_getElem? (i := 1392) (by decide +kernel), List.mem_of_getElem? (i := 1579) (by decide +kernel), List.mem_of_getElem? (i := 1580) (by decide +kernel)⟩
theorem lw_p69 : lw_okq (⟨"LargerWithinModel", "isItem", "(J)Z"⟩, 40) := ⟨⟨by decide +kernel, by decide +kernel⟩, List.mem_of_getElem? (i := 1392) (by decide +kernel), List.mem_of_getElem? (i := 1591) (by decide +kernel), List.mem_of_getElem? (i := 1592) (by decide +kernel)⟩
theorem lw_p70 : lw_okq (⟨"LargerWithinModel", "isBox", "(J)Z"⟩, 40) := ⟨⟨by decide +kernel, by decide +kernel⟩, List.mem_of_getElem? (i := 1392) (by decide +kernel), List.mem_of_getElem? (i := 1595) (by decide +kernel), List.mem_of_getElem? (i := 1596) (by decide +kernel)⟩
theorem lw_p71 : lw_okq (⟨"LargerWithinModel", "of", "(II)I"⟩, 40) := ⟨⟨by decide +kernel, by decide +kernel⟩, List.mem_of_getElem? (i := 1392) (by decide +kernel), List.mem_of_getElem? (i := 1601) (by decide +kernel), List.mem_of_getElem? (i := 1602) (by decide +kernel)⟩
theorem lw_p72 : lw_okq (⟨"LargerWithinModel", "around", "(I)I"⟩, 40) := ⟨⟨by decide +kernel, by decide +kernel⟩, List.mem_of_getElem? (i := 1392) (by decide +kernel), List.mem_of_getElem? (i := 1610) (by decide +kernel), List.mem_of_getElem? (i := 1611) (by decide +kernel)⟩
theorem lw_p73 : lw_okq (⟨"LargerWithinModel", "overMany", "(I)I"⟩, 40) := ⟨⟨by decide +kernel, by decide +kernel⟩, List.mem_of_getElem? (i := 1392) (by decide +kernel), List.mem_of_getElem? (i := 1614) (by decide +kernel), List.mem_of_getElem? (i := 1615) (by decide +kernel)⟩
theorem lw_p74 : lw_okq (⟨"LargerWithinModel", "isOver", "(II)Z"⟩, 40) := ⟨⟨by decide +kernel, by decide +kernel⟩, List.mem_of_getElem? (i := 1392) (by decide +kernel), List.mem_of_getElem? (i := 1618) (by decide +kernel), List.mem_of_getElem? (i := 1619) (by decide +kernel)⟩
theorem lw_p75 : lw_okq (⟨"LargerWithinModel", "heftOf", "(I)I"⟩, 40) := ⟨⟨by decide +kernel, by decide +kernel⟩, List.mem_of_getElem? (i := 1392) (by decide +kernel), List.mem_of_getElem? (i := 1622) (by decide +kernel), List.mem_of_getElem? (i := 1623) (by decide +kernel)⟩
theorem lw_p76 : lw_okq (⟨"LargerWithinModel", "loadOf", "(I)I"⟩, 40) := ⟨⟨by decide +kernel, by decide +kernel⟩, List.mem_of_getElem? (i := 1392) (by decide +kernel), List.mem_of_getElem? (i := 1626) (by decide +kernel), List.mem_of_getElem? (i := 1627) (by decide +kernel)⟩
theorem lw_p77 : lw_okq (⟨"LargerWithinModel", "isDeepIn", "(II)Z"⟩, 40) := ⟨⟨by decide +kernel, by decide +kernel⟩, List.mem_of_getElem? (i := 1392) (by decide +kernel), List.mem_of_getElem? (i := 1630) (by decide +kernel), List.mem_of_getElem? (i := 1631) (by decide +kernel)⟩
theorem lw_p78 : lw_okq (⟨"LargerWithinModel", "depthOf", "(I)I"⟩, 40) := ⟨⟨by decide +kernel, by decide +kernel⟩, List.mem_of_getElem? (i := 1392) (by decide +kernel), List.mem_of_getElem? (i := 1634) (by decide +kernel), List.mem_of_getElem? (i := 1635) (by decide +kernel)⟩
theorem lw_p79 : lw_okq (⟨"LargerWithinModel", "manyIn", "(I)I"⟩, 40) := ⟨⟨by decide +kernel, by decide +kernel⟩, List.mem_of_getElem? (i := 1392) (by decide +kernel), List.mem_of_getElem? (i := 1644) (by decide +kernel), List.mem_of_getElem? (i := 1645) (by decide +kernel)⟩
def lw_privs_5 : List (MethodName × Nat) := [(⟨"LargerWithinModel", "fails", "(I)V"⟩, 40), (⟨"LargerWithinModel", "takes", "(II)I"⟩, 40), (⟨"LargerWithinModel", "takesBehind", "(III)I"⟩, 40), (⟨"LargerWithinModel", "must", "(I)V"⟩, 40), (⟨"LargerWithinModel", "readThing", "()V"⟩, 40), (⟨"LargerWithinModel", "isItem", "(J)Z"⟩, 40), (⟨"LargerWithinModel", "isBox", "(J)Z"⟩, 40), (⟨"LargerWithinModel", "of", "(II)I"⟩, 40), (⟨"LargerWithinModel", "around", "(I)I"⟩, 40), (⟨"LargerWithinModel", "overMany", "(I)I"⟩, 40), (⟨"LargerWithinModel", "isOver", "(II)Z"⟩, 40), (⟨"LargerWithinModel", "heftOf", "(I)I"⟩, 40), (⟨"LargerWithinModel", "loadOf", "(I)I"⟩, 40), (⟨"LargerWithinModel", "isDeepIn", "(II)Z"⟩, 40), (⟨"LargerWithinModel", "depthOf", "(I)I"⟩, 40), (⟨"LargerWithinModel", "manyIn", "(I)I"⟩, 40)]
theorem lw_r5 : ∀ q ∈ lw_privs_5, lw_okq q := List.forall_mem_cons.mpr ⟨lw_p64, List.forall_mem_cons.mpr ⟨lw_p65, List.forall_mem_cons.mpr ⟨lw_p66, List.forall_mem_cons.mpr ⟨lw_p67, List.forall_mem_cons.mpr ⟨lw_p68, List.forall_mem_cons.mpr ⟨lw_p69, List.forall_mem_cons.mpr ⟨lw_p70, List.forall_mem_cons.mpr ⟨lw_p71, List.forall_mem_cons.mpr ⟨lw_p72, List.forall_mem_cons.mpr ⟨lw_p73, List.forall_mem_cons.mpr ⟨lw_p74, List.forall_mem_cons.mpr ⟨lw_p75, List.forall_mem_cons.mpr ⟨lw_p76, List.forall_mem_cons.mpr ⟨lw_p77, List.forall_mem_cons.mpr ⟨lw_p78, List.forall_mem_cons.mpr ⟨lw_p79, fun _ h => absurd h List.not_mem_nil⟩⟩⟩⟩⟩⟩⟩⟩⟩⟩⟩⟩⟩⟩⟩⟩
theorem lw_p80 : lw_okq (⟨"LargerWithinModel", "inBox", "(II)I"⟩, 40) := ⟨⟨by decide +kernel, by decide +kernel⟩, List.mem_of_getElem? (i := 1392) (by decide +kernel), List.mem_of_getElem? (i := 1648) (by decide +kernel), List.mem_of_getElem? (i := 1649) (by decide +kernel)⟩
theorem lw_p81 : lw_okq (⟨"LargerWithinModel", "roomOf", "(II)I"⟩, 40) := ⟨⟨by decide +kernel, by decide +kernel⟩, List.mem_of_getElem? (i := 1392) (by decide +kernel), List.mem_of_getElem? (i := 1652) (by decide +kernel), List.mem_of_getElem? (i := 1653) (by decide +kernel)⟩
theorem lw_p82 : lw_okq (⟨"LargerWithinModel", "halvedOf", "(I)I"⟩, 40) := ⟨⟨by decide +kernel, by decide +kernel⟩, List.mem_of_getElem? (i := 1392) (by decide +kernel), List.mem_of_getElem? (i := 1656) (by decide +kernel), List.mem_of_getElem? (i := 1657) (by decide +kernel)⟩
theorem lw_p83 : lw_okq (⟨"LargerWithinModel", "fillOf", "(I)I"⟩, 40) := ⟨⟨by decide +kernel, by decide +kernel⟩, List.mem_of_getElem? (i := 1392) (by decide +kernel), List.mem_of_getElem? (i := 1663) (by decide +kernel), List.mem_of_getElem? (i := 1664) (by decide +kernel)⟩
theorem lw_p84 : lw_okq (⟨"LargerWithinModel", "refuses", "(II)I"⟩, 40) := ⟨⟨by decide +kernel, by decide +kernel⟩, List.mem_of_getElem? (i := 1392) (by decide +kernel), List.mem_of_getElem? (i := 1671) (by decide +kernel), List.mem_of_getElem? (i := 1672) (by decide +kernel)⟩
theorem lw_p85 : lw_okq (⟨"LargerWithinModel", "bears", "(II)Z"⟩, 40) := ⟨⟨by decide +kernel, by decide +kernel⟩, List.mem_of_getElem? (i := 1392) (by decide +kernel), List.mem_of_getElem? (i := 1675) (by decide +kernel), List.mem_of_getElem? (i := 1676) (by decide +kernel)⟩
theorem lw_p86 : lw_okq (⟨"LargerWithinModel", "comes", "(II)V"⟩, 40) := ⟨⟨by decide +kernel, by decide +kernel⟩, List.mem_of_getElem? (i := 1392) (by decide +kernel), List.mem_of_getElem? (i := 1683) (by decide +kernel), List.mem_of_getElem? (i := 1684) (by decide +kernel)⟩
theorem lw_p87 : lw_okq (⟨"LargerWithinModel", "canBeTaken", "(I)Z"⟩, 40) := ⟨⟨by decide +kernel, by decide +kernel⟩, List.mem_of_getElem? (i := 1392) (by decide +kernel), List.mem_of_getElem? (i := 1691) (by decide +kernel), List.mem_of_getElem? (i := 1692) (by decide +kernel)⟩
theorem lw_p88 : lw_okq (⟨"LargerWithinModel", "itemsIn", "()I"⟩, 40) := ⟨⟨by decide +kernel, by decide +kernel⟩, List.mem_of_getElem? (i := 1392) (by decide +kernel), List.mem_of_getElem? (i := 1699) (by decide +kernel), List.mem_of_getElem? (i := 1700) (by decide +kernel)⟩
theorem lw_p89 : lw_okq (⟨"LargerWithinModel", "keeps", "()V"⟩, 40) := ⟨⟨by decide +kernel, by decide +kernel⟩, List.mem_of_getElem? (i := 1392) (by decide +kernel), List.mem_of_getElem? (i := 1712) (by decide +kernel), List.mem_of_getElem? (i := 1713) (by decide +kernel)⟩
theorem lw_p90 : lw_okq (⟨"LargerWithinModel", "actsAll", "(I)I"⟩, 40) := ⟨⟨by decide +kernel, by decide +kernel⟩, List.mem_of_getElem? (i := 1392) (by decide +kernel), List.mem_of_getElem? (i := 1716) (by decide +kernel), List.mem_of_getElem? (i := 1717) (by decide +kernel)⟩
theorem lw_p91 : lw_okq (⟨"LargerWithinModel", "acts", "(J)I"⟩, 40) := ⟨⟨by decide +kernel, by decide +kernel⟩, List.mem_of_getElem? (i := 1392) (by decide +kernel), List.mem_of_getElem? (i := 1720) (by decide +kernel), List.mem_of_getElem? (i := 1721) (by decide +kernel)⟩
theorem lw_p92 : lw_okq (⟨"LargerWithinModel", "isAgain", "()V"⟩, 40) := ⟨⟨by decide +kernel, by decide +kernel⟩, List.mem_of_getElem? (i := 1392) (by decide +kernel), List.mem_of_getElem? (i := 1726) (by decide +kernel), List.mem_of_getElem? (i := 1727) (by decide +kernel)⟩
theorem lw_p93 : lw_okq (⟨"LargerWithinModel", "itemMany", "()I"⟩, 40) := ⟨⟨by decide +kernel, by decide +kernel⟩, List.mem_of_getElem? (i := 1392) (by decide +kernel), List.mem_of_getElem? (i := 1738) (by decide +kernel), List.mem_of_getElem? (i := 1739) (by decide +kernel)⟩
theorem lw_p94 : lw_okq (⟨"LargerWithinModel", "firstNoBox", "(I)I"⟩, 40) := ⟨⟨by decide +kernel, by decide +kernel⟩, List.mem_of_getElem? (i := 1392) (by decide +kernel), List.mem_of_getElem? (i := 1742) (by decide +kernel), List.mem_of_getElem? (i := 1743) (by decide +kernel)⟩
theorem lw_p95 : lw_okq (⟨"LargerWithinModel", "itemAt", "(I)I"⟩, 40) := ⟨⟨by decide +kernel, by decide +kernel⟩, List.mem_of_getElem? (i := 1392) (by decide +kernel), List.mem_of_getElem? (i := 1747) (by decide +kernel), List.mem_of_getElem? (i := 1748) (by decide +kernel)⟩
def lw_privs_6 : List (MethodName × Nat) := [(⟨"LargerWithinModel", "inBox", "(II)I"⟩, 40), (⟨"LargerWithinModel", "roomOf", "(II)I"⟩, 40), (⟨"LargerWithinModel", "halvedOf", "(I)I"⟩, 40), (⟨"LargerWithinModel", "fillOf", "(I)I"⟩, 40), (⟨"LargerWithinModel", "refuses", "(II)I"⟩, 40), (⟨"LargerWithinModel", "bears", "(II)Z"⟩, 40), (⟨"LargerWithinModel", "comes", "(II)V"⟩, 40), (⟨"LargerWithinModel", "canBeTaken", "(I)Z"⟩, 40), (⟨"LargerWithinModel", "itemsIn", "()I"⟩, 40), (⟨"LargerWithinModel", "keeps", "()V"⟩, 40), (⟨"LargerWithinModel", "actsAll", "(I)I"⟩, 40), (⟨"LargerWithinModel", "acts", "(J)I"⟩, 40), (⟨"LargerWithinModel", "isAgain", "()V"⟩, 40), (⟨"LargerWithinModel", "itemMany", "()I"⟩, 40), (⟨"LargerWithinModel", "firstNoBox", "(I)I"⟩, 40), (⟨"LargerWithinModel", "itemAt", "(I)I"⟩, 40)]
theorem lw_r6 : ∀ q ∈ lw_privs_6, lw_okq q := List.forall_mem_cons.mpr ⟨lw_p80, List.forall_mem_cons.mpr ⟨lw_p81, List.forall_mem_cons.mpr ⟨lw_p82, List.forall_mem_cons.mpr ⟨lw_p83, List.forall_mem_cons.mpr ⟨lw_p84, List.forall_mem_cons.mpr ⟨lw_p85, List.forall_mem_cons.mpr ⟨lw_p86, List.forall_mem_cons.mpr ⟨lw_p87, List.forall_mem_cons.mpr ⟨lw_p88, List.forall_mem_cons.mpr ⟨lw_p89, List.forall_mem_cons.mpr ⟨lw_p90, List.forall_mem_cons.mpr ⟨lw_p91, List.forall_mem_cons.mpr ⟨lw_p92, List.forall_mem_cons.mpr ⟨lw_p93, List.forall_mem_cons.mpr ⟨lw_p94, List.forall_mem_cons.mpr ⟨lw_p95, fun _ h => absurd h List.not_mem_nil⟩⟩⟩⟩⟩⟩⟩⟩⟩⟩⟩⟩⟩⟩⟩⟩
theorem lw_p96 : lw_okq (⟨"LargerWithinModel", "lays", "(I)V"⟩, 40) := ⟨⟨by decide +kernel, by decide +kernel⟩, List.mem_of_getElem? (i := 1392) (by decide +kernel), List.mem_of_getElem? (i := 1751) (by decide +kernel), List.mem_of_getElem? (i := 1752) (by decide +kernel)⟩
theorem lw_p97 : lw_okq (⟨"LargerWithinModel", "firstWrong", "()I"⟩, 40) := ⟨⟨by decide +kernel, by decide +kernel⟩, List.mem_of_getElem? (i := 1392) (by decide +kernel), List.mem_of_getElem? (i := 1755) (by decide +kernel), List.mem_of_getElem? (i := 1756) (by decide +kernel)⟩
theorem lw_p98 : lw_okq (⟨"LargerWithinModel", "isRing", "(I)Z"⟩, 40) := ⟨⟨by decide +kernel, by decide +kernel⟩, List.mem_of_getElem? (i := 1392) (by decide +kernel), List.mem_of_getElem? (i := 1759) (by decide +kernel), List.mem_of_getElem? (i := 1760) (by decide +kernel)⟩
theorem lw_p99 : lw_okq (⟨"LargerWithinModel", "itemsAll", "()I"⟩, 40) := ⟨⟨by decide +kernel, by decide +kernel⟩, List.mem_of_getElem? (i := 1392) (by decide +kernel), List.mem_of_getElem? (i := 1771) (by decide +kernel), List.mem_of_getElem? (i := 1772) (by decide +kernel)⟩
theorem lw_p100 : lw_okq (⟨"LargerWithinModel", "takesFew", "(IIZ)V"⟩, 40) := ⟨⟨by decide +kernel, by decide +kernel⟩, List.mem_of_getElem? (i := 1392) (by decide +kernel), List.mem_of_getElem? (i := 1775) (by decide +kernel), List.mem_of_getElem? (i := 1776) (by decide +kernel)⟩
theorem lw_p101 : lw_okq (⟨"LargerWithinModel", "sumOf", "(II)I"⟩, 40) := ⟨⟨by decide +kernel, by decide +kernel⟩, List.mem_of_getElem? (i := 1392) (by decide +kernel), List.mem_of_getElem? (i := 1779) (by decide +kernel), List.mem_of_getElem? (i := 1780) (by decide +kernel)⟩
theorem lw_p102 : lw_okq (⟨"LargerWithinModel", "passes", "(II)Z"⟩, 40) := ⟨⟨by decide +kernel, by decide +kernel⟩, List.mem_of_getElem? (i := 1392) (by decide +kernel), List.mem_of_getElem? (i := 1783) (by decide +kernel), List.mem_of_getElem? (i := 1784) (by decide +kernel)⟩
theorem lw_p103 : lw_okq (⟨"LargerWithinModel", "asItems", "(I)I"⟩, 40) := ⟨⟨by decide +kernel, by decide +kernel⟩, List.mem_of_getElem? (i := 1392) (by decide +kernel), List.mem_of_getElem? (i := 1787) (by decide +kernel), List.mem_of_getElem? (i := 1788) (by decide +kernel)⟩
theorem lw_p104 : lw_okq (⟨"LargerWithinModel", "isHousehold", "(I)Z"⟩, 40) := ⟨⟨by decide +kernel, by decide +kernel⟩, List.mem_of_getElem? (i := 1392) (by decide +kernel), List.mem_of_getElem? (i := 1795) (by decide +kernel), List.mem_of_getElem? (i := 1796) (by decide +kernel)⟩
theorem lw_p105 : lw_okq (⟨"LargerWithinModel", "thingsAll", "()I"⟩, 40) := ⟨⟨by decide +kernel, by decide +kernel⟩, List.mem_of_getElem? (i := 1392) (by decide +kernel), List.mem_of_getElem? (i := 1799) (by decide +kernel), List.mem_of_getElem? (i := 1800) (by decide +kernel)⟩
theorem lw_p106 : lw_okq (⟨"LargerWithinModel", "bestBoxes", "(IZ)I"⟩, 40) := ⟨⟨by decide +kernel, by decide +kernel⟩, List.mem_of_getElem? (i := 1392) (by decide +kernel), List.mem_of_getElem? (i := 1806) (by decide +kernel), List.mem_of_getElem? (i := 1807) (by decide +kernel)⟩
theorem lw_p107 : lw_okq (⟨"LargerWithinModel", "laysBoxes", "()V"⟩, 40) := ⟨⟨by decide +kernel, by decide +kernel⟩, List.mem_of_getElem? (i := 1392) (by decide +kernel), List.mem_of_getElem? (i := 1810) (by decide +kernel), List.mem_of_getElem? (i := 1811) (by decide +kernel)⟩
theorem lw_p108 : lw_okq (⟨"LargerWithinModel", "canWith", "(III)Z"⟩, 40) := ⟨⟨by decide +kernel, by decide +kernel⟩, List.mem_of_getElem? (i := 1392) (by decide +kernel), List.mem_of_getElem? (i := 1814) (by decide +kernel), List.mem_of_getElem? (i := 1815) (by decide +kernel)⟩
theorem lw_p109 : lw_okq (⟨"LargerWithinModel", "isBetter", "(IIZ)Z"⟩, 40) := ⟨⟨by decide +kernel, by decide +kernel⟩, List.mem_of_getElem? (i := 1392) (by decide +kernel), List.mem_of_getElem? (i := 1818) (by decide +kernel), List.mem_of_getElem? (i := 1819) (by decide +kernel)⟩
theorem lw_p110 : lw_okq (⟨"LargerWithinModel", "weightOf", "(I)I"⟩, 40) := ⟨⟨by decide +kernel, by decide +kernel⟩, List.mem_of_getElem? (i := 1392) (by decide +kernel), List.mem_of_getElem? (i := 1822) (by decide +kernel), List.mem_of_getElem? (i := 1823) (by decide +kernel)⟩
theorem lw_p111 : lw_okq (⟨"LargerWithinModel", "isShut", "(I)Z"⟩, 40) := ⟨⟨by decide +kernel, by decide +kernel⟩, List.mem_of_getElem? (i := 1392) (by decide +kernel), List.mem_of_getElem? (i := 1838) (by decide +kernel), List.mem_of_getElem? (i := 1839) (by decide +kernel)⟩
def lw_privs_7 : List (MethodName × Nat) := [(⟨"LargerWithinModel", "lays", "(I)V"⟩, 40), (⟨"LargerWithinModel", "firstWrong", "()I"⟩, 40), (⟨"LargerWithinModel", "isRing", "(I)Z"⟩, 40), (⟨"LargerWithinModel", "itemsAll", "()I"⟩, 40), (⟨"LargerWithinModel", "takesFew", "(IIZ)V"⟩, 40), (⟨"LargerWithinModel", "sumOf", "(II)I"⟩, 40), (⟨"LargerWithinModel", "passes", "(II)Z"⟩, 40), (⟨"LargerWithinModel", "asItems", "(I)I"⟩, 40), (⟨"LargerWithinModel", "isHousehold", "(I)Z"⟩, 40), (⟨"LargerWithinModel", "thingsAll", "()I"⟩, 40), (⟨"LargerWithinModel", "bestBoxes", "(IZ)I"⟩, 40), (⟨"LargerWithinModel", "laysBoxes", "()V"⟩, 40), (⟨"LargerWithinModel", "canWith", "(III)Z"⟩, 40), (⟨"LargerWithinModel", "isBetter", "(IIZ)Z"⟩, 40), (⟨"LargerWithinModel", "weightOf", "(I)I"⟩, 40), (⟨"LargerWithinModel", "isShut", "(I)Z"⟩, 40)]
theorem lw_r7 : ∀ q ∈ lw_privs_7, lw_okq q := List.forall_mem_cons.mpr ⟨lw_p96, List.forall_mem_cons.mpr ⟨lw_p97, List.forall_mem_cons.mpr ⟨lw_p98, List.forall_mem_cons.mpr ⟨lw_p99, List.forall_mem_cons.mpr ⟨lw_p100, List.forall_mem_cons.mpr ⟨lw_p101, List.forall_mem_cons.mpr ⟨lw_p102, List.forall_mem_cons.mpr ⟨lw_p103, List.forall_mem_cons.mpr ⟨lw_p104, List.forall_mem_cons.mpr ⟨lw_p105, List.forall_mem_cons.mpr ⟨lw_p106, List.forall_mem_cons.mpr ⟨lw_p107, List.forall_mem_cons.mpr ⟨lw_p108, List.forall_mem_cons.mpr ⟨lw_p109, List.forall_mem_cons.mpr ⟨lw_p110, List.forall_mem_cons.mpr ⟨lw_p111, fun _ h => absurd h List.not_mem_nil⟩⟩⟩⟩⟩⟩⟩⟩⟩⟩⟩⟩⟩⟩⟩⟩
theorem lw_p112 : lw_okq (⟨"LargerWithinModel", "shutWays", "(II)I"⟩, 40) := ⟨⟨by decide +kernel, by decide +kernel⟩, List.mem_of_getElem? (i := 1392) (by decide +kernel), List.mem_of_getElem? (i := 1842) (by decide +kernel), List.mem_of_getElem? (i := 1843) (by decide +kernel)⟩
theorem lw_p113 : lw_okq (⟨"LargerWithinModel", "shuts", "(III)V"⟩, 40) := ⟨⟨by decide +kernel, by decide +kernel⟩, List.mem_of_getElem? (i := 1392) (by decide +kernel), List.mem_of_getElem? (i := 1846) (by decide +kernel), List.mem_of_getElem? (i := 1847) (by decide +kernel)⟩
theorem lw_p114 : lw_okq (⟨"LargerWithinModel", "nests", "(II)V"⟩, 40) := ⟨⟨by decide +kernel, by decide +kernel⟩, List.mem_of_getElem? (i := 1392) (by decide +kernel), List.mem_of_getElem? (i := 1866) (by decide +kernel), List.mem_of_getElem? (i := 1867) (by decide +kernel)⟩
theorem lw_p115 : lw_okq (⟨"LargerWithinModel", "canNest", "(II)Z"⟩, 40) := ⟨⟨by decide +kernel, by decide +kernel⟩, List.mem_of_getElem? (i := 1392) (by decide +kernel), List.mem_of_getElem? (i := 1870) (by decide +kernel), List.mem_of_getElem? (i := 1871) (by decide +kernel)⟩
theorem lw_p116 : lw_okq (⟨"LargerWithinModel", "areItems", "(I)Z"⟩, 40) := ⟨⟨by decide +kernel, by decide +kernel⟩, List.mem_of_getElem? (i := 1392) (by decide +kernel), List.mem_of_getElem? (i := 1878) (by decide +kernel), List.mem_of_getElem? (i := 1879) (by decide +kernel)⟩
theorem lw_p117 : lw_okq (⟨"LargerWithinModel", "lifts", "(I)I"⟩, 40) := ⟨⟨by decide +kernel, by decide +kernel⟩, List.mem_of_getElem? (i := 1392) (by decide +kernel), List.mem_of_getElem? (i := 1882) (by decide +kernel), List.mem_of_getElem? (i := 1883) (by decide +kernel)⟩
theorem lw_p118 : lw_okq (⟨"LargerWithinModel", "trips", "(III)V"⟩, 40) := ⟨⟨by decide +kernel, by decide +kernel⟩, List.mem_of_getElem? (i := 1392) (by decide +kernel), List.mem_of_getElem? (i := 1892) (by decide +kernel), List.mem_of_getElem? (i := 1893) (by decide +kernel)⟩
theorem lw_p119 : lw_okq (⟨"LargerWithinModel", "isChest", "(III)Z"⟩, 40) := ⟨⟨by decide +kernel, by decide +kernel⟩, List.mem_of_getElem? (i := 1392) (by decide +kernel), List.mem_of_getElem? (i := 1904) (by decide +kernel), List.mem_of_getElem? (i := 1905) (by decide +kernel)⟩
theorem lw_p120 : lw_okq (⟨"LargerWithinModel", "laysChest", "(IIII)I"⟩, 40) := ⟨⟨by decide +kernel, by decide +kernel⟩, List.mem_of_getElem? (i := 1392) (by decide +kernel), List.mem_of_getElem? (i := 1909) (by decide +kernel), List.mem_of_getElem? (i := 1910) (by decide +kernel)⟩
theorem lw_p121 : lw_okq (⟨"LargerWithinModel", "worthIn", "()I"⟩, 40) := ⟨⟨by decide +kernel, by decide +kernel⟩, List.mem_of_getElem? (i := 1392) (by decide +kernel), List.mem_of_getElem? (i := 1980) (by decide +kernel), List.mem_of_getElem? (i := 1981) (by decide +kernel)⟩
def lw_privs_8 : List (MethodName × Nat) := [(⟨"LargerWithinModel", "shutWays", "(II)I"⟩, 40), (⟨"LargerWithinModel", "shuts", "(III)V"⟩, 40), (⟨"LargerWithinModel", "nests", "(II)V"⟩, 40), (⟨"LargerWithinModel", "canNest", "(II)Z"⟩, 40), (⟨"LargerWithinModel", "areItems", "(I)Z"⟩, 40), (⟨"LargerWithinModel", "lifts", "(I)I"⟩, 40), (⟨"LargerWithinModel", "trips", "(III)V"⟩, 40), (⟨"LargerWithinModel", "isChest", "(III)Z"⟩, 40), (⟨"LargerWithinModel", "laysChest", "(IIII)I"⟩, 40), (⟨"LargerWithinModel", "worthIn", "()I"⟩, 40)]
theorem lw_r8 : ∀ q ∈ lw_privs_8, lw_okq q := List.forall_mem_cons.mpr ⟨lw_p112, List.forall_mem_cons.mpr ⟨lw_p113, List.forall_mem_cons.mpr ⟨lw_p114, List.forall_mem_cons.mpr ⟨lw_p115, List.forall_mem_cons.mpr ⟨lw_p116, List.forall_mem_cons.mpr ⟨lw_p117, List.forall_mem_cons.mpr ⟨lw_p118, List.forall_mem_cons.mpr ⟨lw_p119, List.forall_mem_cons.mpr ⟨lw_p120, List.forall_mem_cons.mpr ⟨lw_p121, fun _ h => absurd h List.not_mem_nil⟩⟩⟩⟩⟩⟩⟩⟩⟩⟩
def lw_privs : List (MethodName × Nat) := lw_privs_1 ++ (lw_privs_2 ++ (lw_privs_3 ++ (lw_privs_4 ++ (lw_privs_5 ++ (lw_privs_6 ++ (lw_privs_7 ++ (lw_privs_8)))))))
def lw_tbl : List Cond := k2_sels lw_privs ++ tables_1
theorem lw_privs_ok : ∀ q ∈ lw_privs, lw_okq q := by
  show ∀ q ∈ lw_privs_1 ++ (lw_privs_2 ++ (lw_privs_3 ++ (lw_privs_4 ++ (lw_privs_5 ++ (lw_privs_6 ++ (lw_privs_7 ++ (lw_privs_8))))))), lw_okq q
  exact List.forall_mem_append.mpr ⟨lw_r1, List.forall_mem_append.mpr ⟨lw_r2, List.forall_mem_append.mpr ⟨lw_r3, List.forall_mem_append.mpr ⟨lw_r4, List.forall_mem_append.mpr ⟨lw_r5, List.forall_mem_append.mpr ⟨lw_r6, List.forall_mem_append.mpr ⟨lw_r7, lw_r8⟩⟩⟩⟩⟩⟩⟩
/-! ===== BEGIN words of one list among another's, by their places ===== -/
theorem goodIn_r {big : List Cond} (ws : List Cond) (ps : List Nat) (hp : ws = ps.filterMap (fun i => big[i]?)) (h : ws.all goodWord = true) : GoodIn big ws := by
  intro w hw
  have h1 := List.all_eq_true.mp h w hw
  rw [hp] at hw
  obtain ⟨i, -, hi⟩ := List.mem_filterMap.mp hw
  have hm : w ∈ big := by first | exact List.mem_of_getElem? hi | exact List.getElem?_mem hi
  exact ⟨hm, good_of_word h1⟩
theorem goodIn_app {big a b : List Cond} (ha : GoodIn big a) (hb : GoodIn big b) : GoodIn big (a ++ b) := fun w h => (List.mem_append.mp h).elim (ha w) (hb w)
theorem goodIn_ca {big a b : List Cond} {c : Cond} (ha : GoodIn big (c :: a)) (hb : GoodIn big b) : GoodIn big (c :: (a ++ b)) := fun w h => (List.mem_cons.mp h).elim (fun e => ha w (List.mem_cons.mpr (Or.inl e))) (fun h => (List.mem_append.mp h).elim (fun h => ha w (List.mem_cons.mpr (Or.inr h))) (hb w))
theorem goodIn_sub {big ws : List Cond} (hm : ∀ w ∈ ws, w ∈ big) (h : ws.all goodWord = true) : GoodIn big ws := fun w hw => ⟨hm w hw, good_of_word (List.all_eq_true.mp h w hw)⟩
/-! ===== END ===== -/

/-! ===== BEGIN printed: names, fields, word lists, decode rows ===== -/
def RX0 : String := "LargerWithin$Chest"
def TX0 : u_T := fun k => match k with
  | 0 => ("LargerWithin$Chest", "picked", "LLargerWithin$Picked;", true)
  | 1 => ("LargerWithin$Chest", "kept", "[I", true)
  | 2 => ("LargerWithin$Chest", "timesIn", "[I", true)
  | 3 => ("LargerWithin$Chest", "setsWith", "[I", true)
  | 4 => ("LargerWithin$Chest", "needed", "[I", true)
  | 5 => ("LargerWithin$Chest", "found", "I", false)
  | 6 => ("LargerWithin$Chest", "inAll", "I", false)
  | _ => ("LargerWithin$Chest", "inAny", "I", false)
def tyX0 : Nat → FieldType := fun k => match k with
  | 0 => .object "LargerWithin$Picked"
  | 1 => .array .int
  | 2 => .array .int
  | 3 => .array .int
  | 4 => .array .int
  | 5 => .int
  | 6 => .int
  | _ => .int
abbrev wsX00 : List Cond := u_ws RX0 TX0 8
theorem nmX0 : ∀ a, a < 8 → ∀ b, b < 8 → a ≠ b → (TX0 a).2.1 ≠ (TX0 b).2.1 := by decide +kernel
theorem tyX0_ok : ∀ k, k < 8 → parseFieldDescriptor (TX0 k).2.2.1 = some (tyX0 k) := by decide +kernel
abbrev cX0_init : ByteArray := prog_2_method_1_code
def yX0_init : MethodName := ⟨RX0, "<init>", "(LLargerWithin$Picked;)V"⟩
abbrev cX0_weigh : ByteArray := prog_2_method_2_code
def yX0_weigh : MethodName := ⟨RX0, "weigh", "(IIII)V"⟩
abbrev cX0_sound : ByteArray := prog_2_method_3_code
def yX0_sound : MethodName := ⟨RX0, "sound", "(IIII)V"⟩
abbrev cX0_begin : ByteArray := prog_2_method_4_code
def yX0_begin : MethodName := ⟨RX0, "begin", "(I)V"⟩
abbrev cX0_note : ByteArray := prog_2_method_5_code
def yX0_note : MethodName := ⟨RX0, "note", "(I)V"⟩
abbrev cX0_found : ByteArray := prog_2_method_6_code
def yX0_found : MethodName := ⟨RX0, "found", "()I"⟩
abbrev cX0_surelyIn : ByteArray := prog_2_method_7_code
def yX0_surelyIn : MethodName := ⟨RX0, "surelyIn", "()I"⟩
abbrev cX0_surelyOut : ByteArray := prog_2_method_8_code
def yX0_surelyOut : MethodName := ⟨RX0, "surelyOut", "()I"⟩
abbrev cX0_bestLook : ByteArray := prog_2_method_9_code
def yX0_bestLook : MethodName := ⟨RX0, "bestLook", "()I"⟩
abbrev cX0_looksNeeded : ByteArray := prog_2_method_10_code
def yX0_looksNeeded : MethodName := ⟨RX0, "looksNeeded", "()I"⟩
abbrev cX0_noteSetsWith : ByteArray := prog_2_method_11_code
def yX0_noteSetsWith : MethodName := ⟨RX0, "noteSetsWith", "()V"⟩
abbrev cX0_looksFor : ByteArray := prog_2_method_12_code
def yX0_looksFor : MethodName := ⟨RX0, "looksFor", "(I)I"⟩
def RX1 : String := "LargerWithin$Household"
def TX1 : u_T := fun k => match k with
  | 0 => ("LargerWithin$Household", "store", "LLargerWithin$Store;", true)
  | 1 => ("LargerWithin$Household", "picked", "LLargerWithin$Picked;", true)
  | 2 => ("LargerWithin$Household", "takers", "[I", true)
  | 3 => ("LargerWithin$Household", "prices", "[I", true)
  | 4 => ("LargerWithin$Household", "hopeless", "[I", true)
  | 5 => ("LargerWithin$Household", "lids", "[I", true)
  | 6 => ("LargerWithin$Household", "bearings", "[I", true)
  | 7 => ("LargerWithin$Household", "rooms", "[I", true)
  | 8 => ("LargerWithin$Household", "row", "[I", true)
  | _ => ("LargerWithin$Household", "rowLength", "I", false)
def tyX1 : Nat → FieldType := fun k => match k with
  | 0 => .object "LargerWithin$Store"
  | 1 => .object "LargerWithin$Picked"
  | 2 => .array .int
  | 3 => .array .int
  | 4 => .array .int
  | 5 => .array .int
  | 6 => .array .int
  | 7 => .array .int
  | 8 => .array .int
  | _ => .int
abbrev wsX10 : List Cond := u_ws RX1 TX1 10
theorem nmX1 : ∀ a, a < 10 → ∀ b, b < 10 → a ≠ b → (TX1 a).2.1 ≠ (TX1 b).2.1 := by decide +kernel
theorem tyX1_ok : ∀ k, k < 10 → parseFieldDescriptor (TX1 k).2.2.1 = some (tyX1 k) := by decide +kernel
abbrev cX1_init : ByteArray := prog_3_method_1_code
def yX1_init : MethodName := ⟨RX1, "<init>", "(LLargerWithin$Store;LLargerWithin$Picked;)V"⟩
abbrev cX1_seek : ByteArray := prog_3_method_2_code
def yX1_seek : MethodName := ⟨RX1, "seek", "(IZ)I"⟩
abbrev cX1_noteTakers : ByteArray := prog_3_method_3_code
def yX1_noteTakers : MethodName := ⟨RX1, "noteTakers", "()V"⟩
abbrev cX1_takersOf : ByteArray := prog_3_method_4_code
def yX1_takersOf : MethodName := ⟨RX1, "takersOf", "(III)I"⟩
abbrev cX1_takes : ByteArray := prog_3_method_5_code
def yX1_takes : MethodName := ⟨RX1, "takes", "(II)Z"⟩
abbrev cX1_priceOf : ByteArray := prog_3_method_6_code
def yX1_priceOf : MethodName := ⟨RX1, "priceOf", "(IZ)I"⟩
abbrev cX1_offer : ByteArray := prog_3_method_7_code
def yX1_offer : MethodName := ⟨RX1, "offer", "(III)V"⟩
abbrev cX1_extend : ByteArray := prog_3_method_8_code
def yX1_extend : MethodName := ⟨RX1, "extend", "(IIII)V"⟩
abbrev cX1_takesNoMore : ByteArray := prog_3_method_9_code
def yX1_takesNoMore : MethodName := ⟨RX1, "takesNoMore", "(III)Z"⟩
abbrev cX1_boxFor : ByteArray := prog_3_method_10_code
def yX1_boxFor : MethodName := ⟨RX1, "boxFor", "(II)I"⟩
abbrev cX1_lineUp : ByteArray := prog_3_method_11_code
def yX1_lineUp : MethodName := ⟨RX1, "lineUp", "(I)V"⟩
abbrev cX1_greatestPart : ByteArray := prog_3_method_12_code
def yX1_greatestPart : MethodName := ⟨RX1, "greatestPart", "(II)I"⟩
abbrev cX1_canTake : ByteArray := prog_3_method_13_code
def yX1_canTake : MethodName := ⟨RX1, "canTake", "(II)Z"⟩
def RX2 : String := "LargerWithin$Layout"
def TX2 : u_T := fun k => match k with
  | 0 => ("LargerWithin$Layout", "store", "LLargerWithin$Store;", true)
  | 1 => ("LargerWithin$Layout", "within", "[I", true)
  | 2 => ("LargerWithin$Layout", "levels", "[I", true)
  | _ => ("LargerWithin$Layout", "whyStopped", "I", false)
def tyX2 : Nat → FieldType := fun k => match k with
  | 0 => .object "LargerWithin$Store"
  | 1 => .array .int
  | 2 => .array .int
  | _ => .int
abbrev wsX20 : List Cond := u_ws RX2 TX2 4
theorem nmX2 : ∀ a, a < 4 → ∀ b, b < 4 → a ≠ b → (TX2 a).2.1 ≠ (TX2 b).2.1 := by decide +kernel
theorem tyX2_ok : ∀ k, k < 4 → parseFieldDescriptor (TX2 k).2.2.1 = some (tyX2 k) := by decide +kernel
abbrev cX2_init : ByteArray := prog_4_method_1_code
def yX2_init : MethodName := ⟨RX2, "<init>", "(LLargerWithin$Store;)V"⟩
abbrev cX2_clear : ByteArray := prog_4_method_2_code
def yX2_clear : MethodName := ⟨RX2, "clear", "()V"⟩
abbrev cX2_takeFrom : ByteArray := prog_4_method_3_code
def yX2_takeFrom : MethodName := ⟨RX2, "takeFrom", "(LLargerWithin$Layout;)V"⟩
abbrev cX2_boxOf : ByteArray := prog_4_method_4_code
def yX2_boxOf : MethodName := ⟨RX2, "boxOf", "(I)I"⟩
abbrev cX2_setBox : ByteArray := prog_4_method_5_code
def yX2_setBox : MethodName := ⟨RX2, "setBox", "(II)V"⟩
abbrev cX2_lay : ByteArray := prog_4_method_6_code
def yX2_lay : MethodName := ⟨RX2, "lay", "(II)V"⟩
abbrev cX2_lift : ByteArray := prog_4_method_7_code
def yX2_lift : MethodName := ⟨RX2, "lift", "(I)V"⟩
abbrev cX2_manyIn : ByteArray := prog_4_method_8_code
def yX2_manyIn : MethodName := ⟨RX2, "manyIn", "(I)I"⟩
abbrev cX2_itemAtLevel : ByteArray := prog_4_method_9_code
def yX2_itemAtLevel : MethodName := ⟨RX2, "itemAtLevel", "(II)I"⟩
abbrev cX2_manyPacked : ByteArray := prog_4_method_10_code
def yX2_manyPacked : MethodName := ⟨RX2, "manyPacked", "()I"⟩
abbrev cX2_worthPacked : ByteArray := prog_4_method_11_code
def yX2_worthPacked : MethodName := ⟨RX2, "worthPacked", "()I"⟩
abbrev cX2_onFloor : ByteArray := prog_4_method_12_code
def yX2_onFloor : MethodName := ⟨RX2, "onFloor", "(I)I"⟩
abbrev cX2_around : ByteArray := prog_4_method_13_code
def yX2_around : MethodName := ⟨RX2, "around", "(I)I"⟩
abbrev cX2_isWithin : ByteArray := prog_4_method_14_code
def yX2_isWithin : MethodName := ⟨RX2, "isWithin", "(II)Z"⟩
abbrev cX2_fillOf : ByteArray := prog_4_method_15_code
def yX2_fillOf : MethodName := ⟨RX2, "fillOf", "(I)I"⟩
abbrev cX2_halvedOf : ByteArray := prog_4_method_16_code
def yX2_halvedOf : MethodName := ⟨RX2, "halvedOf", "(I)I"⟩
abbrev cX2_roomOf : ByteArray := prog_4_method_17_code
def yX2_roomOf : MethodName := ⟨RX2, "roomOf", "(I)I"⟩
abbrev cX2_loadOf : ByteArray := prog_4_method_18_code
def yX2_loadOf : MethodName := ⟨RX2, "loadOf", "(I)I"⟩
abbrev cX2_heftOf : ByteArray := prog_4_method_19_code
def yX2_heftOf : MethodName := ⟨RX2, "heftOf", "(I)I"⟩
abbrev cX2_spareLoad : ByteArray := prog_4_method_20_code
def yX2_spareLoad : MethodName := ⟨RX2, "spareLoad", "(I)I"⟩
abbrev cX2_liftings : ByteArray := prog_4_method_21_code
def yX2_liftings : MethodName := ⟨RX2, "liftings", "(II)I"⟩
abbrev cX2_manyAbove : ByteArray := prog_4_method_22_code
def yX2_manyAbove : MethodName := ⟨RX2, "manyAbove", "(II)I"⟩
abbrev cX2_itemOver : ByteArray := prog_4_method_23_code
def yX2_itemOver : MethodName := ⟨RX2, "itemOver", "(II)I"⟩
abbrev cX2_outward : ByteArray := prog_4_method_24_code
def yX2_outward : MethodName := ⟨RX2, "outward", "(II)I"⟩
abbrev cX2_whyNotPut : ByteArray := prog_4_method_25_code
def yX2_whyNotPut : MethodName := ⟨RX2, "whyNotPut", "(II)I"⟩
abbrev cX2_hasRoomFor : ByteArray := prog_4_method_26_code
def yX2_hasRoomFor : MethodName := ⟨RX2, "hasRoomFor", "(II)Z"⟩
abbrev cX2_whyNotTaken : ByteArray := prog_4_method_27_code
def yX2_whyNotTaken : MethodName := ⟨RX2, "whyNotTaken", "(I)I"⟩
abbrev cX2_doActs : ByteArray := prog_4_method_28_code
def yX2_doActs : MethodName := ⟨RX2, "doActs", "(LLargerWithin$Row;)I"⟩
abbrev cX2_whyStopped : ByteArray := prog_4_method_29_code
def yX2_whyStopped : MethodName := ⟨RX2, "whyStopped", "()I"⟩
abbrev cX2_doAct : ByteArray := prog_4_method_30_code
def yX2_doAct : MethodName := ⟨RX2, "doAct", "(J)I"⟩
def RX3 : String := "LargerWithin$Nest"
def TX3 : u_T := fun k => match k with
  | 0 => ("LargerWithin$Nest", "store", "LLargerWithin$Store;", true)
  | 1 => ("LargerWithin$Nest", "more", "[I", true)
  | 2 => ("LargerWithin$Nest", "into", "[I", true)
  | 3 => ("LargerWithin$Nest", "onward", "[I", true)
  | 4 => ("LargerWithin$Nest", "row", "[I", true)
  | _ => ("LargerWithin$Nest", "many", "I", false)
def tyX3 : Nat → FieldType := fun k => match k with
  | 0 => .object "LargerWithin$Store"
  | 1 => .array .int
  | 2 => .array .int
  | 3 => .array .int
  | 4 => .array .int
  | _ => .int
abbrev wsX30 : List Cond := u_ws RX3 TX3 6
theorem nmX3 : ∀ a, a < 6 → ∀ b, b < 6 → a ≠ b → (TX3 a).2.1 ≠ (TX3 b).2.1 := by decide +kernel
theorem tyX3_ok : ∀ k, k < 6 → parseFieldDescriptor (TX3 k).2.2.1 = some (tyX3 k) := by decide +kernel
abbrev cX3_init : ByteArray := prog_5_method_1_code
def yX3_init : MethodName := ⟨RX3, "<init>", "(LLargerWithin$Store;)V"⟩
abbrev cX3_many : ByteArray := prog_5_method_2_code
def yX3_many : MethodName := ⟨RX3, "many", "()I"⟩
abbrev cX3_boxAt : ByteArray := prog_5_method_3_code
def yX3_boxAt : MethodName := ⟨RX3, "boxAt", "(I)I"⟩
abbrev cX3_seek : ByteArray := prog_5_method_4_code
def yX3_seek : MethodName := ⟨RX3, "seek", "()V"⟩
abbrev cX3_notePairs : ByteArray := prog_5_method_5_code
def yX3_notePairs : MethodName := ⟨RX3, "notePairs", "(I)V"⟩
abbrev cX3_mostAround : ByteArray := prog_5_method_6_code
def yX3_mostAround : MethodName := ⟨RX3, "mostAround", "(II)I"⟩
abbrev cX3_manyWith : ByteArray := prog_5_method_7_code
def yX3_manyWith : MethodName := ⟨RX3, "manyWith", "(IIII)I"⟩
abbrev cX3_lineUp : ByteArray := prog_5_method_8_code
def yX3_lineUp : MethodName := ⟨RX3, "lineUp", "()V"⟩
abbrev cX3_firstAround : ByteArray := prog_5_method_9_code
def yX3_firstAround : MethodName := ⟨RX3, "firstAround", "(III)I"⟩
def RX4 : String := "LargerWithin$Packing"
def TX4 : u_T := fun k => match k with
  | 0 => ("LargerWithin$Packing", "store", "LLargerWithin$Store;", true)
  | 1 => ("LargerWithin$Packing", "told", "LLargerWithin$Layout;", true)
  | 2 => ("LargerWithin$Packing", "strange", "I", false)
  | 3 => ("LargerWithin$Packing", "wrong", "I", false)
  | _ => ("LargerWithin$Packing", "culprit", "I", false)
def tyX4 : Nat → FieldType := fun k => match k with
  | 0 => .object "LargerWithin$Store"
  | 1 => .object "LargerWithin$Layout"
  | 2 => .int
  | 3 => .int
  | _ => .int
abbrev wsX40 : List Cond := u_ws RX4 TX4 5
theorem nmX4 : ∀ a, a < 5 → ∀ b, b < 5 → a ≠ b → (TX4 a).2.1 ≠ (TX4 b).2.1 := by decide +kernel
theorem tyX4_ok : ∀ k, k < 5 → parseFieldDescriptor (TX4 k).2.2.1 = some (tyX4 k) := by decide +kernel
abbrev cX4_init : ByteArray := prog_6_method_1_code
def yX4_init : MethodName := ⟨RX4, "<init>", "(LLargerWithin$Store;)V"⟩
abbrev cX4_read : ByteArray := prog_6_method_2_code
def yX4_read : MethodName := ⟨RX4, "read", "(LLargerWithin$Row;)Z"⟩
abbrev cX4_wrong : ByteArray := prog_6_method_3_code
def yX4_wrong : MethodName := ⟨RX4, "wrong", "()I"⟩
abbrev cX4_culprit : ByteArray := prog_6_method_4_code
def yX4_culprit : MethodName := ⟨RX4, "culprit", "()I"⟩
abbrev cX4_findWrong : ByteArray := prog_6_method_5_code
def yX4_findWrong : MethodName := ⟨RX4, "findWrong", "()V"⟩
abbrev cX4_blame : ByteArray := prog_6_method_6_code
def yX4_blame : MethodName := ⟨RX4, "blame", "(II)V"⟩
abbrev cX4_firstInItself : ByteArray := prog_6_method_7_code
def yX4_firstInItself : MethodName := ⟨RX4, "firstInItself", "()I"⟩
abbrev cX4_firstTooWide : ByteArray := prog_6_method_8_code
def yX4_firstTooWide : MethodName := ⟨RX4, "firstTooWide", "()I"⟩
abbrev cX4_firstTooHeavy : ByteArray := prog_6_method_9_code
def yX4_firstTooHeavy : MethodName := ⟨RX4, "firstTooHeavy", "()I"⟩
abbrev cX4_firstTooFull : ByteArray := prog_6_method_10_code
def yX4_firstTooFull : MethodName := ⟨RX4, "firstTooFull", "()I"⟩
abbrev cX4_lostBits : ByteArray := prog_6_method_11_code
def yX4_lostBits : MethodName := ⟨RX4, "lostBits", "()I"⟩
abbrev cX4_manyPacked : ByteArray := prog_6_method_12_code
def yX4_manyPacked : MethodName := ⟨RX4, "manyPacked", "()I"⟩
abbrev cX4_act : ByteArray := prog_6_method_13_code
def yX4_act : MethodName := ⟨RX4, "act", "(I)I"⟩
abbrev cX4_firstReady : ByteArray := prog_6_method_14_code
def yX4_firstReady : MethodName := ⟨RX4, "firstReady", "(I)I"⟩
abbrev cX4_hasAllOfIts : ByteArray := prog_6_method_15_code
def yX4_hasAllOfIts : MethodName := ⟨RX4, "hasAllOfIts", "(II)Z"⟩
def RX5 : String := "LargerWithin$Picked"
def TX5 : u_T := fun k => match k with
  | 0 => ("LargerWithin$Picked", "store", "LLargerWithin$Store;", true)
  | 1 => ("LargerWithin$Picked", "members", "[I", true)
  | 2 => ("LargerWithin$Picked", "sizes", "[I", true)
  | 3 => ("LargerWithin$Picked", "outlines", "[I", true)
  | 4 => ("LargerWithin$Picked", "weights", "[I", true)
  | 5 => ("LargerWithin$Picked", "worths", "[I", true)
  | _ => ("LargerWithin$Picked", "many", "I", false)
def tyX5 : Nat → FieldType := fun k => match k with
  | 0 => .object "LargerWithin$Store"
  | 1 => .array .int
  | 2 => .array .int
  | 3 => .array .int
  | 4 => .array .int
  | 5 => .array .int
  | _ => .int
abbrev wsX50 : List Cond := u_ws RX5 TX5 7
theorem nmX5 : ∀ a, a < 7 → ∀ b, b < 7 → a ≠ b → (TX5 a).2.1 ≠ (TX5 b).2.1 := by decide +kernel
theorem tyX5_ok : ∀ k, k < 7 → parseFieldDescriptor (TX5 k).2.2.1 = some (tyX5 k) := by decide +kernel
abbrev cX5_init : ByteArray := prog_7_method_1_code
def yX5_init : MethodName := ⟨RX5, "<init>", "(LLargerWithin$Store;)V"⟩
abbrev cX5_pick : ByteArray := prog_7_method_2_code
def yX5_pick : MethodName := ⟨RX5, "pick", "(II)V"⟩
abbrev cX5_sumUp : ByteArray := prog_7_method_3_code
def yX5_sumUp : MethodName := ⟨RX5, "sumUp", "(II)V"⟩
abbrev cX5_sumUpOne : ByteArray := prog_7_method_4_code
def yX5_sumUpOne : MethodName := ⟨RX5, "sumUpOne", "(III)V"⟩
abbrev cX5_many : ByteArray := prog_7_method_5_code
def yX5_many : MethodName := ⟨RX5, "many", "()I"⟩
abbrev cX5_choices : ByteArray := prog_7_method_6_code
def yX5_choices : MethodName := ⟨RX5, "choices", "()I"⟩
abbrev cX5_memberAt : ByteArray := prog_7_method_7_code
def yX5_memberAt : MethodName := ⟨RX5, "memberAt", "(I)I"⟩
abbrev cX5_low : ByteArray := prog_7_method_8_code
def yX5_low : MethodName := ⟨RX5, "low", "(I)I"⟩
abbrev cX5_high : ByteArray := prog_7_method_9_code
def yX5_high : MethodName := ⟨RX5, "high", "(I)I"⟩
abbrev cX5_size : ByteArray := prog_7_method_10_code
def yX5_size : MethodName := ⟨RX5, "size", "(I)I"⟩
abbrev cX5_outline : ByteArray := prog_7_method_11_code
def yX5_outline : MethodName := ⟨RX5, "outline", "(I)I"⟩
abbrev cX5_weight : ByteArray := prog_7_method_12_code
def yX5_weight : MethodName := ⟨RX5, "weight", "(I)I"⟩
abbrev cX5_worth : ByteArray := prog_7_method_13_code
def yX5_worth : MethodName := ⟨RX5, "worth", "(I)I"⟩
abbrev cX5_passes : ByteArray := prog_7_method_14_code
def yX5_passes : MethodName := ⟨RX5, "passes", "(IIII)Z"⟩
abbrev cX5_goInto : ByteArray := prog_7_method_15_code
def yX5_goInto : MethodName := ⟨RX5, "goInto", "(II)Z"⟩
abbrev cX5_bits : ByteArray := prog_7_method_16_code
def yX5_bits : MethodName := ⟨RX5, "bits", "(I)I"⟩
abbrev cX5_worthiest : ByteArray := prog_7_method_17_code
def yX5_worthiest : MethodName := ⟨RX5, "worthiest", "(III)I"⟩
abbrev cX5_evenest : ByteArray := prog_7_method_18_code
def yX5_evenest : MethodName := ⟨RX5, "evenest", "(II)I"⟩
abbrev cX5_worthApart : ByteArray := prog_7_method_19_code
def yX5_worthApart : MethodName := ⟨RX5, "worthApart", "(I)I"⟩
def RX6 : String := "LargerWithin$Reader"
def TX6 : u_T := fun k => match k with
  | 0 => ("LargerWithin$Reader", "tape", "[I", true)
  | 1 => ("LargerWithin$Reader", "fresh", "LLargerWithin$Store;", true)
  | 2 => ("LargerWithin$Reader", "length", "I", false)
  | 3 => ("LargerWithin$Reader", "end", "I", false)
  | 4 => ("LargerWithin$Reader", "fault", "I", false)
  | 5 => ("LargerWithin$Reader", "faultPlace", "I", false)
  | 6 => ("LargerWithin$Reader", "line", "Ljava/lang/String;", false)
  | 7 => ("LargerWithin$Reader", "isBox", "Z", false)
  | 8 => ("LargerWithin$Reader", "spot", "I", false)
  | _ => ("LargerWithin$Reader", "numbersRead", "I", false)
def tyX6 : Nat → FieldType := fun k => match k with
  | 0 => .array .int
  | 1 => .object "LargerWithin$Store"
  | 2 => .int
  | 3 => .int
  | 4 => .int
  | 5 => .int
  | 6 => .object "java/lang/String"
  | 7 => .boolean
  | 8 => .int
  | _ => .int
abbrev wsX60 : List Cond := u_ws RX6 TX6 10
theorem nmX6 : ∀ a, a < 10 → ∀ b, b < 10 → a ≠ b → (TX6 a).2.1 ≠ (TX6 b).2.1 := by decide +kernel
theorem tyX6_ok : ∀ k, k < 10 → parseFieldDescriptor (TX6 k).2.2.1 = some (tyX6 k) := by decide +kernel
abbrev cX6_init : ByteArray := prog_8_method_1_code
def yX6_init : MethodName := ⟨RX6, "<init>", "()V"⟩
abbrev cX6_hasPlaceFor : ByteArray := prog_8_method_2_code
def yX6_hasPlaceFor : MethodName := ⟨RX6, "hasPlaceFor", "(I)Z"⟩
abbrev cX6_append : ByteArray := prog_8_method_3_code
def yX6_append : MethodName := ⟨RX6, "append", "(I)V"⟩
abbrev cX6_length : ByteArray := prog_8_method_4_code
def yX6_length : MethodName := ⟨RX6, "length", "()I"⟩
abbrev cX6_faultKind : ByteArray := prog_8_method_5_code
def yX6_faultKind : MethodName := ⟨RX6, "faultKind", "()I"⟩
abbrev cX6_faultPlace : ByteArray := prog_8_method_6_code
def yX6_faultPlace : MethodName := ⟨RX6, "faultPlace", "()I"⟩
abbrev cX6_fresh : ByteArray := prog_8_method_7_code
def yX6_fresh : MethodName := ⟨RX6, "fresh", "()LLargerWithin$Store;"⟩
abbrev cX6_read : ByteArray := prog_8_method_8_code
def yX6_read : MethodName := ⟨RX6, "read", "(I)V"⟩
abbrev cX6_blame : ByteArray := prog_8_method_9_code
def yX6_blame : MethodName := ⟨RX6, "blame", "(II)V"⟩
abbrev cX6_sign : ByteArray := prog_8_method_10_code
def yX6_sign : MethodName := ⟨RX6, "sign", "(I)I"⟩
abbrev cX6_isLetter : ByteArray := prog_8_method_11_code
def yX6_isLetter : MethodName := ⟨RX6, "isLetter", "(I)Z"⟩
abbrev cX6_isDigit : ByteArray := prog_8_method_12_code
def yX6_isDigit : MethodName := ⟨RX6, "isDigit", "(I)Z"⟩
abbrev cX6_beginsToken : ByteArray := prog_8_method_13_code
def yX6_beginsToken : MethodName := ⟨RX6, "beginsToken", "(I)Z"⟩
abbrev cX6_readToken : ByteArray := prog_8_method_14_code
def yX6_readToken : MethodName := ⟨RX6, "readToken", "(I)V"⟩
abbrev cX6_readWord : ByteArray := prog_8_method_15_code
def yX6_readWord : MethodName := ⟨RX6, "readWord", "(I)V"⟩
abbrev cX6_beginLine : ByteArray := prog_8_method_16_code
def yX6_beginLine : MethodName := ⟨RX6, "beginLine", "(I)V"⟩
abbrev cX6_behindWord : ByteArray := prog_8_method_17_code
def yX6_behindWord : MethodName := ⟨RX6, "behindWord", "(Ljava/lang/String;II)I"⟩
abbrev cX6_patternSign : ByteArray := prog_8_method_18_code
def yX6_patternSign : MethodName := ⟨RX6, "patternSign", "(Ljava/lang/String;I)I"⟩
abbrev cX6_readNumber : ByteArray := prog_8_method_19_code
def yX6_readNumber : MethodName := ⟨RX6, "readNumber", "(I)V"⟩
abbrev cX6_kindOfNumber : ByteArray := prog_8_method_20_code
def yX6_kindOfNumber : MethodName := ⟨RX6, "kindOfNumber", "()I"⟩
abbrev cX6_isInBounds : ByteArray := prog_8_method_21_code
def yX6_isInBounds : MethodName := ⟨RX6, "isInBounds", "(I)Z"⟩
abbrev cX6_readStop : ByteArray := prog_8_method_22_code
def yX6_readStop : MethodName := ⟨RX6, "readStop", "(I)V"⟩
def RX7 : String := "LargerWithin$Row"
def TX7 : u_T := fun k => match k with
  | 0 => ("LargerWithin$Row", "cells", "[J", true)
  | 1 => ("LargerWithin$Row", "sort", "I", false)
  | _ => ("LargerWithin$Row", "many", "I", false)
def tyX7 : Nat → FieldType := fun k => match k with
  | 0 => .array .long
  | 1 => .int
  | _ => .int
abbrev wsX70 : List Cond := u_ws RX7 TX7 3
theorem nmX7 : ∀ a, a < 3 → ∀ b, b < 3 → a ≠ b → (TX7 a).2.1 ≠ (TX7 b).2.1 := by decide +kernel
theorem tyX7_ok : ∀ k, k < 3 → parseFieldDescriptor (TX7 k).2.2.1 = some (tyX7 k) := by decide +kernel
abbrev cX7_init : ByteArray := prog_9_method_1_code
def yX7_init : MethodName := ⟨RX7, "<init>", "()V"⟩
abbrev cX7_begin : ByteArray := prog_9_method_2_code
def yX7_begin : MethodName := ⟨RX7, "begin", "(II)V"⟩
abbrev cX7_isMissing : ByteArray := prog_9_method_3_code
def yX7_isMissing : MethodName := ⟨RX7, "isMissing", "()Z"⟩
abbrev cX7_many : ByteArray := prog_9_method_4_code
def yX7_many : MethodName := ⟨RX7, "many", "()I"⟩
abbrev cX7_hasPlace : ByteArray := prog_9_method_5_code
def yX7_hasPlace : MethodName := ⟨RX7, "hasPlace", "(I)Z"⟩
abbrev cX7_get : ByteArray := prog_9_method_6_code
def yX7_get : MethodName := ⟨RX7, "get", "(I)J"⟩
abbrev cX7_set : ByteArray := prog_9_method_7_code
def yX7_set : MethodName := ⟨RX7, "set", "(IJ)V"⟩
abbrev cX7_cut : ByteArray := prog_9_method_8_code
def yX7_cut : MethodName := ⟨RX7, "cut", "(J)J"⟩
def RX8 : String := "LargerWithin$Shutting"
def TX8 : u_T := fun k => match k with
  | 0 => ("LargerWithin$Shutting", "store", "LLargerWithin$Store;", true)
  | 1 => ("LargerWithin$Shutting", "items", "[I", true)
  | 2 => ("LargerWithin$Shutting", "within", "[I", true)
  | 3 => ("LargerWithin$Shutting", "fills", "[I", true)
  | 4 => ("LargerWithin$Shutting", "loads", "[I", true)
  | 5 => ("LargerWithin$Shutting", "halved", "[I", true)
  | 6 => ("LargerWithin$Shutting", "many", "I", false)
  | 7 => ("LargerWithin$Shutting", "hosts", "I", false)
  | _ => ("LargerWithin$Shutting", "ways", "I", false)
def tyX8 : Nat → FieldType := fun k => match k with
  | 0 => .object "LargerWithin$Store"
  | 1 => .array .int
  | 2 => .array .int
  | 3 => .array .int
  | 4 => .array .int
  | 5 => .array .int
  | 6 => .int
  | 7 => .int
  | _ => .int
abbrev wsX80 : List Cond := u_ws RX8 TX8 9
theorem nmX8 : ∀ a, a < 9 → ∀ b, b < 9 → a ≠ b → (TX8 a).2.1 ≠ (TX8 b).2.1 := by decide +kernel
theorem tyX8_ok : ∀ k, k < 9 → parseFieldDescriptor (TX8 k).2.2.1 = some (tyX8 k) := by decide +kernel
abbrev cX8_init : ByteArray := prog_10_method_1_code
def yX8_init : MethodName := ⟨RX8, "<init>", "(LLargerWithin$Store;)V"⟩
abbrev cX8_ways : ByteArray := prog_10_method_2_code
def yX8_ways : MethodName := ⟨RX8, "ways", "()I"⟩
abbrev cX8_boxOf : ByteArray := prog_10_method_3_code
def yX8_boxOf : MethodName := ⟨RX8, "boxOf", "(I)I"⟩
abbrev cX8_seek : ByteArray := prog_10_method_4_code
def yX8_seek : MethodName := ⟨RX8, "seek", "(IIZ)V"⟩
abbrev cX8_placeFrom : ByteArray := prog_10_method_5_code
def yX8_placeFrom : MethodName := ⟨RX8, "placeFrom", "(IZ)V"⟩
abbrev cX8_mayHost : ByteArray := prog_10_method_6_code
def yX8_mayHost : MethodName := ⟨RX8, "mayHost", "(II)Z"⟩
abbrev cX8_move : ByteArray := prog_10_method_7_code
def yX8_move : MethodName := ⟨RX8, "move", "(III)V"⟩
abbrev cX8_isSound : ByteArray := prog_10_method_8_code
def yX8_isSound : MethodName := ⟨RX8, "isSound", "(II)Z"⟩
abbrev cX8_fitsNow : ByteArray := prog_10_method_9_code
def yX8_fitsNow : MethodName := ⟨RX8, "fitsNow", "(I)Z"⟩
def RX9 : String := "LargerWithin$Store"
def TX9 : u_T := fun k => match k with
  | 0 => ("LargerWithin$Store", "values", "[I", true)
  | 1 => ("LargerWithin$Store", "boxes", "I", false)
  | _ => ("LargerWithin$Store", "things", "I", false)
def tyX9 : Nat → FieldType := fun k => match k with
  | 0 => .array .int
  | 1 => .int
  | _ => .int
abbrev wsX90 : List Cond := u_ws RX9 TX9 3
theorem nmX9 : ∀ a, a < 3 → ∀ b, b < 3 → a ≠ b → (TX9 a).2.1 ≠ (TX9 b).2.1 := by decide +kernel
theorem tyX9_ok : ∀ k, k < 3 → parseFieldDescriptor (TX9 k).2.2.1 = some (tyX9 k) := by decide +kernel
abbrev cX9_init : ByteArray := prog_11_method_1_code
def yX9_init : MethodName := ⟨RX9, "<init>", "()V"⟩
abbrev cX9_clear : ByteArray := prog_11_method_2_code
def yX9_clear : MethodName := ⟨RX9, "clear", "()V"⟩
abbrev cX9_takeFrom : ByteArray := prog_11_method_3_code
def yX9_takeFrom : MethodName := ⟨RX9, "takeFrom", "(LLargerWithin$Store;)V"⟩
abbrev cX9_boxes : ByteArray := prog_11_method_4_code
def yX9_boxes : MethodName := ⟨RX9, "boxes", "()I"⟩
abbrev cX9_things : ByteArray := prog_11_method_5_code
def yX9_things : MethodName := ⟨RX9, "things", "()I"⟩
abbrev cX9_itemCount : ByteArray := prog_11_method_6_code
def yX9_itemCount : MethodName := ⟨RX9, "itemCount", "()I"⟩
abbrev cX9_hasBox : ByteArray := prog_11_method_7_code
def yX9_hasBox : MethodName := ⟨RX9, "hasBox", "(J)Z"⟩
abbrev cX9_hasItem : ByteArray := prog_11_method_8_code
def yX9_hasItem : MethodName := ⟨RX9, "hasItem", "(J)Z"⟩
abbrev cX9_boxBits : ByteArray := prog_11_method_9_code
def yX9_boxBits : MethodName := ⟨RX9, "boxBits", "()I"⟩
abbrev cX9_thingBits : ByteArray := prog_11_method_10_code
def yX9_thingBits : MethodName := ⟨RX9, "thingBits", "()I"⟩
abbrev cX9_itemBits : ByteArray := prog_11_method_11_code
def yX9_itemBits : MethodName := ⟨RX9, "itemBits", "()I"⟩
abbrev cX9_itemAt : ByteArray := prog_11_method_12_code
def yX9_itemAt : MethodName := ⟨RX9, "itemAt", "(I)I"⟩
abbrev cX9_told : ByteArray := prog_11_method_13_code
def yX9_told : MethodName := ⟨RX9, "told", "(II)I"⟩
abbrev cX9_tell : ByteArray := prog_11_method_14_code
def yX9_tell : MethodName := ⟨RX9, "tell", "(III)V"⟩
abbrev cX9_roomOf : ByteArray := prog_11_method_15_code
def yX9_roomOf : MethodName := ⟨RX9, "roomOf", "(II)I"⟩
abbrev cX9_takesAlone : ByteArray := prog_11_method_16_code
def yX9_takesAlone : MethodName := ⟨RX9, "takesAlone", "(II)Z"⟩
abbrev cX9_weightOfBoxes : ByteArray := prog_11_method_17_code
def yX9_weightOfBoxes : MethodName := ⟨RX9, "weightOfBoxes", "(I)I"⟩
abbrev cX9_nextItem : ByteArray := prog_11_method_18_code
def yX9_nextItem : MethodName := ⟨RX9, "nextItem", "(Z)I"⟩
abbrev cX9_isFull : ByteArray := prog_11_method_19_code
def yX9_isFull : MethodName := ⟨RX9, "isFull", "(Z)Z"⟩
abbrev cX9_keep : ByteArray := prog_11_method_20_code
def yX9_keep : MethodName := ⟨RX9, "keep", "(Z)V"⟩
def RX10 : String := "LargerWithin$Voyage"
def TX10 : u_T := fun k => match k with
  | 0 => ("LargerWithin$Voyage", "store", "LLargerWithin$Store;", true)
  | 1 => ("LargerWithin$Voyage", "layout", "LLargerWithin$Layout;", true)
  | 2 => ("LargerWithin$Voyage", "items", "[I", true)
  | 3 => ("LargerWithin$Voyage", "row", "[I", true)
  | 4 => ("LargerWithin$Voyage", "fewest", "[I", true)
  | 5 => ("LargerWithin$Voyage", "next", "[I", true)
  | _ => ("LargerWithin$Voyage", "many", "I", false)
def tyX10 : Nat → FieldType := fun k => match k with
  | 0 => .object "LargerWithin$Store"
  | 1 => .object "LargerWithin$Layout"
  | 2 => .array .int
  | 3 => .array .int
  | 4 => .array .int
  | 5 => .array .int
  | _ => .int
abbrev wsX100 : List Cond := u_ws RX10 TX10 7
theorem nmX10 : ∀ a, a < 7 → ∀ b, b < 7 → a ≠ b → (TX10 a).2.1 ≠ (TX10 b).2.1 := by decide +kernel
theorem tyX10_ok : ∀ k, k < 7 → parseFieldDescriptor (TX10 k).2.2.1 = some (tyX10 k) := by decide +kernel
abbrev cX10_init : ByteArray := prog_12_method_1_code
def yX10_init : MethodName := ⟨RX10, "<init>", "(LLargerWithin$Store;LLargerWithin$Layout;)V"⟩
abbrev cX10_areItems : ByteArray := prog_12_method_2_code
def yX10_areItems : MethodName := ⟨RX10, "areItems", "(LLargerWithin$Row;I)Z"⟩
abbrev cX10_liftingsAsTold : ByteArray := prog_12_method_3_code
def yX10_liftingsAsTold : MethodName := ⟨RX10, "liftingsAsTold", "(LLargerWithin$Row;)I"⟩
abbrev cX10_fewest : ByteArray := prog_12_method_4_code
def yX10_fewest : MethodName := ⟨RX10, "fewest", "()I"⟩
abbrev cX10_itemAt : ByteArray := prog_12_method_5_code
def yX10_itemAt : MethodName := ⟨RX10, "itemAt", "(I)I"⟩
abbrev cX10_seek : ByteArray := prog_12_method_6_code
def yX10_seek : MethodName := ⟨RX10, "seek", "(LLargerWithin$Row;)V"⟩
abbrev cX10_sortIn : ByteArray := prog_12_method_7_code
def yX10_sortIn : MethodName := ⟨RX10, "sortIn", "(LLargerWithin$Row;)V"⟩
abbrev cX10_chooseNext : ByteArray := prog_12_method_8_code
def yX10_chooseNext : MethodName := ⟨RX10, "chooseNext", "(I)V"⟩
def RX11 : String := "LargerWithin"
def TX11 : u_T := fun k => match k with
  | 0 => ("LargerWithin", "store", "LLargerWithin$Store;", true)
  | 1 => ("LargerWithin", "layout", "LLargerWithin$Layout;", true)
  | 2 => ("LargerWithin", "trial", "LLargerWithin$Layout;", true)
  | 3 => ("LargerWithin", "reader", "LLargerWithin$Reader;", true)
  | 4 => ("LargerWithin", "rows", "[LLargerWithin$Row;", true)
  | 5 => ("LargerWithin", "imageStores", "[LLargerWithin$Store;", true)
  | 6 => ("LargerWithin", "imageLayouts", "[LLargerWithin$Layout;", true)
  | 7 => ("LargerWithin", "imageMade", "[Z", true)
  | 8 => ("LargerWithin", "told", "LLargerWithin$Packing;", true)
  | 9 => ("LargerWithin", "picked", "LLargerWithin$Picked;", true)
  | 10 => ("LargerWithin", "homes", "LLargerWithin$Household;", true)
  | 11 => ("LargerWithin", "shutting", "LLargerWithin$Shutting;", true)
  | 12 => ("LargerWithin", "weighed", "LLargerWithin$Chest;", true)
  | 13 => ("LargerWithin", "nesting", "LLargerWithin$Nest;", true)
  | _ => ("LargerWithin", "journey", "LLargerWithin$Voyage;", true)
def tyX11 : Nat → FieldType := fun k => match k with
  | 0 => .object "LargerWithin$Store"
  | 1 => .object "LargerWithin$Layout"
  | 2 => .object "LargerWithin$Layout"
  | 3 => .object "LargerWithin$Reader"
  | 4 => .array (.object "LargerWithin$Row")
  | 5 => .array (.object "LargerWithin$Store")
  | 6 => .array (.object "LargerWithin$Layout")
  | 7 => .array .boolean
  | 8 => .object "LargerWithin$Packing"
  | 9 => .object "LargerWithin$Picked"
  | 10 => .object "LargerWithin$Household"
  | 11 => .object "LargerWithin$Shutting"
  | 12 => .object "LargerWithin$Chest"
  | 13 => .object "LargerWithin$Nest"
  | _ => .object "LargerWithin$Voyage"
abbrev wsX110 : List Cond := u_ws RX11 TX11 15
theorem nmX11 : ∀ a, a < 15 → ∀ b, b < 15 → a ≠ b → (TX11 a).2.1 ≠ (TX11 b).2.1 := by decide +kernel
theorem tyX11_ok : ∀ k, k < 15 → parseFieldDescriptor (TX11 k).2.2.1 = some (tyX11 k) := by decide +kernel
abbrev cX11_init : ByteArray := prog_1_method_1_code
def yX11_init : MethodName := ⟨RX11, "<init>", "()V"⟩
abbrev cX11_feed : ByteArray := prog_1_method_2_code
def yX11_feed : MethodName := ⟨RX11, "feed", "(IIIII)I"⟩
abbrev cX11_store : ByteArray := prog_1_method_3_code
def yX11_store : MethodName := ⟨RX11, "store", "(I)I"⟩
abbrev cX11_fault : ByteArray := prog_1_method_4_code
def yX11_fault : MethodName := ⟨RX11, "fault", "(I)I"⟩
abbrev cX11_item : ByteArray := prog_1_method_5_code
def yX11_item : MethodName := ⟨RX11, "item", "(II)I"⟩
abbrev cX11_lies : ByteArray := prog_1_method_6_code
def yX11_lies : MethodName := ⟨RX11, "lies", "(II)I"⟩
abbrev cX11_box : ByteArray := prog_1_method_7_code
def yX11_box : MethodName := ⟨RX11, "box", "(II)I"⟩
abbrev cX11_may : ByteArray := prog_1_method_8_code
def yX11_may : MethodName := ⟨RX11, "may", "(II)I"⟩
abbrev cX11_put : ByteArray := prog_1_method_9_code
def yX11_put : MethodName := ⟨RX11, "put", "(II)I"⟩
abbrev cX11_take : ByteArray := prog_1_method_10_code
def yX11_take : MethodName := ⟨RX11, "take", "(I)I"⟩
abbrev cX11_empty : ByteArray := prog_1_method_11_code
def yX11_empty : MethodName := ⟨RX11, "empty", "()I"⟩
abbrev cX11_over : ByteArray := prog_1_method_12_code
def yX11_over : MethodName := ⟨RX11, "over", "(II)I"⟩
abbrev cX11_judge : ByteArray := prog_1_method_13_code
def yX11_judge : MethodName := ⟨RX11, "judge", "(II)I"⟩
abbrev cX11_perform : ByteArray := prog_1_method_14_code
def yX11_perform : MethodName := ⟨RX11, "perform", "(I)I"⟩
abbrev cX11_packing : ByteArray := prog_1_method_15_code
def yX11_packing : MethodName := ⟨RX11, "packing", "(II)I"⟩
abbrev cX11_how : ByteArray := prog_1_method_16_code
def yX11_how : MethodName := ⟨RX11, "how", "(II)I"⟩
abbrev cX11_lost : ByteArray := prog_1_method_17_code
def yX11_lost : MethodName := ⟨RX11, "lost", "(I)I"⟩
abbrev cX11_most : ByteArray := prog_1_method_18_code
def yX11_most : MethodName := ⟨RX11, "most", "(III)I"⟩
abbrev cX11_household : ByteArray := prog_1_method_19_code
def yX11_household : MethodName := ⟨RX11, "household", "(IZI)I"⟩
abbrev cX11_holds : ByteArray := prog_1_method_20_code
def yX11_holds : MethodName := ⟨RX11, "holds", "(IZI)I"⟩
abbrev cX11_shut : ByteArray := prog_1_method_21_code
def yX11_shut : MethodName := ⟨RX11, "shut", "(II)I"⟩
abbrev cX11_shutIn : ByteArray := prog_1_method_22_code
def yX11_shutIn : MethodName := ⟨RX11, "shutIn", "(III)I"⟩
abbrev cX11_even : ByteArray := prog_1_method_23_code
def yX11_even : MethodName := ⟨RX11, "even", "(IIII)I"⟩
abbrev cX11_lightestFor : ByteArray := prog_1_method_24_code
def yX11_lightestFor : MethodName := ⟨RX11, "lightestFor", "(I)I"⟩
abbrev cX11_nest : ByteArray := prog_1_method_25_code
def yX11_nest : MethodName := ⟨RX11, "nest", "(I)I"⟩
abbrev cX11_voyage : ByteArray := prog_1_method_26_code
def yX11_voyage : MethodName := ⟨RX11, "voyage", "(I)I"⟩
abbrev cX11_voyages : ByteArray := prog_1_method_27_code
def yX11_voyages : MethodName := ⟨RX11, "voyages", "(II)I"⟩
abbrev cX11_chest : ByteArray := prog_1_method_28_code
def yX11_chest : MethodName := ⟨RX11, "chest", "(IIII)I"⟩
abbrev cX11_sure : ByteArray := prog_1_method_29_code
def yX11_sure : MethodName := ⟨RX11, "sure", "(IIIIZ)I"⟩
abbrev cX11_look : ByteArray := prog_1_method_30_code
def yX11_look : MethodName := ⟨RX11, "look", "(IIII)I"⟩
abbrev cX11_looks : ByteArray := prog_1_method_31_code
def yX11_looks : MethodName := ⟨RX11, "looks", "(IIII)I"⟩
abbrev cX11_sounded : ByteArray := prog_1_method_32_code
def yX11_sounded : MethodName := ⟨RX11, "sounded", "(IIII)I"⟩
abbrev cX11_needs : ByteArray := prog_1_method_33_code
def yX11_needs : MethodName := ⟨RX11, "needs", "(I)I"⟩
abbrev cX11_room : ByteArray := prog_1_method_34_code
def yX11_room : MethodName := ⟨RX11, "room", "(III)I"⟩
abbrev cX11_deepest : ByteArray := prog_1_method_35_code
def yX11_deepest : MethodName := ⟨RX11, "deepest", "(I)I"⟩
abbrev cX11_carriers : ByteArray := prog_1_method_36_code
def yX11_carriers : MethodName := ⟨RX11, "carriers", "(II)I"⟩
abbrev cX11_numbers : ByteArray := prog_1_method_37_code
def yX11_numbers : MethodName := ⟨RX11, "numbers", "(III)I"⟩
abbrev cX11_write : ByteArray := prog_1_method_38_code
def yX11_write : MethodName := ⟨RX11, "write", "(IIJ)J"⟩
abbrev cX11_copy : ByteArray := prog_1_method_39_code
def yX11_copy : MethodName := ⟨RX11, "copy", "(I)I"⟩
abbrev cX11_image : ByteArray := prog_1_method_40_code
def yX11_image : MethodName := ⟨RX11, "image", "(I)I"⟩
abbrev cX11_restore : ByteArray := prog_1_method_41_code
def yX11_restore : MethodName := ⟨RX11, "restore", "(I)I"⟩
abbrev cX11_count : ByteArray := prog_1_method_42_code
def yX11_count : MethodName := ⟨RX11, "count", "(I)I"⟩
abbrev cX11_isRow : ByteArray := prog_1_method_43_code
def yX11_isRow : MethodName := ⟨RX11, "isRow", "(I)Z"⟩
abbrev cX11_isImage : ByteArray := prog_1_method_44_code
def yX11_isImage : MethodName := ⟨RX11, "isImage", "(I)Z"⟩
abbrev cX11_hasOnly : ByteArray := prog_1_method_45_code
def yX11_hasOnly : MethodName := ⟨RX11, "hasOnly", "(II)Z"⟩
abbrev cX11_roomBy : ByteArray := prog_1_method_46_code
def yX11_roomBy : MethodName := ⟨RX11, "roomBy", "(III)I"⟩
abbrev cX11_drawAfter : ByteArray := prog_1_method_47_code
def yX11_drawAfter : MethodName := ⟨RX11, "drawAfter", "(I)I"⟩
abbrev cX11_rowRefusal : ByteArray := prog_1_method_48_code
def yX11_rowRefusal : MethodName := ⟨RX11, "rowRefusal", "(I)I"⟩
abbrev cX11_packingRefusal : ByteArray := prog_1_method_49_code
def yX11_packingRefusal : MethodName := ⟨RX11, "packingRefusal", "(I)I"⟩
abbrev cX11_weighIfSound : ByteArray := prog_1_method_50_code
def yX11_weighIfSound : MethodName := ⟨RX11, "weighIfSound", "(IIII)I"⟩
abbrev cX11_isThingSet : ByteArray := prog_1_method_51_code
def yX11_isThingSet : MethodName := ⟨RX11, "isThingSet", "(II)Z"⟩
abbrev cX11_isItemOf : ByteArray := prog_1_method_52_code
def yX11_isItemOf : MethodName := ⟨RX11, "isItemOf", "(II)Z"⟩
abbrev cX11_canBeShut : ByteArray := prog_1_method_53_code
def yX11_canBeShut : MethodName := ⟨RX11, "canBeShut", "(II)Z"⟩
abbrev cX11_carryOut : ByteArray := prog_1_method_54_code
def yX11_carryOut : MethodName := ⟨RX11, "carryOut", "(I)I"⟩
abbrev cX11_carryIn : ByteArray := prog_1_method_55_code
def yX11_carryIn : MethodName := ⟨RX11, "carryIn", "(II)I"⟩
def RX12 : String := "LargerWithinModel"
def TX12 : u_T := fun k => match k with
  | 0 => ("LargerWithinModel", "thrown", "I", false)
  | 1 => ("LargerWithinModel", "all", "[I", true)
  | 2 => ("LargerWithinModel", "hasImage", "[Z", true)
  | 3 => ("LargerWithinModel", "tape", "[I", true)
  | 4 => ("LargerWithinModel", "fresh", "[I", true)
  | 5 => ("LargerWithinModel", "taped", "I", false)
  | 6 => ("LargerWithinModel", "at", "I", false)
  | 7 => ("LargerWithinModel", "behind", "I", false)
  | 8 => ("LargerWithinModel", "size", "I", false)
  | 9 => ("LargerWithinModel", "kind", "I", false)
  | 10 => ("LargerWithinModel", "number", "I", false)
  | 11 => ("LargerWithinModel", "wrong", "I", false)
  | 12 => ("LargerWithinModel", "wrongAt", "I", false)
  | 13 => ("LargerWithinModel", "faultKind", "I", false)
  | 14 => ("LargerWithinModel", "faultPlace", "I", false)
  | 15 => ("LargerWithinModel", "kept", "[I", true)
  | 16 => ("LargerWithinModel", "why", "I", false)
  | 17 => ("LargerWithinModel", "wrongKind", "I", false)
  | 18 => ("LargerWithinModel", "few", "[I", true)
  | 19 => ("LargerWithinModel", "fewMany", "I", false)
  | 20 => ("LargerWithinModel", "fits", "[Z", true)
  | 21 => ("LargerWithinModel", "can", "[Z", true)
  | 22 => ("LargerWithinModel", "shutItems", "[I", true)
  | 23 => ("LargerWithinModel", "shutFirst", "[I", true)
  | 24 => ("LargerWithinModel", "shutMany", "I", false)
  | 25 => ("LargerWithinModel", "shutFound", "I", false)
  | 26 => ("LargerWithinModel", "row1", "[I", true)
  | 27 => ("LargerWithinModel", "bestRow", "[I", true)
  | 28 => ("LargerWithinModel", "bestLong", "I", false)
  | 29 => ("LargerWithinModel", "trip", "[I", true)
  | 30 => ("LargerWithinModel", "bestTrip", "[I", true)
  | 31 => ("LargerWithinModel", "tripMany", "I", false)
  | 32 => ("LargerWithinModel", "tripLeast", "I", false)
  | 33 => ("LargerWithinModel", "hows", "[I", true)
  | 34 => ("LargerWithinModel", "mayBe", "[Z", true)
  | 35 => ("LargerWithinModel", "sets", "[I", true)
  | 36 => ("LargerWithinModel", "looked", "[I", true)
  | 37 => ("LargerWithinModel", "rowSort", "[I", true)
  | 38 => ("LargerWithinModel", "rowMany", "[I", true)
  | _ => ("LargerWithinModel", "numbers", "[J", true)
def tyX12 : Nat → FieldType := fun k => match k with
  | 0 => .int
  | 1 => .array .int
  | 2 => .array .boolean
  | 3 => .array .int
  | 4 => .array .int
  | 5 => .int
  | 6 => .int
  | 7 => .int
  | 8 => .int
  | 9 => .int
  | 10 => .int
  | 11 => .int
  | 12 => .int
  | 13 => .int
  | 14 => .int
  | 15 => .array .int
  | 16 => .int
  | 17 => .int
  | 18 => .array .int
  | 19 => .int
  | 20 => .array .boolean
  | 21 => .array .boolean
  | 22 => .array .int
  | 23 => .array .int
  | 24 => .int
  | 25 => .int
  | 26 => .array .int
  | 27 => .array .int
  | 28 => .int
  | 29 => .array .int
  | 30 => .array .int
  | 31 => .int
  | 32 => .int
  | 33 => .array .int
  | 34 => .array .boolean
  | 35 => .array .int
  | 36 => .array .int
  | 37 => .array .int
  | 38 => .array .int
  | _ => .array .long
abbrev wsX120 : List Cond := u_ws RX12 TX12 40
theorem nmX12 : ∀ a, a < 40 → ∀ b, b < 40 → a ≠ b → (TX12 a).2.1 ≠ (TX12 b).2.1 := by decide +kernel
theorem tyX12_ok : ∀ k, k < 40 → parseFieldDescriptor (TX12 k).2.2.1 = some (tyX12 k) := by decide +kernel
abbrev cX12_within : ByteArray := prog_14_method_2_code
def yX12_within : MethodName := ⟨RX12, "within", "(JJJ)Z"⟩
abbrev cX12_init : ByteArray := prog_14_method_3_code
def yX12_init : MethodName := ⟨RX12, "<init>", "()V"⟩
abbrev cX12_feed : ByteArray := prog_14_method_4_code
def yX12_feed : MethodName := ⟨RX12, "feed", "(IIIII)I"⟩
abbrev cX12_see : ByteArray := prog_14_method_5_code
def yX12_see : MethodName := ⟨RX12, "see", "(I)I"⟩
abbrev cX12_isSmall : ByteArray := prog_14_method_6_code
def yX12_isSmall : MethodName := ⟨RX12, "isSmall", "(I)Z"⟩
abbrev cX12_isDigit : ByteArray := prog_14_method_7_code
def yX12_isDigit : MethodName := ⟨RX12, "isDigit", "(I)Z"⟩
abbrev cX12_keyAt : ByteArray := prog_14_method_8_code
def yX12_keyAt : MethodName := ⟨RX12, "keyAt", "()I"⟩
abbrev cX12_next : ByteArray := prog_14_method_9_code
def yX12_next : MethodName := ⟨RX12, "next", "()V"⟩
abbrev cX12_fails : ByteArray := prog_14_method_10_code
def yX12_fails : MethodName := ⟨RX12, "fails", "(I)V"⟩
abbrev cX12_is : ByteArray := prog_14_method_11_code
def yX12_is : MethodName := ⟨RX12, "is", "(I)Z"⟩
abbrev cX12_must : ByteArray := prog_14_method_12_code
def yX12_must : MethodName := ⟨RX12, "must", "(I)V"⟩
abbrev cX12_takes : ByteArray := prog_14_method_13_code
def yX12_takes : MethodName := ⟨RX12, "takes", "(II)I"⟩
abbrev cX12_takesBehind : ByteArray := prog_14_method_14_code
def yX12_takesBehind : MethodName := ⟨RX12, "takesBehind", "(III)I"⟩
abbrev cX12_place : ByteArray := prog_14_method_15_code
def yX12_place : MethodName := ⟨RX12, "place", "(II)I"⟩
abbrev cX12_readBox : ByteArray := prog_14_method_16_code
def yX12_readBox : MethodName := ⟨RX12, "readBox", "()V"⟩
abbrev cX12_readThing : ByteArray := prog_14_method_17_code
def yX12_readThing : MethodName := ⟨RX12, "readThing", "()V"⟩
abbrev cX12_store : ByteArray := prog_14_method_18_code
def yX12_store : MethodName := ⟨RX12, "store", "(I)I"⟩
abbrev cX12_fault : ByteArray := prog_14_method_19_code
def yX12_fault : MethodName := ⟨RX12, "fault", "(I)I"⟩
abbrev cX12_isBox : ByteArray := prog_14_method_20_code
def yX12_isBox : MethodName := ⟨RX12, "isBox", "(J)Z"⟩
abbrev cX12_isItem : ByteArray := prog_14_method_21_code
def yX12_isItem : MethodName := ⟨RX12, "isItem", "(J)Z"⟩
abbrev cX12_of : ByteArray := prog_14_method_22_code
def yX12_of : MethodName := ⟨RX12, "of", "(II)I"⟩
abbrev cX12_item : ByteArray := prog_14_method_23_code
def yX12_item : MethodName := ⟨RX12, "item", "(II)I"⟩
abbrev cX12_around : ByteArray := prog_14_method_24_code
def yX12_around : MethodName := ⟨RX12, "around", "(I)I"⟩
abbrev cX12_isDeepIn : ByteArray := prog_14_method_25_code
def yX12_isDeepIn : MethodName := ⟨RX12, "isDeepIn", "(II)Z"⟩
abbrev cX12_isOver : ByteArray := prog_14_method_26_code
def yX12_isOver : MethodName := ⟨RX12, "isOver", "(II)Z"⟩
abbrev cX12_overMany : ByteArray := prog_14_method_27_code
def yX12_overMany : MethodName := ⟨RX12, "overMany", "(I)I"⟩
abbrev cX12_loadOf : ByteArray := prog_14_method_28_code
def yX12_loadOf : MethodName := ⟨RX12, "loadOf", "(I)I"⟩
abbrev cX12_fillOf : ByteArray := prog_14_method_29_code
def yX12_fillOf : MethodName := ⟨RX12, "fillOf", "(I)I"⟩
abbrev cX12_halvedOf : ByteArray := prog_14_method_30_code
def yX12_halvedOf : MethodName := ⟨RX12, "halvedOf", "(I)I"⟩
abbrev cX12_roomBy : ByteArray := prog_14_method_31_code
def yX12_roomBy : MethodName := ⟨RX12, "roomBy", "(III)I"⟩
abbrev cX12_roomOf : ByteArray := prog_14_method_32_code
def yX12_roomOf : MethodName := ⟨RX12, "roomOf", "(II)I"⟩
abbrev cX12_heftOf : ByteArray := prog_14_method_33_code
def yX12_heftOf : MethodName := ⟨RX12, "heftOf", "(I)I"⟩
abbrev cX12_depthOf : ByteArray := prog_14_method_34_code
def yX12_depthOf : MethodName := ⟨RX12, "depthOf", "(I)I"⟩
abbrev cX12_lies : ByteArray := prog_14_method_35_code
def yX12_lies : MethodName := ⟨RX12, "lies", "(II)I"⟩
abbrev cX12_manyIn : ByteArray := prog_14_method_36_code
def yX12_manyIn : MethodName := ⟨RX12, "manyIn", "(I)I"⟩
abbrev cX12_inBox : ByteArray := prog_14_method_37_code
def yX12_inBox : MethodName := ⟨RX12, "inBox", "(II)I"⟩
abbrev cX12_box : ByteArray := prog_14_method_38_code
def yX12_box : MethodName := ⟨RX12, "box", "(II)I"⟩
abbrev cX12_bears : ByteArray := prog_14_method_39_code
def yX12_bears : MethodName := ⟨RX12, "bears", "(II)Z"⟩
abbrev cX12_refuses : ByteArray := prog_14_method_40_code
def yX12_refuses : MethodName := ⟨RX12, "refuses", "(II)I"⟩
abbrev cX12_comes : ByteArray := prog_14_method_41_code
def yX12_comes : MethodName := ⟨RX12, "comes", "(II)V"⟩
abbrev cX12_may : ByteArray := prog_14_method_42_code
def yX12_may : MethodName := ⟨RX12, "may", "(II)I"⟩
abbrev cX12_put : ByteArray := prog_14_method_43_code
def yX12_put : MethodName := ⟨RX12, "put", "(II)I"⟩
abbrev cX12_canBeTaken : ByteArray := prog_14_method_44_code
def yX12_canBeTaken : MethodName := ⟨RX12, "canBeTaken", "(I)Z"⟩
abbrev cX12_take : ByteArray := prog_14_method_45_code
def yX12_take : MethodName := ⟨RX12, "take", "(I)I"⟩
abbrev cX12_itemsIn : ByteArray := prog_14_method_46_code
def yX12_itemsIn : MethodName := ⟨RX12, "itemsIn", "()I"⟩
abbrev cX12_empty : ByteArray := prog_14_method_47_code
def yX12_empty : MethodName := ⟨RX12, "empty", "()I"⟩
abbrev cX12_over : ByteArray := prog_14_method_48_code
def yX12_over : MethodName := ⟨RX12, "over", "(II)I"⟩
abbrev cX12_keeps : ByteArray := prog_14_method_49_code
def yX12_keeps : MethodName := ⟨RX12, "keeps", "()V"⟩
abbrev cX12_isAgain : ByteArray := prog_14_method_50_code
def yX12_isAgain : MethodName := ⟨RX12, "isAgain", "()V"⟩
abbrev cX12_acts : ByteArray := prog_14_method_51_code
def yX12_acts : MethodName := ⟨RX12, "acts", "(J)I"⟩
abbrev cX12_actsAll : ByteArray := prog_14_method_52_code
def yX12_actsAll : MethodName := ⟨RX12, "actsAll", "(I)I"⟩
abbrev cX12_judge : ByteArray := prog_14_method_53_code
def yX12_judge : MethodName := ⟨RX12, "judge", "(II)I"⟩
abbrev cX12_perform : ByteArray := prog_14_method_54_code
def yX12_perform : MethodName := ⟨RX12, "perform", "(I)I"⟩
abbrev cX12_itemAt : ByteArray := prog_14_method_55_code
def yX12_itemAt : MethodName := ⟨RX12, "itemAt", "(I)I"⟩
abbrev cX12_itemMany : ByteArray := prog_14_method_56_code
def yX12_itemMany : MethodName := ⟨RX12, "itemMany", "()I"⟩
abbrev cX12_firstNoBox : ByteArray := prog_14_method_57_code
def yX12_firstNoBox : MethodName := ⟨RX12, "firstNoBox", "(I)I"⟩
abbrev cX12_lays : ByteArray := prog_14_method_58_code
def yX12_lays : MethodName := ⟨RX12, "lays", "(I)V"⟩
abbrev cX12_isRing : ByteArray := prog_14_method_59_code
def yX12_isRing : MethodName := ⟨RX12, "isRing", "(I)Z"⟩
abbrev cX12_firstWrong : ByteArray := prog_14_method_60_code
def yX12_firstWrong : MethodName := ⟨RX12, "firstWrong", "()I"⟩
abbrev cX12_packing : ByteArray := prog_14_method_61_code
def yX12_packing : MethodName := ⟨RX12, "packing", "(II)I"⟩
abbrev cX12_lost : ByteArray := prog_14_method_62_code
def yX12_lost : MethodName := ⟨RX12, "lost", "(I)I"⟩
abbrev cX12_bitsOf : ByteArray := prog_14_method_63_code
def yX12_bitsOf : MethodName := ⟨RX12, "bitsOf", "(I)I"⟩
abbrev cX12_itemsAll : ByteArray := prog_14_method_64_code
def yX12_itemsAll : MethodName := ⟨RX12, "itemsAll", "()I"⟩
abbrev cX12_thingsAll : ByteArray := prog_14_method_65_code
def yX12_thingsAll : MethodName := ⟨RX12, "thingsAll", "()I"⟩
abbrev cX12_takesFew : ByteArray := prog_14_method_66_code
def yX12_takesFew : MethodName := ⟨RX12, "takesFew", "(IIZ)V"⟩
abbrev cX12_asItems : ByteArray := prog_14_method_67_code
def yX12_asItems : MethodName := ⟨RX12, "asItems", "(I)I"⟩
abbrev cX12_sumOf : ByteArray := prog_14_method_68_code
def yX12_sumOf : MethodName := ⟨RX12, "sumOf", "(II)I"⟩
abbrev cX12_passes : ByteArray := prog_14_method_69_code
def yX12_passes : MethodName := ⟨RX12, "passes", "(II)Z"⟩
abbrev cX12_most : ByteArray := prog_14_method_70_code
def yX12_most : MethodName := ⟨RX12, "most", "(III)I"⟩
abbrev cX12_laysBoxes : ByteArray := prog_14_method_71_code
def yX12_laysBoxes : MethodName := ⟨RX12, "laysBoxes", "()V"⟩
abbrev cX12_canWith : ByteArray := prog_14_method_72_code
def yX12_canWith : MethodName := ⟨RX12, "canWith", "(III)Z"⟩
abbrev cX12_weightOf : ByteArray := prog_14_method_73_code
def yX12_weightOf : MethodName := ⟨RX12, "weightOf", "(I)I"⟩
abbrev cX12_isBetter : ByteArray := prog_14_method_74_code
def yX12_isBetter : MethodName := ⟨RX12, "isBetter", "(IIZ)Z"⟩
abbrev cX12_bestBoxes : ByteArray := prog_14_method_75_code
def yX12_bestBoxes : MethodName := ⟨RX12, "bestBoxes", "(IZ)I"⟩
abbrev cX12_isHousehold : ByteArray := prog_14_method_76_code
def yX12_isHousehold : MethodName := ⟨RX12, "isHousehold", "(I)Z"⟩
abbrev cX12_household : ByteArray := prog_14_method_77_code
def yX12_household : MethodName := ⟨RX12, "household", "(IZI)I"⟩
abbrev cX12_holds : ByteArray := prog_14_method_78_code
def yX12_holds : MethodName := ⟨RX12, "holds", "(IZI)I"⟩
abbrev cX12_isOf : ByteArray := prog_14_method_79_code
def yX12_isOf : MethodName := ⟨RX12, "isOf", "(II)Z"⟩
abbrev cX12_isShut : ByteArray := prog_14_method_80_code
def yX12_isShut : MethodName := ⟨RX12, "isShut", "(I)Z"⟩
abbrev cX12_shuts : ByteArray := prog_14_method_81_code
def yX12_shuts : MethodName := ⟨RX12, "shuts", "(III)V"⟩
abbrev cX12_shutWays : ByteArray := prog_14_method_82_code
def yX12_shutWays : MethodName := ⟨RX12, "shutWays", "(II)I"⟩
abbrev cX12_shut : ByteArray := prog_14_method_83_code
def yX12_shut : MethodName := ⟨RX12, "shut", "(II)I"⟩
abbrev cX12_shutIn : ByteArray := prog_14_method_84_code
def yX12_shutIn : MethodName := ⟨RX12, "shutIn", "(III)I"⟩
abbrev cX12_even : ByteArray := prog_14_method_85_code
def yX12_even : MethodName := ⟨RX12, "even", "(IIII)I"⟩
abbrev cX12_lightestFor : ByteArray := prog_14_method_86_code
def yX12_lightestFor : MethodName := ⟨RX12, "lightestFor", "(I)I"⟩
abbrev cX12_canNest : ByteArray := prog_14_method_87_code
def yX12_canNest : MethodName := ⟨RX12, "canNest", "(II)Z"⟩
abbrev cX12_nests : ByteArray := prog_14_method_88_code
def yX12_nests : MethodName := ⟨RX12, "nests", "(II)V"⟩
abbrev cX12_nest : ByteArray := prog_14_method_89_code
def yX12_nest : MethodName := ⟨RX12, "nest", "(I)I"⟩
abbrev cX12_areItems : ByteArray := prog_14_method_90_code
def yX12_areItems : MethodName := ⟨RX12, "areItems", "(I)Z"⟩
abbrev cX12_lifts : ByteArray := prog_14_method_91_code
def yX12_lifts : MethodName := ⟨RX12, "lifts", "(I)I"⟩
abbrev cX12_voyage : ByteArray := prog_14_method_92_code
def yX12_voyage : MethodName := ⟨RX12, "voyage", "(I)I"⟩
abbrev cX12_trips : ByteArray := prog_14_method_93_code
def yX12_trips : MethodName := ⟨RX12, "trips", "(III)V"⟩
abbrev cX12_voyages : ByteArray := prog_14_method_94_code
def yX12_voyages : MethodName := ⟨RX12, "voyages", "(II)I"⟩
abbrev cX12_how : ByteArray := prog_14_method_95_code
def yX12_how : MethodName := ⟨RX12, "how", "(II)I"⟩
abbrev cX12_isChest : ByteArray := prog_14_method_96_code
def yX12_isChest : MethodName := ⟨RX12, "isChest", "(III)Z"⟩
abbrev cX12_laysChest : ByteArray := prog_14_method_97_code
def yX12_laysChest : MethodName := ⟨RX12, "laysChest", "(IIII)I"⟩
abbrev cX12_chest : ByteArray := prog_14_method_98_code
def yX12_chest : MethodName := ⟨RX12, "chest", "(IIII)I"⟩
abbrev cX12_sure : ByteArray := prog_14_method_99_code
def yX12_sure : MethodName := ⟨RX12, "sure", "(IIIIZ)I"⟩
abbrev cX12_look : ByteArray := prog_14_method_100_code
def yX12_look : MethodName := ⟨RX12, "look", "(IIII)I"⟩
abbrev cX12_looks : ByteArray := prog_14_method_101_code
def yX12_looks : MethodName := ⟨RX12, "looks", "(IIII)I"⟩
abbrev cX12_sounded : ByteArray := prog_14_method_102_code
def yX12_sounded : MethodName := ⟨RX12, "sounded", "(IIII)I"⟩
abbrev cX12_needs : ByteArray := prog_14_method_103_code
def yX12_needs : MethodName := ⟨RX12, "needs", "(I)I"⟩
abbrev cX12_room : ByteArray := prog_14_method_104_code
def yX12_room : MethodName := ⟨RX12, "room", "(III)I"⟩
abbrev cX12_deepest : ByteArray := prog_14_method_105_code
def yX12_deepest : MethodName := ⟨RX12, "deepest", "(I)I"⟩
abbrev cX12_carriers : ByteArray := prog_14_method_106_code
def yX12_carriers : MethodName := ⟨RX12, "carriers", "(II)I"⟩
abbrev cX12_cut : ByteArray := prog_14_method_107_code
def yX12_cut : MethodName := ⟨RX12, "cut", "(JI)J"⟩
abbrev cX12_numbers : ByteArray := prog_14_method_108_code
def yX12_numbers : MethodName := ⟨RX12, "numbers", "(III)I"⟩
abbrev cX12_write : ByteArray := prog_14_method_109_code
def yX12_write : MethodName := ⟨RX12, "write", "(IIJ)J"⟩
abbrev cX12_copy : ByteArray := prog_14_method_110_code
def yX12_copy : MethodName := ⟨RX12, "copy", "(I)I"⟩
abbrev cX12_image : ByteArray := prog_14_method_111_code
def yX12_image : MethodName := ⟨RX12, "image", "(I)I"⟩
abbrev cX12_restore : ByteArray := prog_14_method_112_code
def yX12_restore : MethodName := ⟨RX12, "restore", "(I)I"⟩
abbrev cX12_worthIn : ByteArray := prog_14_method_113_code
def yX12_worthIn : MethodName := ⟨RX12, "worthIn", "()I"⟩
abbrev cX12_count : ByteArray := prog_14_method_114_code
def yX12_count : MethodName := ⟨RX12, "count", "(I)I"⟩
def RJx145de : String := "java/io/Serializable"
def TJx145de : u_T := fun k => match k with
  | _ => ("", "", "", false)
def tyJx145de : Nat → FieldType := fun k => match k with
  | _ => .int
abbrev wsJx145de0 : List Cond := u_ws RJx145de TJx145de 0
theorem nmJx145de : ∀ a, a < 0 → ∀ b, b < 0 → a ≠ b → (TJx145de a).2.1 ≠ (TJx145de b).2.1 := by decide +kernel
theorem tyJx145de_ok : ∀ k, k < 0 → parseFieldDescriptor (TJx145de k).2.2.1 = some (tyJx145de k) := by decide +kernel
def RJx9f9b0 : String := "java/lang/CharSequence"
def TJx9f9b0 : u_T := fun k => match k with
  | _ => ("", "", "", false)
def tyJx9f9b0 : Nat → FieldType := fun k => match k with
  | _ => .int
abbrev wsJx9f9b00 : List Cond := u_ws RJx9f9b0 TJx9f9b0 0
theorem nmJx9f9b0 : ∀ a, a < 0 → ∀ b, b < 0 → a ≠ b → (TJx9f9b0 a).2.1 ≠ (TJx9f9b0 b).2.1 := by decide +kernel
theorem tyJx9f9b0_ok : ∀ k, k < 0 → parseFieldDescriptor (TJx9f9b0 k).2.2.1 = some (tyJx9f9b0 k) := by decide +kernel
def RJxb160c : String := "java/lang/Comparable"
def TJxb160c : u_T := fun k => match k with
  | _ => ("", "", "", false)
def tyJxb160c : Nat → FieldType := fun k => match k with
  | _ => .int
abbrev wsJxb160c0 : List Cond := u_ws RJxb160c TJxb160c 0
theorem nmJxb160c : ∀ a, a < 0 → ∀ b, b < 0 → a ≠ b → (TJxb160c a).2.1 ≠ (TJxb160c b).2.1 := by decide +kernel
theorem tyJxb160c_ok : ∀ k, k < 0 → parseFieldDescriptor (TJxb160c k).2.2.1 = some (tyJxb160c k) := by decide +kernel
def RJ6 : String := "java/lang/Integer"
def TJ6 : u_T := fun k => match k with
  | _ => ("", "", "", false)
def tyJ6 : Nat → FieldType := fun k => match k with
  | _ => .int
abbrev wsJ60 : List Cond := u_ws RJ6 TJ6 0
theorem nmJ6 : ∀ a, a < 0 → ∀ b, b < 0 → a ≠ b → (TJ6 a).2.1 ≠ (TJ6 b).2.1 := by decide +kernel
theorem tyJ6_ok : ∀ k, k < 0 → parseFieldDescriptor (TJ6 k).2.2.1 = some (tyJ6 k) := by decide +kernel
abbrev cJ6_numberOfLeadingZeros_0f7a4 : ByteArray := prog_15_method_47_code
def yJ6_numberOfLeadingZeros_0f7a4 : MethodName := ⟨RJ6, "numberOfLeadingZeros", "(I)I"⟩
abbrev cJ6_bitCount_0f7a4 : ByteArray := prog_15_method_49_code
def yJ6_bitCount_0f7a4 : MethodName := ⟨RJ6, "bitCount", "(I)I"⟩
def RJ9 : String := "java/lang/Math"
def TJ9 : u_T := fun k => match k with
  | _ => ("", "", "", false)
def tyJ9 : Nat → FieldType := fun k => match k with
  | _ => .int
abbrev wsJ90 : List Cond := u_ws RJ9 TJ9 0
theorem nmJ9 : ∀ a, a < 0 → ∀ b, b < 0 → a ≠ b → (TJ9 a).2.1 ≠ (TJ9 b).2.1 := by decide +kernel
theorem tyJ9_ok : ∀ k, k < 0 → parseFieldDescriptor (TJ9 k).2.2.1 = some (tyJ9 k) := by decide +kernel
abbrev cJ9_abs_0f7a4 : ByteArray := prog_16_method_59_code
def yJ9_abs_0f7a4 : MethodName := ⟨RJ9, "abs", "(I)I"⟩
abbrev cJ9_max_7cf53 : ByteArray := prog_16_method_65_code
def yJ9_max_7cf53 : MethodName := ⟨RJ9, "max", "(II)I"⟩
abbrev cJ9_min_7cf53 : ByteArray := prog_16_method_69_code
def yJ9_min_7cf53 : MethodName := ⟨RJ9, "min", "(II)I"⟩
def RJ0 : String := "java/lang/String"
def TJ0 : u_T := fun k => match k with
  | _ => ("", "", "", false)
def tyJ0 : Nat → FieldType := fun k => match k with
  | _ => .int
abbrev wsJ00 : List Cond := u_ws RJ0 TJ0 0
theorem nmJ0 : ∀ a, a < 0 → ∀ b, b < 0 → a ≠ b → (TJ0 a).2.1 ≠ (TJ0 b).2.1 := by decide +kernel
theorem tyJ0_ok : ∀ k, k < 0 → parseFieldDescriptor (TJ0 k).2.2.1 = some (tyJ0 k) := by decide +kernel
abbrev cJ0_length_8abf5 : ByteArray := prog_17_method_54_code
def yJ0_length_8abf5 : MethodName := ⟨RJ0, "length", "()I"⟩
abbrev cJ0_isEmpty_aae02 : ByteArray := prog_17_method_55_code
def yJ0_isEmpty_aae02 : MethodName := ⟨RJ0, "isEmpty", "()Z"⟩
abbrev cJ0_charAt_5068e : ByteArray := prog_17_method_56_code
def yJ0_charAt_5068e : MethodName := ⟨RJ0, "charAt", "(I)C"⟩
abbrev cJ0_coder_7d493 : ByteArray := prog_17_method_152_code
def yJ0_coder_7d493 : MethodName := ⟨RJ0, "coder", "()B"⟩
abbrev cJ0_isLatin1_aae02 : ByteArray := prog_17_method_154_code
def yJ0_isLatin1_aae02 : MethodName := ⟨RJ0, "isLatin1", "()Z"⟩
abbrev cJ0_checkIndex_df160 : ByteArray := prog_17_method_155_code
def yJ0_checkIndex_df160 : MethodName := ⟨RJ0, "checkIndex", "(II)V"⟩
def RJ1 : String := "java/lang/StringLatin1"
def TJ1 : u_T := fun k => match k with
  | _ => ("", "", "", false)
def tyJ1 : Nat → FieldType := fun k => match k with
  | _ => .int
abbrev wsJ10 : List Cond := u_ws RJ1 TJ1 0
theorem nmJ1 : ∀ a, a < 0 → ∀ b, b < 0 → a ≠ b → (TJ1 a).2.1 ≠ (TJ1 b).2.1 := by decide +kernel
theorem tyJ1_ok : ∀ k, k < 0 → parseFieldDescriptor (TJ1 k).2.2.1 = some (tyJ1 k) := by decide +kernel
abbrev cJ1_charAt_3b067 : ByteArray := prog_18_method_2_code
def yJ1_charAt_3b067 : MethodName := ⟨RJ1, "charAt", "([BI)C"⟩
def RJ2 : String := "java/lang/StringUTF16"
def TJ2 : u_T := fun k => match k with
  | _ => ("", "", "", false)
def tyJ2 : Nat → FieldType := fun k => match k with
  | _ => .int
abbrev wsJ20 : List Cond := u_ws RJ2 TJ2 0
theorem nmJ2 : ∀ a, a < 0 → ∀ b, b < 0 → a ≠ b → (TJ2 a).2.1 ≠ (TJ2 b).2.1 := by decide +kernel
theorem tyJ2_ok : ∀ k, k < 0 → parseFieldDescriptor (TJ2 k).2.2.1 = some (tyJ2 k) := by decide +kernel
abbrev cJ2_getChar_3b067 : ByteArray := prog_19_method_5_code
def yJ2_getChar_3b067 : MethodName := ⟨RJ2, "getChar", "([BI)C"⟩
abbrev cJ2_length_9d52b : ByteArray := prog_19_method_6_code
def yJ2_length_9d52b : MethodName := ⟨RJ2, "length", "([B)I"⟩
abbrev cJ2_charAt_3b067 : ByteArray := prog_19_method_83_code
def yJ2_charAt_3b067 : MethodName := ⟨RJ2, "charAt", "([BI)C"⟩
abbrev cJ2_checkIndex_2214a : ByteArray := prog_19_method_91_code
def yJ2_checkIndex_2214a : MethodName := ⟨RJ2, "checkIndex", "(I[B)V"⟩
def RJ10 : String := "java/lang/System"
def TJ10 : u_T := fun k => match k with
  | _ => ("", "", "", false)
def tyJ10 : Nat → FieldType := fun k => match k with
  | _ => .int
abbrev wsJ100 : List Cond := u_ws RJ10 TJ10 0
theorem nmJ10 : ∀ a, a < 0 → ∀ b, b < 0 → a ≠ b → (TJ10 a).2.1 ≠ (TJ10 b).2.1 := by decide +kernel
theorem tyJ10_ok : ∀ k, k < 0 → parseFieldDescriptor (TJ10 k).2.2.1 = some (tyJ10 k) := by decide +kernel
def RJxfd54e : String := "java/lang/constant/Constable"
def TJxfd54e : u_T := fun k => match k with
  | _ => ("", "", "", false)
def tyJxfd54e : Nat → FieldType := fun k => match k with
  | _ => .int
abbrev wsJxfd54e0 : List Cond := u_ws RJxfd54e TJxfd54e 0
theorem nmJxfd54e : ∀ a, a < 0 → ∀ b, b < 0 → a ≠ b → (TJxfd54e a).2.1 ≠ (TJxfd54e b).2.1 := by decide +kernel
theorem tyJxfd54e_ok : ∀ k, k < 0 → parseFieldDescriptor (TJxfd54e k).2.2.1 = some (tyJxfd54e k) := by decide +kernel
def RJx3cf43 : String := "java/lang/constant/ConstantDesc"
def TJx3cf43 : u_T := fun k => match k with
  | _ => ("", "", "", false)
def tyJx3cf43 : Nat → FieldType := fun k => match k with
  | _ => .int
abbrev wsJx3cf430 : List Cond := u_ws RJx3cf43 TJx3cf43 0
theorem nmJx3cf43 : ∀ a, a < 0 → ∀ b, b < 0 → a ≠ b → (TJx3cf43 a).2.1 ≠ (TJx3cf43 b).2.1 := by decide +kernel
theorem tyJx3cf43_ok : ∀ k, k < 0 → parseFieldDescriptor (TJx3cf43 k).2.2.1 = some (tyJx3cf43 k) := by decide +kernel
def RJ7 : String := "java/util/Arrays"
def TJ7 : u_T := fun k => match k with
  | _ => ("", "", "", false)
def tyJ7 : Nat → FieldType := fun k => match k with
  | _ => .int
abbrev wsJ70 : List Cond := u_ws RJ7 TJ7 0
theorem nmJ7 : ∀ a, a < 0 → ∀ b, b < 0 → a ≠ b → (TJ7 a).2.1 ≠ (TJ7 b).2.1 := by decide +kernel
theorem tyJ7_ok : ∀ k, k < 0 → parseFieldDescriptor (TJ7 k).2.2.1 = some (tyJ7 k) := by decide +kernel
abbrev cJ7_fill_d0a16 : ByteArray := prog_21_method_101_code
def yJ7_fill_d0a16 : MethodName := ⟨RJ7, "fill", "([JJ)V"⟩
abbrev cJ7_fill_53178 : ByteArray := prog_21_method_103_code
def yJ7_fill_53178 : MethodName := ⟨RJ7, "fill", "([II)V"⟩
def RJ3 : String := "jdk/internal/util/Preconditions"
def TJ3 : u_T := fun k => match k with
  | _ => ("", "", "", false)
def tyJ3 : Nat → FieldType := fun k => match k with
  | _ => .int
abbrev wsJ30 : List Cond := u_ws RJ3 TJ3 0
theorem nmJ3 : ∀ a, a < 0 → ∀ b, b < 0 → a ≠ b → (TJ3 a).2.1 ≠ (TJ3 b).2.1 := by decide +kernel
theorem tyJ3_ok : ∀ k, k < 0 → parseFieldDescriptor (TJ3 k).2.2.1 = some (tyJ3 k) := by decide +kernel
abbrev cJ3_checkIndex_8e157 : ByteArray := prog_22_method_11_code
def yJ3_checkIndex_8e157 : MethodName := ⟨RJ3, "checkIndex", "(IILjava/util/function/BiFunction;)I"⟩
def RL : String := "LargerWithinLaw"
abbrev cL_law : ByteArray := code
def yL_law : MethodName := ⟨RL, "law", "([I)Z"⟩
abbrev vwCl : List vw_C := [(RX0, TX0, 8), (RX1, TX1, 10), (RX2, TX2, 4), (RX3, TX3, 6), (RX4, TX4, 5), (RX5, TX5, 7), (RX6, TX6, 10), (RX7, TX7, 3), (RX8, TX8, 9), (RX9, TX9, 3), (RX10, TX10, 7), (RX11, TX11, 15), (RX12, TX12, 40)]
/-- the words that a callee may take along -/
def tg : List Cond := lw_tbl.filter goodWord
theorem tg_tbl {w : Cond} (h : w ∈ tg) : w ∈ lw_tbl := (List.mem_filter.mp h).1
theorem tg_good : ∀ w ∈ tg, (w.onTables && w.keeps) = true ∨ ∃ ty, w = .arrayClass ty := fun w h => good_of_word (List.mem_filter.mp h).2
theorem tg_sel {w : Cond} (h : w ∈ k2_sels lw_privs) (g : goodWord w = true) : w ∈ tg := List.mem_filter.mpr ⟨List.mem_append_left _ h, g⟩
theorem tg_r (ws : List Cond) (ps : List Nat) (hp : ws = ps.filterMap (fun i => tables_1[i]?)) (h : ws.all goodWord = true) : ∀ w ∈ ws, w ∈ tg := fun w hw => List.mem_filter.mpr ⟨List.mem_append_right _ ((goodIn_r (big := tables_1) ws ps hp h) w hw).1, List.all_eq_true.mp h w hw⟩
theorem tmC1 {w : Cond} (h : w ∈ tables_1_1) (g : goodWord w = true) : w ∈ tg := List.mem_filter.mpr ⟨List.mem_append_right _ (List.mem_append_left _ h), g⟩
theorem tmC2 {w : Cond} (h : w ∈ tables_1_2) (g : goodWord w = true) : w ∈ tg := List.mem_filter.mpr ⟨List.mem_append_right _ (List.mem_append_right _ (List.mem_append_left _ h)), g⟩
theorem tmC3 {w : Cond} (h : w ∈ tables_1_3) (g : goodWord w = true) : w ∈ tg := List.mem_filter.mpr ⟨List.mem_append_right _ (List.mem_append_right _ (List.mem_append_right _ (List.mem_append_left _ h))), g⟩
theorem tmC4 {w : Cond} (h : w ∈ tables_1_4) (g : goodWord w = true) : w ∈ tg := List.mem_filter.mpr ⟨List.mem_append_right _ (List.mem_append_right _ (List.mem_append_right _ (List.mem_append_right _ (List.mem_append_left _ h)))), g⟩
theorem tmC5 {w : Cond} (h : w ∈ tables_1_5) (g : goodWord w = true) : w ∈ tg := List.mem_filter.mpr ⟨List.mem_append_right _ (List.mem_append_right _ (List.mem_append_right _ (List.mem_append_right _ (List.mem_append_right _ (List.mem_append_left _ h))))), g⟩
theorem tmC6 {w : Cond} (h : w ∈ tables_1_6) (g : goodWord w = true) : w ∈ tg := List.mem_filter.mpr ⟨List.mem_append_right _ (List.mem_append_right _ (List.mem_append_right _ (List.mem_append_right _ (List.mem_append_right _ (List.mem_append_right _ (List.mem_append_left _ h)))))), g⟩
theorem tmC7 {w : Cond} (h : w ∈ tables_1_7) (g : goodWord w = true) : w ∈ tg := List.mem_filter.mpr ⟨List.mem_append_right _ (List.mem_append_right _ (List.mem_append_right _ (List.mem_append_right _ (List.mem_append_right _ (List.mem_append_right _ (List.mem_append_right _ (List.mem_append_left _ h))))))), g⟩
theorem tmC8 {w : Cond} (h : w ∈ tables_1_8) (g : goodWord w = true) : w ∈ tg := List.mem_filter.mpr ⟨List.mem_append_right _ (List.mem_append_right _ (List.mem_append_right _ (List.mem_append_right _ (List.mem_append_right _ (List.mem_append_right _ (List.mem_append_right _ (List.mem_append_right _ (List.mem_append_left _ h)))))))), g⟩
theorem tmC9 {w : Cond} (h : w ∈ tables_1_9) (g : goodWord w = true) : w ∈ tg := List.mem_filter.mpr ⟨List.mem_append_right _ (List.mem_append_right _ (List.mem_append_right _ (List.mem_append_right _ (List.mem_append_right _ (List.mem_append_right _ (List.mem_append_right _ (List.mem_append_right _ (List.mem_append_right _ (h))))))))), g⟩
set_option maxRecDepth 20000 in
theorem inX0 : ∀ w ∈ u_ws RX0 TX0 8, w ∈ tg := tg_r (u_ws RX0 TX0 8) [268, 270, 272, 274, 276, 278, 280, 282] (by decide +kernel) (by decide +kernel)
set_option maxRecDepth 20000 in
theorem inX1 : ∀ w ∈ u_ws RX1 TX1 10, w ∈ tg := tg_r (u_ws RX1 TX1 10) [199, 201, 203, 205, 207, 209, 211, 213, 215, 217] (by decide +kernel) (by decide +kernel)
set_option maxRecDepth 20000 in
theorem inX2 : ∀ w ∈ u_ws RX2 TX2 4, w ∈ tg := tg_r (u_ws RX2 TX2 4) [60, 62, 64, 66] (by decide +kernel) (by decide +kernel)
set_option maxRecDepth 20000 in
theorem inX3 : ∀ w ∈ u_ws RX3 TX3 6, w ∈ tg := tg_r (u_ws RX3 TX3 6) [297, 299, 301, 303, 305, 307] (by decide +kernel) (by decide +kernel)
set_option maxRecDepth 20000 in
theorem inX4 : ∀ w ∈ u_ws RX4 TX4 5, w ∈ tg := tg_r (u_ws RX4 TX4 5) [143, 145, 147, 149, 151] (by decide +kernel) (by decide +kernel)
set_option maxRecDepth 20000 in
theorem inX5 : ∀ w ∈ u_ws RX5 TX5 7, w ∈ tg := tg_r (u_ws RX5 TX5 7) [168, 170, 172, 174, 176, 178, 180] (by decide +kernel) (by decide +kernel)
set_option maxRecDepth 20000 in
theorem inX6 : ∀ w ∈ u_ws RX6 TX6 10, w ∈ tg := tg_r (u_ws RX6 TX6 10) [88, 90, 92, 94, 96, 98, 100, 102, 104, 106] (by decide +kernel) (by decide +kernel)
set_option maxRecDepth 20000 in
theorem inX7 : ∀ w ∈ u_ws RX7 TX7 3, w ∈ tg := tg_r (u_ws RX7 TX7 3) [120, 122, 124] (by decide +kernel) (by decide +kernel)
set_option maxRecDepth 20000 in
theorem inX8 : ∀ w ∈ u_ws RX8 TX8 9, w ∈ tg := tg_r (u_ws RX8 TX8 9) [235, 237, 239, 241, 243, 245, 247, 249, 251] (by decide +kernel) (by decide +kernel)
set_option maxRecDepth 20000 in
theorem inX9 : ∀ w ∈ u_ws RX9 TX9 3, w ∈ tg := tg_r (u_ws RX9 TX9 3) [39, 41, 43] (by decide +kernel) (by decide +kernel)
set_option maxRecDepth 20000 in
theorem inX10 : ∀ w ∈ u_ws RX10 TX10 7, w ∈ tg := tg_r (u_ws RX10 TX10 7) [323, 325, 327, 329, 331, 333, 335] (by decide +kernel) (by decide +kernel)
set_option maxRecDepth 20000 in
theorem inX11 : ∀ w ∈ u_ws RX11 TX11 15, w ∈ tg := tg_r (u_ws RX11 TX11 15) [353, 355, 357, 359, 361, 363, 365, 367, 369, 371, 373, 375, 377, 379, 381] (by decide +kernel) (by decide +kernel)
set_option maxRecDepth 20000 in
theorem inX12 : ∀ w ∈ u_ws RX12 TX12 40, w ∈ tg := tg_r (u_ws RX12 TX12 40) [1438, 1440, 1442, 1444, 1446, 1448, 1450, 1452, 1454, 1456, 1458, 1460, 1462, 1464, 1466, 1468, 1470, 1472, 1474, 1476, 1478, 1480, 1482, 1484, 1486, 1488, 1490, 1492, 1494, 1496, 1498, 1500, 1502, 1504, 1506, 1508, 1510, 1512, 1514, 1516] (by decide +kernel) (by decide +kernel)
