-- ===== PART A: goes FIRST, ahead of the names: the tables' words, and 'selects' of the private methods out of them =====
/-- a private method of a class that the tables say can be made, by its rows of tables_1 -/
def lw_okq (q : MethodName × Nat) : Prop := (q.1.cls ≠ "java/lang/invoke/MethodHandle" ∧ q.1.cls ≠ "java/lang/invoke/VarHandle") ∧ Cond.instantiable q.1.cls q.2 ∈ tables_1 ∧ Cond.privateMethod q.1 ∈ tables_1 ∧ Cond.instanceMethod q.1 ∈ tables_1
theorem lw_p0 : lw_okq (⟨"TallShips", "showOfBerths", "()I"⟩, 7) := ⟨⟨by decide +kernel, by decide +kernel⟩, List.mem_of_getElem? (i := 14) (by decide +kernel), List.mem_of_getElem? (i := 213) (by decide +kernel), List.mem_of_getElem? (i := 214) (by decide +kernel)⟩
theorem lw_p1 : lw_okq (⟨"TallShips", "showAt", "(II)I"⟩, 7) := ⟨⟨by decide +kernel, by decide +kernel⟩, List.mem_of_getElem? (i := 14) (by decide +kernel), List.mem_of_getElem? (i := 217) (by decide +kernel), List.mem_of_getElem? (i := 218) (by decide +kernel)⟩
theorem lw_p2 : lw_okq (⟨"TallShips", "firstWayIn", "(IIZ)I"⟩, 7) := ⟨⟨by decide +kernel, by decide +kernel⟩, List.mem_of_getElem? (i := 14) (by decide +kernel), List.mem_of_getElem? (i := 243) (by decide +kernel), List.mem_of_getElem? (i := 244) (by decide +kernel)⟩
theorem lw_p3 : lw_okq (⟨"TallShips", "hasWayIn", "(IIZ)Z"⟩, 7) := ⟨⟨by decide +kernel, by decide +kernel⟩, List.mem_of_getElem? (i := 14) (by decide +kernel), List.mem_of_getElem? (i := 247) (by decide +kernel), List.mem_of_getElem? (i := 248) (by decide +kernel)⟩
theorem lw_p4 : lw_okq (⟨"TallShips", "canCross", "(II)Z"⟩, 7) := ⟨⟨by decide +kernel, by decide +kernel⟩, List.mem_of_getElem? (i := 14) (by decide +kernel), List.mem_of_getElem? (i := 255) (by decide +kernel), List.mem_of_getElem? (i := 256) (by decide +kernel)⟩
theorem lw_p5 : lw_okq (⟨"TallShips", "clearsBridge", "(II)Z"⟩, 7) := ⟨⟨by decide +kernel, by decide +kernel⟩, List.mem_of_getElem? (i := 14) (by decide +kernel), List.mem_of_getElem? (i := 259) (by decide +kernel), List.mem_of_getElem? (i := 260) (by decide +kernel)⟩
theorem lw_p6 : lw_okq (⟨"TallShips", "hindrance", "(II)I"⟩, 7) := ⟨⟨by decide +kernel, by decide +kernel⟩, List.mem_of_getElem? (i := 14) (by decide +kernel), List.mem_of_getElem? (i := 267) (by decide +kernel), List.mem_of_getElem? (i := 268) (by decide +kernel)⟩
theorem lw_p7 : lw_okq (⟨"TallShips", "isAfloat", "(II)Z"⟩, 7) := ⟨⟨by decide +kernel, by decide +kernel⟩, List.mem_of_getElem? (i := 14) (by decide +kernel), List.mem_of_getElem? (i := 271) (by decide +kernel), List.mem_of_getElem? (i := 272) (by decide +kernel)⟩
theorem lw_p8 : lw_okq (⟨"TallShips", "firstMisplaced", "()I"⟩, 7) := ⟨⟨by decide +kernel, by decide +kernel⟩, List.mem_of_getElem? (i := 14) (by decide +kernel), List.mem_of_getElem? (i := 283) (by decide +kernel), List.mem_of_getElem? (i := 284) (by decide +kernel)⟩
theorem lw_p9 : lw_okq (⟨"TallShips", "firstFouling", "()I"⟩, 7) := ⟨⟨by decide +kernel, by decide +kernel⟩, List.mem_of_getElem? (i := 14) (by decide +kernel), List.mem_of_getElem? (i := 287) (by decide +kernel), List.mem_of_getElem? (i := 288) (by decide +kernel)⟩
theorem lw_p10 : lw_okq (⟨"TallShips", "firstTooShort", "()I"⟩, 7) := ⟨⟨by decide +kernel, by decide +kernel⟩, List.mem_of_getElem? (i := 14) (by decide +kernel), List.mem_of_getElem? (i := 295) (by decide +kernel), List.mem_of_getElem? (i := 296) (by decide +kernel)⟩
theorem lw_p11 : lw_okq (⟨"TallShips", "roomLeft", "(I)I"⟩, 7) := ⟨⟨by decide +kernel, by decide +kernel⟩, List.mem_of_getElem? (i := 14) (by decide +kernel), List.mem_of_getElem? (i := 299) (by decide +kernel), List.mem_of_getElem? (i := 300) (by decide +kernel)⟩
theorem lw_p12 : lw_okq (⟨"TallShips", "leastBerths", "(Z)J"⟩, 7) := ⟨⟨by decide +kernel, by decide +kernel⟩, List.mem_of_getElem? (i := 14) (by decide +kernel), List.mem_of_getElem? (i := 307) (by decide +kernel), List.mem_of_getElem? (i := 308) (by decide +kernel)⟩
theorem lw_p13 : lw_okq (⟨"TallShips", "startIdle", "(Z)V"⟩, 7) := ⟨⟨by decide +kernel, by decide +kernel⟩, List.mem_of_getElem? (i := 14) (by decide +kernel), List.mem_of_getElem? (i := 311) (by decide +kernel), List.mem_of_getElem? (i := 312) (by decide +kernel)⟩
theorem lw_p14 : lw_okq (⟨"TallShips", "berthCost", "(IIZ)J"⟩, 7) := ⟨⟨by decide +kernel, by decide +kernel⟩, List.mem_of_getElem? (i := 14) (by decide +kernel), List.mem_of_getElem? (i := 315) (by decide +kernel), List.mem_of_getElem? (i := 316) (by decide +kernel)⟩
theorem lw_p15 : lw_okq (⟨"TallShips", "measureSpans", "()V"⟩, 7) := ⟨⟨by decide +kernel, by decide +kernel⟩, List.mem_of_getElem? (i := 14) (by decide +kernel), List.mem_of_getElem? (i := 323) (by decide +kernel), List.mem_of_getElem? (i := 324) (by decide +kernel)⟩
def lw_privs_1 : List (MethodName × Nat) := [(⟨"TallShips", "showOfBerths", "()I"⟩, 7), (⟨"TallShips", "showAt", "(II)I"⟩, 7), (⟨"TallShips", "firstWayIn", "(IIZ)I"⟩, 7), (⟨"TallShips", "hasWayIn", "(IIZ)Z"⟩, 7), (⟨"TallShips", "canCross", "(II)Z"⟩, 7), (⟨"TallShips", "clearsBridge", "(II)Z"⟩, 7), (⟨"TallShips", "hindrance", "(II)I"⟩, 7), (⟨"TallShips", "isAfloat", "(II)Z"⟩, 7), (⟨"TallShips", "firstMisplaced", "()I"⟩, 7), (⟨"TallShips", "firstFouling", "()I"⟩, 7), (⟨"TallShips", "firstTooShort", "()I"⟩, 7), (⟨"TallShips", "roomLeft", "(I)I"⟩, 7), (⟨"TallShips", "leastBerths", "(Z)J"⟩, 7), (⟨"TallShips", "startIdle", "(Z)V"⟩, 7), (⟨"TallShips", "berthCost", "(IIZ)J"⟩, 7), (⟨"TallShips", "measureSpans", "()V"⟩, 7)]
theorem lw_r1 : ∀ q ∈ lw_privs_1, lw_okq q := List.forall_mem_cons.mpr ⟨lw_p0, List.forall_mem_cons.mpr ⟨lw_p1, List.forall_mem_cons.mpr ⟨lw_p2, List.forall_mem_cons.mpr ⟨lw_p3, List.forall_mem_cons.mpr ⟨lw_p4, List.forall_mem_cons.mpr ⟨lw_p5, List.forall_mem_cons.mpr ⟨lw_p6, List.forall_mem_cons.mpr ⟨lw_p7, List.forall_mem_cons.mpr ⟨lw_p8, List.forall_mem_cons.mpr ⟨lw_p9, List.forall_mem_cons.mpr ⟨lw_p10, List.forall_mem_cons.mpr ⟨lw_p11, List.forall_mem_cons.mpr ⟨lw_p12, List.forall_mem_cons.mpr ⟨lw_p13, List.forall_mem_cons.mpr ⟨lw_p14, List.forall_mem_cons.mpr ⟨lw_p15, fun _ h => absurd h List.not_mem_nil⟩⟩⟩⟩⟩⟩⟩⟩⟩⟩⟩⟩⟩⟩⟩⟩
theorem lw_p16 : lw_okq (⟨"TallShips", "weighSets", "(IZ)V"⟩, 7) := ⟨⟨by decide +kernel, by decide +kernel⟩, List.mem_of_getElem? (i := 14) (by decide +kernel), List.mem_of_getElem? (i := 327) (by decide +kernel), List.mem_of_getElem? (i := 328) (by decide +kernel)⟩
theorem lw_p17 : lw_okq (⟨"TallShips", "offerQuay", "()V"⟩, 7) := ⟨⟨by decide +kernel, by decide +kernel⟩, List.mem_of_getElem? (i := 14) (by decide +kernel), List.mem_of_getElem? (i := 332) (by decide +kernel), List.mem_of_getElem? (i := 333) (by decide +kernel)⟩
theorem lw_p18 : lw_okq (⟨"TallShips", "berthAll", "(J)I"⟩, 7) := ⟨⟨by decide +kernel, by decide +kernel⟩, List.mem_of_getElem? (i := 14) (by decide +kernel), List.mem_of_getElem? (i := 343) (by decide +kernel), List.mem_of_getElem? (i := 344) (by decide +kernel)⟩
theorem lw_p19 : lw_okq (⟨"TallShips", "leastPlan", "(I)J"⟩, 7) := ⟨⟨by decide +kernel, by decide +kernel⟩, List.mem_of_getElem? (i := 14) (by decide +kernel), List.mem_of_getElem? (i := 362) (by decide +kernel), List.mem_of_getElem? (i := 363) (by decide +kernel)⟩
theorem lw_p20 : lw_okq (⟨"TallShips", "readyAt", "(II)I"⟩, 7) := ⟨⟨by decide +kernel, by decide +kernel⟩, List.mem_of_getElem? (i := 14) (by decide +kernel), List.mem_of_getElem? (i := 370) (by decide +kernel), List.mem_of_getElem? (i := 371) (by decide +kernel)⟩
theorem lw_p21 : lw_okq (⟨"TallShips", "canComeIn", "(II)Z"⟩, 7) := ⟨⟨by decide +kernel, by decide +kernel⟩, List.mem_of_getElem? (i := 14) (by decide +kernel), List.mem_of_getElem? (i := 374) (by decide +kernel), List.mem_of_getElem? (i := 375) (by decide +kernel)⟩
theorem lw_p22 : lw_okq (⟨"TallShips", "offerHour", "(III)V"⟩, 7) := ⟨⟨by decide +kernel, by decide +kernel⟩, List.mem_of_getElem? (i := 14) (by decide +kernel), List.mem_of_getElem? (i := 378) (by decide +kernel), List.mem_of_getElem? (i := 379) (by decide +kernel)⟩
theorem lw_p23 : lw_okq (⟨"TallShips", "hourCost", "(II)J"⟩, 7) := ⟨⟨by decide +kernel, by decide +kernel⟩, List.mem_of_getElem? (i := 14) (by decide +kernel), List.mem_of_getElem? (i := 382) (by decide +kernel), List.mem_of_getElem? (i := 383) (by decide +kernel)⟩
theorem lw_p24 : lw_okq (⟨"TallShips", "keepPlan", "(IJ)V"⟩, 7) := ⟨⟨by decide +kernel, by decide +kernel⟩, List.mem_of_getElem? (i := 14) (by decide +kernel), List.mem_of_getElem? (i := 386) (by decide +kernel), List.mem_of_getElem? (i := 387) (by decide +kernel)⟩
theorem lw_p25 : lw_okq (⟨"TallShips", "isSteep", "(II)Z"⟩, 7) := ⟨⟨by decide +kernel, by decide +kernel⟩, List.mem_of_getElem? (i := 14) (by decide +kernel), List.mem_of_getElem? (i := 413) (by decide +kernel), List.mem_of_getElem? (i := 414) (by decide +kernel)⟩
theorem lw_p26 : lw_okq (⟨"java/lang/Throwable", "fillInStackTrace", "(I)Ljava/lang/Throwable;"⟩, 6) := ⟨⟨by decide +kernel, by decide +kernel⟩, List.mem_of_getElem? (i := 464) (by decide +kernel), List.mem_of_getElem? (i := 462) (by decide +kernel), List.mem_of_getElem? (i := 463) (by decide +kernel)⟩
theorem lw_p27 : lw_okq (⟨"TallShipsModel", "isShip", "(I)Z"⟩, 16) := ⟨⟨by decide +kernel, by decide +kernel⟩, List.mem_of_getElem? (i := 494) (by decide +kernel), List.mem_of_getElem? (i := 586) (by decide +kernel), List.mem_of_getElem? (i := 587) (by decide +kernel)⟩
theorem lw_p28 : lw_okq (⟨"TallShipsModel", "firstFor", "(IIZ)I"⟩, 16) := ⟨⟨by decide +kernel, by decide +kernel⟩, List.mem_of_getElem? (i := 494) (by decide +kernel), List.mem_of_getElem? (i := 598) (by decide +kernel), List.mem_of_getElem? (i := 599) (by decide +kernel)⟩
theorem lw_p29 : lw_okq (⟨"TallShipsModel", "comes", "(IIZ)Z"⟩, 16) := ⟨⟨by decide +kernel, by decide +kernel⟩, List.mem_of_getElem? (i := 494) (by decide +kernel), List.mem_of_getElem? (i := 602) (by decide +kernel), List.mem_of_getElem? (i := 603) (by decide +kernel)⟩
theorem lw_p30 : lw_okq (⟨"TallShipsModel", "level", "(I)I"⟩, 16) := ⟨⟨by decide +kernel, by decide +kernel⟩, List.mem_of_getElem? (i := 494) (by decide +kernel), List.mem_of_getElem? (i := 606) (by decide +kernel), List.mem_of_getElem? (i := 607) (by decide +kernel)⟩
theorem lw_p31 : lw_okq (⟨"TallShipsModel", "isQuay", "(I)Z"⟩, 16) := ⟨⟨by decide +kernel, by decide +kernel⟩, List.mem_of_getElem? (i := 494) (by decide +kernel), List.mem_of_getElem? (i := 614) (by decide +kernel), List.mem_of_getElem? (i := 615) (by decide +kernel)⟩
def lw_privs_2 : List (MethodName × Nat) := [(⟨"TallShips", "weighSets", "(IZ)V"⟩, 7), (⟨"TallShips", "offerQuay", "()V"⟩, 7), (⟨"TallShips", "berthAll", "(J)I"⟩, 7), (⟨"TallShips", "leastPlan", "(I)J"⟩, 7), (⟨"TallShips", "readyAt", "(II)I"⟩, 7), (⟨"TallShips", "canComeIn", "(II)Z"⟩, 7), (⟨"TallShips", "offerHour", "(III)V"⟩, 7), (⟨"TallShips", "hourCost", "(II)J"⟩, 7), (⟨"TallShips", "keepPlan", "(IJ)V"⟩, 7), (⟨"TallShips", "isSteep", "(II)Z"⟩, 7), (⟨"java/lang/Throwable", "fillInStackTrace", "(I)Ljava/lang/Throwable;"⟩, 6), (⟨"TallShipsModel", "isShip", "(I)Z"⟩, 16), (⟨"TallShipsModel", "firstFor", "(IIZ)I"⟩, 16), (⟨"TallShipsModel", "comes", "(IIZ)Z"⟩, 16), (⟨"TallShipsModel", "level", "(I)I"⟩, 16), (⟨"TallShipsModel", "isQuay", "(I)Z"⟩, 16)]
theorem lw_r2 : ∀ q ∈ lw_privs_2, lw_okq q := List.forall_mem_cons.mpr ⟨lw_p16, List.forall_mem_cons.mpr ⟨lw_p17, List.forall_mem_cons.mpr ⟨lw_p18, List.forall_mem_cons.mpr ⟨lw_p19, List.forall_mem_cons.mpr ⟨lw_p20, List.forall_mem_cons.mpr ⟨lw_p21, List.forall_mem_cons.mpr ⟨lw_p22, List.forall_mem_cons.mpr ⟨lw_p23, List.forall_mem_cons.mpr ⟨lw_p24, List.forall_mem_cons.mpr ⟨lw_p25, List.forall_mem_cons.mpr ⟨lw_p26, List.forall_mem_cons.mpr ⟨lw_p27, List.forall_mem_cons.mpr ⟨lw_p28, List.forall_mem_cons.mpr ⟨lw_p29, List.forall_mem_cons.mpr ⟨lw_p30, List.forall_mem_cons.mpr ⟨lw_p31, fun _ h => absurd h List.not_mem_nil⟩⟩⟩⟩⟩⟩⟩⟩⟩⟩⟩⟩⟩⟩⟩⟩
theorem lw_p32 : lw_okq (⟨"TallShipsModel", "whyNot", "(II)I"⟩, 16) := ⟨⟨by decide +kernel, by decide +kernel⟩, List.mem_of_getElem? (i := 494) (by decide +kernel), List.mem_of_getElem? (i := 618) (by decide +kernel), List.mem_of_getElem? (i := 619) (by decide +kernel)⟩
theorem lw_p33 : lw_okq (⟨"TallShipsModel", "least", "()I"⟩, 16) := ⟨⟨by decide +kernel, by decide +kernel⟩, List.mem_of_getElem? (i := 494) (by decide +kernel), List.mem_of_getElem? (i := 622) (by decide +kernel), List.mem_of_getElem? (i := 623) (by decide +kernel)⟩
theorem lw_p34 : lw_okq (⟨"TallShipsModel", "isAbove", "(I)Z"⟩, 16) := ⟨⟨by decide +kernel, by decide +kernel⟩, List.mem_of_getElem? (i := 494) (by decide +kernel), List.mem_of_getElem? (i := 626) (by decide +kernel), List.mem_of_getElem? (i := 627) (by decide +kernel)⟩
theorem lw_p35 : lw_okq (⟨"TallShipsModel", "berthed", "([I)I"⟩, 16) := ⟨⟨by decide +kernel, by decide +kernel⟩, List.mem_of_getElem? (i := 494) (by decide +kernel), List.mem_of_getElem? (i := 634) (by decide +kernel), List.mem_of_getElem? (i := 635) (by decide +kernel)⟩
theorem lw_p36 : lw_okq (⟨"TallShipsModel", "greatest", "()I"⟩, 16) := ⟨⟨by decide +kernel, by decide +kernel⟩, List.mem_of_getElem? (i := 494) (by decide +kernel), List.mem_of_getElem? (i := 641) (by decide +kernel), List.mem_of_getElem? (i := 642) (by decide +kernel)⟩
theorem lw_p37 : lw_okq (⟨"TallShipsModel", "why", "([I)I"⟩, 16) := ⟨⟨by decide +kernel, by decide +kernel⟩, List.mem_of_getElem? (i := 494) (by decide +kernel), List.mem_of_getElem? (i := 657) (by decide +kernel), List.mem_of_getElem? (i := 658) (by decide +kernel)⟩
theorem lw_p38 : lw_okq (⟨"TallShipsModel", "room", "([II)I"⟩, 16) := ⟨⟨by decide +kernel, by decide +kernel⟩, List.mem_of_getElem? (i := 494) (by decide +kernel), List.mem_of_getElem? (i := 661) (by decide +kernel), List.mem_of_getElem? (i := 662) (by decide +kernel)⟩
theorem lw_p39 : lw_okq (⟨"TallShipsModel", "search", "(Z)V"⟩, 16) := ⟨⟨by decide +kernel, by decide +kernel⟩, List.mem_of_getElem? (i := 494) (by decide +kernel), List.mem_of_getElem? (i := 673) (by decide +kernel), List.mem_of_getElem? (i := 674) (by decide +kernel)⟩
theorem lw_p40 : lw_okq (⟨"TallShipsModel", "isGood", "()Z"⟩, 16) := ⟨⟨by decide +kernel, by decide +kernel⟩, List.mem_of_getElem? (i := 494) (by decide +kernel), List.mem_of_getElem? (i := 677) (by decide +kernel), List.mem_of_getElem? (i := 678) (by decide +kernel)⟩
theorem lw_p41 : lw_okq (⟨"TallShipsModel", "moved", "([I)I"⟩, 16) := ⟨⟨by decide +kernel, by decide +kernel⟩, List.mem_of_getElem? (i := 494) (by decide +kernel), List.mem_of_getElem? (i := 681) (by decide +kernel), List.mem_of_getElem? (i := 682) (by decide +kernel)⟩
theorem lw_p42 : lw_okq (⟨"TallShipsModel", "sumOf", "()I"⟩, 16) := ⟨⟨by decide +kernel, by decide +kernel⟩, List.mem_of_getElem? (i := 494) (by decide +kernel), List.mem_of_getElem? (i := 693) (by decide +kernel), List.mem_of_getElem? (i := 694) (by decide +kernel)⟩
theorem lw_p43 : lw_okq (⟨"TallShipsModel", "mayCome", "(II)Z"⟩, 16) := ⟨⟨by decide +kernel, by decide +kernel⟩, List.mem_of_getElem? (i := 494) (by decide +kernel), List.mem_of_getElem? (i := 698) (by decide +kernel), List.mem_of_getElem? (i := 699) (by decide +kernel)⟩
theorem lw_p44 : lw_okq (⟨"TallShipsModel", "paradeAt", "(I)I"⟩, 16) := ⟨⟨by decide +kernel, by decide +kernel⟩, List.mem_of_getElem? (i := 494) (by decide +kernel), List.mem_of_getElem? (i := 710) (by decide +kernel), List.mem_of_getElem? (i := 711) (by decide +kernel)⟩
theorem lw_p45 : lw_okq (⟨"TallShipsModel", "isAhead", "(II)Z"⟩, 16) := ⟨⟨by decide +kernel, by decide +kernel⟩, List.mem_of_getElem? (i := 494) (by decide +kernel), List.mem_of_getElem? (i := 714) (by decide +kernel), List.mem_of_getElem? (i := 715) (by decide +kernel)⟩
def lw_privs_3 : List (MethodName × Nat) := [(⟨"TallShipsModel", "whyNot", "(II)I"⟩, 16), (⟨"TallShipsModel", "least", "()I"⟩, 16), (⟨"TallShipsModel", "isAbove", "(I)Z"⟩, 16), (⟨"TallShipsModel", "berthed", "([I)I"⟩, 16), (⟨"TallShipsModel", "greatest", "()I"⟩, 16), (⟨"TallShipsModel", "why", "([I)I"⟩, 16), (⟨"TallShipsModel", "room", "([II)I"⟩, 16), (⟨"TallShipsModel", "search", "(Z)V"⟩, 16), (⟨"TallShipsModel", "isGood", "()Z"⟩, 16), (⟨"TallShipsModel", "moved", "([I)I"⟩, 16), (⟨"TallShipsModel", "sumOf", "()I"⟩, 16), (⟨"TallShipsModel", "mayCome", "(II)Z"⟩, 16), (⟨"TallShipsModel", "paradeAt", "(I)I"⟩, 16), (⟨"TallShipsModel", "isAhead", "(II)Z"⟩, 16)]
theorem lw_r3 : ∀ q ∈ lw_privs_3, lw_okq q := List.forall_mem_cons.mpr ⟨lw_p32, List.forall_mem_cons.mpr ⟨lw_p33, List.forall_mem_cons.mpr ⟨lw_p34, List.forall_mem_cons.mpr ⟨lw_p35, List.forall_mem_cons.mpr ⟨lw_p36, List.forall_mem_cons.mpr ⟨lw_p37, List.forall_mem_cons.mpr ⟨lw_p38, List.forall_mem_cons.mpr ⟨lw_p39, List.forall_mem_cons.mpr ⟨lw_p40, List.forall_mem_cons.mpr ⟨lw_p41, List.forall_mem_cons.mpr ⟨lw_p42, List.forall_mem_cons.mpr ⟨lw_p43, List.forall_mem_cons.mpr ⟨lw_p44, List.forall_mem_cons.mpr ⟨lw_p45, fun _ h => absurd h List.not_mem_nil⟩⟩⟩⟩⟩⟩⟩⟩⟩⟩⟩⟩⟩⟩
def lw_privs : List (MethodName × Nat) := lw_privs_1 ++ (lw_privs_2 ++ (lw_privs_3))
def lw_tbl : List Cond := k2_sels lw_privs ++ tables_1
theorem lw_privs_ok : ∀ q ∈ lw_privs, lw_okq q := by
  show ∀ q ∈ lw_privs_1 ++ (lw_privs_2 ++ (lw_privs_3)), lw_okq q
  exact List.forall_mem_append.mpr ⟨lw_r1, List.forall_mem_append.mpr ⟨lw_r2, lw_r3⟩⟩
-- ===== end of PART A; then your names; then what follows =====
def RX0 : String := "TallShips$Fleet"
def TX0 : u_T := fun k => match k with
  | 0 => ("TallShips$Fleet", "size", "I", false)
  | 1 => ("TallShips$Fleet", "length", "[I", true)
  | 2 => ("TallShips$Fleet", "draught", "[I", true)
  | 3 => ("TallShips$Fleet", "height", "[I", true)
  | 4 => ("TallShips$Fleet", "fame", "[I", true)
  | 5 => ("TallShips$Fleet", "needs", "[I", true)
  | 6 => ("TallShips$Fleet", "arrival", "[I", true)
  | 7 => ("TallShips$Fleet", "stop", "[I", true)
  | 8 => ("TallShips$Fleet", "fouls", "[I", true)
  | 9 => ("TallShips$Fleet", "berth", "[I", true)
  | _ => ("TallShips$Fleet", "hourIn", "[I", true)
def tyX0 : Nat → FieldType := fun k => match k with
  | 0 => .int
  | 1 => .array .int
  | 2 => .array .int
  | 3 => .array .int
  | 4 => .array .int
  | 5 => .array .int
  | 6 => .array .int
  | 7 => .array .int
  | 8 => .array .int
  | 9 => .array .int
  | _ => .array .int
abbrev wsX00 : List Cond := u_ws RX0 TX0 11
theorem nmX0 : ∀ a, a < 11 → ∀ b, b < 11 → a ≠ b → (TX0 a).2.1 ≠ (TX0 b).2.1 := by decide +kernel
theorem tyX0_ok : ∀ k, k < 11 → parseFieldDescriptor (TX0 k).2.2.1 = some (tyX0 k) := by decide +kernel
abbrev cX0_init : ByteArray := prog_2_method_1_code
def yX0_init : MethodName := ⟨RX0, "<init>", "()V"⟩
abbrev cX0_has : ByteArray := prog_2_method_2_code
def yX0_has : MethodName := ⟨RX0, "has", "(I)Z"⟩
abbrev cX0_all : ByteArray := prog_2_method_3_code
def yX0_all : MethodName := ⟨RX0, "all", "()I"⟩
abbrev cX0_isBerthed : ByteArray := prog_2_method_4_code
def yX0_isBerthed : MethodName := ⟨RX0, "isBerthed", "(I)Z"⟩
abbrev cX0_berthed : ByteArray := prog_2_method_5_code
def yX0_berthed : MethodName := ⟨RX0, "berthed", "()I"⟩
abbrev cX0_berthedAt : ByteArray := prog_2_method_6_code
def yX0_berthedAt : MethodName := ⟨RX0, "berthedAt", "(I)I"⟩
abbrev cX0_aheadOf : ByteArray := prog_2_method_7_code
def yX0_aheadOf : MethodName := ⟨RX0, "aheadOf", "(I)I"⟩
def RX1 : String := "TallShips$Quays"
def TX1 : u_T := fun k => match k with
  | 0 => ("TallShips$Quays", "size", "I", false)
  | 1 => ("TallShips$Quays", "length", "[I", true)
  | 2 => ("TallShips$Quays", "depth", "[I", true)
  | 3 => ("TallShips$Quays", "above", "[Z", true)
  | 4 => ("TallShips$Quays", "crowd", "[I", true)
  | _ => ("TallShips$Quays", "deck", "[I", true)
def tyX1 : Nat → FieldType := fun k => match k with
  | 0 => .int
  | 1 => .array .int
  | 2 => .array .int
  | 3 => .array .boolean
  | 4 => .array .int
  | _ => .array .int
abbrev wsX10 : List Cond := u_ws RX1 TX1 6
theorem nmX1 : ∀ a, a < 6 → ∀ b, b < 6 → a ≠ b → (TX1 a).2.1 ≠ (TX1 b).2.1 := by decide +kernel
theorem tyX1_ok : ∀ k, k < 6 → parseFieldDescriptor (TX1 k).2.2.1 = some (tyX1 k) := by decide +kernel
abbrev cX1_init : ByteArray := prog_3_method_1_code
def yX1_init : MethodName := ⟨RX1, "<init>", "()V"⟩
abbrev cX1_has : ByteArray := prog_3_method_2_code
def yX1_has : MethodName := ⟨RX1, "has", "(I)Z"⟩
def RX2 : String := "TallShips$River"
def TX2 : u_T := fun k => match k with
  | 0 => ("TallShips$River", "levels", "[I", true)
  | 1 => ("TallShips$River", "tugsAt", "[I", true)
  | _ => ("TallShips$River", "settings", "[I", true)
def tyX2 : Nat → FieldType := fun k => match k with
  | 0 => .array .int
  | 1 => .array .int
  | _ => .array .int
abbrev wsX20 : List Cond := u_ws RX2 TX2 3
theorem nmX2 : ∀ a, a < 3 → ∀ b, b < 3 → a ≠ b → (TX2 a).2.1 ≠ (TX2 b).2.1 := by decide +kernel
theorem tyX2_ok : ∀ k, k < 3 → parseFieldDescriptor (TX2 k).2.2.1 = some (tyX2 k) := by decide +kernel
abbrev cX2_init : ByteArray := prog_4_method_1_code
def yX2_init : MethodName := ⟨RX2, "<init>", "()V"⟩
abbrev cX2_levelAt : ByteArray := prog_4_method_2_code
def yX2_levelAt : MethodName := ⟨RX2, "levelAt", "(I)I"⟩
abbrev cX2_leastLevel : ByteArray := prog_4_method_3_code
def yX2_leastLevel : MethodName := ⟨RX2, "leastLevel", "()I"⟩
abbrev cX2_greatestLevel : ByteArray := prog_4_method_4_code
def yX2_greatestLevel : MethodName := ⟨RX2, "greatestLevel", "()I"⟩
def RX3 : String := "TallShips"
def TX3 : u_T := fun k => match k with
  | 0 => ("TallShips", "river", "LTallShips$River;", true)
  | 1 => ("TallShips", "fleet", "LTallShips$Fleet;", true)
  | 2 => ("TallShips", "quays", "LTallShips$Quays;", true)
  | 3 => ("TallShips", "cheapest", "[J", true)
  | 4 => ("TallShips", "together", "[J", true)
  | 5 => ("TallShips", "span", "[I", true)
  | _ => ("TallShips", "chances", "[I", true)
def tyX3 : Nat → FieldType := fun k => match k with
  | 0 => .object "TallShips$River"
  | 1 => .object "TallShips$Fleet"
  | 2 => .object "TallShips$Quays"
  | 3 => .array .long
  | 4 => .array .long
  | 5 => .array .int
  | _ => .array .int
abbrev wsX30 : List Cond := u_ws RX3 TX3 7
theorem nmX3 : ∀ a, a < 7 → ∀ b, b < 7 → a ≠ b → (TX3 a).2.1 ≠ (TX3 b).2.1 := by decide +kernel
theorem tyX3_ok : ∀ k, k < 7 → parseFieldDescriptor (TX3 k).2.2.1 = some (tyX3 k) := by decide +kernel
abbrev cX3_init : ByteArray := prog_1_method_1_code
def yX3_init : MethodName := ⟨RX3, "<init>", "()V"⟩
abbrev cX3_tide : ByteArray := prog_1_method_2_code
def yX3_tide : MethodName := ⟨RX3, "tide", "(II)Z"⟩
abbrev cX3_set : ByteArray := prog_1_method_3_code
def yX3_set : MethodName := ⟨RX3, "set", "(II)I"⟩
abbrev cX3_tugs : ByteArray := prog_1_method_4_code
def yX3_tugs : MethodName := ⟨RX3, "tugs", "(III)Z"⟩
abbrev cX3_ship : ByteArray := prog_1_method_5_code
def yX3_ship : MethodName := ⟨RX3, "ship", "(IIIIIII)I"⟩
abbrev cX3_quay : ByteArray := prog_1_method_6_code
def yX3_quay : MethodName := ⟨RX3, "quay", "(IIZII)I"⟩
abbrev cX3_foul : ByteArray := prog_1_method_7_code
def yX3_foul : MethodName := ⟨RX3, "foul", "(IIZ)Z"⟩
abbrev cX3_arrives : ByteArray := prog_1_method_8_code
def yX3_arrives : MethodName := ⟨RX3, "arrives", "(II)I"⟩
abbrev cX3_count : ByteArray := prog_1_method_9_code
def yX3_count : MethodName := ⟨RX3, "count", "(I)I"⟩
abbrev cX3_first : ByteArray := prog_1_method_10_code
def yX3_first : MethodName := ⟨RX3, "first", "(III)I"⟩
abbrev cX3_may : ByteArray := prog_1_method_11_code
def yX3_may : MethodName := ⟨RX3, "may", "(II)I"⟩
abbrev cX3_put : ByteArray := prog_1_method_12_code
def yX3_put : MethodName := ⟨RX3, "put", "(II)Z"⟩
abbrev cX3_at : ByteArray := prog_1_method_13_code
def yX3_at : MethodName := ⟨RX3, "at", "(I)I"⟩
abbrev cX3_wrong : ByteArray := prog_1_method_14_code
def yX3_wrong : MethodName := ⟨RX3, "wrong", "()I"⟩
abbrev cX3_best : ByteArray := prog_1_method_15_code
def yX3_best : MethodName := ⟨RX3, "best", "()I"⟩
abbrev cX3_mend : ByteArray := prog_1_method_16_code
def yX3_mend : MethodName := ⟨RX3, "mend", "()I"⟩
abbrev cX3_left : ByteArray := prog_1_method_17_code
def yX3_left : MethodName := ⟨RX3, "left", "(I)I"⟩
abbrev cX3_plan : ByteArray := prog_1_method_18_code
def yX3_plan : MethodName := ⟨RX3, "plan", "()I"⟩
abbrev cX3_in : ByteArray := prog_1_method_19_code
def yX3_in : MethodName := ⟨RX3, "in", "(I)I"⟩
abbrev cX3_parade : ByteArray := prog_1_method_20_code
def yX3_parade : MethodName := ⟨RX3, "parade", "(I)I"⟩
abbrev cX3_minutes : ByteArray := prog_1_method_21_code
def yX3_minutes : MethodName := ⟨RX3, "minutes", "()I"⟩
abbrev cX3_open : ByteArray := prog_1_method_22_code
def yX3_open : MethodName := ⟨RX3, "open", "(III)I"⟩
abbrev cX3_within : ByteArray := prog_1_method_23_code
def yX3_within : MethodName := ⟨RX3, "within", "(III)Z"⟩
abbrev cX3_isHour : ByteArray := prog_1_method_24_code
def yX3_isHour : MethodName := ⟨RX3, "isHour", "(I)Z"⟩
abbrev cX3_areHours : ByteArray := prog_1_method_25_code
def yX3_areHours : MethodName := ⟨RX3, "areHours", "(II)Z"⟩
abbrev cX3_canCross : ByteArray := prog_1_method_26_code
def yX3_canCross : MethodName := ⟨RX3, "canCross", "(II)Z"⟩
abbrev cX3_clearsBridge : ByteArray := prog_1_method_27_code
def yX3_clearsBridge : MethodName := ⟨RX3, "clearsBridge", "(II)Z"⟩
abbrev cX3_hasWayIn : ByteArray := prog_1_method_28_code
def yX3_hasWayIn : MethodName := ⟨RX3, "hasWayIn", "(IIZ)Z"⟩
abbrev cX3_firstWayIn : ByteArray := prog_1_method_29_code
def yX3_firstWayIn : MethodName := ⟨RX3, "firstWayIn", "(IIZ)I"⟩
abbrev cX3_isAfloat : ByteArray := prog_1_method_30_code
def yX3_isAfloat : MethodName := ⟨RX3, "isAfloat", "(II)Z"⟩
abbrev cX3_hindrance : ByteArray := prog_1_method_31_code
def yX3_hindrance : MethodName := ⟨RX3, "hindrance", "(II)I"⟩
abbrev cX3_isSteep : ByteArray := prog_1_method_32_code
def yX3_isSteep : MethodName := ⟨RX3, "isSteep", "(II)Z"⟩
abbrev cX3_showOfBerths : ByteArray := prog_1_method_33_code
def yX3_showOfBerths : MethodName := ⟨RX3, "showOfBerths", "()I"⟩
abbrev cX3_showAt : ByteArray := prog_1_method_34_code
def yX3_showAt : MethodName := ⟨RX3, "showAt", "(II)I"⟩
abbrev cX3_firstMisplaced : ByteArray := prog_1_method_35_code
def yX3_firstMisplaced : MethodName := ⟨RX3, "firstMisplaced", "()I"⟩
abbrev cX3_firstFouling : ByteArray := prog_1_method_36_code
def yX3_firstFouling : MethodName := ⟨RX3, "firstFouling", "()I"⟩
abbrev cX3_firstTooShort : ByteArray := prog_1_method_37_code
def yX3_firstTooShort : MethodName := ⟨RX3, "firstTooShort", "()I"⟩
abbrev cX3_roomLeft : ByteArray := prog_1_method_38_code
def yX3_roomLeft : MethodName := ⟨RX3, "roomLeft", "(I)I"⟩
abbrev cX3_leastBerths : ByteArray := prog_1_method_39_code
def yX3_leastBerths : MethodName := ⟨RX3, "leastBerths", "(Z)J"⟩
abbrev cX3_startIdle : ByteArray := prog_1_method_40_code
def yX3_startIdle : MethodName := ⟨RX3, "startIdle", "(Z)V"⟩
abbrev cX3_measureSpans : ByteArray := prog_1_method_41_code
def yX3_measureSpans : MethodName := ⟨RX3, "measureSpans", "()V"⟩
abbrev cX3_weighSets : ByteArray := prog_1_method_42_code
def yX3_weighSets : MethodName := ⟨RX3, "weighSets", "(IZ)V"⟩
abbrev cX3_offerQuay : ByteArray := prog_1_method_43_code
def yX3_offerQuay : MethodName := ⟨RX3, "offerQuay", "()V"⟩
abbrev cX3_berthCost : ByteArray := prog_1_method_44_code
def yX3_berthCost : MethodName := ⟨RX3, "berthCost", "(IIZ)J"⟩
abbrev cX3_berthAll : ByteArray := prog_1_method_45_code
def yX3_berthAll : MethodName := ⟨RX3, "berthAll", "(J)I"⟩
abbrev cX3_lowShift : ByteArray := prog_1_method_46_code
def yX3_lowShift : MethodName := ⟨RX3, "lowShift", "(II)I"⟩
abbrev cX3_lowChoice : ByteArray := prog_1_method_47_code
def yX3_lowChoice : MethodName := ⟨RX3, "lowChoice", "(JII)I"⟩
abbrev cX3_leastPlan : ByteArray := prog_1_method_48_code
def yX3_leastPlan : MethodName := ⟨RX3, "leastPlan", "(I)J"⟩
abbrev cX3_readyAt : ByteArray := prog_1_method_49_code
def yX3_readyAt : MethodName := ⟨RX3, "readyAt", "(II)I"⟩
abbrev cX3_canComeIn : ByteArray := prog_1_method_50_code
def yX3_canComeIn : MethodName := ⟨RX3, "canComeIn", "(II)Z"⟩
abbrev cX3_offerHour : ByteArray := prog_1_method_51_code
def yX3_offerHour : MethodName := ⟨RX3, "offerHour", "(III)V"⟩
abbrev cX3_hourCost : ByteArray := prog_1_method_52_code
def yX3_hourCost : MethodName := ⟨RX3, "hourCost", "(II)J"⟩
abbrev cX3_keepPlan : ByteArray := prog_1_method_53_code
def yX3_keepPlan : MethodName := ⟨RX3, "keepPlan", "(IJ)V"⟩
def RX4 : String := "TallShipsModel"
def TX4 : u_T := fun k => match k with
  | 0 => ("TallShipsModel", "tide", "[I", true)
  | 1 => ("TallShipsModel", "bounds", "[I", true)
  | 2 => ("TallShipsModel", "tugs", "[I", true)
  | 3 => ("TallShipsModel", "ship", "[I", true)
  | 4 => ("TallShipsModel", "ships", "I", false)
  | 5 => ("TallShipsModel", "quay", "[I", true)
  | 6 => ("TallShipsModel", "quays", "I", false)
  | 7 => ("TallShipsModel", "fouls", "[Z", true)
  | 8 => ("TallShipsModel", "berth", "[I", true)
  | 9 => ("TallShipsModel", "kept", "[I", true)
  | 10 => ("TallShipsModel", "thrown", "I", false)
  | 11 => ("TallShipsModel", "row", "[I", true)
  | 12 => ("TallShipsModel", "best", "[I", true)
  | 13 => ("TallShipsModel", "canLie", "[Z", true)
  | 14 => ("TallShipsModel", "rest", "[I", true)
  | _ => ("TallShipsModel", "told", "[I", true)
def tyX4 : Nat → FieldType := fun k => match k with
  | 0 => .array .int
  | 1 => .array .int
  | 2 => .array .int
  | 3 => .array .int
  | 4 => .int
  | 5 => .array .int
  | 6 => .int
  | 7 => .array .boolean
  | 8 => .array .int
  | 9 => .array .int
  | 10 => .int
  | 11 => .array .int
  | 12 => .array .int
  | 13 => .array .boolean
  | 14 => .array .int
  | _ => .array .int
abbrev wsX40 : List Cond := u_ws RX4 TX4 16
theorem nmX4 : ∀ a, a < 16 → ∀ b, b < 16 → a ≠ b → (TX4 a).2.1 ≠ (TX4 b).2.1 := by decide +kernel
theorem tyX4_ok : ∀ k, k < 16 → parseFieldDescriptor (TX4 k).2.2.1 = some (tyX4 k) := by decide +kernel
abbrev cX4_init : ByteArray := prog_6_method_1_code
def yX4_init : MethodName := ⟨RX4, "<init>", "()V"⟩
abbrev cX4_thrown : ByteArray := prog_6_method_2_code
def yX4_thrown : MethodName := ⟨RX4, "thrown", "()I"⟩
abbrev cX4_in : ByteArray := prog_6_method_3_code
def yX4_in : MethodName := ⟨RX4, "in", "(III)Z"⟩
abbrev cX4_isShip : ByteArray := prog_6_method_4_code
def yX4_isShip : MethodName := ⟨RX4, "isShip", "(I)Z"⟩
abbrev cX4_isQuay : ByteArray := prog_6_method_5_code
def yX4_isQuay : MethodName := ⟨RX4, "isQuay", "(I)Z"⟩
abbrev cX4_isHour : ByteArray := prog_6_method_6_code
def yX4_isHour : MethodName := ⟨RX4, "isHour", "(I)Z"⟩
abbrev cX4_tide : ByteArray := prog_6_method_7_code
def yX4_tide : MethodName := ⟨RX4, "tide", "(II)Z"⟩
abbrev cX4_mostOf : ByteArray := prog_6_method_8_code
def yX4_mostOf : MethodName := ⟨RX4, "mostOf", "(I)I"⟩
abbrev cX4_set : ByteArray := prog_6_method_9_code
def yX4_set : MethodName := ⟨RX4, "set", "(II)I"⟩
abbrev cX4_tugs : ByteArray := prog_6_method_10_code
def yX4_tugs : MethodName := ⟨RX4, "tugs", "(III)Z"⟩
abbrev cX4_ship : ByteArray := prog_6_method_11_code
def yX4_ship : MethodName := ⟨RX4, "ship", "(IIIIIII)I"⟩
abbrev cX4_quay : ByteArray := prog_6_method_12_code
def yX4_quay : MethodName := ⟨RX4, "quay", "(IIZII)I"⟩
abbrev cX4_foul : ByteArray := prog_6_method_13_code
def yX4_foul : MethodName := ⟨RX4, "foul", "(IIZ)Z"⟩
abbrev cX4_arrives : ByteArray := prog_6_method_14_code
def yX4_arrives : MethodName := ⟨RX4, "arrives", "(II)I"⟩
abbrev cX4_least : ByteArray := prog_6_method_15_code
def yX4_least : MethodName := ⟨RX4, "least", "()I"⟩
abbrev cX4_greatest : ByteArray := prog_6_method_16_code
def yX4_greatest : MethodName := ⟨RX4, "greatest", "()I"⟩
abbrev cX4_level : ByteArray := prog_6_method_17_code
def yX4_level : MethodName := ⟨RX4, "level", "(I)I"⟩
abbrev cX4_comes : ByteArray := prog_6_method_18_code
def yX4_comes : MethodName := ⟨RX4, "comes", "(IIZ)Z"⟩
abbrev cX4_firstFor : ByteArray := prog_6_method_19_code
def yX4_firstFor : MethodName := ⟨RX4, "firstFor", "(IIZ)I"⟩
abbrev cX4_first : ByteArray := prog_6_method_20_code
def yX4_first : MethodName := ⟨RX4, "first", "(III)I"⟩
abbrev cX4_isAbove : ByteArray := prog_6_method_21_code
def yX4_isAbove : MethodName := ⟨RX4, "isAbove", "(I)Z"⟩
abbrev cX4_whyNot : ByteArray := prog_6_method_22_code
def yX4_whyNot : MethodName := ⟨RX4, "whyNot", "(II)I"⟩
abbrev cX4_may : ByteArray := prog_6_method_23_code
def yX4_may : MethodName := ⟨RX4, "may", "(II)I"⟩
abbrev cX4_show : ByteArray := prog_6_method_24_code
def yX4_show : MethodName := ⟨RX4, "show", "([I[I[II)I"⟩
abbrev cX4_berthed : ByteArray := prog_6_method_25_code
def yX4_berthed : MethodName := ⟨RX4, "berthed", "([I)I"⟩
abbrev cX4_count : ByteArray := prog_6_method_26_code
def yX4_count : MethodName := ⟨RX4, "count", "(I)I"⟩
abbrev cX4_put : ByteArray := prog_6_method_27_code
def yX4_put : MethodName := ⟨RX4, "put", "(II)Z"⟩
abbrev cX4_at : ByteArray := prog_6_method_28_code
def yX4_at : MethodName := ⟨RX4, "at", "(I)I"⟩
abbrev cX4_room : ByteArray := prog_6_method_29_code
def yX4_room : MethodName := ⟨RX4, "room", "([II)I"⟩
abbrev cX4_why : ByteArray := prog_6_method_30_code
def yX4_why : MethodName := ⟨RX4, "why", "([I)I"⟩
abbrev cX4_wrong : ByteArray := prog_6_method_31_code
def yX4_wrong : MethodName := ⟨RX4, "wrong", "()I"⟩
abbrev cX4_left : ByteArray := prog_6_method_32_code
def yX4_left : MethodName := ⟨RX4, "left", "(I)I"⟩
abbrev cX4_moved : ByteArray := prog_6_method_33_code
def yX4_moved : MethodName := ⟨RX4, "moved", "([I)I"⟩
abbrev cX4_isGood : ByteArray := prog_6_method_34_code
def yX4_isGood : MethodName := ⟨RX4, "isGood", "()Z"⟩
abbrev cX4_search : ByteArray := prog_6_method_35_code
def yX4_search : MethodName := ⟨RX4, "search", "(Z)V"⟩
abbrev cX4_best : ByteArray := prog_6_method_36_code
def yX4_best : MethodName := ⟨RX4, "best", "()I"⟩
abbrev cX4_mend : ByteArray := prog_6_method_37_code
def yX4_mend : MethodName := ⟨RX4, "mend", "()I"⟩
abbrev cX4_sumOf : ByteArray := prog_6_method_38_code
def yX4_sumOf : MethodName := ⟨RX4, "sumOf", "()I"⟩
abbrev cX4_mayCome : ByteArray := prog_6_method_39_code
def yX4_mayCome : MethodName := ⟨RX4, "mayCome", "(II)Z"⟩
abbrev cX4_plan : ByteArray := prog_6_method_40_code
def yX4_plan : MethodName := ⟨RX4, "plan", "()I"⟩
abbrev cX4_in_ : ByteArray := prog_6_method_41_code
def yX4_in_ : MethodName := ⟨RX4, "in", "(I)I"⟩
abbrev cX4_isAhead : ByteArray := prog_6_method_42_code
def yX4_isAhead : MethodName := ⟨RX4, "isAhead", "(II)Z"⟩
abbrev cX4_paradeAt : ByteArray := prog_6_method_43_code
def yX4_paradeAt : MethodName := ⟨RX4, "paradeAt", "(I)I"⟩
abbrev cX4_parade : ByteArray := prog_6_method_44_code
def yX4_parade : MethodName := ⟨RX4, "parade", "(I)I"⟩
abbrev cX4_minutes : ByteArray := prog_6_method_45_code
def yX4_minutes : MethodName := ⟨RX4, "minutes", "()I"⟩
abbrev cX4_open : ByteArray := prog_6_method_46_code
def yX4_open : MethodName := ⟨RX4, "open", "(III)I"⟩
def RJ6 : String := "java/lang/Integer"
def TJ6 : u_T := fun k => match k with
  | _ => ("", "", "", false)
def tyJ6 : Nat → FieldType := fun k => match k with
  | _ => .int
abbrev wsJ60 : List Cond := u_ws RJ6 TJ6 0
theorem nmJ6 : ∀ a, a < 0 → ∀ b, b < 0 → a ≠ b → (TJ6 a).2.1 ≠ (TJ6 b).2.1 := by decide +kernel
theorem tyJ6_ok : ∀ k, k < 0 → parseFieldDescriptor (TJ6 k).2.2.1 = some (tyJ6 k) := by decide +kernel
abbrev cJ6_bitCount_0f7a4 : ByteArray := prog_8_method_49_code
def yJ6_bitCount_0f7a4 : MethodName := ⟨RJ6, "bitCount", "(I)I"⟩
def RJ9 : String := "java/lang/Math"
def TJ9 : u_T := fun k => match k with
  | _ => ("", "", "", false)
def tyJ9 : Nat → FieldType := fun k => match k with
  | _ => .int
abbrev wsJ90 : List Cond := u_ws RJ9 TJ9 0
theorem nmJ9 : ∀ a, a < 0 → ∀ b, b < 0 → a ≠ b → (TJ9 a).2.1 ≠ (TJ9 b).2.1 := by decide +kernel
theorem tyJ9_ok : ∀ k, k < 0 → parseFieldDescriptor (TJ9 k).2.2.1 = some (tyJ9 k) := by decide +kernel
abbrev cJ9_abs_0f7a4 : ByteArray := prog_9_method_59_code
def yJ9_abs_0f7a4 : MethodName := ⟨RJ9, "abs", "(I)I"⟩
abbrev cJ9_max_7cf53 : ByteArray := prog_9_method_65_code
def yJ9_max_7cf53 : MethodName := ⟨RJ9, "max", "(II)I"⟩
abbrev cJ9_min_7cf53 : ByteArray := prog_9_method_69_code
def yJ9_min_7cf53 : MethodName := ⟨RJ9, "min", "(II)I"⟩
abbrev cJ9_min_f86c9 : ByteArray := prog_9_method_70_code
def yJ9_min_f86c9 : MethodName := ⟨RJ9, "min", "(JJ)J"⟩
def RJ0 : String := "java/lang/String"
def TJ0 : u_T := fun k => match k with
  | _ => ("", "", "", false)
def tyJ0 : Nat → FieldType := fun k => match k with
  | _ => .int
abbrev wsJ00 : List Cond := u_ws RJ0 TJ0 0
theorem nmJ0 : ∀ a, a < 0 → ∀ b, b < 0 → a ≠ b → (TJ0 a).2.1 ≠ (TJ0 b).2.1 := by decide +kernel
theorem tyJ0_ok : ∀ k, k < 0 → parseFieldDescriptor (TJ0 k).2.2.1 = some (tyJ0 k) := by decide +kernel
def RJ7 : String := "java/util/Arrays"
def TJ7 : u_T := fun k => match k with
  | _ => ("", "", "", false)
def tyJ7 : Nat → FieldType := fun k => match k with
  | _ => .int
abbrev wsJ70 : List Cond := u_ws RJ7 TJ7 0
theorem nmJ7 : ∀ a, a < 0 → ∀ b, b < 0 → a ≠ b → (TJ7 a).2.1 ≠ (TJ7 b).2.1 := by decide +kernel
theorem tyJ7_ok : ∀ k, k < 0 → parseFieldDescriptor (TJ7 k).2.2.1 = some (tyJ7 k) := by decide +kernel
abbrev cJ7_fill_d0a16 : ByteArray := prog_13_method_101_code
def yJ7_fill_d0a16 : MethodName := ⟨RJ7, "fill", "([JJ)V"⟩
abbrev cJ7_fill_53178 : ByteArray := prog_13_method_103_code
def yJ7_fill_53178 : MethodName := ⟨RJ7, "fill", "([II)V"⟩
def RL : String := "TallShipsLaw"
abbrev cL_at : ByteArray := method_3_code
def yL_at : MethodName := ⟨RL, "at", "(LTallShips;I[J)I"⟩
abbrev cL_law : ByteArray := code
def yL_law : MethodName := ⟨RL, "law", "([I)Z"⟩
abbrev vwCl : List vw_C := [(RX0, TX0, 11), (RX1, TX1, 6), (RX2, TX2, 3), (RX3, TX3, 7), (RX4, TX4, 16)]
/-- the words that a method may hand on to its callees -/
def Wu : List Cond := lw_tbl.filter goodWord
theorem wq {w : Cond} (i : Nat) (h : lw_tbl[i]? = some w) (hg : goodWord w = true) : w ∈ Wu := List.mem_filter.mpr ⟨List.mem_of_getElem? h, hg⟩
theorem wu_in (w : Cond) (h : w ∈ Wu) : w ∈ lw_tbl := (List.mem_filter.mp h).1
theorem wu_good (y : MethodName) (b : ByteArray) (n : Nat) (r : Option FieldType) (h : Cond.code y b n r ∈ Wu) : GoodIn Wu (Cond.code y b n r :: Wu) := by
  have key : ∀ w ∈ Wu, w ∈ Wu ∧ ((w.onTables && w.keeps) = true ∨ ∃ ty, w = .arrayClass ty) := fun w hw => ⟨hw, good_of_word (List.mem_filter.mp hw).2⟩
  intro w hw
  rcases List.mem_cons.mp hw with e | e
  · rw [e]; exact key _ h
  · exact key w e
