-- ===== PART A: goes FIRST, ahead of the names: the tables' words, and 'selects' of the private methods out of them =====
/-- a private method of a class that the tables say can be made, by its rows of tables_1 -/
def lw_okq (q : MethodName × Nat) : Prop := (q.1.cls ≠ "java/lang/invoke/MethodHandle" ∧ q.1.cls ≠ "java/lang/invoke/VarHandle") ∧ Cond.instantiable q.1.cls q.2 ∈ tables_1 ∧ Cond.privateMethod q.1 ∈ tables_1 ∧ Cond.instanceMethod q.1 ∈ tables_1
theorem lw_p0 : lw_okq (⟨"HallCarrier", "becomeHall", "()V"⟩, 10) := ⟨⟨by decide +kernel, by decide +kernel⟩, List.mem_of_getElem? (i := 12) (by decide +kernel), List.mem_of_getElem? (i := 179) (by decide +kernel), List.mem_of_getElem? (i := 180) (by decide +kernel)⟩
theorem lw_p1 : lw_okq (⟨"HallCarrier$Hall", "empty", "()V"⟩, 6) := ⟨⟨by decide +kernel, by decide +kernel⟩, List.mem_of_getElem? (i := 20) (by decide +kernel), List.mem_of_getElem? (i := 183) (by decide +kernel), List.mem_of_getElem? (i := 184) (by decide +kernel)⟩
theorem lw_p2 : lw_okq (⟨"HallCarrier$Hall", "put", "(III)V"⟩, 6) := ⟨⟨by decide +kernel, by decide +kernel⟩, List.mem_of_getElem? (i := 20) (by decide +kernel), List.mem_of_getElem? (i := 190) (by decide +kernel), List.mem_of_getElem? (i := 191) (by decide +kernel)⟩
theorem lw_p3 : lw_okq (⟨"HallCarrier$Scene", "empty", "()V"⟩, 11) := ⟨⟨by decide +kernel, by decide +kernel⟩, List.mem_of_getElem? (i := 53) (by decide +kernel), List.mem_of_getElem? (i := 197) (by decide +kernel), List.mem_of_getElem? (i := 198) (by decide +kernel)⟩
theorem lw_p4 : lw_okq (⟨"HallCarrier$Orders", "empty", "()V"⟩, 11) := ⟨⟨by decide +kernel, by decide +kernel⟩, List.mem_of_getElem? (i := 131) (by decide +kernel), List.mem_of_getElem? (i := 201) (by decide +kernel), List.mem_of_getElem? (i := 202) (by decide +kernel)⟩
theorem lw_p5 : lw_okq (⟨"HallCarrier", "faultPlace", "()I"⟩, 10) := ⟨⟨by decide +kernel, by decide +kernel⟩, List.mem_of_getElem? (i := 12) (by decide +kernel), List.mem_of_getElem? (i := 245) (by decide +kernel), List.mem_of_getElem? (i := 246) (by decide +kernel)⟩
theorem lw_p6 : lw_okq (⟨"HallCarrier$Hall", "has", "(I)Z"⟩, 6) := ⟨⟨by decide +kernel, by decide +kernel⟩, List.mem_of_getElem? (i := 20) (by decide +kernel), List.mem_of_getElem? (i := 266) (by decide +kernel), List.mem_of_getElem? (i := 267) (by decide +kernel)⟩
theorem lw_p7 : lw_okq (⟨"HallCarrier$Scene", "taken", "()J"⟩, 11) := ⟨⟨by decide +kernel, by decide +kernel⟩, List.mem_of_getElem? (i := 53) (by decide +kernel), List.mem_of_getElem? (i := 274) (by decide +kernel), List.mem_of_getElem? (i := 275) (by decide +kernel)⟩
theorem lw_p8 : lw_okq (⟨"HallCarrier$Scene", "carriersTaken", "()J"⟩, 11) := ⟨⟨by decide +kernel, by decide +kernel⟩, List.mem_of_getElem? (i := 53) (by decide +kernel), List.mem_of_getElem? (i := 278) (by decide +kernel), List.mem_of_getElem? (i := 279) (by decide +kernel)⟩
theorem lw_p9 : lw_okq (⟨"HallCarrier$Orders", "ends", "()J"⟩, 11) := ⟨⟨by decide +kernel, by decide +kernel⟩, List.mem_of_getElem? (i := 131) (by decide +kernel), List.mem_of_getElem? (i := 282) (by decide +kernel), List.mem_of_getElem? (i := 283) (by decide +kernel)⟩
theorem lw_p10 : lw_okq (⟨"HallCarrier$Orders", "forgetPlan", "()V"⟩, 11) := ⟨⟨by decide +kernel, by decide +kernel⟩, List.mem_of_getElem? (i := 131) (by decide +kernel), List.mem_of_getElem? (i := 287) (by decide +kernel), List.mem_of_getElem? (i := 288) (by decide +kernel)⟩
theorem lw_p11 : lw_okq (⟨"HallCarrier$Hall", "seenFrom", "(I)J"⟩, 6) := ⟨⟨by decide +kernel, by decide +kernel⟩, List.mem_of_getElem? (i := 20) (by decide +kernel), List.mem_of_getElem? (i := 295) (by decide +kernel), List.mem_of_getElem? (i := 296) (by decide +kernel)⟩
theorem lw_p12 : lw_okq (⟨"HallCarrier$Hall", "isFree", "(I)Z"⟩, 6) := ⟨⟨by decide +kernel, by decide +kernel⟩, List.mem_of_getElem? (i := 20) (by decide +kernel), List.mem_of_getElem? (i := 308) (by decide +kernel), List.mem_of_getElem? (i := 309) (by decide +kernel)⟩
theorem lw_p13 : lw_okq (⟨"HallCarrier$Scene", "addPerson", "(II)I"⟩, 11) := ⟨⟨by decide +kernel, by decide +kernel⟩, List.mem_of_getElem? (i := 53) (by decide +kernel), List.mem_of_getElem? (i := 312) (by decide +kernel), List.mem_of_getElem? (i := 313) (by decide +kernel)⟩
theorem lw_p14 : lw_okq (⟨"HallCarrier$Scene", "addCarrier", "(II)I"⟩, 11) := ⟨⟨by decide +kernel, by decide +kernel⟩, List.mem_of_getElem? (i := 53) (by decide +kernel), List.mem_of_getElem? (i := 321) (by decide +kernel), List.mem_of_getElem? (i := 322) (by decide +kernel)⟩
theorem lw_p15 : lw_okq (⟨"HallCarrier", "lookAround", "(I)V"⟩, 10) := ⟨⟨by decide +kernel, by decide +kernel⟩, List.mem_of_getElem? (i := 12) (by decide +kernel), List.mem_of_getElem? (i := 325) (by decide +kernel), List.mem_of_getElem? (i := 326) (by decide +kernel)⟩
def lw_privs_1 : List (MethodName × Nat) := [(⟨"HallCarrier", "becomeHall", "()V"⟩, 10), (⟨"HallCarrier$Hall", "empty", "()V"⟩, 6), (⟨"HallCarrier$Hall", "put", "(III)V"⟩, 6), (⟨"HallCarrier$Scene", "empty", "()V"⟩, 11), (⟨"HallCarrier$Orders", "empty", "()V"⟩, 11), (⟨"HallCarrier", "faultPlace", "()I"⟩, 10), (⟨"HallCarrier$Hall", "has", "(I)Z"⟩, 6), (⟨"HallCarrier$Scene", "taken", "()J"⟩, 11), (⟨"HallCarrier$Scene", "carriersTaken", "()J"⟩, 11), (⟨"HallCarrier$Orders", "ends", "()J"⟩, 11), (⟨"HallCarrier$Orders", "forgetPlan", "()V"⟩, 11), (⟨"HallCarrier$Hall", "seenFrom", "(I)J"⟩, 6), (⟨"HallCarrier$Hall", "isFree", "(I)Z"⟩, 6), (⟨"HallCarrier$Scene", "addPerson", "(II)I"⟩, 11), (⟨"HallCarrier$Scene", "addCarrier", "(II)I"⟩, 11), (⟨"HallCarrier", "lookAround", "(I)V"⟩, 10)]
theorem lw_r1 : ∀ q ∈ lw_privs_1, lw_okq q := List.forall_mem_cons.mpr ⟨lw_p0, List.forall_mem_cons.mpr ⟨lw_p1, List.forall_mem_cons.mpr ⟨lw_p2, List.forall_mem_cons.mpr ⟨lw_p3, List.forall_mem_cons.mpr ⟨lw_p4, List.forall_mem_cons.mpr ⟨lw_p5, List.forall_mem_cons.mpr ⟨lw_p6, List.forall_mem_cons.mpr ⟨lw_p7, List.forall_mem_cons.mpr ⟨lw_p8, List.forall_mem_cons.mpr ⟨lw_p9, List.forall_mem_cons.mpr ⟨lw_p10, List.forall_mem_cons.mpr ⟨lw_p11, List.forall_mem_cons.mpr ⟨lw_p12, List.forall_mem_cons.mpr ⟨lw_p13, List.forall_mem_cons.mpr ⟨lw_p14, List.forall_mem_cons.mpr ⟨lw_p15, fun _ h => absurd h List.not_mem_nil⟩⟩⟩⟩⟩⟩⟩⟩⟩⟩⟩⟩⟩⟩⟩⟩
theorem lw_p16 : lw_okq (⟨"HallCarrier", "seenBy", "(I)J"⟩, 10) := ⟨⟨by decide +kernel, by decide +kernel⟩, List.mem_of_getElem? (i := 12) (by decide +kernel), List.mem_of_getElem? (i := 329) (by decide +kernel), List.mem_of_getElem? (i := 330) (by decide +kernel)⟩
theorem lw_p17 : lw_okq (⟨"HallCarrier", "isPerson", "(I)Z"⟩, 10) := ⟨⟨by decide +kernel, by decide +kernel⟩, List.mem_of_getElem? (i := 12) (by decide +kernel), List.mem_of_getElem? (i := 337) (by decide +kernel), List.mem_of_getElem? (i := 338) (by decide +kernel)⟩
theorem lw_p18 : lw_okq (⟨"HallCarrier", "isCarrier", "(I)Z"⟩, 10) := ⟨⟨by decide +kernel, by decide +kernel⟩, List.mem_of_getElem? (i := 12) (by decide +kernel), List.mem_of_getElem? (i := 341) (by decide +kernel), List.mem_of_getElem? (i := 342) (by decide +kernel)⟩
theorem lw_p19 : lw_okq (⟨"HallCarrier", "couldBe", "(II)J"⟩, 10) := ⟨⟨by decide +kernel, by decide +kernel⟩, List.mem_of_getElem? (i := 12) (by decide +kernel), List.mem_of_getElem? (i := 349) (by decide +kernel), List.mem_of_getElem? (i := 350) (by decide +kernel)⟩
theorem lw_p20 : lw_okq (⟨"HallCarrier$Crowd", "empty", "(LHallCarrier$Scene;)V"⟩, 5) := ⟨⟨by decide +kernel, by decide +kernel⟩, List.mem_of_getElem? (i := 109) (by decide +kernel), List.mem_of_getElem? (i := 353) (by decide +kernel), List.mem_of_getElem? (i := 354) (by decide +kernel)⟩
theorem lw_p21 : lw_okq (⟨"HallCarrier$Crowd", "join", "(IJ)V"⟩, 5) := ⟨⟨by decide +kernel, by decide +kernel⟩, List.mem_of_getElem? (i := 109) (by decide +kernel), List.mem_of_getElem? (i := 361) (by decide +kernel), List.mem_of_getElem? (i := 362) (by decide +kernel)⟩
theorem lw_p22 : lw_okq (⟨"HallCarrier$Crowd", "afterTicks", "(IJ)J"⟩, 5) := ⟨⟨by decide +kernel, by decide +kernel⟩, List.mem_of_getElem? (i := 109) (by decide +kernel), List.mem_of_getElem? (i := 365) (by decide +kernel), List.mem_of_getElem? (i := 366) (by decide +kernel)⟩
theorem lw_p23 : lw_okq (⟨"HallCarrier$Crowd", "nearer", "(J)J"⟩, 5) := ⟨⟨by decide +kernel, by decide +kernel⟩, List.mem_of_getElem? (i := 109) (by decide +kernel), List.mem_of_getElem? (i := 372) (by decide +kernel), List.mem_of_getElem? (i := 373) (by decide +kernel)⟩
theorem lw_p24 : lw_okq (⟨"HallCarrier", "gatherAnybody", "(I)V"⟩, 10) := ⟨⟨by decide +kernel, by decide +kernel⟩, List.mem_of_getElem? (i := 12) (by decide +kernel), List.mem_of_getElem? (i := 381) (by decide +kernel), List.mem_of_getElem? (i := 382) (by decide +kernel)⟩
theorem lw_p25 : lw_okq (⟨"HallCarrier", "gatherSeen", "(J)V"⟩, 10) := ⟨⟨by decide +kernel, by decide +kernel⟩, List.mem_of_getElem? (i := 12) (by decide +kernel), List.mem_of_getElem? (i := 385) (by decide +kernel), List.mem_of_getElem? (i := 386) (by decide +kernel)⟩
theorem lw_p26 : lw_okq (⟨"HallCarrier", "whyNot", "(II)I"⟩, 10) := ⟨⟨by decide +kernel, by decide +kernel⟩, List.mem_of_getElem? (i := 12) (by decide +kernel), List.mem_of_getElem? (i := 393) (by decide +kernel), List.mem_of_getElem? (i := 394) (by decide +kernel)⟩
theorem lw_p27 : lw_okq (⟨"HallCarrier", "soonestRow", "(IJI)I"⟩, 10) := ⟨⟨by decide +kernel, by decide +kernel⟩, List.mem_of_getElem? (i := 12) (by decide +kernel), List.mem_of_getElem? (i := 402) (by decide +kernel), List.mem_of_getElem? (i := 403) (by decide +kernel)⟩
theorem lw_p28 : lw_okq (⟨"HallCarrier$Scene", "addLine", "(III)V"⟩, 11) := ⟨⟨by decide +kernel, by decide +kernel⟩, List.mem_of_getElem? (i := 53) (by decide +kernel), List.mem_of_getElem? (i := 413) (by decide +kernel), List.mem_of_getElem? (i := 414) (by decide +kernel)⟩
theorem lw_p29 : lw_okq (⟨"HallCarrier", "chargeMove", "()I"⟩, 10) := ⟨⟨by decide +kernel, by decide +kernel⟩, List.mem_of_getElem? (i := 12) (by decide +kernel), List.mem_of_getElem? (i := 437) (by decide +kernel), List.mem_of_getElem? (i := 438) (by decide +kernel)⟩
theorem lw_p30 : lw_okq (⟨"HallCarrier", "chargeGo", "(I)I"⟩, 10) := ⟨⟨by decide +kernel, by decide +kernel⟩, List.mem_of_getElem? (i := 12) (by decide +kernel), List.mem_of_getElem? (i := 441) (by decide +kernel), List.mem_of_getElem? (i := 442) (by decide +kernel)⟩
theorem lw_p31 : lw_okq (⟨"HallCarrier", "chargeWait", "(I)I"⟩, 10) := ⟨⟨by decide +kernel, by decide +kernel⟩, List.mem_of_getElem? (i := 12) (by decide +kernel), List.mem_of_getElem? (i := 446) (by decide +kernel), List.mem_of_getElem? (i := 447) (by decide +kernel)⟩
def lw_privs_2 : List (MethodName × Nat) := [(⟨"HallCarrier", "seenBy", "(I)J"⟩, 10), (⟨"HallCarrier", "isPerson", "(I)Z"⟩, 10), (⟨"HallCarrier", "isCarrier", "(I)Z"⟩, 10), (⟨"HallCarrier", "couldBe", "(II)J"⟩, 10), (⟨"HallCarrier$Crowd", "empty", "(LHallCarrier$Scene;)V"⟩, 5), (⟨"HallCarrier$Crowd", "join", "(IJ)V"⟩, 5), (⟨"HallCarrier$Crowd", "afterTicks", "(IJ)J"⟩, 5), (⟨"HallCarrier$Crowd", "nearer", "(J)J"⟩, 5), (⟨"HallCarrier", "gatherAnybody", "(I)V"⟩, 10), (⟨"HallCarrier", "gatherSeen", "(J)V"⟩, 10), (⟨"HallCarrier", "whyNot", "(II)I"⟩, 10), (⟨"HallCarrier", "soonestRow", "(IJI)I"⟩, 10), (⟨"HallCarrier$Scene", "addLine", "(III)V"⟩, 11), (⟨"HallCarrier", "chargeMove", "()I"⟩, 10), (⟨"HallCarrier", "chargeGo", "(I)I"⟩, 10), (⟨"HallCarrier", "chargeWait", "(I)I"⟩, 10)]
theorem lw_r2 : ∀ q ∈ lw_privs_2, lw_okq q := List.forall_mem_cons.mpr ⟨lw_p16, List.forall_mem_cons.mpr ⟨lw_p17, List.forall_mem_cons.mpr ⟨lw_p18, List.forall_mem_cons.mpr ⟨lw_p19, List.forall_mem_cons.mpr ⟨lw_p20, List.forall_mem_cons.mpr ⟨lw_p21, List.forall_mem_cons.mpr ⟨lw_p22, List.forall_mem_cons.mpr ⟨lw_p23, List.forall_mem_cons.mpr ⟨lw_p24, List.forall_mem_cons.mpr ⟨lw_p25, List.forall_mem_cons.mpr ⟨lw_p26, List.forall_mem_cons.mpr ⟨lw_p27, List.forall_mem_cons.mpr ⟨lw_p28, List.forall_mem_cons.mpr ⟨lw_p29, List.forall_mem_cons.mpr ⟨lw_p30, List.forall_mem_cons.mpr ⟨lw_p31, fun _ h => absurd h List.not_mem_nil⟩⟩⟩⟩⟩⟩⟩⟩⟩⟩⟩⟩⟩⟩⟩⟩
theorem lw_p32 : lw_okq (⟨"HallCarrier", "chargeYield", "(I)I"⟩, 10) := ⟨⟨by decide +kernel, by decide +kernel⟩, List.mem_of_getElem? (i := 12) (by decide +kernel), List.mem_of_getElem? (i := 451) (by decide +kernel), List.mem_of_getElem? (i := 452) (by decide +kernel)⟩
theorem lw_p33 : lw_okq (⟨"HallCarrier", "chargeBack", "(I)I"⟩, 10) := ⟨⟨by decide +kernel, by decide +kernel⟩, List.mem_of_getElem? (i := 12) (by decide +kernel), List.mem_of_getElem? (i := 456) (by decide +kernel), List.mem_of_getElem? (i := 457) (by decide +kernel)⟩
theorem lw_p34 : lw_okq (⟨"HallCarrier", "chargeRide", "(I)I"⟩, 10) := ⟨⟨by decide +kernel, by decide +kernel⟩, List.mem_of_getElem? (i := 12) (by decide +kernel), List.mem_of_getElem? (i := 461) (by decide +kernel), List.mem_of_getElem? (i := 462) (by decide +kernel)⟩
theorem lw_p35 : lw_okq (⟨"HallCarrier", "chargeAsk", "(I)I"⟩, 10) := ⟨⟨by decide +kernel, by decide +kernel⟩, List.mem_of_getElem? (i := 12) (by decide +kernel), List.mem_of_getElem? (i := 466) (by decide +kernel), List.mem_of_getElem? (i := 467) (by decide +kernel)⟩
theorem lw_p36 : lw_okq (⟨"HallCarrier$Hall", "looksLike", "(I)J"⟩, 6) := ⟨⟨by decide +kernel, by decide +kernel⟩, List.mem_of_getElem? (i := 20) (by decide +kernel), List.mem_of_getElem? (i := 479) (by decide +kernel), List.mem_of_getElem? (i := 480) (by decide +kernel)⟩
theorem lw_p37 : lw_okq (⟨"HallCarrier$Hall", "canStep", "(I)J"⟩, 6) := ⟨⟨by decide +kernel, by decide +kernel⟩, List.mem_of_getElem? (i := 20) (by decide +kernel), List.mem_of_getElem? (i := 483) (by decide +kernel), List.mem_of_getElem? (i := 484) (by decide +kernel)⟩
theorem lw_p38 : lw_okq (⟨"HallCarrier$Hall", "stepped", "(JI)J"⟩, 6) := ⟨⟨by decide +kernel, by decide +kernel⟩, List.mem_of_getElem? (i := 20) (by decide +kernel), List.mem_of_getElem? (i := 492) (by decide +kernel), List.mem_of_getElem? (i := 493) (by decide +kernel)⟩
theorem lw_p39 : lw_okq (⟨"HallCarrier$Hall", "unlikeLooks", "(J)I"⟩, 6) := ⟨⟨by decide +kernel, by decide +kernel⟩, List.mem_of_getElem? (i := 20) (by decide +kernel), List.mem_of_getElem? (i := 504) (by decide +kernel), List.mem_of_getElem? (i := 505) (by decide +kernel)⟩
theorem lw_p40 : lw_okq (⟨"HallCarrier$Orders", "add", "(III)I"⟩, 11) := ⟨⟨by decide +kernel, by decide +kernel⟩, List.mem_of_getElem? (i := 131) (by decide +kernel), List.mem_of_getElem? (i := 514) (by decide +kernel), List.mem_of_getElem? (i := 515) (by decide +kernel)⟩
theorem lw_p41 : lw_okq (⟨"HallCarrier$Orders", "makePlan", "(JLHallCarrier$Scene;)V"⟩, 11) := ⟨⟨by decide +kernel, by decide +kernel⟩, List.mem_of_getElem? (i := 131) (by decide +kernel), List.mem_of_getElem? (i := 522) (by decide +kernel), List.mem_of_getElem? (i := 523) (by decide +kernel)⟩
theorem lw_p42 : lw_okq (⟨"HallCarrier$Orders", "measure", "(JLHallCarrier$Scene;)Z"⟩, 11) := ⟨⟨by decide +kernel, by decide +kernel⟩, List.mem_of_getElem? (i := 131) (by decide +kernel), List.mem_of_getElem? (i := 526) (by decide +kernel), List.mem_of_getElem? (i := 527) (by decide +kernel)⟩
theorem lw_p43 : lw_okq (⟨"HallCarrier$Orders", "measureFrom", "(IIJ)V"⟩, 11) := ⟨⟨by decide +kernel, by decide +kernel⟩, List.mem_of_getElem? (i := 131) (by decide +kernel), List.mem_of_getElem? (i := 530) (by decide +kernel), List.mem_of_getElem? (i := 531) (by decide +kernel)⟩
theorem lw_p44 : lw_okq (⟨"HallCarrier$Orders", "tryRows", "(IIIIIII)V"⟩, 11) := ⟨⟨by decide +kernel, by decide +kernel⟩, List.mem_of_getElem? (i := 131) (by decide +kernel), List.mem_of_getElem? (i := 540) (by decide +kernel), List.mem_of_getElem? (i := 541) (by decide +kernel)⟩
theorem lw_p45 : lw_okq (⟨"HallCarrier$Orders", "chooseSets", "(I)V"⟩, 11) := ⟨⟨by decide +kernel, by decide +kernel⟩, List.mem_of_getElem? (i := 131) (by decide +kernel), List.mem_of_getElem? (i := 547) (by decide +kernel), List.mem_of_getElem? (i := 548) (by decide +kernel)⟩
theorem lw_p46 : lw_okq (⟨"HallCarrier$Orders", "planned", "(II)I"⟩, 11) := ⟨⟨by decide +kernel, by decide +kernel⟩, List.mem_of_getElem? (i := 131) (by decide +kernel), List.mem_of_getElem? (i := 555) (by decide +kernel), List.mem_of_getElem? (i := 556) (by decide +kernel)⟩
theorem lw_p47 : lw_okq (⟨"HallCarrier$Scene", "copyFrom", "(LHallCarrier$Scene;)V"⟩, 11) := ⟨⟨by decide +kernel, by decide +kernel⟩, List.mem_of_getElem? (i := 53) (by decide +kernel), List.mem_of_getElem? (i := 563) (by decide +kernel), List.mem_of_getElem? (i := 564) (by decide +kernel)⟩
def lw_privs_3 : List (MethodName × Nat) := [(⟨"HallCarrier", "chargeYield", "(I)I"⟩, 10), (⟨"HallCarrier", "chargeBack", "(I)I"⟩, 10), (⟨"HallCarrier", "chargeRide", "(I)I"⟩, 10), (⟨"HallCarrier", "chargeAsk", "(I)I"⟩, 10), (⟨"HallCarrier$Hall", "looksLike", "(I)J"⟩, 6), (⟨"HallCarrier$Hall", "canStep", "(I)J"⟩, 6), (⟨"HallCarrier$Hall", "stepped", "(JI)J"⟩, 6), (⟨"HallCarrier$Hall", "unlikeLooks", "(J)I"⟩, 6), (⟨"HallCarrier$Orders", "add", "(III)I"⟩, 11), (⟨"HallCarrier$Orders", "makePlan", "(JLHallCarrier$Scene;)V"⟩, 11), (⟨"HallCarrier$Orders", "measure", "(JLHallCarrier$Scene;)Z"⟩, 11), (⟨"HallCarrier$Orders", "measureFrom", "(IIJ)V"⟩, 11), (⟨"HallCarrier$Orders", "tryRows", "(IIIIIII)V"⟩, 11), (⟨"HallCarrier$Orders", "chooseSets", "(I)V"⟩, 11), (⟨"HallCarrier$Orders", "planned", "(II)I"⟩, 11), (⟨"HallCarrier$Scene", "copyFrom", "(LHallCarrier$Scene;)V"⟩, 11)]
theorem lw_r3 : ∀ q ∈ lw_privs_3, lw_okq q := List.forall_mem_cons.mpr ⟨lw_p32, List.forall_mem_cons.mpr ⟨lw_p33, List.forall_mem_cons.mpr ⟨lw_p34, List.forall_mem_cons.mpr ⟨lw_p35, List.forall_mem_cons.mpr ⟨lw_p36, List.forall_mem_cons.mpr ⟨lw_p37, List.forall_mem_cons.mpr ⟨lw_p38, List.forall_mem_cons.mpr ⟨lw_p39, List.forall_mem_cons.mpr ⟨lw_p40, List.forall_mem_cons.mpr ⟨lw_p41, List.forall_mem_cons.mpr ⟨lw_p42, List.forall_mem_cons.mpr ⟨lw_p43, List.forall_mem_cons.mpr ⟨lw_p44, List.forall_mem_cons.mpr ⟨lw_p45, List.forall_mem_cons.mpr ⟨lw_p46, List.forall_mem_cons.mpr ⟨lw_p47, fun _ h => absurd h List.not_mem_nil⟩⟩⟩⟩⟩⟩⟩⟩⟩⟩⟩⟩⟩⟩⟩⟩
theorem lw_p48 : lw_okq (⟨"HallCarrierModel", "fault", "()I"⟩, 40) := ⟨⟨by decide +kernel, by decide +kernel⟩, List.mem_of_getElem? (i := 582) (by decide +kernel), List.mem_of_getElem? (i := 728) (by decide +kernel), List.mem_of_getElem? (i := 729) (by decide +kernel)⟩
theorem lw_p49 : lw_okq (⟨"HallCarrierModel", "isCell", "(I)Z"⟩, 40) := ⟨⟨by decide +kernel, by decide +kernel⟩, List.mem_of_getElem? (i := 582) (by decide +kernel), List.mem_of_getElem? (i := 736) (by decide +kernel), List.mem_of_getElem? (i := 737) (by decide +kernel)⟩
theorem lw_p50 : lw_okq (⟨"HallCarrierModel", "isEnd", "(I)Z"⟩, 40) := ⟨⟨by decide +kernel, by decide +kernel⟩, List.mem_of_getElem? (i := 582) (by decide +kernel), List.mem_of_getElem? (i := 744) (by decide +kernel), List.mem_of_getElem? (i := 745) (by decide +kernel)⟩
theorem lw_p51 : lw_okq (⟨"HallCarrierModel", "isFree", "(I)Z"⟩, 40) := ⟨⟨by decide +kernel, by decide +kernel⟩, List.mem_of_getElem? (i := 582) (by decide +kernel), List.mem_of_getElem? (i := 748) (by decide +kernel), List.mem_of_getElem? (i := 749) (by decide +kernel)⟩
theorem lw_p52 : lw_okq (⟨"HallCarrierModel", "seenFrom", "(I)J"⟩, 40) := ⟨⟨by decide +kernel, by decide +kernel⟩, List.mem_of_getElem? (i := 582) (by decide +kernel), List.mem_of_getElem? (i := 757) (by decide +kernel), List.mem_of_getElem? (i := 758) (by decide +kernel)⟩
theorem lw_p53 : lw_okq (⟨"HallCarrierModel", "beside", "(II)I"⟩, 40) := ⟨⟨by decide +kernel, by decide +kernel⟩, List.mem_of_getElem? (i := 582) (by decide +kernel), List.mem_of_getElem? (i := 761) (by decide +kernel), List.mem_of_getElem? (i := 762) (by decide +kernel)⟩
theorem lw_p54 : lw_okq (⟨"HallCarrierModel", "carrierOn", "(I)I"⟩, 40) := ⟨⟨by decide +kernel, by decide +kernel⟩, List.mem_of_getElem? (i := 582) (by decide +kernel), List.mem_of_getElem? (i := 773) (by decide +kernel), List.mem_of_getElem? (i := 774) (by decide +kernel)⟩
theorem lw_p55 : lw_okq (⟨"HallCarrierModel", "lookAbout", "(I)V"⟩, 40) := ⟨⟨by decide +kernel, by decide +kernel⟩, List.mem_of_getElem? (i := 582) (by decide +kernel), List.mem_of_getElem? (i := 777) (by decide +kernel), List.mem_of_getElem? (i := 778) (by decide +kernel)⟩
theorem lw_p56 : lw_okq (⟨"HallCarrierModel", "isPerson", "(I)Z"⟩, 40) := ⟨⟨by decide +kernel, by decide +kernel⟩, List.mem_of_getElem? (i := 582) (by decide +kernel), List.mem_of_getElem? (i := 785) (by decide +kernel), List.mem_of_getElem? (i := 786) (by decide +kernel)⟩
theorem lw_p57 : lw_okq (⟨"HallCarrierModel", "isCarrier", "(I)Z"⟩, 40) := ⟨⟨by decide +kernel, by decide +kernel⟩, List.mem_of_getElem? (i := 582) (by decide +kernel), List.mem_of_getElem? (i := 789) (by decide +kernel), List.mem_of_getElem? (i := 790) (by decide +kernel)⟩
theorem lw_p58 : lw_okq (⟨"HallCarrierModel", "couldBe", "(IJI)J"⟩, 40) := ⟨⟨by decide +kernel, by decide +kernel⟩, List.mem_of_getElem? (i := 582) (by decide +kernel), List.mem_of_getElem? (i := 797) (by decide +kernel), List.mem_of_getElem? (i := 798) (by decide +kernel)⟩
theorem lw_p59 : lw_okq (⟨"HallCarrierModel", "spread", "(J)J"⟩, 40) := ⟨⟨by decide +kernel, by decide +kernel⟩, List.mem_of_getElem? (i := 582) (by decide +kernel), List.mem_of_getElem? (i := 801) (by decide +kernel), List.mem_of_getElem? (i := 802) (by decide +kernel)⟩
theorem lw_p60 : lw_okq (⟨"HallCarrierModel", "close", "(J)J"⟩, 40) := ⟨⟨by decide +kernel, by decide +kernel⟩, List.mem_of_getElem? (i := 582) (by decide +kernel), List.mem_of_getElem? (i := 807) (by decide +kernel), List.mem_of_getElem? (i := 808) (by decide +kernel)⟩
theorem lw_p61 : lw_okq (⟨"HallCarrierModel", "seenCould", "(II)J"⟩, 40) := ⟨⟨by decide +kernel, by decide +kernel⟩, List.mem_of_getElem? (i := 582) (by decide +kernel), List.mem_of_getElem? (i := 818) (by decide +kernel), List.mem_of_getElem? (i := 819) (by decide +kernel)⟩
theorem lw_p62 : lw_okq (⟨"HallCarrierModel", "unseenCould", "(II)J"⟩, 40) := ⟨⟨by decide +kernel, by decide +kernel⟩, List.mem_of_getElem? (i := 582) (by decide +kernel), List.mem_of_getElem? (i := 822) (by decide +kernel), List.mem_of_getElem? (i := 823) (by decide +kernel)⟩
theorem lw_p63 : lw_okq (⟨"HallCarrierModel", "why", "(II)I"⟩, 40) := ⟨⟨by decide +kernel, by decide +kernel⟩, List.mem_of_getElem? (i := 582) (by decide +kernel), List.mem_of_getElem? (i := 830) (by decide +kernel), List.mem_of_getElem? (i := 831) (by decide +kernel)⟩
def lw_privs_4 : List (MethodName × Nat) := [(⟨"HallCarrierModel", "fault", "()I"⟩, 40), (⟨"HallCarrierModel", "isCell", "(I)Z"⟩, 40), (⟨"HallCarrierModel", "isEnd", "(I)Z"⟩, 40), (⟨"HallCarrierModel", "isFree", "(I)Z"⟩, 40), (⟨"HallCarrierModel", "seenFrom", "(I)J"⟩, 40), (⟨"HallCarrierModel", "beside", "(II)I"⟩, 40), (⟨"HallCarrierModel", "carrierOn", "(I)I"⟩, 40), (⟨"HallCarrierModel", "lookAbout", "(I)V"⟩, 40), (⟨"HallCarrierModel", "isPerson", "(I)Z"⟩, 40), (⟨"HallCarrierModel", "isCarrier", "(I)Z"⟩, 40), (⟨"HallCarrierModel", "couldBe", "(IJI)J"⟩, 40), (⟨"HallCarrierModel", "spread", "(J)J"⟩, 40), (⟨"HallCarrierModel", "close", "(J)J"⟩, 40), (⟨"HallCarrierModel", "seenCould", "(II)J"⟩, 40), (⟨"HallCarrierModel", "unseenCould", "(II)J"⟩, 40), (⟨"HallCarrierModel", "why", "(II)I"⟩, 40)]
theorem lw_r4 : ∀ q ∈ lw_privs_4, lw_okq q := List.forall_mem_cons.mpr ⟨lw_p48, List.forall_mem_cons.mpr ⟨lw_p49, List.forall_mem_cons.mpr ⟨lw_p50, List.forall_mem_cons.mpr ⟨lw_p51, List.forall_mem_cons.mpr ⟨lw_p52, List.forall_mem_cons.mpr ⟨lw_p53, List.forall_mem_cons.mpr ⟨lw_p54, List.forall_mem_cons.mpr ⟨lw_p55, List.forall_mem_cons.mpr ⟨lw_p56, List.forall_mem_cons.mpr ⟨lw_p57, List.forall_mem_cons.mpr ⟨lw_p58, List.forall_mem_cons.mpr ⟨lw_p59, List.forall_mem_cons.mpr ⟨lw_p60, List.forall_mem_cons.mpr ⟨lw_p61, List.forall_mem_cons.mpr ⟨lw_p62, List.forall_mem_cons.mpr ⟨lw_p63, fun _ h => absurd h List.not_mem_nil⟩⟩⟩⟩⟩⟩⟩⟩⟩⟩⟩⟩⟩⟩⟩⟩
theorem lw_p64 : lw_okq (⟨"HallCarrierModel", "goOn", "(JI)J"⟩, 40) := ⟨⟨by decide +kernel, by decide +kernel⟩, List.mem_of_getElem? (i := 582) (by decide +kernel), List.mem_of_getElem? (i := 838) (by decide +kernel), List.mem_of_getElem? (i := 839) (by decide +kernel)⟩
theorem lw_p65 : lw_okq (⟨"HallCarrierModel", "looks", "(I)I"⟩, 40) := ⟨⟨by decide +kernel, by decide +kernel⟩, List.mem_of_getElem? (i := 582) (by decide +kernel), List.mem_of_getElem? (i := 883) (by decide +kernel), List.mem_of_getElem? (i := 884) (by decide +kernel)⟩
theorem lw_p66 : lw_okq (⟨"HallCarrierModel", "stepped", "(I)J"⟩, 40) := ⟨⟨by decide +kernel, by decide +kernel⟩, List.mem_of_getElem? (i := 582) (by decide +kernel), List.mem_of_getElem? (i := 891) (by decide +kernel), List.mem_of_getElem? (i := 892) (by decide +kernel)⟩
theorem lw_p67 : lw_okq (⟨"HallCarrierModel", "unlikeLooks", "(J)I"⟩, 40) := ⟨⟨by decide +kernel, by decide +kernel⟩, List.mem_of_getElem? (i := 582) (by decide +kernel), List.mem_of_getElem? (i := 903) (by decide +kernel), List.mem_of_getElem? (i := 904) (by decide +kernel)⟩
theorem lw_p68 : lw_okq (⟨"HallCarrierModel", "measure", "()Z"⟩, 40) := ⟨⟨by decide +kernel, by decide +kernel⟩, List.mem_of_getElem? (i := 582) (by decide +kernel), List.mem_of_getElem? (i := 915) (by decide +kernel), List.mem_of_getElem? (i := 916) (by decide +kernel)⟩
theorem lw_p69 : lw_okq (⟨"HallCarrierModel", "steps", "(II)I"⟩, 40) := ⟨⟨by decide +kernel, by decide +kernel⟩, List.mem_of_getElem? (i := 582) (by decide +kernel), List.mem_of_getElem? (i := 919) (by decide +kernel), List.mem_of_getElem? (i := 920) (by decide +kernel)⟩
theorem lw_p70 : lw_okq (⟨"HallCarrierModel", "findLate", "()I"⟩, 40) := ⟨⟨by decide +kernel, by decide +kernel⟩, List.mem_of_getElem? (i := 582) (by decide +kernel), List.mem_of_getElem? (i := 923) (by decide +kernel), List.mem_of_getElem? (i := 924) (by decide +kernel)⟩
theorem lw_p71 : lw_okq (⟨"HallCarrierModel", "leastOf", "(IIZ)I"⟩, 40) := ⟨⟨by decide +kernel, by decide +kernel⟩, List.mem_of_getElem? (i := 582) (by decide +kernel), List.mem_of_getElem? (i := 927) (by decide +kernel), List.mem_of_getElem? (i := 928) (by decide +kernel)⟩
theorem lw_p72 : lw_okq (⟨"HallCarrierModel", "tellRow", "(II)I"⟩, 40) := ⟨⟨by decide +kernel, by decide +kernel⟩, List.mem_of_getElem? (i := 582) (by decide +kernel), List.mem_of_getElem? (i := 931) (by decide +kernel), List.mem_of_getElem? (i := 932) (by decide +kernel)⟩
theorem lw_p73 : lw_okq (⟨"HallCarrierModel", "lateOf", "(II)I"⟩, 40) := ⟨⟨by decide +kernel, by decide +kernel⟩, List.mem_of_getElem? (i := 582) (by decide +kernel), List.mem_of_getElem? (i := 938) (by decide +kernel), List.mem_of_getElem? (i := 939) (by decide +kernel)⟩
theorem lw_p74 : lw_okq (⟨"HallCarrierModel", "moveAll", "(II)V"⟩, 40) := ⟨⟨by decide +kernel, by decide +kernel⟩, List.mem_of_getElem? (i := 582) (by decide +kernel), List.mem_of_getElem? (i := 950) (by decide +kernel), List.mem_of_getElem? (i := 951) (by decide +kernel)⟩
def lw_privs_5 : List (MethodName × Nat) := [(⟨"HallCarrierModel", "goOn", "(JI)J"⟩, 40), (⟨"HallCarrierModel", "looks", "(I)I"⟩, 40), (⟨"HallCarrierModel", "stepped", "(I)J"⟩, 40), (⟨"HallCarrierModel", "unlikeLooks", "(J)I"⟩, 40), (⟨"HallCarrierModel", "measure", "()Z"⟩, 40), (⟨"HallCarrierModel", "steps", "(II)I"⟩, 40), (⟨"HallCarrierModel", "findLate", "()I"⟩, 40), (⟨"HallCarrierModel", "leastOf", "(IIZ)I"⟩, 40), (⟨"HallCarrierModel", "tellRow", "(II)I"⟩, 40), (⟨"HallCarrierModel", "lateOf", "(II)I"⟩, 40), (⟨"HallCarrierModel", "moveAll", "(II)V"⟩, 40)]
theorem lw_r5 : ∀ q ∈ lw_privs_5, lw_okq q := List.forall_mem_cons.mpr ⟨lw_p64, List.forall_mem_cons.mpr ⟨lw_p65, List.forall_mem_cons.mpr ⟨lw_p66, List.forall_mem_cons.mpr ⟨lw_p67, List.forall_mem_cons.mpr ⟨lw_p68, List.forall_mem_cons.mpr ⟨lw_p69, List.forall_mem_cons.mpr ⟨lw_p70, List.forall_mem_cons.mpr ⟨lw_p71, List.forall_mem_cons.mpr ⟨lw_p72, List.forall_mem_cons.mpr ⟨lw_p73, List.forall_mem_cons.mpr ⟨lw_p74, fun _ h => absurd h List.not_mem_nil⟩⟩⟩⟩⟩⟩⟩⟩⟩⟩⟩
def lw_privs : List (MethodName × Nat) := lw_privs_1 ++ (lw_privs_2 ++ (lw_privs_3 ++ (lw_privs_4 ++ (lw_privs_5))))
def lw_tbl : List Cond := k2_sels lw_privs ++ tables_1
theorem lw_privs_ok : ∀ q ∈ lw_privs, lw_okq q := by
  show ∀ q ∈ lw_privs_1 ++ (lw_privs_2 ++ (lw_privs_3 ++ (lw_privs_4 ++ (lw_privs_5)))), lw_okq q
  exact List.forall_mem_append.mpr ⟨lw_r1, List.forall_mem_append.mpr ⟨lw_r2, List.forall_mem_append.mpr ⟨lw_r3, List.forall_mem_append.mpr ⟨lw_r4, lw_r5⟩⟩⟩⟩
-- ===== end of PART A; then your names; then what follows =====
def RX0 : String := "HallCarrier$Crowd"
def TX0 : u_T := fun k => match k with
  | 0 => ("HallCarrier$Crowd", "nearing", "[J", true)
  | 1 => ("HallCarrier$Crowd", "standing", "J", false)
  | 2 => ("HallCarrier$Crowd", "walking", "J", false)
  | 3 => ("HallCarrier$Crowd", "sudden", "J", false)
  | _ => ("HallCarrier$Crowd", "blocking", "J", false)
def tyX0 : Nat → FieldType := fun k => match k with
  | 0 => .array .long
  | 1 => .long
  | 2 => .long
  | 3 => .long
  | _ => .long
theorem nmX0 : ∀ a, a < 5 → ∀ b, b < 5 → a ≠ b → (TX0 a).2.1 ≠ (TX0 b).2.1 := by decide +kernel
theorem tyX0_ok : ∀ k, k < 5 → parseFieldDescriptor (TX0 k).2.2.1 = some (tyX0 k) := by decide +kernel
abbrev cX0_init : ByteArray := prog_2_method_1_code
def yX0_init : MethodName := ⟨RX0, "<init>", "()V"⟩
abbrev cX0_empty : ByteArray := prog_2_method_2_code
def yX0_empty : MethodName := ⟨RX0, "empty", "(LHallCarrier$Scene;)V"⟩
abbrev cX0_join : ByteArray := prog_2_method_3_code
def yX0_join : MethodName := ⟨RX0, "join", "(IJ)V"⟩
abbrev cX0_afterTicks : ByteArray := prog_2_method_4_code
def yX0_afterTicks : MethodName := ⟨RX0, "afterTicks", "(IJ)J"⟩
abbrev cX0_nearer : ByteArray := prog_2_method_5_code
def yX0_nearer : MethodName := ⟨RX0, "nearer", "(J)J"⟩
def RX1 : String := "HallCarrier$Hall"
def TX1 : u_T := fun k => match k with
  | 0 => ("HallCarrier$Hall", "signs", "[I", true)
  | 1 => ("HallCarrier$Hall", "doorCells", "[I", true)
  | 2 => ("HallCarrier$Hall", "markCells", "[J", true)
  | 3 => ("HallCarrier$Hall", "doors", "I", false)
  | 4 => ("HallCarrier$Hall", "cells", "J", false)
  | _ => ("HallCarrier$Hall", "free", "J", false)
def tyX1 : Nat → FieldType := fun k => match k with
  | 0 => .array .int
  | 1 => .array .int
  | 2 => .array .long
  | 3 => .int
  | 4 => .long
  | _ => .long
theorem nmX1 : ∀ a, a < 6 → ∀ b, b < 6 → a ≠ b → (TX1 a).2.1 ≠ (TX1 b).2.1 := by decide +kernel
theorem tyX1_ok : ∀ k, k < 6 → parseFieldDescriptor (TX1 k).2.2.1 = some (tyX1 k) := by decide +kernel
abbrev cX1_init : ByteArray := prog_3_method_1_code
def yX1_init : MethodName := ⟨RX1, "<init>", "()V"⟩
abbrev cX1_empty : ByteArray := prog_3_method_2_code
def yX1_empty : MethodName := ⟨RX1, "empty", "()V"⟩
abbrev cX1_put : ByteArray := prog_3_method_3_code
def yX1_put : MethodName := ⟨RX1, "put", "(III)V"⟩
abbrev cX1_has : ByteArray := prog_3_method_4_code
def yX1_has : MethodName := ⟨RX1, "has", "(I)Z"⟩
abbrev cX1_isFree : ByteArray := prog_3_method_5_code
def yX1_isFree : MethodName := ⟨RX1, "isFree", "(I)Z"⟩
abbrev cX1_seenFrom : ByteArray := prog_3_method_6_code
def yX1_seenFrom : MethodName := ⟨RX1, "seenFrom", "(I)J"⟩
abbrev cX1_looksLike : ByteArray := prog_3_method_7_code
def yX1_looksLike : MethodName := ⟨RX1, "looksLike", "(I)J"⟩
abbrev cX1_canStep : ByteArray := prog_3_method_8_code
def yX1_canStep : MethodName := ⟨RX1, "canStep", "(I)J"⟩
abbrev cX1_stepped : ByteArray := prog_3_method_9_code
def yX1_stepped : MethodName := ⟨RX1, "stepped", "(JI)J"⟩
abbrev cX1_unlikeLooks : ByteArray := prog_3_method_10_code
def yX1_unlikeLooks : MethodName := ⟨RX1, "unlikeLooks", "(J)I"⟩
def RX2 : String := "HallCarrier$Orders"
def TX2 : u_T := fun k => match k with
  | 0 => ("HallCarrier$Orders", "from", "[I", true)
  | 1 => ("HallCarrier$Orders", "to", "[I", true)
  | 2 => ("HallCarrier$Orders", "due", "[I", true)
  | 3 => ("HallCarrier$Orders", "steps", "[I", true)
  | 4 => ("HallCarrier$Orders", "leastOf", "[I", true)
  | 5 => ("HallCarrier$Orders", "rowOf", "[I", true)
  | 6 => ("HallCarrier$Orders", "bestRow", "[I", true)
  | 7 => ("HallCarrier$Orders", "many", "I", false)
  | 8 => ("HallCarrier$Orders", "least", "I", false)
  | 9 => ("HallCarrier$Orders", "possible", "Z", false)
  | _ => ("HallCarrier$Orders", "fresh", "Z", false)
def tyX2 : Nat → FieldType := fun k => match k with
  | 0 => .array .int
  | 1 => .array .int
  | 2 => .array .int
  | 3 => .array .int
  | 4 => .array .int
  | 5 => .array .int
  | 6 => .array .int
  | 7 => .int
  | 8 => .int
  | 9 => .boolean
  | _ => .boolean
theorem nmX2 : ∀ a, a < 11 → ∀ b, b < 11 → a ≠ b → (TX2 a).2.1 ≠ (TX2 b).2.1 := by decide +kernel
theorem tyX2_ok : ∀ k, k < 11 → parseFieldDescriptor (TX2 k).2.2.1 = some (tyX2 k) := by decide +kernel
abbrev cX2_init : ByteArray := prog_4_method_1_code
def yX2_init : MethodName := ⟨RX2, "<init>", "()V"⟩
abbrev cX2_empty : ByteArray := prog_4_method_2_code
def yX2_empty : MethodName := ⟨RX2, "empty", "()V"⟩
abbrev cX2_forgetPlan : ByteArray := prog_4_method_3_code
def yX2_forgetPlan : MethodName := ⟨RX2, "forgetPlan", "()V"⟩
abbrev cX2_add : ByteArray := prog_4_method_4_code
def yX2_add : MethodName := ⟨RX2, "add", "(III)I"⟩
abbrev cX2_ends : ByteArray := prog_4_method_5_code
def yX2_ends : MethodName := ⟨RX2, "ends", "()J"⟩
abbrev cX2_planned : ByteArray := prog_4_method_6_code
def yX2_planned : MethodName := ⟨RX2, "planned", "(II)I"⟩
abbrev cX2_makePlan : ByteArray := prog_4_method_7_code
def yX2_makePlan : MethodName := ⟨RX2, "makePlan", "(JLHallCarrier$Scene;)V"⟩
abbrev cX2_measure : ByteArray := prog_4_method_8_code
def yX2_measure : MethodName := ⟨RX2, "measure", "(JLHallCarrier$Scene;)Z"⟩
abbrev cX2_measureFrom : ByteArray := prog_4_method_9_code
def yX2_measureFrom : MethodName := ⟨RX2, "measureFrom", "(IIJ)V"⟩
abbrev cX2_tryRows : ByteArray := prog_4_method_10_code
def yX2_tryRows : MethodName := ⟨RX2, "tryRows", "(IIIIIII)V"⟩
abbrev cX2_chooseSets : ByteArray := prog_4_method_11_code
def yX2_chooseSets : MethodName := ⟨RX2, "chooseSets", "(I)V"⟩
def RX3 : String := "HallCarrier$Scene"
def TX3 : u_T := fun k => match k with
  | 0 => ("HallCarrier$Scene", "personCells", "[I", true)
  | 1 => ("HallCarrier$Scene", "personKinds", "[I", true)
  | 2 => ("HallCarrier$Scene", "carrierCells", "[I", true)
  | 3 => ("HallCarrier$Scene", "loads", "[I", true)
  | 4 => ("HallCarrier$Scene", "sawAt", "[I", true)
  | 5 => ("HallCarrier$Scene", "lines", "[I", true)
  | 6 => ("HallCarrier$Scene", "people", "I", false)
  | 7 => ("HallCarrier$Scene", "carriers", "I", false)
  | 8 => ("HallCarrier$Scene", "lineCount", "I", false)
  | 9 => ("HallCarrier$Scene", "tick", "I", false)
  | _ => ("HallCarrier$Scene", "kept", "Z", false)
def tyX3 : Nat → FieldType := fun k => match k with
  | 0 => .array .int
  | 1 => .array .int
  | 2 => .array .int
  | 3 => .array .int
  | 4 => .array .int
  | 5 => .array .int
  | 6 => .int
  | 7 => .int
  | 8 => .int
  | 9 => .int
  | _ => .boolean
theorem nmX3 : ∀ a, a < 11 → ∀ b, b < 11 → a ≠ b → (TX3 a).2.1 ≠ (TX3 b).2.1 := by decide +kernel
theorem tyX3_ok : ∀ k, k < 11 → parseFieldDescriptor (TX3 k).2.2.1 = some (tyX3 k) := by decide +kernel
abbrev cX3_init : ByteArray := prog_5_method_1_code
def yX3_init : MethodName := ⟨RX3, "<init>", "()V"⟩
abbrev cX3_empty : ByteArray := prog_5_method_2_code
def yX3_empty : MethodName := ⟨RX3, "empty", "()V"⟩
abbrev cX3_addPerson : ByteArray := prog_5_method_3_code
def yX3_addPerson : MethodName := ⟨RX3, "addPerson", "(II)I"⟩
abbrev cX3_addCarrier : ByteArray := prog_5_method_4_code
def yX3_addCarrier : MethodName := ⟨RX3, "addCarrier", "(II)I"⟩
abbrev cX3_addLine : ByteArray := prog_5_method_5_code
def yX3_addLine : MethodName := ⟨RX3, "addLine", "(III)V"⟩
abbrev cX3_carriersTaken : ByteArray := prog_5_method_6_code
def yX3_carriersTaken : MethodName := ⟨RX3, "carriersTaken", "()J"⟩
abbrev cX3_taken : ByteArray := prog_5_method_7_code
def yX3_taken : MethodName := ⟨RX3, "taken", "()J"⟩
abbrev cX3_copyFrom : ByteArray := prog_5_method_8_code
def yX3_copyFrom : MethodName := ⟨RX3, "copyFrom", "(LHallCarrier$Scene;)V"⟩
def RX4 : String := "HallCarrier"
def TX4 : u_T := fun k => match k with
  | 0 => ("HallCarrier", "text", "[I", true)
  | 1 => ("HallCarrier", "textLength", "I", false)
  | 2 => ("HallCarrier", "map", "LHallCarrier$Hall;", true)
  | 3 => ("HallCarrier", "now", "LHallCarrier$Scene;", true)
  | 4 => ("HallCarrier", "images", "[LHallCarrier$Scene;", true)
  | 5 => ("HallCarrier", "crowd", "LHallCarrier$Crowd;", true)
  | 6 => ("HallCarrier", "orders", "LHallCarrier$Orders;", true)
  | 7 => ("HallCarrier", "ledTo", "[J", true)
  | 8 => ("HallCarrier", "maybe", "J", false)
  | _ => ("HallCarrier", "traced", "J", false)
def tyX4 : Nat → FieldType := fun k => match k with
  | 0 => .array .int
  | 1 => .int
  | 2 => .object "HallCarrier$Hall"
  | 3 => .object "HallCarrier$Scene"
  | 4 => .array (.object "HallCarrier$Scene")
  | 5 => .object "HallCarrier$Crowd"
  | 6 => .object "HallCarrier$Orders"
  | 7 => .array .long
  | 8 => .long
  | _ => .long
theorem nmX4 : ∀ a, a < 10 → ∀ b, b < 10 → a ≠ b → (TX4 a).2.1 ≠ (TX4 b).2.1 := by decide +kernel
theorem tyX4_ok : ∀ k, k < 10 → parseFieldDescriptor (TX4 k).2.2.1 = some (tyX4 k) := by decide +kernel
abbrev cX4_init : ByteArray := prog_1_method_1_code
def yX4_init : MethodName := ⟨RX4, "<init>", "()V"⟩
abbrev cX4_type : ByteArray := prog_1_method_2_code
def yX4_type : MethodName := ⟨RX4, "type", "(JI)I"⟩
abbrev cX4_clear : ByteArray := prog_1_method_3_code
def yX4_clear : MethodName := ⟨RX4, "clear", "()I"⟩
abbrev cX4_hall : ByteArray := prog_1_method_4_code
def yX4_hall : MethodName := ⟨RX4, "hall", "()I"⟩
abbrev cX4_sign : ByteArray := prog_1_method_5_code
def yX4_sign : MethodName := ⟨RX4, "sign", "(I)I"⟩
abbrev cX4_door : ByteArray := prog_1_method_6_code
def yX4_door : MethodName := ⟨RX4, "door", "(II)I"⟩
abbrev cX4_sees : ByteArray := prog_1_method_7_code
def yX4_sees : MethodName := ⟨RX4, "sees", "(I)J"⟩
abbrev cX4_person : ByteArray := prog_1_method_8_code
def yX4_person : MethodName := ⟨RX4, "person", "(II)I"⟩
abbrev cX4_carrier : ByteArray := prog_1_method_9_code
def yX4_carrier : MethodName := ⟨RX4, "carrier", "(II)I"⟩
abbrev cX4_at : ByteArray := prog_1_method_10_code
def yX4_at : MethodName := ⟨RX4, "at", "(II)I"⟩
abbrev cX4_could : ByteArray := prog_1_method_11_code
def yX4_could : MethodName := ⟨RX4, "could", "(II)J"⟩
abbrev cX4_anybody : ByteArray := prog_1_method_12_code
def yX4_anybody : MethodName := ⟨RX4, "anybody", "(II)J"⟩
abbrev cX4_let : ByteArray := prog_1_method_13_code
def yX4_let : MethodName := ⟨RX4, "let", "(I)I"⟩
abbrev cX4_soonest : ByteArray := prog_1_method_14_code
def yX4_soonest : MethodName := ⟨RX4, "soonest", "(III)I"⟩
abbrev cX4_act : ByteArray := prog_1_method_15_code
def yX4_act : MethodName := ⟨RX4, "act", "(II)I"⟩
abbrev cX4_walk : ByteArray := prog_1_method_16_code
def yX4_walk : MethodName := ⟨RX4, "walk", "(II)I"⟩
abbrev cX4_tick : ByteArray := prog_1_method_17_code
def yX4_tick : MethodName := ⟨RX4, "tick", "(I)I"⟩
abbrev cX4_line : ByteArray := prog_1_method_18_code
def yX4_line : MethodName := ⟨RX4, "line", "(II)I"⟩
abbrev cX4_age : ByteArray := prog_1_method_19_code
def yX4_age : MethodName := ⟨RX4, "age", "(II)I"⟩
abbrev cX4_charge : ByteArray := prog_1_method_20_code
def yX4_charge : MethodName := ⟨RX4, "charge", "(II)I"⟩
abbrev cX4_lost : ByteArray := prog_1_method_21_code
def yX4_lost : MethodName := ⟨RX4, "lost", "()I"⟩
abbrev cX4_look : ByteArray := prog_1_method_22_code
def yX4_look : MethodName := ⟨RX4, "look", "(II)I"⟩
abbrev cX4_step : ByteArray := prog_1_method_23_code
def yX4_step : MethodName := ⟨RX4, "step", "(I)I"⟩
abbrev cX4_where : ByteArray := prog_1_method_24_code
def yX4_where : MethodName := ⟨RX4, "where", "()J"⟩
abbrev cX4_tells : ByteArray := prog_1_method_25_code
def yX4_tells : MethodName := ⟨RX4, "tells", "(I)I"⟩
abbrev cX4_order : ByteArray := prog_1_method_26_code
def yX4_order : MethodName := ⟨RX4, "order", "(III)I"⟩
abbrev cX4_late : ByteArray := prog_1_method_27_code
def yX4_late : MethodName := ⟨RX4, "late", "()I"⟩
abbrev cX4_served : ByteArray := prog_1_method_28_code
def yX4_served : MethodName := ⟨RX4, "served", "(II)I"⟩
abbrev cX4_keep : ByteArray := prog_1_method_29_code
def yX4_keep : MethodName := ⟨RX4, "keep", "(I)I"⟩
abbrev cX4_back : ByteArray := prog_1_method_30_code
def yX4_back : MethodName := ⟨RX4, "back", "(I)I"⟩
abbrev cX4_count : ByteArray := prog_1_method_31_code
def yX4_count : MethodName := ⟨RX4, "count", "(I)I"⟩
abbrev cX4_trace : ByteArray := prog_1_method_32_code
def yX4_trace : MethodName := ⟨RX4, "trace", "()J"⟩
abbrev cX4_faultPlace : ByteArray := prog_1_method_33_code
def yX4_faultPlace : MethodName := ⟨RX4, "faultPlace", "()I"⟩
abbrev cX4_isSign : ByteArray := prog_1_method_34_code
def yX4_isSign : MethodName := ⟨RX4, "isSign", "(I)Z"⟩
abbrev cX4_isMark : ByteArray := prog_1_method_35_code
def yX4_isMark : MethodName := ⟨RX4, "isMark", "(I)Z"⟩
abbrev cX4_markOf : ByteArray := prog_1_method_36_code
def yX4_markOf : MethodName := ⟨RX4, "markOf", "(I)I"⟩
abbrev cX4_becomeHall : ByteArray := prog_1_method_37_code
def yX4_becomeHall : MethodName := ⟨RX4, "becomeHall", "()V"⟩
abbrev cX4_isPerson : ByteArray := prog_1_method_38_code
def yX4_isPerson : MethodName := ⟨RX4, "isPerson", "(I)Z"⟩
abbrev cX4_isCarrier : ByteArray := prog_1_method_39_code
def yX4_isCarrier : MethodName := ⟨RX4, "isCarrier", "(I)Z"⟩
abbrev cX4_seenBy : ByteArray := prog_1_method_40_code
def yX4_seenBy : MethodName := ⟨RX4, "seenBy", "(I)J"⟩
abbrev cX4_lookAround : ByteArray := prog_1_method_41_code
def yX4_lookAround : MethodName := ⟨RX4, "lookAround", "(I)V"⟩
abbrev cX4_couldBe : ByteArray := prog_1_method_42_code
def yX4_couldBe : MethodName := ⟨RX4, "couldBe", "(II)J"⟩
abbrev cX4_gatherSeen : ByteArray := prog_1_method_43_code
def yX4_gatherSeen : MethodName := ⟨RX4, "gatherSeen", "(J)V"⟩
abbrev cX4_gatherAnybody : ByteArray := prog_1_method_44_code
def yX4_gatherAnybody : MethodName := ⟨RX4, "gatherAnybody", "(I)V"⟩
abbrev cX4_whyNot : ByteArray := prog_1_method_45_code
def yX4_whyNot : MethodName := ⟨RX4, "whyNot", "(II)I"⟩
abbrev cX4_soonestRow : ByteArray := prog_1_method_46_code
def yX4_soonestRow : MethodName := ⟨RX4, "soonestRow", "(IJI)I"⟩
abbrev cX4_chargeMove : ByteArray := prog_1_method_47_code
def yX4_chargeMove : MethodName := ⟨RX4, "chargeMove", "()I"⟩
abbrev cX4_chargeGo : ByteArray := prog_1_method_48_code
def yX4_chargeGo : MethodName := ⟨RX4, "chargeGo", "(I)I"⟩
abbrev cX4_chargeWait : ByteArray := prog_1_method_49_code
def yX4_chargeWait : MethodName := ⟨RX4, "chargeWait", "(I)I"⟩
abbrev cX4_chargeYield : ByteArray := prog_1_method_50_code
def yX4_chargeYield : MethodName := ⟨RX4, "chargeYield", "(I)I"⟩
abbrev cX4_chargeBack : ByteArray := prog_1_method_51_code
def yX4_chargeBack : MethodName := ⟨RX4, "chargeBack", "(I)I"⟩
abbrev cX4_chargeRide : ByteArray := prog_1_method_52_code
def yX4_chargeRide : MethodName := ⟨RX4, "chargeRide", "(I)I"⟩
abbrev cX4_chargeAsk : ByteArray := prog_1_method_53_code
def yX4_chargeAsk : MethodName := ⟨RX4, "chargeAsk", "(I)I"⟩
abbrev cX4_shifted : ByteArray := prog_1_method_54_code
def yX4_shifted : MethodName := ⟨RX4, "shifted", "(JI)J"⟩
abbrev cX4_widened : ByteArray := prog_1_method_55_code
def yX4_widened : MethodName := ⟨RX4, "widened", "(JJ)J"⟩
abbrev cX4_behind : ByteArray := prog_1_method_56_code
def yX4_behind : MethodName := ⟨RX4, "behind", "(II)J"⟩
def RX5 : String := "HallCarrierModel"
def TX5 : u_T := fun k => match k with
  | 0 => ("HallCarrierModel", "trace", "J", false)
  | 1 => ("HallCarrierModel", "text", "[B", true)
  | 2 => ("HallCarrierModel", "typed", "I", false)
  | 3 => ("HallCarrierModel", "wide", "I", false)
  | 4 => ("HallCarrierModel", "high", "I", false)
  | 5 => ("HallCarrierModel", "sign", "[I", true)
  | 6 => ("HallCarrierModel", "doorAt", "[I", true)
  | 7 => ("HallCarrierModel", "doors", "I", false)
  | 8 => ("HallCarrierModel", "free", "J", false)
  | 9 => ("HallCarrierModel", "lost", "J", false)
  | 10 => ("HallCarrierModel", "rows", "I", false)
  | 11 => ("HallCarrierModel", "columns", "I", false)
  | 12 => ("HallCarrierModel", "people", "I", false)
  | 13 => ("HallCarrierModel", "personAt", "[I", true)
  | 14 => ("HallCarrierModel", "personKind", "[I", true)
  | 15 => ("HallCarrierModel", "carriers", "I", false)
  | 16 => ("HallCarrierModel", "carrierAt", "[I", true)
  | 17 => ("HallCarrierModel", "load", "[I", true)
  | 18 => ("HallCarrierModel", "saw", "[I", true)
  | 19 => ("HallCarrierModel", "tick", "I", false)
  | 20 => ("HallCarrierModel", "lines", "I", false)
  | 21 => ("HallCarrierModel", "line", "[I", true)
  | 22 => ("HallCarrierModel", "open", "[J", true)
  | 23 => ("HallCarrierModel", "there", "[J", true)
  | 24 => ("HallCarrierModel", "isLook", "[Z", true)
  | 25 => ("HallCarrierModel", "orders", "I", false)
  | 26 => ("HallCarrierModel", "orderFrom", "[I", true)
  | 27 => ("HallCarrierModel", "orderTo", "[I", true)
  | 28 => ("HallCarrierModel", "due", "[I", true)
  | 29 => ("HallCarrierModel", "comes", "[I", true)
  | 30 => ("HallCarrierModel", "takes", "[I", true)
  | 31 => ("HallCarrierModel", "row", "[I", true)
  | 32 => ("HallCarrierModel", "bestRow", "[I", true)
  | 33 => ("HallCarrierModel", "bestLong", "[I", true)
  | 34 => ("HallCarrierModel", "rest", "[I", true)
  | 35 => ("HallCarrierModel", "isKept", "[Z", true)
  | 36 => ("HallCarrierModel", "keptPeople", "[I", true)
  | 37 => ("HallCarrierModel", "keptCarriers", "[I", true)
  | 38 => ("HallCarrierModel", "keptTick", "[I", true)
  | _ => ("HallCarrierModel", "keptLines", "[I", true)
def tyX5 : Nat → FieldType := fun k => match k with
  | 0 => .long
  | 1 => .array .byte
  | 2 => .int
  | 3 => .int
  | 4 => .int
  | 5 => .array .int
  | 6 => .array .int
  | 7 => .int
  | 8 => .long
  | 9 => .long
  | 10 => .int
  | 11 => .int
  | 12 => .int
  | 13 => .array .int
  | 14 => .array .int
  | 15 => .int
  | 16 => .array .int
  | 17 => .array .int
  | 18 => .array .int
  | 19 => .int
  | 20 => .int
  | 21 => .array .int
  | 22 => .array .long
  | 23 => .array .long
  | 24 => .array .boolean
  | 25 => .int
  | 26 => .array .int
  | 27 => .array .int
  | 28 => .array .int
  | 29 => .array .int
  | 30 => .array .int
  | 31 => .array .int
  | 32 => .array .int
  | 33 => .array .int
  | 34 => .array .int
  | 35 => .array .boolean
  | 36 => .array .int
  | 37 => .array .int
  | 38 => .array .int
  | _ => .array .int
theorem nmX5 : ∀ a, a < 40 → ∀ b, b < 40 → a ≠ b → (TX5 a).2.1 ≠ (TX5 b).2.1 := by decide +kernel
theorem tyX5_ok : ∀ k, k < 40 → parseFieldDescriptor (TX5 k).2.2.1 = some (tyX5 k) := by decide +kernel
abbrev cX5_init : ByteArray := prog_7_method_1_code
def yX5_init : MethodName := ⟨RX5, "<init>", "()V"⟩
abbrev cX5_in : ByteArray := prog_7_method_3_code
def yX5_in : MethodName := ⟨RX5, "in", "(III)Z"⟩
abbrev cX5_type : ByteArray := prog_7_method_4_code
def yX5_type : MethodName := ⟨RX5, "type", "(JI)I"⟩
abbrev cX5_clear : ByteArray := prog_7_method_5_code
def yX5_clear : MethodName := ⟨RX5, "clear", "()I"⟩
abbrev cX5_fault : ByteArray := prog_7_method_6_code
def yX5_fault : MethodName := ⟨RX5, "fault", "()I"⟩
abbrev cX5_hall : ByteArray := prog_7_method_7_code
def yX5_hall : MethodName := ⟨RX5, "hall", "()I"⟩
abbrev cX5_isCell : ByteArray := prog_7_method_8_code
def yX5_isCell : MethodName := ⟨RX5, "isCell", "(I)Z"⟩
abbrev cX5_sign : ByteArray := prog_7_method_9_code
def yX5_sign : MethodName := ⟨RX5, "sign", "(I)I"⟩
abbrev cX5_isFree : ByteArray := prog_7_method_10_code
def yX5_isFree : MethodName := ⟨RX5, "isFree", "(I)Z"⟩
abbrev cX5_beside : ByteArray := prog_7_method_11_code
def yX5_beside : MethodName := ⟨RX5, "beside", "(II)I"⟩
abbrev cX5_isEnd : ByteArray := prog_7_method_12_code
def yX5_isEnd : MethodName := ⟨RX5, "isEnd", "(I)Z"⟩
abbrev cX5_door : ByteArray := prog_7_method_13_code
def yX5_door : MethodName := ⟨RX5, "door", "(II)I"⟩
abbrev cX5_seenFrom : ByteArray := prog_7_method_14_code
def yX5_seenFrom : MethodName := ⟨RX5, "seenFrom", "(I)J"⟩
abbrev cX5_sees : ByteArray := prog_7_method_15_code
def yX5_sees : MethodName := ⟨RX5, "sees", "(I)J"⟩
abbrev cX5_lookAbout : ByteArray := prog_7_method_16_code
def yX5_lookAbout : MethodName := ⟨RX5, "lookAbout", "(I)V"⟩
abbrev cX5_person : ByteArray := prog_7_method_17_code
def yX5_person : MethodName := ⟨RX5, "person", "(II)I"⟩
abbrev cX5_carrierOn : ByteArray := prog_7_method_18_code
def yX5_carrierOn : MethodName := ⟨RX5, "carrierOn", "(I)I"⟩
abbrev cX5_carrier : ByteArray := prog_7_method_19_code
def yX5_carrier : MethodName := ⟨RX5, "carrier", "(II)I"⟩
abbrev cX5_isPerson : ByteArray := prog_7_method_20_code
def yX5_isPerson : MethodName := ⟨RX5, "isPerson", "(I)Z"⟩
abbrev cX5_isCarrier : ByteArray := prog_7_method_21_code
def yX5_isCarrier : MethodName := ⟨RX5, "isCarrier", "(I)Z"⟩
abbrev cX5_at : ByteArray := prog_7_method_22_code
def yX5_at : MethodName := ⟨RX5, "at", "(II)I"⟩
abbrev cX5_spread : ByteArray := prog_7_method_23_code
def yX5_spread : MethodName := ⟨RX5, "spread", "(J)J"⟩
abbrev cX5_apart : ByteArray := prog_7_method_24_code
def yX5_apart : MethodName := ⟨RX5, "apart", "(II)I"⟩
abbrev cX5_close : ByteArray := prog_7_method_25_code
def yX5_close : MethodName := ⟨RX5, "close", "(J)J"⟩
abbrev cX5_couldBe : ByteArray := prog_7_method_26_code
def yX5_couldBe : MethodName := ⟨RX5, "couldBe", "(IJI)J"⟩
abbrev cX5_could : ByteArray := prog_7_method_27_code
def yX5_could : MethodName := ⟨RX5, "could", "(II)J"⟩
abbrev cX5_seenCould : ByteArray := prog_7_method_28_code
def yX5_seenCould : MethodName := ⟨RX5, "seenCould", "(II)J"⟩
abbrev cX5_unseenCould : ByteArray := prog_7_method_29_code
def yX5_unseenCould : MethodName := ⟨RX5, "unseenCould", "(II)J"⟩
abbrev cX5_anybody : ByteArray := prog_7_method_30_code
def yX5_anybody : MethodName := ⟨RX5, "anybody", "(II)J"⟩
abbrev cX5_why : ByteArray := prog_7_method_31_code
def yX5_why : MethodName := ⟨RX5, "why", "(II)I"⟩
abbrev cX5_let : ByteArray := prog_7_method_32_code
def yX5_let : MethodName := ⟨RX5, "let", "(I)I"⟩
abbrev cX5_goOn : ByteArray := prog_7_method_33_code
def yX5_goOn : MethodName := ⟨RX5, "goOn", "(JI)J"⟩
abbrev cX5_soonest : ByteArray := prog_7_method_34_code
def yX5_soonest : MethodName := ⟨RX5, "soonest", "(III)I"⟩
abbrev cX5_act : ByteArray := prog_7_method_35_code
def yX5_act : MethodName := ⟨RX5, "act", "(II)I"⟩
abbrev cX5_walk : ByteArray := prog_7_method_36_code
def yX5_walk : MethodName := ⟨RX5, "walk", "(II)I"⟩
abbrev cX5_tick : ByteArray := prog_7_method_37_code
def yX5_tick : MethodName := ⟨RX5, "tick", "(I)I"⟩
abbrev cX5_line : ByteArray := prog_7_method_38_code
def yX5_line : MethodName := ⟨RX5, "line", "(II)I"⟩
abbrev cX5_age : ByteArray := prog_7_method_39_code
def yX5_age : MethodName := ⟨RX5, "age", "(II)I"⟩
abbrev cX5_charge : ByteArray := prog_7_method_40_code
def yX5_charge : MethodName := ⟨RX5, "charge", "(II)I"⟩
abbrev cX5_bitsIn : ByteArray := prog_7_method_41_code
def yX5_bitsIn : MethodName := ⟨RX5, "bitsIn", "(J)I"⟩
abbrev cX5_lost : ByteArray := prog_7_method_42_code
def yX5_lost : MethodName := ⟨RX5, "lost", "()I"⟩
abbrev cX5_looks : ByteArray := prog_7_method_43_code
def yX5_looks : MethodName := ⟨RX5, "looks", "(I)I"⟩
abbrev cX5_look : ByteArray := prog_7_method_44_code
def yX5_look : MethodName := ⟨RX5, "look", "(II)I"⟩
abbrev cX5_stepped : ByteArray := prog_7_method_45_code
def yX5_stepped : MethodName := ⟨RX5, "stepped", "(I)J"⟩
abbrev cX5_step : ByteArray := prog_7_method_46_code
def yX5_step : MethodName := ⟨RX5, "step", "(I)I"⟩
abbrev cX5_where : ByteArray := prog_7_method_47_code
def yX5_where : MethodName := ⟨RX5, "where", "()J"⟩
abbrev cX5_unlikeLooks : ByteArray := prog_7_method_48_code
def yX5_unlikeLooks : MethodName := ⟨RX5, "unlikeLooks", "(J)I"⟩
abbrev cX5_tells : ByteArray := prog_7_method_49_code
def yX5_tells : MethodName := ⟨RX5, "tells", "(I)I"⟩
abbrev cX5_order : ByteArray := prog_7_method_50_code
def yX5_order : MethodName := ⟨RX5, "order", "(III)I"⟩
abbrev cX5_steps : ByteArray := prog_7_method_51_code
def yX5_steps : MethodName := ⟨RX5, "steps", "(II)I"⟩
abbrev cX5_measure : ByteArray := prog_7_method_52_code
def yX5_measure : MethodName := ⟨RX5, "measure", "()Z"⟩
abbrev cX5_rowsOf : ByteArray := prog_7_method_53_code
def yX5_rowsOf : MethodName := ⟨RX5, "rowsOf", "(I)I"⟩
abbrev cX5_tellRow : ByteArray := prog_7_method_54_code
def yX5_tellRow : MethodName := ⟨RX5, "tellRow", "(II)I"⟩
abbrev cX5_lateOf : ByteArray := prog_7_method_55_code
def yX5_lateOf : MethodName := ⟨RX5, "lateOf", "(II)I"⟩
abbrev cX5_leastOf : ByteArray := prog_7_method_56_code
def yX5_leastOf : MethodName := ⟨RX5, "leastOf", "(IIZ)I"⟩
abbrev cX5_findLate : ByteArray := prog_7_method_57_code
def yX5_findLate : MethodName := ⟨RX5, "findLate", "()I"⟩
abbrev cX5_late : ByteArray := prog_7_method_58_code
def yX5_late : MethodName := ⟨RX5, "late", "()I"⟩
abbrev cX5_served : ByteArray := prog_7_method_59_code
def yX5_served : MethodName := ⟨RX5, "served", "(II)I"⟩
abbrev cX5_move : ByteArray := prog_7_method_60_code
def yX5_move : MethodName := ⟨RX5, "move", "([IIII)V"⟩
abbrev cX5_moveAll : ByteArray := prog_7_method_61_code
def yX5_moveAll : MethodName := ⟨RX5, "moveAll", "(II)V"⟩
abbrev cX5_keep : ByteArray := prog_7_method_62_code
def yX5_keep : MethodName := ⟨RX5, "keep", "(I)I"⟩
abbrev cX5_back : ByteArray := prog_7_method_63_code
def yX5_back : MethodName := ⟨RX5, "back", "(I)I"⟩
abbrev cX5_count : ByteArray := prog_7_method_64_code
def yX5_count : MethodName := ⟨RX5, "count", "(I)I"⟩
abbrev cX5_trace : ByteArray := prog_7_method_65_code
def yX5_trace : MethodName := ⟨RX5, "trace", "()J"⟩
def RJ13 : String := "java/lang/Long"
def TJ13 : u_T := fun k => match k with
  | _ => ("", "", "", false)
def tyJ13 : Nat → FieldType := fun k => match k with
  | _ => .int
theorem nmJ13 : ∀ a, a < 0 → ∀ b, b < 0 → a ≠ b → (TJ13 a).2.1 ≠ (TJ13 b).2.1 := by decide +kernel
theorem tyJ13_ok : ∀ k, k < 0 → parseFieldDescriptor (TJ13 k).2.2.1 = some (tyJ13 k) := by decide +kernel
abbrev cJ13_bitCount_95d88 : ByteArray := prog_8_method_50_code
def yJ13_bitCount_95d88 : MethodName := ⟨RJ13, "bitCount", "(J)I"⟩
def RJ9 : String := "java/lang/Math"
def TJ9 : u_T := fun k => match k with
  | _ => ("", "", "", false)
def tyJ9 : Nat → FieldType := fun k => match k with
  | _ => .int
theorem nmJ9 : ∀ a, a < 0 → ∀ b, b < 0 → a ≠ b → (TJ9 a).2.1 ≠ (TJ9 b).2.1 := by decide +kernel
theorem tyJ9_ok : ∀ k, k < 0 → parseFieldDescriptor (TJ9 k).2.2.1 = some (tyJ9 k) := by decide +kernel
abbrev cJ9_max_7cf53 : ByteArray := prog_9_method_65_code
def yJ9_max_7cf53 : MethodName := ⟨RJ9, "max", "(II)I"⟩
def RJ10 : String := "java/lang/System"
def TJ10 : u_T := fun k => match k with
  | _ => ("", "", "", false)
def tyJ10 : Nat → FieldType := fun k => match k with
  | _ => .int
theorem nmJ10 : ∀ a, a < 0 → ∀ b, b < 0 → a ≠ b → (TJ10 a).2.1 ≠ (TJ10 b).2.1 := by decide +kernel
theorem tyJ10_ok : ∀ k, k < 0 → parseFieldDescriptor (TJ10 k).2.2.1 = some (tyJ10 k) := by decide +kernel
def RJ7 : String := "java/util/Arrays"
def TJ7 : u_T := fun k => match k with
  | _ => ("", "", "", false)
def tyJ7 : Nat → FieldType := fun k => match k with
  | _ => .int
theorem nmJ7 : ∀ a, a < 0 → ∀ b, b < 0 → a ≠ b → (TJ7 a).2.1 ≠ (TJ7 b).2.1 := by decide +kernel
theorem tyJ7_ok : ∀ k, k < 0 → parseFieldDescriptor (TJ7 k).2.2.1 = some (tyJ7 k) := by decide +kernel
abbrev cJ7_fill_d0a16 : ByteArray := prog_11_method_101_code
def yJ7_fill_d0a16 : MethodName := ⟨RJ7, "fill", "([JJ)V"⟩
abbrev cJ7_fill_53178 : ByteArray := prog_11_method_103_code
def yJ7_fill_53178 : MethodName := ⟨RJ7, "fill", "([II)V"⟩
def RL : String := "HallCarrierLaw"
abbrev cL_law : ByteArray := code
def yL_law : MethodName := ⟨RL, "law", "([I)Z"⟩
abbrev vwCl : List vw_C := [(RX0, TX0, 5), (RX1, TX1, 6), (RX2, TX2, 11), (RX3, TX3, 11), (RX4, TX4, 10), (RX5, TX5, 40)]
