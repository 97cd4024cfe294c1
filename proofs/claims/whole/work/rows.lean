section
-- ===== PART A: goes FIRST, ahead of the names: the tables' words, and 'selects' of the private methods out of them =====
/-- a private method of a class that the tables say can be made, by its rows of tables_1 -/
def lw_okq (q : MethodName × Nat) : Prop := (q.1.cls ≠ "java/lang/invoke/MethodHandle" ∧ q.1.cls ≠ "java/lang/invoke/VarHandle") ∧ Cond.instantiable q.1.cls q.2 ∈ tables_1 ∧ Cond.privateMethod q.1 ∈ tables_1 ∧ Cond.instanceMethod q.1 ∈ tables_1
theorem lw_p0 : lw_okq (⟨"HallCarrier", "becomeHall", "()V"⟩, 10) := ⟨⟨by decide +kernel, by decide +kernel⟩, List.mem_of_getElem? (i := 12) (by decide +kernel), List.mem_of_getElem? (i := 179) (by decide +kernel), List.mem_of_getElem? (i := 180) (by decide +kernel)⟩
theorem lw_p1 : lw_okq (⟨"HallCarrier$Hall", "empty", "()V"⟩, 6) := ⟨⟨by decide +kernel, by decide +kernel⟩, List.mem_of_getElem? (i := 20) (by decide +kernel), List.mem_of_getElem? (i := 183) (by decide +kernel), List.mem_of_getElem? (i := 184) (by decide +kernel)⟩
theorem lw_p2 : lw_okq (⟨"HallCarrier$Hall", "put", "(III)V"⟩, 6) := ⟨⟨by decide +kernel, by decide +kernel⟩, List.mem_of_getElem? (i := 20) (by decide +kernel), List.mem_of_getElem? (i := 190) (by decide +kernel), List.mem_of_getElem? (i := 191) (by decide +kernel)⟩
theorem lw_p3 : lw_okq (⟨"HallCarrier$Scene", "empty", "()V"⟩, 11) := ⟨⟨by decide +kernel, by decide +kernel⟩, List.mem_of_getElem? (i := 53) (by decide +kernel), List.mem_of_getElem? (i := 197) (by decide +kernel), List.mem_of_getElem? (i := 198) (by decide +kernel)⟩
theorem lw_p4 : lw_okq (⟨"HallCarrier$Orders", "empty", "()V"⟩, 11) := ⟨⟨by decide +kernel, by decide +kernel⟩, List.mem_of_getElem? (i := 131) (by decide +kernel), List.mem_of_getElem? (i := 201) (by decide +kernel), List.mem_of_getElem? (i := 202) (by decide +kernel)⟩
theorem lw_p5 : lw_okq (⟨"HallCarrier", "faultPlace", "()I"⟩, 10) := ⟨⟨by decide +kernel, by decide +kernel⟩, List.mem_of_getElem? (i := 12) (by decide +kernel), List.mem_of_getElem? (i := 245) (by decide +kernel), List.mem_of_getElem? (i := 246) (by decide +kernel)⟩
theorem lw_p6 : lw_okq (⟨"HallCarrier$Hall", "has", "(I)Z"⟩, 6) := ⟨⟨by decide +kernel, by decide +kernel⟩, List.mem_of_getElem? (i := 20) (by decide +kernel), List.mem_of_getElem? (i := 266) (by decide +kernel), List.mem_of_getElem? (i := 267) (by decide +kernel)⟩
theorem lw_p7 : lw_okq (⟨"HallCarrier$Scene", "taken", "()J"⟩, 11) := ⟨⟨by decide +kernel, by decide +kernel⟩, List.mem_of_getElem? (i := 53) (by decide +kernel), List.mem_of_getElem? (i := 274) (by decide +kernel), List.mem_of_getElem? (i := 275) (by decide +kernel)⟩
theorem lw_p8 : lw_okq (⟨"HallCarrier$Scene", "carriersTaken", "()J"⟩, 11) := ⟨⟨by decide +kernel, by decide +kernel⟩, List.mem_of_getElem? (i := 53) (by decide +kernel), List.mem_of_getElem? (i := 278) (by decide +kernel), List.mem_of_getElem? (i := 279) (by decide +kernel)⟩
theorem lw_p9 : lw_okq (⟨"HallCarrier$Orders", "ends", "()J"⟩, 11) := ⟨⟨by decide +kernel, by decide +kernel⟩, List.mem_of_getElem? (i := 131) (by decide +kernel), List.mem_of_getElem? (i := 282) (by decide +kernel), List.mem_of_getElem? (i := 283) (by decide +kernel)⟩
theorem lw_p10 : lw_okq (⟨"HallCarrier$Orders", "forgetPlan", "()V"⟩, 11) := ⟨⟨by decide +kernel, by decide +kernel⟩, List.mem_of_getElem? (i := 131) (by decide +kernel), List.mem_of_getElem? (i := 287) (by decide +kernel), List.mem_of_getElem? (i := 288) (by decide +kernel)⟩
theorem lw_p11 : lw_okq (⟨"HallCarrier$Hall", "seenFrom", "(I)J"⟩, 6) := ⟨⟨by decide +kernel, by decide +kernel⟩, List.mem_of_getElem? (i := 20) (by decide +kernel), List.mem_of_getElem? (i := 295) (by decide +kernel), List.mem_of_getElem? (i := 296) (by decide +kernel)⟩
theorem lw_p12 : lw_okq (⟨"HallCarrier$Hall", "isFree", "(I)Z"⟩, 6) := ⟨⟨by decide +kernel, by decide +kernel⟩, List.mem_of_getElem? (i := 20) (by decide +kernel), List.mem_of_getElem? (i := 308) (by decide +kernel), List.mem_of_getElem? (i := 309) (by decide +kernel)⟩
theorem lw_p13 : lw_okq (⟨"HallCarrier$Scene", "addPerson", "(II)I"⟩, 11) := ⟨⟨by decide +kernel, by decide +kernel⟩, List.mem_of_getElem? (i := 53) (by decide +kernel), List.mem_of_getElem? (i := 312) (by decide +kernel), List.mem_of_getElem? (i := 313) (by decide +kernel)⟩
theorem lw_p14 : lw_okq (⟨"HallCarrier$Scene", "addCarrier", "(II)I"⟩, 11) := ⟨⟨by decide +kernel, by decide +kernel⟩, List.mem_of_getElem? (i := 53) (by decide +kernel), List.mem_of_getElem? (i := 321) (by decide +kernel), List.mem_of_getElem? (i := 322) (by decide +kernel)⟩
theorem lw_p15 : lw_okq (⟨"HallCarrier", "lookAround", "(I)V"⟩, 10) := ⟨⟨by decide +kernel, by decide +kernel⟩, List.mem_of_getElem? (i := 12) (by decide +kernel), List.mem_of_getElem? (i := 325) (by decide +kernel), List.mem_of_getElem? (i := 326) (by decide +kernel)⟩
def lw_privs_1 : List (MethodName × Nat) := [(⟨"HallCarrier", "becomeHall", "()V"⟩, 10), (⟨"HallCarrier$Hall", "empty", "()V"⟩, 6), (⟨"HallCarrier$Hall", "put", "(III)V"⟩, 6), (⟨"HallCarrier$Scene", "empty", "()V"⟩, 11), (⟨"HallCarrier$Orders", "empty", "()V"⟩, 11), (⟨"HallCarrier", "faultPlace", "()I"⟩, 10), (⟨"HallCarrier$Hall", "has", "(I)Z"⟩, 6), (⟨"HallCarrier$Scene", "taken", "()J"⟩, 11), (⟨"HallCarrier$Scene", "carriersTaken", "()J"⟩, 11), (⟨"HallCarrier$Orders", "ends", "()J"⟩, 11), (⟨"HallCarrier$Orders", "forgetPlan", "()V"⟩, 11), (⟨"HallCarrier$Hall", "seenFrom", "(I)J"⟩, 6), (⟨"HallCarrier$Hall", "isFree", "(I)Z"⟩, 6), (⟨"HallCarrier$Scene", "addPerson", "(II)I"⟩, 11), (⟨"HallCarrier$Scene", "addCarrier", "(II)I"⟩, 11), (⟨"HallCarrier", "lookAround", "(I)V"⟩, 10)]
theorem lw_r1 : ∀ q ∈ lw_privs_1, lw_okq q := List.forall_mem_cons.mpr ⟨lw_p0, List.forall_mem_cons.mpr ⟨lw_p1, List.forall_mem_cons.mpr ⟨lw_p2, List.forall_mem_cons.mpr ⟨lw_p3, List.forall_mem_cons.mpr ⟨lw_p4, List.forall_mem_cons.mpr ⟨lw_p5, List.forall_mem_cons.mpr ⟨lw_p6, List.forall_mem_cons.mpr ⟨lw_p7, List.forall_mem_cons.mpr ⟨lw_p8, List.forall_mem_cons.mpr ⟨lw_p9, List.forall_mem_cons.mpr ⟨lw_p10, List.forall_mem_cons.mpr ⟨lw_p11, List.forall_mem_cons.mpr ⟨lw_p12, List.forall_mem_cons.mpr ⟨lw_p13, List.forall_mem_cons.mpr ⟨lw_p14, List.forall_mem_cons.mpr ⟨lw_p15, fun _ h => absurd h List.not_mem_nil⟩⟩⟩⟩⟩⟩⟩⟩⟩⟩⟩⟩⟩⟩⟩⟩
theorem lw_p16 : lw_okq (⟨"HallCarrier", "seenBy", "(I)J"⟩, 10) := ⟨⟨by decide +kernel, by decide +kernel⟩, List.mem_of_getElem? (i := 12) (by decide +kernel), List.mem_of_getElem? (i := 329) (by decide +kernel), List.mem_of_getElem? (i := 330) (by decide +kernel)⟩
theorem lw_p17 : lw_okq (⟨"HallCarrier", "isPerson", "(I)Z"⟩, 10) := ⟨⟨by decide +kernel, by decide +kernel⟩, List.mem_of_getElem? (i := 12) (by decide +kernel), List.mem_of_getElem? (i := 337) (by decide +kernel), List.mem_of_getElem? (i := 338) (by decide +kernel)⟩
theorem lw_p18 : lw_okq (⟨"HallCarrier", "isCarrier", "(I)Z"⟩, 10) := ⟨⟨by decide +kernel, by decide +kernel⟩, List.mem_of_getElem? (i := 12) (by decide +kernel), List.mem_of_getElem? (i := 341) (by decide +kernel), List.mem_of_getElem? (i := 342) (by decide +kernel)⟩
theorem lw_p19 : lw_okq (⟨"HallCarrier", "couldBe", "(II)J"⟩, 10) := ⟨⟨by decide +kernel, by decide +kernel⟩, List.mem_of_getElem? (i := 12) (by decide +kernel), List.mem_of_getElem? (i := 349) (by decide +kernel), List.mem_of_getElem? (i := 350) (by decide +kernel)⟩
theorem lw_p20 : lw_okq (⟨"HallCarrier$Crowd", "empty", "(LHallCarrier$Scene;)V"⟩, 5) := ⟨⟨by decide +kernel, by decide +kernel⟩, List.mem_of_getElem? (i := 109) (by decide +kernel), List.mem_of_getElem? (i := 353) (by decide +kernel), List.mem_of_getElem? (i := 354) (by decide +kernel)⟩
theorem lw_p21 : lw_okq (⟨"HallCarrier$Crowd", "join", "(IJ)V"⟩, 5) := ⟨⟨by decide +kernel, by decide +kernel⟩, List.mem_of_getElem? (i := 109) (by decide +kernel), List.mem_of_getElem? (i := 361) (by decide +kernel), List.mem_of_getElem? (i := 362) (by decide +kernel)⟩
theorem lw_p22 : lw_okq (⟨"HallCarrier$Crowd", "afterTicks", "(IJ)J"⟩, 5) := ⟨⟨by decide +kernel, by decide +kernel⟩, List.mem_of_getElem? (i := 109) (by decide +kernel), List.mem_of_getElem? (i := 365) (by decide +kernel), List.mem_of_getElem? (i := 366) (by decide +kernel)⟩
theorem lw_p23 : lw_okq (⟨"HallCarrier$Crowd", "nearer", "(J)J"⟩, 5) := ⟨⟨by decide +kernel, by decide +kernel⟩, List.mem_of_getElem? (i := 109) (by decide +kernel), List.mem_of_getElem? (i := 372) (by decide +kernel), List.mem_of_getElem? (i := 373) (by decide +kernel)⟩
theorem lw_p24 : lw_okq (⟨"HallCarrier", "gatherAnybody", "(I)V"⟩, 10) := ⟨⟨by decide +kernel, by decide +kernel⟩, List.mem_of_getElem? (i := 12) (by decide +kernel), List.mem_of_getElem? (i := 381) (by decide +kernel), List.mem_of_getElem? (i := 382) (by decide +kernel)⟩
theorem lw_p25 : lw_okq (⟨"HallCarrier", "gatherSeen", "(J)V"⟩, 10) := ⟨⟨by decide +kernel, by decide +kernel⟩, List.mem_of_getElem? (i := 12) (by decide +kernel), List.mem_of_getElem? (i := 385) (by decide +kernel), List.mem_of_getElem? (i := 386) (by decide +kernel)⟩
theorem lw_p26 : lw_okq (⟨"HallCarrier", "whyNot", "(II)I"⟩, 10) := ⟨⟨by decide +kernel, by decide +kernel⟩, List.mem_of_getElem? (i := 12) (by decide +kernel), List.mem_of_getElem? (i := 393) (by decide +kernel), List.mem_of_getElem? (i := 394) (by decide +kernel)⟩
theorem lw_p27 : lw_okq (⟨"HallCarrier", "soonestRow", "(IJI)I"⟩, 10) := ⟨⟨by decide +kernel, by decide +kernel⟩, List.mem_of_getElem? (i := 12) (by decide +kernel), List.mem_of_getElem? (i := 402) (by decide +kernel), List.mem_of_getElem? (i := 403) (by decide +kernel)⟩
theorem lw_p28 : lw_okq (⟨"HallCarrier$Scene", "addLine", "(III)V"⟩, 11) := ⟨⟨by decide +kernel, by decide +kernel⟩, List.mem_of_getElem? (i := 53) (by decide +kernel), List.mem_of_getElem? (i := 413) (by decide +kernel), List.mem_of_getElem? (i := 414) (by decide +kernel)⟩
theorem lw_p29 : lw_okq (⟨"HallCarrier", "chargeMove", "()I"⟩, 10) := ⟨⟨by decide +kernel, by decide +kernel⟩, List.mem_of_getElem? (i := 12) (by decide +kernel), List.mem_of_getElem? (i := 437) (by decide +kernel), List.mem_of_getElem? (i := 438) (by decide +kernel)⟩
theorem lw_p30 : lw_okq (⟨"HallCarrier", "chargeGo", "(I)I"⟩, 10) := ⟨⟨by decide +kernel, by decide +kernel⟩, List.mem_of_getElem? (i := 12) (by decide +kernel), List.mem_of_getElem? (i := 441) (by decide +kernel), List.mem_of_getElem? (i := 442) (by decide +kernel)⟩
theorem lw_p31 : lw_okq (⟨"HallCarrier", "chargeWait", "(I)I"⟩, 10) := ⟨⟨by decide +kernel, by decide +kernel⟩, List.mem_of_getElem? (i := 12) (by decide +kernel), List.mem_of_getElem? (i := 446) (by decide +kernel), List.mem_of_getElem? (i := 447) (by decide +kernel)⟩
def lw_privs_2 : List (MethodName × Nat) := [(⟨"HallCarrier", "seenBy", "(I)J"⟩, 10), (⟨"HallCarrier", "isPerson", "(I)Z"⟩, 10), (⟨"HallCarrier", "isCarrier", "(I)Z"⟩, 10), (⟨"HallCarrier", "couldBe", "(II)J"⟩, 10), (⟨"HallCarrier$Crowd", "empty", "(LHallCarrier$Scene;)V"⟩, 5), (⟨"HallCarrier$Crowd", "join", "(IJ)V"⟩, 5), (⟨"HallCarrier$Crowd", "afterTicks", "(IJ)J"⟩, 5), (⟨"HallCarrier$Crowd", "nearer", "(J)J"⟩, 5), (⟨"HallCarrier", "gatherAnybody", "(I)V"⟩, 10), (⟨"HallCarrier", "gatherSeen", "(J)V"⟩, 10), (⟨"HallCarrier", "whyNot", "(II)I"⟩, 10), (⟨"HallCarrier", "soonestRow", "(IJI)I"⟩, 10), (⟨"HallCarrier$Scene", "addLine", "(III)V"⟩, 11), (⟨"HallCarrier", "chargeMove", "()I"⟩, 10), (⟨"HallCarrier", "chargeGo", "(I)I"⟩, 10), (⟨"HallCarrier", "chargeWait", "(I)I"⟩, 10)]
theorem lw_r2 : ∀ q ∈ lw_privs_2, lw_okq q := List.forall_mem_cons.mpr ⟨lw_p16, List.forall_mem_cons.mpr ⟨lw_p17, List.forall_mem_cons.mpr ⟨lw_p18, List.forall_mem_cons.mpr ⟨lw_p19, List.forall_mem_cons.mpr ⟨lw_p20, List.forall_mem_cons.mpr ⟨lw_p21, List.forall_mem_cons.mpr ⟨lw_p22, List.forall_mem_cons.mpr ⟨lw_p23, List.forall_mem_cons.mpr ⟨lw_p24, List.forall_mem_cons.mpr ⟨lw_p25, List.forall_mem_cons.mpr ⟨lw_p26, List.forall_mem_cons.mpr ⟨lw_p27, List.forall_mem_cons.mpr ⟨lw_p28, List.forall_mem_cons.mpr ⟨lw_p29, List.forall_mem_cons.mpr ⟨lw_p30, List.forall_mem_cons.mpr ⟨lw_p31, fun _ h => absurd h List.not_mem_nil⟩⟩⟩⟩⟩⟩⟩⟩⟩⟩⟩⟩⟩⟩⟩⟩
theorem lw_p32 : lw_okq (⟨"HallCarrier", "chargeYield", "(I)I"⟩, 10) := ⟨⟨by decide +kernel, by decide +kernel⟩, List.mem_of_getElem? (i := 12) (by decide +kernel), List.mem_of_getElem? (i := 451) (by decide +kernel), List.mem_of_getElem? (i := 452) (by decide +kernel)⟩
theorem lw_p33 : lw_okq (⟨"HallCarrier", "chargeBack", "(I)I"⟩, 10) := ⟨⟨by decide +kernel, by decide +kernel⟩, List.mem_of_getElem? (i := 12) (by decide +kernel), List.mem_of_getElem? (i := 456) (by decide +kernel), List.mem_of_getElem? (i := 457) (by decide +kernel)⟩
theorem lw_p34 : lw_okq (⟨"HallCarrier", "chargeRide", "(I)I"⟩, 10) := ⟨⟨by decide +kernel, by decide +kernel⟩, List.mem_of_getElem? (i := 12) (by decide +kernel), List.mem_of_getElem? (i := 461) (by decide +kernel), List.mem_of_getElem? (i := 462) (by decide +kernel)⟩
theorem lw_p35 : lw_okq (⟨"HallCarrier", "chargeAsk", "(I)I"⟩, 10) := ⟨⟨by decide +kernel, by decide +kernel⟩, List.mem_of_getElem? (i := 12) (by decide +kernel), List.mem_of_getElem? (i := 466) (by decide +kernel), List.mem_of_getElem? (i := 467) (by decide +kernel)⟩
theorem lw_p36 : lw_okq (⟨"HallCarrier$Hall", "looksLike", "(I)J"⟩, 6) := ⟨⟨by decide +kernel, by decide +kernel⟩, List.mem_of_getElem? (i := 20) (by decide +kernel), List.mem_of_getElem? (i := 479) (by decide +kernel), List.mem_of_getElem? (i := 480) (by decide +kernel)⟩
theorem lw_p37 : lw_okq (⟨"HallCarrier$Hall", "canStep", "(I)J"⟩, 6) := ⟨⟨by decide +kernel, by decide +kernel⟩, List.mem_of_getElem? (i := 20) (by decide +kernel), List.mem_of_getElem? (i := 483) (by decide +kernel), List.mem_of_getElem? (i := 484) (by decide +kernel)⟩
theorem lw_p38 : lw_okq (⟨"HallCarrier$Hall", "stepped", "(JI)J"⟩, 6) := ⟨⟨by decide +kernel, by decide +kernel⟩, List.mem_of_getElem? (i := 20) (by decide +kernel), List.mem_of_getElem? (i := 492) (by decide +kernel), List.mem_of_getElem? (i := 493) (by decide +kernel)⟩
theorem lw_p39 : lw_okq (⟨"HallCarrier$Hall", "unlikeLooks", "(J)I"⟩, 6) := ⟨⟨by decide +kernel, by decide +kernel⟩, List.mem_of_getElem? (i := 20) (by decide +kernel), List.mem_of_getElem? (i := 504) (by decide +kernel), List.mem_of_getElem? (i := 505) (by decide +kernel)⟩
theorem lw_p40 : lw_okq (⟨"HallCarrier$Orders", "add", "(III)I"⟩, 11) := ⟨⟨by decide +kernel, by decide +kernel⟩, List.mem_of_getElem? (i := 131) (by decide +kernel), List.mem_of_getElem? (i := 514) (by decide +kernel), List.mem_of_getElem? (i := 515) (by decide +kernel)⟩
theorem lw_p41 : lw_okq (⟨"HallCarrier$Orders", "makePlan", "(JLHallCarrier$Scene;)V"⟩, 11) := ⟨⟨by decide +kernel, by decide +kernel⟩, List.mem_of_getElem? (i := 131) (by decide +kernel), List.mem_of_getElem? (i := 522) (by decide +kernel), List.mem_of_getElem? (i := 523) (by decide +kernel)⟩
theorem lw_p42 : lw_okq (⟨"HallCarrier$Orders", "measure", "(JLHallCarrier$Scene;)Z"⟩, 11) := ⟨⟨by decide +kernel, by decide +kernel⟩, List.mem_of_getElem? (i := 131) (by decide +kernel), List.mem_of_getElem? (i := 526) (by decide +kernel), List.mem_of_getElem? (i := 527) (by decide +kernel)⟩
theorem lw_p43 : lw_okq (⟨"HallCarrier$Orders", "measureFrom", "(IIJ)V"⟩, 11) := ⟨⟨by decide +kernel, by decide +kernel⟩, List.mem_of_getElem? (i := 131) (by decide +kernel), List.mem_of_getElem? (i := 530) (by decide +kernel), List.mem_of_getElem? (i := 531) (by decide +kernel)⟩
theorem lw_p44 : lw_okq (⟨"HallCarrier$Orders", "tryRows", "(IIIIIII)V"⟩, 11) := ⟨⟨by decide +kernel, by decide +kernel⟩, List.mem_of_getElem? (i := 131) (by decide +kernel), List.mem_of_getElem? (i := 540) (by decide +kernel), List.mem_of_getElem? (i := 541) (by decide +kernel)⟩
theorem lw_p45 : lw_okq (⟨"HallCarrier$Orders", "chooseSets", "(I)V"⟩, 11) := ⟨⟨by decide +kernel, by decide +kernel⟩, List.mem_of_getElem? (i := 131) (by decide +kernel), List.mem_of_getElem? (i := 547) (by decide +kernel), List.mem_of_getElem? (i := 548) (by decide +kernel)⟩
theorem lw_p46 : lw_okq (⟨"HallCarrier$Orders", "planned", "(II)I"⟩, 11) := ⟨⟨by decide +kernel, by decide +kernel⟩, List.mem_of_getElem? (i := 131) (by decide +kernel), List.mem_of_getElem? (i := 555) (by decide +kernel), List.mem_of_getElem? (i := 556) (by decide +kernel)⟩
theorem lw_p47 : lw_okq (⟨"HallCarrier$Scene", "copyFrom", "(LHallCarrier$Scene;)V"⟩, 11) := ⟨⟨by decide +kernel, by decide +kernel⟩, List.mem_of_getElem? (i := 53) (by decide +kernel), List.mem_of_getElem? (i := 563) (by decide +kernel), List.mem_of_getElem? (i := 564) (by decide +kernel)⟩
def lw_privs_3 : List (MethodName × Nat) := [(⟨"HallCarrier", "chargeYield", "(I)I"⟩, 10), (⟨"HallCarrier", "chargeBack", "(I)I"⟩, 10), (⟨"HallCarrier", "chargeRide", "(I)I"⟩, 10), (⟨"HallCarrier", "chargeAsk", "(I)I"⟩, 10), (⟨"HallCarrier$Hall", "looksLike", "(I)J"⟩, 6), (⟨"HallCarrier$Hall", "canStep", "(I)J"⟩, 6), (⟨"HallCarrier$Hall", "stepped", "(JI)J"⟩, 6), (⟨"HallCarrier$Hall", "unlikeLooks", "(J)I"⟩, 6), (⟨"HallCarrier$Orders", "add", "(III)I"⟩, 11), (⟨"HallCarrier$Orders", "makePlan", "(JLHallCarrier$Scene;)V"⟩, 11), (⟨"HallCarrier$Orders", "measure", "(JLHallCarrier$Scene;)Z"⟩, 11), (⟨"HallCarrier$Orders", "measureFrom", "(IIJ)V"⟩, 11), (⟨"HallCarrier$Orders", "tryRows", "(IIIIIII)V"⟩, 11), (⟨"HallCarrier$Orders", "chooseSets", "(I)V"⟩, 11), (⟨"HallCarrier$Orders", "planned", "(II)I"⟩, 11), (⟨"HallCarrier$Scene", "copyFrom", "(LHallCarrier$Scene;)V"⟩, 11)]
theorem lw_r3 : ∀ q ∈ lw_privs_3, lw_okq q := List.forall_mem_cons.mpr ⟨lw_p32, List.forall_mem_cons.mpr ⟨lw_p33, List.forall_mem_cons.mpr ⟨lw_p34, List.forall_mem_cons.mpr ⟨lw_p35, List.forall_mem_cons.mpr ⟨lw_p36, List.forall_mem_cons.mpr ⟨lw_p37, List.forall_mem_cons.mpr ⟨lw_p38, List.forall_mem_cons.mpr ⟨lw_p39, List.forall_mem_cons.mpr ⟨lw_p40, List.forall_mem_cons.mpr ⟨lw_p41, List.forall_mem_cons.mpr ⟨lw_p42, List.forall_mem_cons.mpr ⟨lw_p43, List.forall_mem_cons.mpr ⟨lw_p44, List.forall_mem_cons.mpr ⟨lw_p45, List.forall_mem_cons.mpr ⟨lw_p46, List.forall_mem_cons.mpr ⟨lw_p47, fun _ h => absurd h List.not_mem_nil⟩⟩⟩⟩⟩⟩⟩⟩⟩⟩⟩⟩⟩⟩⟩⟩
theorem lw_p48 : lw_okq (⟨"HallCarrierModel", "fault", "()I"⟩, 40) := ⟨⟨by decide +kernel, by decide +kernel⟩, List.mem_of_getElem? (i := 582) (by decide +kernel), List.mem_of_getElem? (i := 728) (by decide +kernel), List.mem_of_getElem? (i := 729) (by decide +kernel)⟩
theorem lw_p49 : lw_okq (⟨"HallCarrierModel", "isCell", "(I)Z"⟩, 40) := ⟨⟨by decide +kernel, by decide +kernel⟩, List.mem_of_getElem? (i := 582) (by decide +kernel), List.mem_of_getElem? (i := 736) (by decide +kernel), List.mem_of_getElem? (i := 737) (by decide +kernel)⟩
theorem lw_p50 : lw_okq (⟨"HallCarrierModel", "isEnd", "(I)Z"⟩, 40) := ⟨⟨by decide +kernel, by decide +kernel⟩, List.mem_of_getElem? (i := 582) (by decide +kernel), List.mem_of_getElem? (i := 744) (by decide +kernel), List.mem_of_getElem? (i := 745) (by decide +kernel)⟩
theorem lw_p51 : lw_okq (⟨"HallCarrierModel", "isFree", "(I)Z"⟩, 40) := ⟨⟨by decide +kernel, by decide +kernel⟩, List.mem_of_getElem? (i := 582) (by decide +kernel), List.mem_of_getElem? (i := 748) (by decide +kernel), List.mem_of_getElem? (i := 749) (by decide +kernel)⟩
theorem lw_p52 : lw_okq (⟨"HallCarrierModel", "seenFrom", "(I)J"⟩, 40) := ⟨⟨by decide +kernel, by decide +kernel⟩, List.mem_of_getElem? (i := 582) (by decide +kernel), List.mem_of_getElem? (i := 757) (by decide +kernel), List.mem_of_getElem? (i := 758) (by decide +kernel)⟩
theorem lw_p53 : lw_okq (⟨"HallCarrierModel", "beside", "(II)I"⟩, 40) := ⟨⟨by decide +kernel, by decide +kernel⟩, List.mem_of_getElem? (i := 582) (by decide +kernel), List.mem_of_getElem? (i := 761) (by decide +kernel), List.mem_of_getElem? (i := 762) (by decide +kernel)⟩
theorem lw_p54 : lw_okq (⟨"HallCarrierModel", "carrierOn", "(I)I"⟩, 40) := ⟨⟨by decide +kernel, by decide +kernel⟩, List.mem_of_getElem? (i := 582) (by decide +kernel), List.mem_of_getElem? (i := 773) (by decide +kernel), List.mem_of_getElem? (i := 774) (by decide +kernel)⟩
theorem lw_p55 : lw_okq (⟨"HallCarrierModel", "lookAbout", "(I)V"⟩, 40) := ⟨⟨by decide +kernel, by decide +kernel⟩, List.mem_of_getElem? (i := 582) (by decide +kernel), List.mem_of_getElem? (i := 777) (by decide +kernel), List.mem_of_getElem? (i := 778) (by decide +kernel)⟩
theorem lw_p56 : lw_okq (⟨"HallCarrierModel", "isPerson", "(I)Z"⟩, 40) := ⟨⟨by decide +kernel, by decide +kernel⟩, List.mem_of_getElem? (i := 582) (by decide +kernel), List.mem_of_getElem? (i := 785) (by decide +kernel), List.mem_of_getElem? (i := 786) (by decide +kernel)⟩
theorem lw_p57 : lw_okq (⟨"HallCarrierModel", "isCarrier", "(I)Z"⟩, 40) := ⟨⟨by decide +kernel, by decide +kernel⟩, List.mem_of_getElem? (i := 582) (by decide +kernel), List.mem_of_getElem? (i := 789) (by decide +kernel), List.mem_of_getElem? (i := 790) (by decide +kernel)⟩
theorem lw_p58 : lw_okq (⟨"HallCarrierModel", "couldBe", "(IJI)J"⟩, 40) := ⟨⟨by decide +kernel, by decide +kernel⟩, List.mem_of_getElem? (i := 582) (by decide +kernel), List.mem_of_getElem? (i := 797) (by decide +kernel), List.mem_of_getElem? (i := 798) (by decide +kernel)⟩
theorem lw_p59 : lw_okq (⟨"HallCarrierModel", "spread", "(J)J"⟩, 40) := ⟨⟨by decide +kernel, by decide +kernel⟩, List.mem_of_getElem? (i := 582) (by decide +kernel), List.mem_of_getElem? (i := 801) (by decide +kernel), List.mem_of_getElem? (i := 802) (by decide +kernel)⟩
theorem lw_p60 : lw_okq (⟨"HallCarrierModel", "close", "(J)J"⟩, 40) := ⟨⟨by decide +kernel, by decide +kernel⟩, List.mem_of_getElem? (i := 582) (by decide +kernel), List.mem_of_getElem? (i := 807) (by decide +kernel), List.mem_of_getElem? (i := 808) (by decide +kernel)⟩
theorem lw_p61 : lw_okq (⟨"HallCarrierModel", "seenCould", "(II)J"⟩, 40) := ⟨⟨by decide +kernel, by decide +kernel⟩, List.mem_of_getElem? (i := 582) (by decide +kernel), List.mem_of_getElem? (i := 818) (by decide +kernel), List.mem_of_getElem? (i := 819) (by decide +kernel)⟩
theorem lw_p62 : lw_okq (⟨"HallCarrierModel", "unseenCould", "(II)J"⟩, 40) := ⟨⟨by decide +kernel, by decide +kernel⟩, List.mem_of_getElem? (i := 582) (by decide +kernel), List.mem_of_getElem? (i := 822) (by decide +kernel), List.mem_of_getElem? (i := 823) (by decide +kernel)⟩
theorem lw_p63 : lw_okq (⟨"HallCarrierModel", "why", "(II)I"⟩, 40) := ⟨⟨by decide +kernel, by decide +kernel⟩, List.mem_of_getElem? (i := 582) (by decide +kernel), List.mem_of_getElem? (i := 830) (by decide +kernel), List.mem_of_getElem? (i := 831) (by decide +kernel)⟩
def lw_privs_4 : List (MethodName × Nat) := [(⟨"HallCarrierModel", "fault", "()I"⟩, 40), (⟨"HallCarrierModel", "isCell", "(I)Z"⟩, 40), (⟨"HallCarrierModel", "isEnd", "(I)Z"⟩, 40), (⟨"HallCarrierModel", "isFree", "(I)Z"⟩, 40), (⟨"HallCarrierModel", "seenFrom", "(I)J"⟩, 40), (⟨"HallCarrierModel", "beside", "(II)I"⟩, 40), (⟨"HallCarrierModel", "carrierOn", "(I)I"⟩, 40), (⟨"HallCarrierModel", "lookAbout", "(I)V"⟩, 40), (⟨"HallCarrierModel", "isPerson", "(I)Z"⟩, 40), (⟨"HallCarrierModel", "isCarrier", "(I)Z"⟩, 40), (⟨"HallCarrierModel", "couldBe", "(IJI)J"⟩, 40), (⟨"HallCarrierModel", "spread", "(J)J"⟩, 40), (⟨"HallCarrierModel", "close", "(J)J"⟩, 40), (⟨"HallCarrierModel", "seenCould", "(II)J"⟩, 40), (⟨"HallCarrierModel", "unseenCould", "(II)J"⟩, 40), (⟨"HallCarrierModel", "why", "(II)I"⟩, 40)]
theorem lw_r4 : ∀ q ∈ lw_privs_4, lw_okq q := List.forall_mem_cons.mpr ⟨lw_p48, List.forall_mem_cons.mpr ⟨lw_p49, List.forall_mem_cons.mpr ⟨lw_p50, List.forall_mem_cons.mpr ⟨lw_p51, List.forall_mem_cons.mpr ⟨lw_p52, List.forall_mem_cons.mpr ⟨lw_p53, List.forall_mem_cons.mpr ⟨lw_p54, List.forall_mem_cons.mpr ⟨lw_p55, List.forall_mem_cons.mpr ⟨lw_p56, List.forall_mem_cons.mpr ⟨lw_p57, List.forall_mem_cons.mpr ⟨lw_p58, List.forall_mem_cons.mpr ⟨lw_p59, List.forall_mem_cons.mpr ⟨lw_p60, List.forall_mem_cons.mpr ⟨lw_p61, List.forall_mem_cons.mpr ⟨lw_p62, List.forall_mem_cons.mpr ⟨lw_p63, fun _ h => absurd h List.not_mem_nil⟩⟩⟩⟩⟩⟩⟩⟩⟩⟩⟩⟩⟩⟩⟩⟩
theorem lw_p64 : lw_okq (⟨"HallCarrierModel", "goOn", "(JI)J"⟩, 40) := ⟨⟨by decide +kernel, by decide +kernel⟩, List.mem_of_getElem? (i := 582) (by decide +kernel), List.mem_of_getElem? (i := 838) (by decide +kernel), List.mem_of_getElem? (i := 839) (by decide +kernel)⟩
theorem lw_p65 : lw_okq (⟨"HallCarrierModel", "looks", "(I)I"⟩, 40) := ⟨⟨by decide +kernel, by decide +kernel⟩, List.mem_of_getElem? (i := 582) (by decide +kernel), List.mem_of_getElem? (i := 883) (by decide +kernel), List.mem_of_getElem? (i := 884) (by decide +kernel)⟩
theorem lw_p66 : lw_okq (⟨"HallCarrierModel", "stepped", "(I)J"⟩, 40) := ⟨⟨by decide +kernel, by decide +kernel⟩, List.mem_of_getElem? (i := 582) (by decide +kernel), List.mem_of_getElem? (i := 891) (by decide +kernel), List.mem_of_getElem? (i := 892) (by decide +kernel)⟩
theorem lw_p67 : lw_okq (⟨"HallCarrierModel", "unlikeLooks", "(J)I"⟩, 40) := ⟨⟨by decide +kernel, by decide +kernel⟩, List.mem_of_getElem? (i := 582) (by decide +kernel), List.mem_of_getElem? (i := 903) (by decide +kernel), List.mem_of_getElem? (i := 904) (by decide +kernel)⟩
theorem lw_p68 : lw_okq (⟨"HallCarrierModel", "measure", "()Z"⟩, 40) := ⟨⟨by decide +kernel, by decide +kernel⟩, List.mem_of_getElem? (i := 582) (by decide +kernel), List.mem_of_getElem? (i := 915) (by decide +kernel), List.mem_of_getElem? (i := 916) (by decide +kernel)⟩
theorem lw_p69 : lw_okq (⟨"HallCarrierModel", "steps", "(II)I"⟩, 40) := ⟨⟨by decide +kernel, by decide +kernel⟩, List.mem_of_getElem? (i := 582) (by decide +kernel), List.mem_of_getElem? (i := 919) (by decide +kernel), List.mem_of_getElem? (i := 920) (by decide +kernel)⟩
theorem lw_p70 : lw_okq (⟨"HallCarrierModel", "findLate", "()I"⟩, 40) := ⟨⟨by decide +kernel, by decide +kernel⟩, List.mem_of_getElem? (i := 582) (by decide +kernel), List.mem_of_getElem? (i := 923) (by decide +kernel), List.mem_of_getElem? (i := 924) (by decide +kernel)⟩
theorem lw_p71 : lw_okq (⟨"HallCarrierModel", "leastOf", "(IIZ)I"⟩, 40) := ⟨⟨by decide +kernel, by decide +kernel⟩, List.mem_of_getElem? (i := 582) (by decide +kernel), List.mem_of_getElem? (i := 927) (by decide +kernel), List.mem_of_getElem? (i := 928) (by decide +kernel)⟩
theorem lw_p72 : lw_okq (⟨"HallCarrierModel", "tellRow", "(II)I"⟩, 40) := ⟨⟨by decide +kernel, by decide +kernel⟩, List.mem_of_getElem? (i := 582) (by decide +kernel), List.mem_of_getElem? (i := 931) (by decide +kernel), List.mem_of_getElem? (i := 932) (by decide +kernel)⟩
theorem lw_p73 : lw_okq (⟨"HallCarrierModel", "lateOf", "(II)I"⟩, 40) := ⟨⟨by decide +kernel, by decide +kernel⟩, List.mem_of_getElem? (i := 582) (by decide +kernel), List.mem_of_getElem? (i := 938) (by decide +kernel), List.mem_of_getElem? (i := 939) (by decide +kernel)⟩
theorem lw_p74 : lw_okq (⟨"HallCarrierModel", "moveAll", "(II)V"⟩, 40) := ⟨⟨by decide +kernel, by decide +kernel⟩, List.mem_of_getElem? (i := 582) (by decide +kernel), List.mem_of_getElem? (i := 950) (by decide +kernel), List.mem_of_getElem? (i := 951) (by decide +kernel)⟩
def lw_privs_5 : List (MethodName × Nat) := [(⟨"HallCarrierModel", "goOn", "(JI)J"⟩, 40), (⟨"HallCarrierModel", "looks", "(I)I"⟩, 40), (⟨"HallCarrierModel", "stepped", "(I)J"⟩, 40), (⟨"HallCarrierModel", "unlikeLooks", "(J)I"⟩, 40), (⟨"HallCarrierModel", "measure", "()Z"⟩, 40), (⟨"HallCarrierModel", "steps", "(II)I"⟩, 40), (⟨"HallCarrierModel", "findLate", "()I"⟩, 40), (⟨"HallCarrierModel", "leastOf", "(IIZ)I"⟩, 40), (⟨"HallCarrierModel", "tellRow", "(II)I"⟩, 40), (⟨"HallCarrierModel", "lateOf", "(II)I"⟩, 40), (⟨"HallCarrierModel", "moveAll", "(II)V"⟩, 40)]
theorem lw_r5 : ∀ q ∈ lw_privs_5, lw_okq q := List.forall_mem_cons.mpr ⟨lw_p64, List.forall_mem_cons.mpr ⟨lw_p65, List.forall_mem_cons.mpr ⟨lw_p66, List.forall_mem_cons.mpr ⟨lw_p67, List.forall_mem_cons.mpr ⟨lw_p68, List.forall_mem_cons.mpr ⟨lw_p69, List.forall_mem_cons.mpr ⟨lw_p70, List.forall_mem_cons.mpr ⟨lw_p71, List.forall_mem_cons.mpr ⟨lw_p72, List.forall_mem_cons.mpr ⟨lw_p73, List.forall_mem_cons.mpr ⟨lw_p74, fun _ h => absurd h List.not_mem_nil⟩⟩⟩⟩⟩⟩⟩⟩⟩⟩⟩
def lw_privs : List (MethodName × Nat) := lw_privs_1 ++ (lw_privs_2 ++ (lw_privs_3 ++ (lw_privs_4 ++ (lw_privs_5))))
def lw_tbl : List Cond := k2_sels lw_privs ++ tables_1
theorem lw_privs_ok : ∀ q ∈ lw_privs, lw_okq q := by
  show ∀ q ∈ lw_privs_1 ++ (lw_privs_2 ++ (lw_privs_3 ++ (lw_privs_4 ++ (lw_privs_5)))), lw_okq q
  exact List.forall_mem_append.mpr ⟨lw_r1, List.forall_mem_append.mpr ⟨lw_r2, List.forall_mem_append.mpr ⟨lw_r3, List.forall_mem_append.mpr ⟨lw_r4, lw_r5⟩⟩⟩⟩
-- ===== end of PART A; then your names; then what follows =====
def RX0 : String := "HallCarrier$Crowd"
def TX0 : u_T := fun k => match k with
  | 0 => ("HallCarrier$Crowd", "nearing", "[J", true)
  | 1 => ("HallCarrier$Crowd", "standing", "J", false)
  | 2 => ("HallCarrier$Crowd", "walking", "J", false)
  | 3 => ("HallCarrier$Crowd", "sudden", "J", false)
  | _ => ("HallCarrier$Crowd", "blocking", "J", false)
def tyX0 : Nat → FieldType := fun k => match k with
  | 0 => .array .long
  | 1 => .long
  | 2 => .long
  | 3 => .long
  | _ => .long
theorem nmX0 : ∀ a, a < 5 → ∀ b, b < 5 → a ≠ b → (TX0 a).2.1 ≠ (TX0 b).2.1 := by decide +kernel
theorem tyX0_ok : ∀ k, k < 5 → parseFieldDescriptor (TX0 k).2.2.1 = some (tyX0 k) := by decide +kernel
abbrev cX0_init : ByteArray := prog_2_method_1_code
def yX0_init : MethodName := ⟨RX0, "<init>", "()V"⟩
abbrev cX0_empty : ByteArray := prog_2_method_2_code
def yX0_empty : MethodName := ⟨RX0, "empty", "(LHallCarrier$Scene;)V"⟩
abbrev cX0_join : ByteArray := prog_2_method_3_code
def yX0_join : MethodName := ⟨RX0, "join", "(IJ)V"⟩
abbrev cX0_afterTicks : ByteArray := prog_2_method_4_code
def yX0_afterTicks : MethodName := ⟨RX0, "afterTicks", "(IJ)J"⟩
abbrev cX0_nearer : ByteArray := prog_2_method_5_code
def yX0_nearer : MethodName := ⟨RX0, "nearer", "(J)J"⟩
def RX1 : String := "HallCarrier$Hall"
def TX1 : u_T := fun k => match k with
  | 0 => ("HallCarrier$Hall", "signs", "[I", true)
  | 1 => ("HallCarrier$Hall", "doorCells", "[I", true)
  | 2 => ("HallCarrier$Hall", "markCells", "[J", true)
  | 3 => ("HallCarrier$Hall", "doors", "I", false)
  | 4 => ("HallCarrier$Hall", "cells", "J", false)
  | _ => ("HallCarrier$Hall", "free", "J", false)
def tyX1 : Nat → FieldType := fun k => match k with
  | 0 => .array .int
  | 1 => .array .int
  | 2 => .array .long
  | 3 => .int
  | 4 => .long
  | _ => .long
theorem nmX1 : ∀ a, a < 6 → ∀ b, b < 6 → a ≠ b → (TX1 a).2.1 ≠ (TX1 b).2.1 := by decide +kernel
theorem tyX1_ok : ∀ k, k < 6 → parseFieldDescriptor (TX1 k).2.2.1 = some (tyX1 k) := by decide +kernel
abbrev cX1_init : ByteArray := prog_3_method_1_code
def yX1_init : MethodName := ⟨RX1, "<init>", "()V"⟩
abbrev cX1_empty : ByteArray := prog_3_method_2_code
def yX1_empty : MethodName := ⟨RX1, "empty", "()V"⟩
abbrev cX1_put : ByteArray := prog_3_method_3_code
def yX1_put : MethodName := ⟨RX1, "put", "(III)V"⟩
abbrev cX1_has : ByteArray := prog_3_method_4_code
def yX1_has : MethodName := ⟨RX1, "has", "(I)Z"⟩
abbrev cX1_isFree : ByteArray := prog_3_method_5_code
def yX1_isFree : MethodName := ⟨RX1, "isFree", "(I)Z"⟩
abbrev cX1_seenFrom : ByteArray := prog_3_method_6_code
def yX1_seenFrom : MethodName := ⟨RX1, "seenFrom", "(I)J"⟩
abbrev cX1_looksLike : ByteArray := prog_3_method_7_code
def yX1_looksLike : MethodName := ⟨RX1, "looksLike", "(I)J"⟩
abbrev cX1_canStep : ByteArray := prog_3_method_8_code
def yX1_canStep : MethodName := ⟨RX1, "canStep", "(I)J"⟩
abbrev cX1_stepped : ByteArray := prog_3_method_9_code
def yX1_stepped : MethodName := ⟨RX1, "stepped", "(JI)J"⟩
abbrev cX1_unlikeLooks : ByteArray := prog_3_method_10_code
def yX1_unlikeLooks : MethodName := ⟨RX1, "unlikeLooks", "(J)I"⟩
def RX2 : String := "HallCarrier$Orders"
def TX2 : u_T := fun k => match k with
  | 0 => ("HallCarrier$Orders", "from", "[I", true)
  | 1 => ("HallCarrier$Orders", "to", "[I", true)
  | 2 => ("HallCarrier$Orders", "due", "[I", true)
  | 3 => ("HallCarrier$Orders", "steps", "[I", true)
  | 4 => ("HallCarrier$Orders", "leastOf", "[I", true)
  | 5 => ("HallCarrier$Orders", "rowOf", "[I", true)
  | 6 => ("HallCarrier$Orders", "bestRow", "[I", true)
  | 7 => ("HallCarrier$Orders", "many", "I", false)
  | 8 => ("HallCarrier$Orders", "least", "I", false)
  | 9 => ("HallCarrier$Orders", "possible", "Z", false)
  | _ => ("HallCarrier$Orders", "fresh", "Z", false)
def tyX2 : Nat → FieldType := fun k => match k with
  | 0 => .array .int
  | 1 => .array .int
  | 2 => .array .int
  | 3 => .array .int
  | 4 => .array .int
  | 5 => .array .int
  | 6 => .array .int
  | 7 => .int
  | 8 => .int
  | 9 => .boolean
  | _ => .boolean
theorem nmX2 : ∀ a, a < 11 → ∀ b, b < 11 → a ≠ b → (TX2 a).2.1 ≠ (TX2 b).2.1 := by decide +kernel
theorem tyX2_ok : ∀ k, k < 11 → parseFieldDescriptor (TX2 k).2.2.1 = some (tyX2 k) := by decide +kernel
abbrev cX2_init : ByteArray := prog_4_method_1_code
def yX2_init : MethodName := ⟨RX2, "<init>", "()V"⟩
abbrev cX2_empty : ByteArray := prog_4_method_2_code
def yX2_empty : MethodName := ⟨RX2, "empty", "()V"⟩
abbrev cX2_forgetPlan : ByteArray := prog_4_method_3_code
def yX2_forgetPlan : MethodName := ⟨RX2, "forgetPlan", "()V"⟩
abbrev cX2_add : ByteArray := prog_4_method_4_code
def yX2_add : MethodName := ⟨RX2, "add", "(III)I"⟩
abbrev cX2_ends : ByteArray := prog_4_method_5_code
def yX2_ends : MethodName := ⟨RX2, "ends", "()J"⟩
abbrev cX2_planned : ByteArray := prog_4_method_6_code
def yX2_planned : MethodName := ⟨RX2, "planned", "(II)I"⟩
abbrev cX2_makePlan : ByteArray := prog_4_method_7_code
def yX2_makePlan : MethodName := ⟨RX2, "makePlan", "(JLHallCarrier$Scene;)V"⟩
abbrev cX2_measure : ByteArray := prog_4_method_8_code
def yX2_measure : MethodName := ⟨RX2, "measure", "(JLHallCarrier$Scene;)Z"⟩
abbrev cX2_measureFrom : ByteArray := prog_4_method_9_code
def yX2_measureFrom : MethodName := ⟨RX2, "measureFrom", "(IIJ)V"⟩
abbrev cX2_tryRows : ByteArray := prog_4_method_10_code
def yX2_tryRows : MethodName := ⟨RX2, "tryRows", "(IIIIIII)V"⟩
abbrev cX2_chooseSets : ByteArray := prog_4_method_11_code
def yX2_chooseSets : MethodName := ⟨RX2, "chooseSets", "(I)V"⟩
def RX3 : String := "HallCarrier$Scene"
def TX3 : u_T := fun k => match k with
  | 0 => ("HallCarrier$Scene", "personCells", "[I", true)
  | 1 => ("HallCarrier$Scene", "personKinds", "[I", true)
  | 2 => ("HallCarrier$Scene", "carrierCells", "[I", true)
  | 3 => ("HallCarrier$Scene", "loads", "[I", true)
  | 4 => ("HallCarrier$Scene", "sawAt", "[I", true)
  | 5 => ("HallCarrier$Scene", "lines", "[I", true)
  | 6 => ("HallCarrier$Scene", "people", "I", false)
  | 7 => ("HallCarrier$Scene", "carriers", "I", false)
  | 8 => ("HallCarrier$Scene", "lineCount", "I", false)
  | 9 => ("HallCarrier$Scene", "tick", "I", false)
  | _ => ("HallCarrier$Scene", "kept", "Z", false)
def tyX3 : Nat → FieldType := fun k => match k with
  | 0 => .array .int
  | 1 => .array .int
  | 2 => .array .int
  | 3 => .array .int
  | 4 => .array .int
  | 5 => .array .int
  | 6 => .int
  | 7 => .int
  | 8 => .int
  | 9 => .int
  | _ => .boolean
theorem nmX3 : ∀ a, a < 11 → ∀ b, b < 11 → a ≠ b → (TX3 a).2.1 ≠ (TX3 b).2.1 := by decide +kernel
theorem tyX3_ok : ∀ k, k < 11 → parseFieldDescriptor (TX3 k).2.2.1 = some (tyX3 k) := by decide +kernel
abbrev cX3_init : ByteArray := prog_5_method_1_code
def yX3_init : MethodName := ⟨RX3, "<init>", "()V"⟩
abbrev cX3_empty : ByteArray := prog_5_method_2_code
def yX3_empty : MethodName := ⟨RX3, "empty", "()V"⟩
abbrev cX3_addPerson : ByteArray := prog_5_method_3_code
def yX3_addPerson : MethodName := ⟨RX3, "addPerson", "(II)I"⟩
abbrev cX3_addCarrier : ByteArray := prog_5_method_4_code
def yX3_addCarrier : MethodName := ⟨RX3, "addCarrier", "(II)I"⟩
abbrev cX3_addLine : ByteArray := prog_5_method_5_code
def yX3_addLine : MethodName := ⟨RX3, "addLine", "(III)V"⟩
abbrev cX3_carriersTaken : ByteArray := prog_5_method_6_code
def yX3_carriersTaken : MethodName := ⟨RX3, "carriersTaken", "()J"⟩
abbrev cX3_taken : ByteArray := prog_5_method_7_code
def yX3_taken : MethodName := ⟨RX3, "taken", "()J"⟩
abbrev cX3_copyFrom : ByteArray := prog_5_method_8_code
def yX3_copyFrom : MethodName := ⟨RX3, "copyFrom", "(LHallCarrier$Scene;)V"⟩
def RX4 : String := "HallCarrier"
def TX4 : u_T := fun k => match k with
  | 0 => ("HallCarrier", "text", "[I", true)
  | 1 => ("HallCarrier", "textLength", "I", false)
  | 2 => ("HallCarrier", "map", "LHallCarrier$Hall;", true)
  | 3 => ("HallCarrier", "now", "LHallCarrier$Scene;", true)
  | 4 => ("HallCarrier", "images", "[LHallCarrier$Scene;", true)
  | 5 => ("HallCarrier", "crowd", "LHallCarrier$Crowd;", true)
  | 6 => ("HallCarrier", "orders", "LHallCarrier$Orders;", true)
  | 7 => ("HallCarrier", "ledTo", "[J", true)
  | 8 => ("HallCarrier", "maybe", "J", false)
  | _ => ("HallCarrier", "traced", "J", false)
def tyX4 : Nat → FieldType := fun k => match k with
  | 0 => .array .int
  | 1 => .int
  | 2 => .object "HallCarrier$Hall"
  | 3 => .object "HallCarrier$Scene"
  | 4 => .array (.object "HallCarrier$Scene")
  | 5 => .object "HallCarrier$Crowd"
  | 6 => .object "HallCarrier$Orders"
  | 7 => .array .long
  | 8 => .long
  | _ => .long
theorem nmX4 : ∀ a, a < 10 → ∀ b, b < 10 → a ≠ b → (TX4 a).2.1 ≠ (TX4 b).2.1 := by decide +kernel
theorem tyX4_ok : ∀ k, k < 10 → parseFieldDescriptor (TX4 k).2.2.1 = some (tyX4 k) := by decide +kernel
abbrev cX4_init : ByteArray := prog_1_method_1_code
def yX4_init : MethodName := ⟨RX4, "<init>", "()V"⟩
abbrev cX4_type : ByteArray := prog_1_method_2_code
def yX4_type : MethodName := ⟨RX4, "type", "(JI)I"⟩
abbrev cX4_clear : ByteArray := prog_1_method_3_code
def yX4_clear : MethodName := ⟨RX4, "clear", "()I"⟩
abbrev cX4_hall : ByteArray := prog_1_method_4_code
def yX4_hall : MethodName := ⟨RX4, "hall", "()I"⟩
abbrev cX4_sign : ByteArray := prog_1_method_5_code
def yX4_sign : MethodName := ⟨RX4, "sign", "(I)I"⟩
abbrev cX4_door : ByteArray := prog_1_method_6_code
def yX4_door : MethodName := ⟨RX4, "door", "(II)I"⟩
abbrev cX4_sees : ByteArray := prog_1_method_7_code
def yX4_sees : MethodName := ⟨RX4, "sees", "(I)J"⟩
abbrev cX4_person : ByteArray := prog_1_method_8_code
def yX4_person : MethodName := ⟨RX4, "person", "(II)I"⟩
abbrev cX4_carrier : ByteArray := prog_1_method_9_code
def yX4_carrier : MethodName := ⟨RX4, "carrier", "(II)I"⟩
abbrev cX4_at : ByteArray := prog_1_method_10_code
def yX4_at : MethodName := ⟨RX4, "at", "(II)I"⟩
abbrev cX4_could : ByteArray := prog_1_method_11_code
def yX4_could : MethodName := ⟨RX4, "could", "(II)J"⟩
abbrev cX4_anybody : ByteArray := prog_1_method_12_code
def yX4_anybody : MethodName := ⟨RX4, "anybody", "(II)J"⟩
abbrev cX4_let : ByteArray := prog_1_method_13_code
def yX4_let : MethodName := ⟨RX4, "let", "(I)I"⟩
abbrev cX4_soonest : ByteArray := prog_1_method_14_code
def yX4_soonest : MethodName := ⟨RX4, "soonest", "(III)I"⟩
abbrev cX4_act : ByteArray := prog_1_method_15_code
def yX4_act : MethodName := ⟨RX4, "act", "(II)I"⟩
abbrev cX4_walk : ByteArray := prog_1_method_16_code
def yX4_walk : MethodName := ⟨RX4, "walk", "(II)I"⟩
abbrev cX4_tick : ByteArray := prog_1_method_17_code
def yX4_tick : MethodName := ⟨RX4, "tick", "(I)I"⟩
abbrev cX4_line : ByteArray := prog_1_method_18_code
def yX4_line : MethodName := ⟨RX4, "line", "(II)I"⟩
abbrev cX4_age : ByteArray := prog_1_method_19_code
def yX4_age : MethodName := ⟨RX4, "age", "(II)I"⟩
abbrev cX4_charge : ByteArray := prog_1_method_20_code
def yX4_charge : MethodName := ⟨RX4, "charge", "(II)I"⟩
abbrev cX4_lost : ByteArray := prog_1_method_21_code
def yX4_lost : MethodName := ⟨RX4, "lost", "()I"⟩
abbrev cX4_look : ByteArray := prog_1_method_22_code
def yX4_look : MethodName := ⟨RX4, "look", "(II)I"⟩
abbrev cX4_step : ByteArray := prog_1_method_23_code
def yX4_step : MethodName := ⟨RX4, "step", "(I)I"⟩
abbrev cX4_where : ByteArray := prog_1_method_24_code
def yX4_where : MethodName := ⟨RX4, "where", "()J"⟩
abbrev cX4_tells : ByteArray := prog_1_method_25_code
def yX4_tells : MethodName := ⟨RX4, "tells", "(I)I"⟩
abbrev cX4_order : ByteArray := prog_1_method_26_code
def yX4_order : MethodName := ⟨RX4, "order", "(III)I"⟩
abbrev cX4_late : ByteArray := prog_1_method_27_code
def yX4_late : MethodName := ⟨RX4, "late", "()I"⟩
abbrev cX4_served : ByteArray := prog_1_method_28_code
def yX4_served : MethodName := ⟨RX4, "served", "(II)I"⟩
abbrev cX4_keep : ByteArray := prog_1_method_29_code
def yX4_keep : MethodName := ⟨RX4, "keep", "(I)I"⟩
abbrev cX4_back : ByteArray := prog_1_method_30_code
def yX4_back : MethodName := ⟨RX4, "back", "(I)I"⟩
abbrev cX4_count : ByteArray := prog_1_method_31_code
def yX4_count : MethodName := ⟨RX4, "count", "(I)I"⟩
abbrev cX4_trace : ByteArray := prog_1_method_32_code
def yX4_trace : MethodName := ⟨RX4, "trace", "()J"⟩
abbrev cX4_faultPlace : ByteArray := prog_1_method_33_code
def yX4_faultPlace : MethodName := ⟨RX4, "faultPlace", "()I"⟩
abbrev cX4_isSign : ByteArray := prog_1_method_34_code
def yX4_isSign : MethodName := ⟨RX4, "isSign", "(I)Z"⟩
abbrev cX4_isMark : ByteArray := prog_1_method_35_code
def yX4_isMark : MethodName := ⟨RX4, "isMark", "(I)Z"⟩
abbrev cX4_markOf : ByteArray := prog_1_method_36_code
def yX4_markOf : MethodName := ⟨RX4, "markOf", "(I)I"⟩
abbrev cX4_becomeHall : ByteArray := prog_1_method_37_code
def yX4_becomeHall : MethodName := ⟨RX4, "becomeHall", "()V"⟩
abbrev cX4_isPerson : ByteArray := prog_1_method_38_code
def yX4_isPerson : MethodName := ⟨RX4, "isPerson", "(I)Z"⟩
abbrev cX4_isCarrier : ByteArray := prog_1_method_39_code
def yX4_isCarrier : MethodName := ⟨RX4, "isCarrier", "(I)Z"⟩
abbrev cX4_seenBy : ByteArray := prog_1_method_40_code
def yX4_seenBy : MethodName := ⟨RX4, "seenBy", "(I)J"⟩
abbrev cX4_lookAround : ByteArray := prog_1_method_41_code
def yX4_lookAround : MethodName := ⟨RX4, "lookAround", "(I)V"⟩
abbrev cX4_couldBe : ByteArray := prog_1_method_42_code
def yX4_couldBe : MethodName := ⟨RX4, "couldBe", "(II)J"⟩
abbrev cX4_gatherSeen : ByteArray := prog_1_method_43_code
def yX4_gatherSeen : MethodName := ⟨RX4, "gatherSeen", "(J)V"⟩
abbrev cX4_gatherAnybody : ByteArray := prog_1_method_44_code
def yX4_gatherAnybody : MethodName := ⟨RX4, "gatherAnybody", "(I)V"⟩
abbrev cX4_whyNot : ByteArray := prog_1_method_45_code
def yX4_whyNot : MethodName := ⟨RX4, "whyNot", "(II)I"⟩
abbrev cX4_soonestRow : ByteArray := prog_1_method_46_code
def yX4_soonestRow : MethodName := ⟨RX4, "soonestRow", "(IJI)I"⟩
abbrev cX4_chargeMove : ByteArray := prog_1_method_47_code
def yX4_chargeMove : MethodName := ⟨RX4, "chargeMove", "()I"⟩
abbrev cX4_chargeGo : ByteArray := prog_1_method_48_code
def yX4_chargeGo : MethodName := ⟨RX4, "chargeGo", "(I)I"⟩
abbrev cX4_chargeWait : ByteArray := prog_1_method_49_code
def yX4_chargeWait : MethodName := ⟨RX4, "chargeWait", "(I)I"⟩
abbrev cX4_chargeYield : ByteArray := prog_1_method_50_code
def yX4_chargeYield : MethodName := ⟨RX4, "chargeYield", "(I)I"⟩
abbrev cX4_chargeBack : ByteArray := prog_1_method_51_code
def yX4_chargeBack : MethodName := ⟨RX4, "chargeBack", "(I)I"⟩
abbrev cX4_chargeRide : ByteArray := prog_1_method_52_code
def yX4_chargeRide : MethodName := ⟨RX4, "chargeRide", "(I)I"⟩
abbrev cX4_chargeAsk : ByteArray := prog_1_method_53_code
def yX4_chargeAsk : MethodName := ⟨RX4, "chargeAsk", "(I)I"⟩
abbrev cX4_shifted : ByteArray := prog_1_method_54_code
def yX4_shifted : MethodName := ⟨RX4, "shifted", "(JI)J"⟩
abbrev cX4_widened : ByteArray := prog_1_method_55_code
def yX4_widened : MethodName := ⟨RX4, "widened", "(JJ)J"⟩
abbrev cX4_behind : ByteArray := prog_1_method_56_code
def yX4_behind : MethodName := ⟨RX4, "behind", "(II)J"⟩
def RX5 : String := "HallCarrierModel"
def TX5 : u_T := fun k => match k with
  | 0 => ("HallCarrierModel", "trace", "J", false)
  | 1 => ("HallCarrierModel", "text", "[B", true)
  | 2 => ("HallCarrierModel", "typed", "I", false)
  | 3 => ("HallCarrierModel", "wide", "I", false)
  | 4 => ("HallCarrierModel", "high", "I", false)
  | 5 => ("HallCarrierModel", "sign", "[I", true)
  | 6 => ("HallCarrierModel", "doorAt", "[I", true)
  | 7 => ("HallCarrierModel", "doors", "I", false)
  | 8 => ("HallCarrierModel", "free", "J", false)
  | 9 => ("HallCarrierModel", "lost", "J", false)
  | 10 => ("HallCarrierModel", "rows", "I", false)
  | 11 => ("HallCarrierModel", "columns", "I", false)
  | 12 => ("HallCarrierModel", "people", "I", false)
  | 13 => ("HallCarrierModel", "personAt", "[I", true)
  | 14 => ("HallCarrierModel", "personKind", "[I", true)
  | 15 => ("HallCarrierModel", "carriers", "I", false)
  | 16 => ("HallCarrierModel", "carrierAt", "[I", true)
  | 17 => ("HallCarrierModel", "load", "[I", true)
  | 18 => ("HallCarrierModel", "saw", "[I", true)
  | 19 => ("HallCarrierModel", "tick", "I", false)
  | 20 => ("HallCarrierModel", "lines", "I", false)
  | 21 => ("HallCarrierModel", "line", "[I", true)
  | 22 => ("HallCarrierModel", "open", "[J", true)
  | 23 => ("HallCarrierModel", "there", "[J", true)
  | 24 => ("HallCarrierModel", "isLook", "[Z", true)
  | 25 => ("HallCarrierModel", "orders", "I", false)
  | 26 => ("HallCarrierModel", "orderFrom", "[I", true)
  | 27 => ("HallCarrierModel", "orderTo", "[I", true)
  | 28 => ("HallCarrierModel", "due", "[I", true)
  | 29 => ("HallCarrierModel", "comes", "[I", true)
  | 30 => ("HallCarrierModel", "takes", "[I", true)
  | 31 => ("HallCarrierModel", "row", "[I", true)
  | 32 => ("HallCarrierModel", "bestRow", "[I", true)
  | 33 => ("HallCarrierModel", "bestLong", "[I", true)
  | 34 => ("HallCarrierModel", "rest", "[I", true)
  | 35 => ("HallCarrierModel", "isKept", "[Z", true)
  | 36 => ("HallCarrierModel", "keptPeople", "[I", true)
  | 37 => ("HallCarrierModel", "keptCarriers", "[I", true)
  | 38 => ("HallCarrierModel", "keptTick", "[I", true)
  | _ => ("HallCarrierModel", "keptLines", "[I", true)
def tyX5 : Nat → FieldType := fun k => match k with
  | 0 => .long
  | 1 => .array .byte
  | 2 => .int
  | 3 => .int
  | 4 => .int
  | 5 => .array .int
  | 6 => .array .int
  | 7 => .int
  | 8 => .long
  | 9 => .long
  | 10 => .int
  | 11 => .int
  | 12 => .int
  | 13 => .array .int
  | 14 => .array .int
  | 15 => .int
  | 16 => .array .int
  | 17 => .array .int
  | 18 => .array .int
  | 19 => .int
  | 20 => .int
  | 21 => .array .int
  | 22 => .array .long
  | 23 => .array .long
  | 24 => .array .boolean
  | 25 => .int
  | 26 => .array .int
  | 27 => .array .int
  | 28 => .array .int
  | 29 => .array .int
  | 30 => .array .int
  | 31 => .array .int
  | 32 => .array .int
  | 33 => .array .int
  | 34 => .array .int
  | 35 => .array .boolean
  | 36 => .array .int
  | 37 => .array .int
  | 38 => .array .int
  | _ => .array .int
theorem nmX5 : ∀ a, a < 40 → ∀ b, b < 40 → a ≠ b → (TX5 a).2.1 ≠ (TX5 b).2.1 := by decide +kernel
theorem tyX5_ok : ∀ k, k < 40 → parseFieldDescriptor (TX5 k).2.2.1 = some (tyX5 k) := by decide +kernel
abbrev cX5_init : ByteArray := prog_7_method_1_code
def yX5_init : MethodName := ⟨RX5, "<init>", "()V"⟩
abbrev cX5_in : ByteArray := prog_7_method_3_code
def yX5_in : MethodName := ⟨RX5, "in", "(III)Z"⟩
abbrev cX5_type : ByteArray := prog_7_method_4_code
def yX5_type : MethodName := ⟨RX5, "type", "(JI)I"⟩
abbrev cX5_clear : ByteArray := prog_7_method_5_code
def yX5_clear : MethodName := ⟨RX5, "clear", "()I"⟩
abbrev cX5_fault : ByteArray := prog_7_method_6_code
def yX5_fault : MethodName := ⟨RX5, "fault", "()I"⟩
abbrev cX5_hall : ByteArray := prog_7_method_7_code
def yX5_hall : MethodName := ⟨RX5, "hall", "()I"⟩
abbrev cX5_isCell : ByteArray := prog_7_method_8_code
def yX5_isCell : MethodName := ⟨RX5, "isCell", "(I)Z"⟩
abbrev cX5_sign : ByteArray := prog_7_method_9_code
def yX5_sign : MethodName := ⟨RX5, "sign", "(I)I"⟩
abbrev cX5_isFree : ByteArray := prog_7_method_10_code
def yX5_isFree : MethodName := ⟨RX5, "isFree", "(I)Z"⟩
abbrev cX5_beside : ByteArray := prog_7_method_11_code
def yX5_beside : MethodName := ⟨RX5, "beside", "(II)I"⟩
abbrev cX5_isEnd : ByteArray := prog_7_method_12_code
def yX5_isEnd : MethodName := ⟨RX5, "isEnd", "(I)Z"⟩
abbrev cX5_door : ByteArray := prog_7_method_13_code
def yX5_door : MethodName := ⟨RX5, "door", "(II)I"⟩
abbrev cX5_seenFrom : ByteArray := prog_7_method_14_code
def yX5_seenFrom : MethodName := ⟨RX5, "seenFrom", "(I)J"⟩
abbrev cX5_sees : ByteArray := prog_7_method_15_code
def yX5_sees : MethodName := ⟨RX5, "sees", "(I)J"⟩
abbrev cX5_lookAbout : ByteArray := prog_7_method_16_code
def yX5_lookAbout : MethodName := ⟨RX5, "lookAbout", "(I)V"⟩
abbrev cX5_person : ByteArray := prog_7_method_17_code
def yX5_person : MethodName := ⟨RX5, "person", "(II)I"⟩
abbrev cX5_carrierOn : ByteArray := prog_7_method_18_code
def yX5_carrierOn : MethodName := ⟨RX5, "carrierOn", "(I)I"⟩
abbrev cX5_carrier : ByteArray := prog_7_method_19_code
def yX5_carrier : MethodName := ⟨RX5, "carrier", "(II)I"⟩
abbrev cX5_isPerson : ByteArray := prog_7_method_20_code
def yX5_isPerson : MethodName := ⟨RX5, "isPerson", "(I)Z"⟩
abbrev cX5_isCarrier : ByteArray := prog_7_method_21_code
def yX5_isCarrier : MethodName := ⟨RX5, "isCarrier", "(I)Z"⟩
abbrev cX5_at : ByteArray := prog_7_method_22_code
def yX5_at : MethodName := ⟨RX5, "at", "(II)I"⟩
abbrev cX5_spread : ByteArray := prog_7_method_23_code
def yX5_spread : MethodName := ⟨RX5, "spread", "(J)J"⟩
abbrev cX5_apart : ByteArray := prog_7_method_24_code
def yX5_apart : MethodName := ⟨RX5, "apart", "(II)I"⟩
abbrev cX5_close : ByteArray := prog_7_method_25_code
def yX5_close : MethodName := ⟨RX5, "close", "(J)J"⟩
abbrev cX5_couldBe : ByteArray := prog_7_method_26_code
def yX5_couldBe : MethodName := ⟨RX5, "couldBe", "(IJI)J"⟩
abbrev cX5_could : ByteArray := prog_7_method_27_code
def yX5_could : MethodName := ⟨RX5, "could", "(II)J"⟩
abbrev cX5_seenCould : ByteArray := prog_7_method_28_code
def yX5_seenCould : MethodName := ⟨RX5, "seenCould", "(II)J"⟩
abbrev cX5_unseenCould : ByteArray := prog_7_method_29_code
def yX5_unseenCould : MethodName := ⟨RX5, "unseenCould", "(II)J"⟩
abbrev cX5_anybody : ByteArray := prog_7_method_30_code
def yX5_anybody : MethodName := ⟨RX5, "anybody", "(II)J"⟩
abbrev cX5_why : ByteArray := prog_7_method_31_code
def yX5_why : MethodName := ⟨RX5, "why", "(II)I"⟩
abbrev cX5_let : ByteArray := prog_7_method_32_code
def yX5_let : MethodName := ⟨RX5, "let", "(I)I"⟩
abbrev cX5_goOn : ByteArray := prog_7_method_33_code
def yX5_goOn : MethodName := ⟨RX5, "goOn", "(JI)J"⟩
abbrev cX5_soonest : ByteArray := prog_7_method_34_code
def yX5_soonest : MethodName := ⟨RX5, "soonest", "(III)I"⟩
abbrev cX5_act : ByteArray := prog_7_method_35_code
def yX5_act : MethodName := ⟨RX5, "act", "(II)I"⟩
abbrev cX5_walk : ByteArray := prog_7_method_36_code
def yX5_walk : MethodName := ⟨RX5, "walk", "(II)I"⟩
abbrev cX5_tick : ByteArray := prog_7_method_37_code
def yX5_tick : MethodName := ⟨RX5, "tick", "(I)I"⟩
abbrev cX5_line : ByteArray := prog_7_method_38_code
def yX5_line : MethodName := ⟨RX5, "line", "(II)I"⟩
abbrev cX5_age : ByteArray := prog_7_method_39_code
def yX5_age : MethodName := ⟨RX5, "age", "(II)I"⟩
abbrev cX5_charge : ByteArray := prog_7_method_40_code
def yX5_charge : MethodName := ⟨RX5, "charge", "(II)I"⟩
abbrev cX5_bitsIn : ByteArray := prog_7_method_41_code
def yX5_bitsIn : MethodName := ⟨RX5, "bitsIn", "(J)I"⟩
abbrev cX5_lost : ByteArray := prog_7_method_42_code
def yX5_lost : MethodName := ⟨RX5, "lost", "()I"⟩
abbrev cX5_looks : ByteArray := prog_7_method_43_code
def yX5_looks : MethodName := ⟨RX5, "looks", "(I)I"⟩
abbrev cX5_look : ByteArray := prog_7_method_44_code
def yX5_look : MethodName := ⟨RX5, "look", "(II)I"⟩
abbrev cX5_stepped : ByteArray := prog_7_method_45_code
def yX5_stepped : MethodName := ⟨RX5, "stepped", "(I)J"⟩
abbrev cX5_step : ByteArray := prog_7_method_46_code
def yX5_step : MethodName := ⟨RX5, "step", "(I)I"⟩
abbrev cX5_where : ByteArray := prog_7_method_47_code
def yX5_where : MethodName := ⟨RX5, "where", "()J"⟩
abbrev cX5_unlikeLooks : ByteArray := prog_7_method_48_code
def yX5_unlikeLooks : MethodName := ⟨RX5, "unlikeLooks", "(J)I"⟩
abbrev cX5_tells : ByteArray := prog_7_method_49_code
def yX5_tells : MethodName := ⟨RX5, "tells", "(I)I"⟩
abbrev cX5_order : ByteArray := prog_7_method_50_code
def yX5_order : MethodName := ⟨RX5, "order", "(III)I"⟩
abbrev cX5_steps : ByteArray := prog_7_method_51_code
def yX5_steps : MethodName := ⟨RX5, "steps", "(II)I"⟩
abbrev cX5_measure : ByteArray := prog_7_method_52_code
def yX5_measure : MethodName := ⟨RX5, "measure", "()Z"⟩
abbrev cX5_rowsOf : ByteArray := prog_7_method_53_code
def yX5_rowsOf : MethodName := ⟨RX5, "rowsOf", "(I)I"⟩
abbrev cX5_tellRow : ByteArray := prog_7_method_54_code
def yX5_tellRow : MethodName := ⟨RX5, "tellRow", "(II)I"⟩
abbrev cX5_lateOf : ByteArray := prog_7_method_55_code
def yX5_lateOf : MethodName := ⟨RX5, "lateOf", "(II)I"⟩
abbrev cX5_leastOf : ByteArray := prog_7_method_56_code
def yX5_leastOf : MethodName := ⟨RX5, "leastOf", "(IIZ)I"⟩
abbrev cX5_findLate : ByteArray := prog_7_method_57_code
def yX5_findLate : MethodName := ⟨RX5, "findLate", "()I"⟩
abbrev cX5_late : ByteArray := prog_7_method_58_code
def yX5_late : MethodName := ⟨RX5, "late", "()I"⟩
abbrev cX5_served : ByteArray := prog_7_method_59_code
def yX5_served : MethodName := ⟨RX5, "served", "(II)I"⟩
abbrev cX5_move : ByteArray := prog_7_method_60_code
def yX5_move : MethodName := ⟨RX5, "move", "([IIII)V"⟩
abbrev cX5_moveAll : ByteArray := prog_7_method_61_code
def yX5_moveAll : MethodName := ⟨RX5, "moveAll", "(II)V"⟩
abbrev cX5_keep : ByteArray := prog_7_method_62_code
def yX5_keep : MethodName := ⟨RX5, "keep", "(I)I"⟩
abbrev cX5_back : ByteArray := prog_7_method_63_code
def yX5_back : MethodName := ⟨RX5, "back", "(I)I"⟩
abbrev cX5_count : ByteArray := prog_7_method_64_code
def yX5_count : MethodName := ⟨RX5, "count", "(I)I"⟩
abbrev cX5_trace : ByteArray := prog_7_method_65_code
def yX5_trace : MethodName := ⟨RX5, "trace", "()J"⟩
def RJ13 : String := "java/lang/Long"
def TJ13 : u_T := fun k => match k with
  | _ => ("", "", "", false)
def tyJ13 : Nat → FieldType := fun k => match k with
  | _ => .int
theorem nmJ13 : ∀ a, a < 0 → ∀ b, b < 0 → a ≠ b → (TJ13 a).2.1 ≠ (TJ13 b).2.1 := by decide +kernel
theorem tyJ13_ok : ∀ k, k < 0 → parseFieldDescriptor (TJ13 k).2.2.1 = some (tyJ13 k) := by decide +kernel
abbrev cJ13_bitCount_95d88 : ByteArray := prog_8_method_50_code
def yJ13_bitCount_95d88 : MethodName := ⟨RJ13, "bitCount", "(J)I"⟩
def RJ9 : String := "java/lang/Math"
def TJ9 : u_T := fun k => match k with
  | _ => ("", "", "", false)
def tyJ9 : Nat → FieldType := fun k => match k with
  | _ => .int
theorem nmJ9 : ∀ a, a < 0 → ∀ b, b < 0 → a ≠ b → (TJ9 a).2.1 ≠ (TJ9 b).2.1 := by decide +kernel
theorem tyJ9_ok : ∀ k, k < 0 → parseFieldDescriptor (TJ9 k).2.2.1 = some (tyJ9 k) := by decide +kernel
abbrev cJ9_max_7cf53 : ByteArray := prog_9_method_65_code
def yJ9_max_7cf53 : MethodName := ⟨RJ9, "max", "(II)I"⟩
def RJ10 : String := "java/lang/System"
def TJ10 : u_T := fun k => match k with
  | _ => ("", "", "", false)
def tyJ10 : Nat → FieldType := fun k => match k with
  | _ => .int
theorem nmJ10 : ∀ a, a < 0 → ∀ b, b < 0 → a ≠ b → (TJ10 a).2.1 ≠ (TJ10 b).2.1 := by decide +kernel
theorem tyJ10_ok : ∀ k, k < 0 → parseFieldDescriptor (TJ10 k).2.2.1 = some (tyJ10 k) := by decide +kernel
def RJ7 : String := "java/util/Arrays"
def TJ7 : u_T := fun k => match k with
  | _ => ("", "", "", false)
def tyJ7 : Nat → FieldType := fun k => match k with
  | _ => .int
theorem nmJ7 : ∀ a, a < 0 → ∀ b, b < 0 → a ≠ b → (TJ7 a).2.1 ≠ (TJ7 b).2.1 := by decide +kernel
theorem tyJ7_ok : ∀ k, k < 0 → parseFieldDescriptor (TJ7 k).2.2.1 = some (tyJ7 k) := by decide +kernel
abbrev cJ7_fill_d0a16 : ByteArray := prog_11_method_101_code
def yJ7_fill_d0a16 : MethodName := ⟨RJ7, "fill", "([JJ)V"⟩
abbrev cJ7_fill_53178 : ByteArray := prog_11_method_103_code
def yJ7_fill_53178 : MethodName := ⟨RJ7, "fill", "([II)V"⟩
def RL : String := "HallCarrierLaw"
abbrev cL_law : ByteArray := code
def yL_law : MethodName := ⟨RL, "law", "([I)Z"⟩
abbrev vwCl : List vw_C := [(RX0, TX0, 5), (RX1, TX1, 6), (RX2, TX2, 11), (RX3, TX3, 11), (RX4, TX4, 10), (RX5, TX5, 40)]
end
section
/-! ===== the world of this claim as two functions; a step function over it ===== -/
def xNest : Cond → Bool
  | .fieldLinkNest _ _ _ _ _ _ => true
  | .methodLinkNest _ _ _ _ => true
  | _ => false
def XG : List Cond := lw_tbl.filter goodWord
def XN : List Cond := lw_tbl.filter xNest
theorem xg_in {w : Cond} (h : w ∈ lw_tbl) (g : goodWord w = true) : w ∈ XG := List.mem_filter.mpr ⟨h, g⟩
theorem xg_tab {w : Cond} (i : Nat) (h : tables_1[i]? = some w) (g : goodWord w = true) : w ∈ XG := xg_in (List.mem_append_right _ (List.mem_of_getElem? h)) g
theorem xn_tab {w : Cond} (i : Nat) (h : tables_1[i]? = some w) (g : xNest w = true) : w ∈ XN := List.mem_filter.mpr ⟨List.mem_append_right _ (List.mem_of_getElem? h), g⟩
theorem xg_prv {y : MethodName} {n : Nat} (i : Nat) (h : lw_privs[i]? = some (y, n)) (g : goodWord (Cond.selects y.cls y y) = true) : Cond.selects y.cls y y ∈ XG :=
  xg_in (List.mem_append_left _ (List.mem_map.mpr ⟨_, List.mem_of_getElem? h, rfl⟩)) g
theorem xg_good {w : Cond} (h : w ∈ XG) : (w.onTables && w.keeps) = true ∨ ∃ ty, w = .arrayClass ty := good_of_word (List.mem_filter.mp h).2
theorem xg_goodIn {w1 w2 : Cond} (h : w2 ∈ XG) : GoodIn (w1 :: XG) (w2 :: XG) := by
  intro w hw
  rcases List.mem_cons.mp hw with rfl | hw
  · exact ⟨List.mem_cons_of_mem _ h, xg_good h⟩
  · exact ⟨List.mem_cons_of_mem _ hw, xg_good hw⟩
theorem xg_goodIn0 {w2 : Cond} (h : w2 ∈ XG) : GoodIn XG (w2 :: XG) := by
  intro w hw
  rcases List.mem_cons.mp hw with rfl | hw
  · exact ⟨h, xg_good h⟩
  · exact ⟨hw, xg_good hw⟩
/-- the mutable state: of each cell its int places and its long places -/
abbrev Hp : Type := (Nat → Nat → Int32) × (Nat → Nat → Int64)
def xI (h : Hp) (c j : Nat) (v : Int32) : Hp := (fun a b => if a = c ∧ b = j then v else h.1 a b, h.2)
def xL (h : Hp) (c j : Nat) (v : Int64) : Hp := (h.1, fun a b => if a = c ∧ b = j then v else h.2 a b)
def xCp (h : Hp) (c0 c1 sp dp n : Nat) : Hp := (fun a b => if a = c1 then va_cpy (h.1 c0) (h.1 c1) sp dp n b else h.1 a b, h.2)
theorem xI_self (h : Hp) (c j : Nat) (v : Int32) : (xI h c j v).1 c = upd (h.1 c) j v := by
  funext b; simp [xI, upd]
theorem xI_ne (h : Hp) {c k : Nat} (j : Nat) (v : Int32) (e : k ≠ c) : (xI h c j v).1 k = h.1 k := by
  funext b; simp [xI, e]
theorem xL_self (h : Hp) (c j : Nat) (v : Int64) : (xL h c j v).2 c = vp_updL (h.2 c) j v := by
  funext b; simp [xL, vp_updL]
theorem xL_ne (h : Hp) {c k : Nat} (j : Nat) (v : Int64) (e : k ≠ c) : (xL h c j v).2 k = h.2 k := by
  funext b; simp [xL, e]
theorem xCp_self (h : Hp) (c0 c1 sp dp n : Nat) : (xCp h c0 c1 sp dp n).1 c1 = va_cpy (h.1 c0) (h.1 c1) sp dp n := by
  funext b; simp [xCp]
theorem xCp_ne (h : Hp) {c0 c1 k : Nat} (sp dp n : Nat) (e : k ≠ c1) : (xCp h c0 c1 sp dp n).1 k = h.1 k := by
  funext b; simp [xCp, e]
/-- what never changes of a cell: an array's kind (0 int, 1 long, 2 byte, 3 boolean, 4 of references), length, references; an object's class and, of each field, its kind (.int int, .float boolean, .long long, .ref its cell) -/
abbrev xSh : Type := (Nat × Nat × List Nat) ⊕ (Nat × List Value)
def xshL : List xSh := [
  .inr (4, [.ref 1, .int 0, .ref 2, .ref 6, .ref 13, .ref 28, .ref 30, .ref 38, .long 0, .long 0]),
  .inl (0, 80, []),
  .inr (1, [.ref 3, .ref 4, .ref 5, .int 0, .long 0, .long 0]),
  .inl (0, 64, []),
  .inl (0, 8, []),
  .inl (1, 10, []),
  .inr (3, [.ref 7, .ref 8, .ref 9, .ref 10, .ref 11, .ref 12, .int 0, .int 0, .int 0, .int 0, .float 0]),
  .inl (0, 6, []),
  .inl (0, 6, []),
  .inl (0, 2, []),
  .inl (0, 2, []),
  .inl (0, 128, []),
  .inl (0, 500, []),
  .inl (4, 2, [14, 21]),
  .inr (3, [.ref 15, .ref 16, .ref 17, .ref 18, .ref 19, .ref 20, .int 0, .int 0, .int 0, .int 0, .float 0]),
  .inl (0, 6, []),
  .inl (0, 6, []),
  .inl (0, 2, []),
  .inl (0, 2, []),
  .inl (0, 128, []),
  .inl (0, 500, []),
  .inr (3, [.ref 22, .ref 23, .ref 24, .ref 25, .ref 26, .ref 27, .int 0, .int 0, .int 0, .int 0, .float 0]),
  .inl (0, 6, []),
  .inl (0, 6, []),
  .inl (0, 2, []),
  .inl (0, 2, []),
  .inl (0, 128, []),
  .inl (0, 500, []),
  .inr (0, [.ref 29, .long 0, .long 0, .long 0, .long 0]),
  .inl (1, 4, []),
  .inr (2, [.ref 31, .ref 32, .ref 33, .ref 34, .ref 35, .ref 36, .ref 37, .int 0, .int 0, .float 0, .float 0]),
  .inl (0, 6, []),
  .inl (0, 6, []),
  .inl (0, 6, []),
  .inl (0, 48, []),
  .inl (0, 128, []),
  .inl (0, 128, []),
  .inl (0, 2, []),
  .inl (1, 5, []),
  .inr (5, [.long 0, .ref 40, .int 0, .int 0, .int 0, .ref 41, .ref 42, .int 0, .long 0, .long 0, .int 0, .int 0, .int 0, .ref 43, .ref 44, .int 0, .ref 45, .ref 46, .ref 47, .int 0, .int 0, .ref 48, .ref 49, .ref 50, .ref 51, .int 0, .ref 52, .ref 53, .ref 54, .ref 55, .ref 56, .ref 57, .ref 58, .ref 59, .ref 60, .ref 61, .ref 62, .ref 63, .ref 64, .ref 65]),
  .inl (2, 80, []),
  .inl (0, 64, []),
  .inl (0, 8, []),
  .inl (0, 18, []),
  .inl (0, 18, []),
  .inl (0, 6, []),
  .inl (0, 6, []),
  .inl (0, 384, []),
  .inl (0, 1500, []),
  .inl (1, 21, []),
  .inl (1, 21, []),
  .inl (3, 160, []),
  .inl (0, 6, []),
  .inl (0, 6, []),
  .inl (0, 6, []),
  .inl (0, 48, []),
  .inl (0, 6, []),
  .inl (0, 6, []),
  .inl (0, 12, []),
  .inl (0, 2, []),
  .inl (0, 6, []),
  .inl (3, 2, []),
  .inl (0, 2, []),
  .inl (0, 2, []),
  .inl (0, 2, []),
  .inl (0, 2, [])]
theorem xshL_len : xshL.length = 66 := by decide
abbrev xN : Nat := 66
def xsh (k : Nat) : Option xSh := xshL[k]?
def xcv (ad : Nat → Nat) : Value → Value
  | .ref r => .ref (ad r)
  | v => v
def xfv (ad : Nat → Nat) (h : Hp) (k j : Nat) : Value → Value
  | .int _ => .int (h.1 k j)
  | .float _ => .int (h.1 k j)
  | .long _ => .long (h.2 k j)
  | .ref r => .ref (ad r)
  | v => v
def xce (cT : Nat → ClassId) (ad : Nat → Nat) (h : Hp) (k : Nat) : va_E := match xsh k with
  | some (.inl (t, n, rs)) => .inl (cT t, n, if t = 1 then .inr (.inl (h.2 k)) else if t = 4 then .inr (.inr (.inr (.inr (fun j => (rs[j]?).map ad)))) else .inl (h.1 k))
  | some (.inr (ci, tm)) => .inr (ci, tm.mapIdx (fun j v => xfv ad h k j v))
  | none => .inr (0, [])
def xwrl (n : Nat) (cT : Nat → ClassId) (ad : Nat → Nat) (h : Hp) : va_W := (List.range n).map (fun k => (ad k, xce cT ad h k))
theorem xwrl_get {n : Nat} {cT : Nat → ClassId} {ad : Nat → Nat} {h : Hp} {k : Nat} (hk : k < n) : (xwrl n cT ad h)[k]? = some (ad k, xce cT ad h k) := by
  simp [xwrl, hk]
theorem xwrl_inv {n : Nat} {cT : Nat → ClassId} {ad : Nat → Nat} {h : Hp} {k : Nat} {q : Nat × va_E} (e : (xwrl n cT ad h)[k]? = some q) : k < n ∧ q = (ad k, xce cT ad h k) := by
  have hk : k < n := by
    have := (List.getElem?_eq_some_iff.mp e).1
    simpa [xwrl] using this
  rw [xwrl_get hk] at e
  exact ⟨hk, (Option.some.inj e).symm⟩
theorem xwrl_set {n : Nat} {cT : Nat → ClassId} {ad : Nat → Nat} {h h' : Hp} {k : Nat} {x : va_E} (hk : k < n) (he : xce cT ad h' k = x) (ho : ∀ j, j ≠ k → xce cT ad h' j = xce cT ad h j) : (xwrl n cT ad h).set k (ad k, x) = xwrl n cT ad h' := by
  apply List.ext_getElem?
  intro i
  by_cases hi : i = k
  · subst hi
    rw [List.getElem?_set_self (by simpa [xwrl] using hk), xwrl_get hk, he]
  · rw [List.getElem?_set_ne (Ne.symm hi)]
    by_cases hin : i < n
    · rw [xwrl_get hin, xwrl_get hin, ho i hi]
    · rw [List.getElem?_eq_none (by simpa [xwrl] using hin), List.getElem?_eq_none (by simpa [xwrl] using hin)]
/-- addresses apart, of a kind -/
def xad (n : Nat) (ad : Nat → Nat) (A : Nat → Prop) : Prop := (∀ i j, i < n → j < n → ad i = ad j → i = j) ∧ ∀ k, k < n → A (ad k)
theorem xad_D {n : Nat} {cT : Nat → ClassId} {ad : Nat → Nat} {A : Nat → Prop} (hA : xad n ad A) (h : Hp) : va_D A (xwrl n cT ad h) := by
  refine ⟨fun i j p q hi hj e => ?_, fun k q hk => ?_⟩
  · obtain ⟨a1, rfl⟩ := xwrl_inv hi
    obtain ⟨a2, rfl⟩ := xwrl_inv hj
    exact hA.1 i j a1 a2 e
  · obtain ⟨a1, rfl⟩ := xwrl_inv hk
    exact hA.2 k a1
theorem xad_of_D {n : Nat} {cT : Nat → ClassId} {ad : Nat → Nat} {A : Nat → Prop} {h : Hp} (hD : va_D A (xwrl n cT ad h)) : xad n ad A :=
  ⟨fun i j hi hj e => hD.1 i j _ _ (xwrl_get hi) (xwrl_get hj) e, fun k hk => hD.2 k _ (xwrl_get hk)⟩
theorem xA_iff {n : Nat} {cT : Nat → ClassId} {ad : Nat → Nat} {h h' : Hp} {sz : Nat} : va_A (xwrl n cT ad h) sz = va_A (xwrl n cT ad h') sz := by
  funext q
  apply propext
  constructor
  · rintro (⟨k, x, hk⟩ | hq)
    · obtain ⟨a1, a2⟩ := xwrl_inv hk
      exact Or.inl ⟨k, xce cT ad h' k, by rw [xwrl_get a1, (Prod.mk.inj a2).1]⟩
    · exact Or.inr hq
  · rintro (⟨k, x, hk⟩ | hq)
    · obtain ⟨a1, a2⟩ := xwrl_inv hk
      exact Or.inl ⟨k, xce cT ad h k, by rw [xwrl_get a1, (Prod.mk.inj a2).1]⟩
    · exact Or.inr hq
def xty : Nat → FieldType
  | 0 => .int
  | 1 => .long
  | 2 => .byte
  | 3 => .boolean
  | _ => .object "HallCarrier$Scene"
def xtys (cT : Nat → ClassId) : List (ClassId × FieldType) := [(cT 0, .int), (cT 1, .long), (cT 2, .byte), (cT 3, .boolean), (cT 4, .object "HallCarrier$Scene")]
def XK (D : va_G) (cT : Nat → ClassId) (U : State) : Prop := va_K D vwCl (xtys cT) U ∧ ∀ w ∈ XN, va_Nw w U
theorem xn_tables {w : Cond} (h : w ∈ XN) : w.onTables = true := by
  have := (List.mem_filter.mp h).2
  cases w <;> first | rfl | (simp [xNest] at this)
theorem XK.warm {D : va_G} {cT : Nat → ClassId} {s U : State} (hW : s.WarmedH U.vm) (h : XK D cT s) : XK D cT U := by
  refine ⟨va_K.moved hW.alike h.1, fun w hw => ?_⟩
  have h1 := h.2 w hw
  have h2 := (List.mem_filter.mp hw).2
  cases w <;> first | exact va_Nw.warmF hW h1 | exact va_Nw.warmM hW h1 | (simp [xNest] at h2)
theorem XK.same {D : va_G} {cT : Nat → ClassId} {u U : State} (e : u.vm = U.vm) (h : XK D cT u) : XK D cT U :=
  ⟨va_K.moved (e ▸ Vm.Alike.refl u.vm) h.1, fun w hw => va_Nw.same (xn_tables hw) e (h.2 w hw)⟩
theorem XK.back {D : va_G} {cT : Nat → ClassId} {s t : State} (hvm : s.vm.Alike t.vm) (hs : XK D cT s) : va_K D vwCl (xtys cT) s := hs.1
end
section
/-! ===== the step function ===== -/
def jshl (x y : Int32) : Int32 := x <<< (y &&& 31)
def jshr (x y : Int32) : Int32 := x >>> (y &&& 31)
def jushr (x y : Int32) : Int32 := (x.toUInt32 >>> (y.toUInt32 &&& Int32.toUInt32 31)).toInt32
def jrem (x y : Int32) : Int32 := x - x / y * y
def jshlL (x : Int64) (y : Int32) : Int64 := x <<< (y.toInt64 &&& 63)
def jshrL (x : Int64) (y : Int32) : Int64 := x >>> (y.toInt64 &&& 63)
def jushrL (x : Int64) (y : Int32) : Int64 := (x.toUInt64 >>> (y.toInt64.toUInt64 &&& Int64.toUInt64 63)).toInt64
def ji2b (x : Int32) : Int32 := x.toInt8.toInt32
def xin (i : Int32) (n : Nat) : Bool := !(decide (i < 0) || decide (n ≤ i.toNatClampNeg))
theorem xin_vp {i : Int32} {n : Nat} (h : xin i n = true) : vp_in i n := by
  simpa [xin, vp_in, not_or] using h
def xnz (y : Int32) : Bool := !decide (y = 0)
def xbool (v : Int32) : Bool := decide (v = 0) || decide (v = 1)
def xic (n : Int) : Int32 := match n with
  | .ofNat k => Int32.ofNat k
  | .negSucc k => -(Int32.ofNat (k + 1))
theorem xic_ok (n : Int) : Int32.ofInt n = xic n := by
  cases n with
  | ofNat k => rfl
  | negSucc k =>
    show Int32.ofInt (-((k + 1 : Nat) : Int)) = -(Int32.ofNat (k + 1))
    rw [Int32.ofInt_neg]; rfl
def xlk : List (Nat × Value) → Nat → Option Value
  | [], _ => none
  | q :: t, i => if q.1 = i then some q.2 else xlk t i
theorem xlk_mem {ls : List (Nat × Value)} {i : Nat} {v : Value} (h : xlk ls i = some v) : (i, v) ∈ ls := by
  induction ls with
  | nil => cases h
  | cons q t ih =>
    unfold xlk at h
    split at h
    · next e => cases h; subst e; exact List.mem_cons_self
    · exact List.mem_cons_of_mem _ (ih h)
def xcl (ad : Nat → Nat) (ls : List (Nat × Value)) : List (Nat × Value) := ls.map (fun q => (q.1, xcv ad q.2))
theorem xcv_cat (ad : Nat → Nat) (v : Value) : (xcv ad v).category = v.category := by cases v <;> rfl
theorem xlk_at {ad : Nat → Nat} {la : Array Slot} {nL : Nat} {ls : List (Nat × Value)} {i : Nat} {v : Value} (hl : lv_has la nL (xcl ad ls)) (h : xlk ls i = some v) : la[i]? = some (.val (xcv ad v)) :=
  hl.2.2 (i, xcv ad v) (List.mem_map.mpr ⟨(i, v), xlk_mem h, rfl⟩)
def xst1 (ls : List (Nat × Value)) (i : Nat) (v : Value) : List (Nat × Value) := (i, v) :: ls.filter (fun q => !(q.1 == i) && !(q.1 + 1 == i && q.2.category == 2))
def xst2 (ls : List (Nat × Value)) (i : Nat) (v : Value) : List (Nat × Value) := (i, v) :: ls.filter (fun q => !(q.1 == i) && (!(q.1 == i + 1) && !(q.1 + 1 == i && q.2.category == 2)))
theorem xcl_st1 (ad : Nat → Nat) (ls : List (Nat × Value)) (i : Nat) (v : Value) : (i, xcv ad v) :: (xcl ad ls).filter (fun q => !(q.1 == i) && !(q.1 + 1 == i && q.2.category == 2)) = xcl ad (xst1 ls i v) := by
  simp only [xcl, xst1, List.map_cons, List.filter_map]
  congr 2
  apply List.filter_congr
  intro q _
  simp [Function.comp, xcv_cat]
theorem xcl_st2 (ad : Nat → Nat) (ls : List (Nat × Value)) (i : Nat) (v : Value) : (i, xcv ad v) :: (xcl ad ls).filter (fun q => !(q.1 == i) && (!(q.1 == i + 1) && !(q.1 + 1 == i && q.2.category == 2))) = xcl ad (xst2 ls i v) := by
  simp only [xcl, xst2, List.map_cons, List.filter_map]
  congr 2
  apply List.filter_congr
  intro q _
  simp [Function.comp, xcv_cat]
abbrev XS : Type := List (Nat × Value) × List Value × Hp × Bool
/-- a class's pool: fields (entry, class, place, of a nest mate), ints, longs -/
abbrev XPool : Type := List (Nat × Nat × Nat × Bool) × List (Nat × Int32) × List (Nat × Int64)
def xpF : List (Nat × Nat × Nat × Bool) → Nat → Option (Nat × Nat × Bool)
  | [], _ => none
  | q :: t, i => if q.1 = i then some q.2 else xpF t i
def xpC {α : Type} : List (Nat × α) → Nat → Option α
  | [], _ => none
  | q :: t, i => if q.1 = i then some q.2 else xpC t i
theorem xpF_mem {l : List (Nat × Nat × Nat × Bool)} {i : Nat} {v : Nat × Nat × Bool} (h : xpF l i = some v) : (i, v) ∈ l := by
  induction l with
  | nil => cases h
  | cons q t ih =>
    unfold xpF at h
    split at h
    · next e => cases h; subst e; exact List.mem_cons_self
    · exact List.mem_cons_of_mem _ (ih h)
theorem xpC_mem {α : Type} {l : List (Nat × α)} {i : Nat} {v : α} (h : xpC l i = some v) : (i, v) ∈ l := by
  induction l with
  | nil => cases h
  | cons q t ih =>
    unfold xpC at h
    split at h
    · next e => cases h; subst e; exact List.mem_cons_self
    · exact List.mem_cons_of_mem _ (ih h)
/-- the field of an object: its kind's template -/
def xtm (b r ci k : Nat) : Option Value := if r < b then (match xsh r with
  | some (.inr (c, tm)) => if c = ci then tm[k]? else none
  | _ => none) else none
/-- an array: its kind and length -/
def xar (b r : Nat) : Option (Nat × Nat) := if r < b then (match xsh r with
  | some (.inl (t, n, _)) => some (t, n)
  | _ => none) else none
def xlen : Instr → Nat
  | .iload _ => 2
  | .lload _ => 2
  | .aload _ => 2
  | .istore _ => 2
  | .lstore _ => 2
  | .astore _ => 2
  | .bipush _ => 2
  | .ldc _ => 2
  | .sipush _ => 3
  | .getfield _ => 3
  | .putfield _ => 3
  | .iinc _ _ => 3
  | .ldc2_w _ => 3
  | _ => 1
def xload (s : XS) (i : Nat) : Option XS := match s with
  | (ls, st, h, g) => match xlk ls i with
    | some v => some (ls, v :: st, h, g)
    | none => none
def xs1 (P : XPool) (b nL : Nat) (i : Instr) (s : XS) : Option XS := match s with
  | (ls, st, h, g) => match i with
    | .iconst n => some (ls, .int (xic n) :: st, h, g)
    | .bipush n => if -128 ≤ n ∧ n < 128 then some (ls, .int (xic n) :: st, h, g) else none
    | .sipush n => if -32768 ≤ n ∧ n < 32768 then some (ls, .int (xic n) :: st, h, g) else none
    | .lconst n => some (ls, .long (if (n : Nat) = 0 then 0 else 1) :: st, h, g)
    | .ldc k => match xpC P.2.1 k with
      | some v => some (ls, .int v :: st, h, g)
      | none => none
    | .ldc2_w k => match xpC P.2.2 k with
      | some v => some (ls, .long v :: st, h, g)
      | none => none
    | .iload k => match xlk ls k with
      | some (.int v) => some (ls, .int v :: st, h, g)
      | _ => none
    | .iload_n k => match xlk ls k with
      | some (.int v) => some (ls, .int v :: st, h, g)
      | _ => none
    | .lload k => match xlk ls k with
      | some (.long v) => some (ls, .long v :: st, h, g)
      | _ => none
    | .lload_n k => match xlk ls k with
      | some (.long v) => some (ls, .long v :: st, h, g)
      | _ => none
    | .aload k => match xlk ls k with
      | some (.ref v) => some (ls, .ref v :: st, h, g)
      | _ => none
    | .aload_n k => match xlk ls k with
      | some (.ref v) => some (ls, .ref v :: st, h, g)
      | _ => none
    | .istore k => match st with
      | .int v :: r => if k < nL then some (xst1 ls k (.int v), r, h, g) else none
      | _ => none
    | .istore_n k => match st with
      | .int v :: r => if (k : Nat) < nL then some (xst1 ls k (.int v), r, h, g) else none
      | _ => none
    | .lstore k => match st with
      | .long v :: r => if k + 1 < nL then some (xst2 ls k (.long v), r, h, g) else none
      | _ => none
    | .lstore_n k => match st with
      | .long v :: r => if (k : Nat) + 1 < nL then some (xst2 ls k (.long v), r, h, g) else none
      | _ => none
    | .iinc k n => match xlk ls k with
      | some (.int v) => if k < nL then some (xst1 ls k (.int (v + xic n)), st, h, g) else none
      | _ => none
    | .iadd => match st with
      | .int y :: .int x :: r => some (ls, .int (x + y) :: r, h, g)
      | _ => none
    | .isub => match st with
      | .int y :: .int x :: r => some (ls, .int (x - y) :: r, h, g)
      | _ => none
    | .imul => match st with
      | .int y :: .int x :: r => some (ls, .int (x * y) :: r, h, g)
      | _ => none
    | .idiv => match st with
      | .int y :: .int x :: r => some (ls, .int (x / y) :: r, h, xnz y && g)
      | _ => none
    | .irem => match st with
      | .int y :: .int x :: r => some (ls, .int (jrem x y) :: r, h, xnz y && g)
      | _ => none
    | .ineg => match st with
      | .int x :: r => some (ls, .int (-x) :: r, h, g)
      | _ => none
    | .iand => match st with
      | .int y :: .int x :: r => some (ls, .int (x &&& y) :: r, h, g)
      | _ => none
    | .ior => match st with
      | .int y :: .int x :: r => some (ls, .int (x ||| y) :: r, h, g)
      | _ => none
    | .ixor => match st with
      | .int y :: .int x :: r => some (ls, .int (x ^^^ y) :: r, h, g)
      | _ => none
    | .ishl => match st with
      | .int y :: .int x :: r => some (ls, .int (jshl x y) :: r, h, g)
      | _ => none
    | .ishr => match st with
      | .int y :: .int x :: r => some (ls, .int (jshr x y) :: r, h, g)
      | _ => none
    | .iushr => match st with
      | .int y :: .int x :: r => some (ls, .int (jushr x y) :: r, h, g)
      | _ => none
    | .ladd => match st with
      | .long y :: .long x :: r => some (ls, .long (x + y) :: r, h, g)
      | _ => none
    | .lsub => match st with
      | .long y :: .long x :: r => some (ls, .long (x - y) :: r, h, g)
      | _ => none
    | .lmul => match st with
      | .long y :: .long x :: r => some (ls, .long (x * y) :: r, h, g)
      | _ => none
    | .land => match st with
      | .long y :: .long x :: r => some (ls, .long (x &&& y) :: r, h, g)
      | _ => none
    | .lor => match st with
      | .long y :: .long x :: r => some (ls, .long (x ||| y) :: r, h, g)
      | _ => none
    | .lxor => match st with
      | .long y :: .long x :: r => some (ls, .long (x ^^^ y) :: r, h, g)
      | _ => none
    | .lshl => match st with
      | .int y :: .long x :: r => some (ls, .long (jshlL x y) :: r, h, g)
      | _ => none
    | .lshr => match st with
      | .int y :: .long x :: r => some (ls, .long (jshrL x y) :: r, h, g)
      | _ => none
    | .lushr => match st with
      | .int y :: .long x :: r => some (ls, .long (jushrL x y) :: r, h, g)
      | _ => none
    | .lcmp => match st with
      | .long y :: .long x :: r => some (ls, .int (lg_cmp x y) :: r, h, g)
      | _ => none
    | .i2l => match st with
      | .int x :: r => some (ls, .long x.toInt64 :: r, h, g)
      | _ => none
    | .l2i => match st with
      | .long x :: r => some (ls, .int x.toInt32 :: r, h, g)
      | _ => none
    | .i2b => match st with
      | .int x :: r => some (ls, .int (ji2b x) :: r, h, g)
      | _ => none
    | .dup => match st with
      | .int x :: r => some (ls, .int x :: .int x :: r, h, g)
      | .ref x :: r => some (ls, .ref x :: .ref x :: r, h, g)
      | _ => none
    | .pop => match st with
      | .int _ :: r => some (ls, r, h, g)
      | .ref _ :: r => some (ls, r, h, g)
      | _ => none
    | .dup2 => match st with
      | .long x :: r => some (ls, .long x :: .long x :: r, h, g)
      | .int x :: .ref y :: r => some (ls, .int x :: .ref y :: .int x :: .ref y :: r, h, g)
      | _ => none
    | .getfield k => match st with
      | .ref q :: r => match xpF P.1 k with
        | some (ci, f, _) => match xtm b q ci f with
          | some (.int _) => some (ls, .int (h.1 q f) :: r, h, g)
          | some (.float _) => some (ls, .int (h.1 q f) :: r, h, g)
          | some (.long _) => some (ls, .long (h.2 q f) :: r, h, g)
          | some (.ref t) => some (ls, .ref t :: r, h, g)
          | _ => none
        | none => none
      | _ => none
    | .putfield k => match st with
      | .int v :: .ref q :: r => match xpF P.1 k with
        | some (ci, f, _) => match xtm b q ci f with
          | some (.int _) => some (ls, r, xI h q f v, g)
          | some (.float _) => some (ls, r, xI h q f v, xbool v && g)
          | _ => none
        | none => none
      | .long v :: .ref q :: r => match xpF P.1 k with
        | some (ci, f, _) => match xtm b q ci f with
          | some (.long _) => some (ls, r, xL h q f v, g)
          | _ => none
        | none => none
      | _ => none
    | .arraylength => match st with
      | .ref q :: r => match xar b q with
        | some (_, n) => some (ls, .int (Int32.ofNat n) :: r, h, g)
        | none => none
      | _ => none
    | .iaload => match st with
      | .int j :: .ref q :: r => match xar b q with
        | some (0, n) => some (ls, .int (h.1 q j.toNatClampNeg) :: r, h, xin j n && g)
        | _ => none
      | _ => none
    | .laload => match st with
      | .int j :: .ref q :: r => match xar b q with
        | some (1, n) => some (ls, .long (h.2 q j.toNatClampNeg) :: r, h, xin j n && g)
        | _ => none
      | _ => none
    | .baload => match st with
      | .int j :: .ref q :: r => match xar b q with
        | some (2, n) => some (ls, .int (h.1 q j.toNatClampNeg) :: r, h, xin j n && g)
        | some (3, n) => some (ls, .int (h.1 q j.toNatClampNeg) :: r, h, xin j n && g)
        | _ => none
      | _ => none
    | .iastore => match st with
      | .int v :: .int j :: .ref q :: r => match xar b q with
        | some (0, n) => some (ls, r, xI h q j.toNatClampNeg v, xin j n && g)
        | _ => none
      | _ => none
    | .lastore => match st with
      | .long v :: .int j :: .ref q :: r => match xar b q with
        | some (1, n) => some (ls, r, xL h q j.toNatClampNeg v, xin j n && g)
        | _ => none
      | _ => none
    | .bastore => match st with
      | .int v :: .int j :: .ref q :: r => match xar b q with
        | some (2, n) => some (ls, r, xI h q j.toNatClampNeg (vp_nar .byte v), xin j n && g)
        | some (3, n) => some (ls, r, xI h q j.toNatClampNeg (vp_nar .boolean v), xin j n && g)
        | _ => none
      | _ => none
    | _ => none
def xblk (P : XPool) (b nL : Nat) : List Instr → XS → Option XS
  | [], s => some s
  | i :: is, s => match xs1 P b nL i s with
    | some s' => xblk P b nL is s'
    | none => none
def xdec (cc : ByteArray) : Nat → List Instr → Bool
  | _, [] => true
  | pc, i :: is => decide (decode cc pc = .ok (i, xlen i)) && xdec cc (pc + xlen i) is
def xend : Nat → List Instr → Nat
  | pc, [] => pc
  | pc, i :: is => xend (pc + xlen i) is
/-! ===== the context of a walk; its judgement ===== -/
abbrev XCtx : Type := Program × Launch × Env × Room × State × MethodId × Array Value × List Frame × Method × Code × va_G × (Nat → ClassId) × (Nat → Nat) × (Nat → Prop) × (State → Prop) × Nat × Nat × Nat
def XW (X : XCtx) (pc : Nat) (ls : List (Nat × Value)) (st : List Value) (h : Hp) : Prop := match X with
  | (p, l, e, R, s, m, args, below, meth, c, D, cT, ad, A, Q, n, kc, ks) => ∀ (H : Heap) (locs : List Loc) (la : Array Slot), va_P D vwCl (xwrl n cT ad h) H → va_S A s.heap H locs → lv_has la c.maxLocals (xcl ad ls) →
    W p l e R s m args below meth c H locs kc ks Q (F0 m pc la (st.map (xcv ad)))
def XOk (X : XCtx) (own : String) (cc : ByteArray) (nL d b : Nat) : Prop := match X with
  | (p, l, e, R, s, m, args, below, meth, c, D, cT, ad, A, Q, n, kc, ks) => p.tables.exec = Jvm.exec ∧ c.code = cc ∧ c.maxLocals = nL ∧ s.vm.findClass own = some m.cls ∧ (∀ w ∈ XG, w.before args s = true) ∧ XK D cT s ∧ (∀ q, s.heap.size ≤ q → A q) ∧ xad n ad A ∧ b ≤ n ∧ n ≤ 66 ∧ d ≤ R.frames ∧ 64 * d ≤ R.locals ∧ kc ≤ R.cells ∧ ks ≤ R.slots
theorem XW.pick {X : XCtx} {pc : Nat} {ls ls' : List (Nat × Value)} {st : List Value} {h : Hp} (ks : List Nat) (hpk : lv_pick ls ks = ls') (k : XW X pc ls' st h) : XW X pc ls st h := by
  obtain ⟨p, l, e, R, s, m, args, below, meth, c, D, cT, ad, A, Q, n, kc, ks⟩ := X
  intro H locs la hP hS hl
  refine k H locs la hP hS ⟨hl.1, hl.2.1, fun q hq => ?_⟩
  obtain ⟨q0, h0, rfl⟩ := List.mem_map.mp hq
  subst hpk
  obtain ⟨i, -, hi⟩ := List.mem_filterMap.mp h0
  exact hl.2.2 _ (List.mem_map.mpr ⟨q0, List.mem_of_getElem? hi, rfl⟩)
end
section
/-! ===== the step function is what the machine does ===== -/
def xcOk (ci : Nat) : Prop := ∃ (C : String) (T : u_T) (N : Nat) (ty0 : Nat → FieldType), vwCl[ci]? = some (C, T, N) ∧ (∀ w ∈ u_ws C T N, w ∈ XG) ∧ (∀ k, k < N → parseFieldDescriptor (T k).2.2.1 = some (ty0 k)) ∧ (∀ a, a < N → ∀ b, b < N → a ≠ b → (T a).2.1 ≠ (T b).2.1)
theorem xg_all {ws : List Cond} (h : ws.all (fun w => decide (w ∈ tables_1) && goodWord w) = true) : ∀ w ∈ ws, w ∈ XG := by
  intro w hw
  have h1 := List.all_eq_true.mp h w hw
  simp only [Bool.and_eq_true, decide_eq_true_eq] at h1
  exact xg_in (List.mem_append_right _ h1.1) h1.2
theorem xu0 : ∀ w ∈ u_ws RX0 TX0 5, w ∈ XG := xg_all (by decide +kernel)
theorem xu1 : ∀ w ∈ u_ws RX1 TX1 6, w ∈ XG := xg_all (by decide +kernel)
theorem xu2 : ∀ w ∈ u_ws RX2 TX2 11, w ∈ XG := xg_all (by decide +kernel)
theorem xu3 : ∀ w ∈ u_ws RX3 TX3 11, w ∈ XG := xg_all (by decide +kernel)
theorem xu4 : ∀ w ∈ u_ws RX4 TX4 10, w ∈ XG := xg_all (by decide +kernel)
theorem xu5 : ∀ w ∈ u_ws RX5 TX5 40, w ∈ XG := xg_all (by decide +kernel)
theorem xc_all {ci : Nat} {q : vw_C} (h : vwCl[ci]? = some q) : xcOk ci := by
  match ci, h with
  | 0, h => exact ⟨_, _, _, tyX0, rfl, xu0, tyX0_ok, nmX0⟩
  | 1, h => exact ⟨_, _, _, tyX1, rfl, xu1, tyX1_ok, nmX1⟩
  | 2, h => exact ⟨_, _, _, tyX2, rfl, xu2, tyX2_ok, nmX2⟩
  | 3, h => exact ⟨_, _, _, tyX3, rfl, xu3, tyX3_ok, nmX3⟩
  | 4, h => exact ⟨_, _, _, tyX4, rfl, xu4, tyX4_ok, nmX4⟩
  | 5, h => exact ⟨_, _, _, tyX5, rfl, xu5, tyX5_ok, nmX5⟩
  | n + 6, h => simp [vwCl] at h
def xkind (T : u_T) (k : Nat) (v : Value) : Bool := match v with
  | .int _ => decide ((T k).2.2.1 = "I") && !(T k).2.2.2
  | .float _ => decide ((T k).2.2.1 = "Z") && !(T k).2.2.2
  | .long _ => decide ((T k).2.2.1 = "J") && !(T k).2.2.2
  | .ref _ => true
  | _ => false
def xshOk1 (q : xSh) : Bool := match q with
  | .inl (t, _, _) => decide (t < 5)
  | .inr (ci, tm) => match vwCl[ci]? with
    | some (_, T, N) => decide (tm.length = N) && (List.range N).all (fun k => match tm[k]? with
      | some v => xkind T k v
      | none => false)
    | none => false
theorem xshOk : xshL.all xshOk1 = true := by decide +kernel
theorem xsh_obj {r ci : Nat} {tm : List Value} (h : xsh r = some (.inr (ci, tm))) : ∃ (C : String) (T : u_T) (N : Nat), vwCl[ci]? = some (C, T, N) ∧ tm.length = N ∧ ∀ k v, tm[k]? = some v → k < N ∧ xkind T k v = true := by
  have h1 := List.all_eq_true.mp xshOk _ (List.mem_of_getElem? h)
  unfold xshOk1 at h1
  dsimp only at h1
  split at h1
  · next C T N hc =>
    simp only [Bool.and_eq_true, decide_eq_true_eq] at h1
    refine ⟨C, T, N, hc, h1.1, fun k v hv => ?_⟩
    have hk : k < N := by rw [← h1.1]; exact (List.getElem?_eq_some_iff.mp hv).1
    have h2 := List.all_eq_true.mp h1.2 k (List.mem_range.mpr hk)
    rw [hv] at h2
    exact ⟨hk, h2⟩
  · cases h1
theorem xsh_arr {r t n : Nat} {rs : List Nat} (h : xsh r = some (.inl (t, n, rs))) : t < 5 := by
  have h1 := List.all_eq_true.mp xshOk _ (List.mem_of_getElem? h)
  unfold xshOk1 at h1
  simpa using h1
def xpok (own : String) (P : XPool) : Prop := (∀ q ∈ P.1, ∀ (C : String) (T : u_T) (N : Nat), vwCl[q.2.1]? = some (C, T, N) → q.2.2.1 < N ∧ (if q.2.2.2 = true then Cond.fieldLinkNest own q.1 (T q.2.2.1).1 (T q.2.2.1).2.1 (T q.2.2.1).2.2.1 "HallCarrier" ∈ XN else Cond.fieldLink own q.1 (T q.2.2.1).1 (T q.2.2.1).2.1 (T q.2.2.1).2.2.1 ∈ XG)) ∧ (∀ q ∈ P.2.1, Cond.constant own q.1 q.2 ∈ XG) ∧ (∀ q ∈ P.2.2, Cond.constantLong own q.1 q.2 ∈ XG)
theorem xtm_inv {b r ci k : Nat} {v : Value} (h : xtm b r ci k = some v) : r < b ∧ ∃ tm, xsh r = some (.inr (ci, tm)) ∧ tm[k]? = some v := by
  unfold xtm at h
  split at h
  · next hr =>
    split at h
    · next c tm hs =>
      split at h
      · next e => subst e; exact ⟨hr, tm, hs, h⟩
      · cases h
    · cases h
  · cases h
theorem xar_inv {b r t n : Nat} (h : xar b r = some (t, n)) : r < b ∧ ∃ rs, xsh r = some (.inl (t, n, rs)) := by
  unfold xar at h
  split at h
  · next hr =>
    split at h
    · next t' n' rs hs => cases h; exact ⟨hr, rs, hs⟩
    · cases h
  · cases h
theorem xce_obj {cT : Nat → ClassId} {ad : Nat → Nat} {h : Hp} {r ci : Nat} {tm : List Value} (e : xsh r = some (.inr (ci, tm))) : xce cT ad h r = .inr (ci, tm.mapIdx (fun j v => xfv ad h r j v)) := by
  unfold xce; rw [e]
theorem xce_int {cT : Nat → ClassId} {ad : Nat → Nat} {h : Hp} {r t n : Nat} {rs : List Nat} (e : xsh r = some (.inl (t, n, rs))) (h1 : t ≠ 1) (h4 : t ≠ 4) : xce cT ad h r = .inl (cT t, n, .inl (h.1 r)) := by
  unfold xce; rw [e]; simp [h1, h4]
theorem xce_long {cT : Nat → ClassId} {ad : Nat → Nat} {h : Hp} {r n : Nat} {rs : List Nat} (e : xsh r = some (.inl (1, n, rs))) : xce cT ad h r = .inl (cT 1, n, .inr (.inl (h.2 r))) := by
  unfold xce; rw [e]; simp
theorem xce_refs {cT : Nat → ClassId} {ad : Nat → Nat} {h : Hp} {r n : Nat} {rs : List Nat} (e : xsh r = some (.inl (4, n, rs))) : xce cT ad h r = .inl (cT 4, n, .inr (.inr (.inr (.inr (fun j => (rs[j]?).map ad))))) := by
  unfold xce; rw [e]; simp
theorem xce_I_ne {cT : Nat → ClassId} {ad : Nat → Nat} (h : Hp) {c j : Nat} (i : Nat) (v : Int32) (e : j ≠ c) : xce cT ad (xI h c i v) j = xce cT ad h j := by
  have e1 := xI_ne h i v e
  have e2 : (xI h c i v).2 = h.2 := rfl
  have e3 : ∀ k w, xfv ad (xI h c i v) j k w = xfv ad h j k w := by
    intro k w; cases w <;> simp [xfv, e1, e2]
  unfold xce
  split <;> simp [e1, e2, e3]
theorem xce_L_ne {cT : Nat → ClassId} {ad : Nat → Nat} (h : Hp) {c j : Nat} (i : Nat) (v : Int64) (e : j ≠ c) : xce cT ad (xL h c i v) j = xce cT ad h j := by
  have e1 := xL_ne h i v e
  have e2 : (xL h c i v).1 = h.1 := rfl
  have e3 : ∀ k w, xfv ad (xL h c i v) j k w = xfv ad h j k w := by
    intro k w; cases w <;> simp [xfv, e1, e2]
  unfold xce
  split <;> simp [e1, e2, e3]
theorem xce_Cp_ne {cT : Nat → ClassId} {ad : Nat → Nat} (h : Hp) {c0 c1 j : Nat} (sp dp n : Nat) (e : j ≠ c1) : xce cT ad (xCp h c0 c1 sp dp n) j = xce cT ad h j := by
  have e1 := xCp_ne h (c0 := c0) sp dp n e
  have e2 : (xCp h c0 c1 sp dp n).2 = h.2 := rfl
  have e3 : ∀ k w, xfv ad (xCp h c0 c1 sp dp n) j k w = xfv ad h j k w := by
    intro k w; cases w <;> simp [xfv, e1, e2]
  unfold xce
  split <;> simp [e1, e2, e3]
theorem xfields_set {ad : Nat → Nat} {h h' : Hp} {r k : Nat} {tm : List Value} {v w : Value} (hk : tm[k]? = some w) (hv : xfv ad h' r k w = v) (ho : ∀ j u, j ≠ k → xfv ad h' r j u = xfv ad h r j u) : (tm.mapIdx (fun j v => xfv ad h r j v)).set k v = tm.mapIdx (fun j v => xfv ad h' r j v) := by
  apply List.ext_getElem?
  intro i
  by_cases hi : i = k
  · subst hi
    have hl : i < tm.length := (List.getElem?_eq_some_iff.mp hk).1
    rw [List.getElem?_set_self (by simpa using hl)]
    simp [hk, hv]
  · rw [List.getElem?_set_ne (Ne.symm hi)]
    simp only [List.getElem?_mapIdx]
    cases tm[i]? with
    | none => rfl
    | some u => simp [ho i u hi]
theorem xbip {n : Int} (h : -128 ≤ n ∧ n < 128) : (Int8.ofInt n).toInt32 = xic n := by
  rw [← xic_ok]
  apply Int32.toInt_inj.mp
  rw [Int8.toInt_toInt32, Int8.toInt_ofInt, Int32.toInt_ofInt, show Int8.size = 256 from rfl, show Int32.size = 4294967296 from rfl, Int.bmod_eq_of_le (by omega) (by omega), Int.bmod_eq_of_le (by omega) (by omega)]
theorem xsip {n : Int} (h : -32768 ≤ n ∧ n < 32768) : (Int16.ofInt n).toInt32 = xic n := by
  rw [← xic_ok]
  apply Int32.toInt_inj.mp
  rw [Int16.toInt_toInt32, Int16.toInt_ofInt, Int32.toInt_ofInt, show Int16.size = 65536 from rfl, show Int32.size = 4294967296 from rfl, Int.bmod_eq_of_le (by omega) (by omega), Int.bmod_eq_of_le (by omega) (by omega)]
def xkTy : Value → Option FieldType
  | .int _ => some .int
  | .float _ => some .boolean
  | .long _ => some .long
  | _ => none
theorem xkind_ty {T : u_T} {k : Nat} {t : Value} {ty : FieldType} (h : xkind T k t = true) (ht : xkTy t = some ty) : (T k).2.2.2 = false ∧ parseFieldDescriptor (T k).2.2.1 = some ty := by
  cases t <;> simp [xkTy] at ht
  all_goals
    subst ht
    simp only [xkind, Bool.and_eq_true, decide_eq_true_eq, Bool.not_eq_true'] at h
    refine ⟨h.2, ?_⟩
    rw [h.1]
    rfl
theorem xboolN {v : Int32} (h : xbool v = true) : narrow .boolean (.int v) = .int v := by
  simp only [xbool, Bool.or_eq_true, decide_eq_true_eq] at h
  rcases h with rfl | rfl <;> rfl
theorem xboolF {v : Int32} (h : xbool v = true) : fits .boolean (.int v) = true := by
  simp only [xbool, Bool.or_eq_true, decide_eq_true_eq] at h
  rcases h with rfl | rfl <;> rfl
section XSound
variable {p : Program} {l : Launch} {e : Env} {R : Room} {s : State} {m : MethodId} {args : Array Value} {below : List Frame} {meth : Method} {c : Code} {D : va_G} {cT : Nat → ClassId} {ad : Nat → Nat} {A : Nat → Prop} {Q : State → Prop} {n kc ks : Nat} {own : String} {cc : ByteArray} {P : XPool} {b : Nat} {H : Heap} {locs : List Loc} {la : Array Slot} {pc : Nat} {h : Hp} {H0 : Heap}
theorem xs1_get {q idx ci f : Nat} {nb : Bool} {t v : Value} {rest : List Value} (hx : p.tables.exec = Jvm.exec) (hb : c.code = cc) (hown : s.vm.findClass own = some m.cls) (hts : ∀ w ∈ XG, w.before args s = true) (hK : XK D cT s) (hP : va_P D vwCl (xwrl n cT ad h) H) (hbn : b ≤ n)
    (hp : ∀ q ∈ P.1, ∀ (C : String) (T : u_T) (N : Nat), vwCl[q.2.1]? = some (C, T, N) → q.2.2.1 < N ∧ (if q.2.2.2 = true then Cond.fieldLinkNest own q.1 (T q.2.2.1).1 (T q.2.2.1).2.1 (T q.2.2.1).2.2.1 "HallCarrier" ∈ XN else Cond.fieldLink own q.1 (T q.2.2.1).1 (T q.2.2.1).2.1 (T q.2.2.1).2.2.1 ∈ XG)) (hF : xpF P.1 idx = some (ci, f, nb)) (htm : xtm b q ci f = some t) (hv : xfv ad h q f t = v) (hd : decode cc pc = .ok (.getfield idx, 3))
    (kk : W p l e R s m args below meth c H locs kc ks Q (F0 m (pc + 3) la (v :: rest))) : W p l e R s m args below meth c H locs kc ks Q (F0 m pc la (.ref (ad q) :: rest)) := by
  obtain ⟨hr, tm, hsh, htk⟩ := xtm_inv htm
  obtain ⟨C, T, N, hc, hlen, hkk⟩ := xsh_obj hsh
  obtain ⟨C', T', N', ty0, hc', hu, hty, hnm⟩ := xc_all hc
  cases hc.symm.trans hc'
  obtain ⟨hkN, hlink⟩ := hp _ (xpF_mem hF) C T N hc
  have hq : q < n := Nat.lt_of_lt_of_le hr hbn
  have he : (xwrl n cT ad h)[q]? = some (ad q, .inr (ci, tm.mapIdx (fun j v => xfv ad h q j v))) := by rw [xwrl_get hq, xce_obj hsh]
  have hfv : (tm.mapIdx (fun j v => xfv ad h q j v))[f]? = some v := by simp [htk, hv]
  cases nb with
  | false => exact va_get hx hb hts hu hown hK.1 hP q he hc f hkN (hts _ (by simpa using hlink)) (fun _ h9 => h9) hfv hd kk
  | true => exact va_getN hx hb hts hu hown hK.1 hP q he hc f hkN (va_Nw.use rfl (hK.2 _ (by simpa using hlink))) (fun _ h9 => h9) hfv hd kk
theorem xs1_put {q idx ci f : Nat} {nb : Bool} {t v : Value} {ty : FieldType} {h' : Hp} {rest : List Value} (hx : p.tables.exec = Jvm.exec) (hb : c.code = cc) (hown : s.vm.findClass own = some m.cls) (hts : ∀ w ∈ XG, w.before args s = true) (hK : XK D cT s) (hP : va_P D vwCl (xwrl n cT ad h) H) (hD : va_D A (xwrl n cT ad h)) (hS : va_S A H0 H locs) (hbn : b ≤ n)
    (hp : ∀ q ∈ P.1, ∀ (C : String) (T : u_T) (N : Nat), vwCl[q.2.1]? = some (C, T, N) → q.2.2.1 < N ∧ (if q.2.2.2 = true then Cond.fieldLinkNest own q.1 (T q.2.2.1).1 (T q.2.2.1).2.1 (T q.2.2.1).2.2.1 "HallCarrier" ∈ XN else Cond.fieldLink own q.1 (T q.2.2.1).1 (T q.2.2.1).2.1 (T q.2.2.1).2.2.1 ∈ XG)) (hF : xpF P.1 idx = some (ci, f, nb)) (htm : xtm b q ci f = some t)
    (hkd2 : xkTy t = some ty) (hn : narrow ty v = v) (hf : fits ty v = true) (hv : xfv ad h' q f t = v) (ho : ∀ j u, j ≠ f → xfv ad h' q j u = xfv ad h q j u) (hother : ∀ j, j ≠ q → xce cT ad h' j = xce cT ad h j) (hd : decode cc pc = .ok (.putfield idx, 3))
    (kk : ∀ (H1 : Heap) (locs1 : List Loc), va_P D vwCl (xwrl n cT ad h') H1 → va_S A H0 H1 locs1 → W p l e R s m args below meth c H1 locs1 kc ks Q (F0 m (pc + 3) la rest)) : W p l e R s m args below meth c H locs kc ks Q (F0 m pc la (v :: .ref (ad q) :: rest)) := by
  obtain ⟨hr, tm, hsh, htk⟩ := xtm_inv htm
  obtain ⟨C, T, N, hc, hlen, hkk⟩ := xsh_obj hsh
  obtain ⟨C', T', N', ty0, hc', hu, hty, hnm⟩ := xc_all hc
  cases hc.symm.trans hc'
  obtain ⟨hkN, hlink⟩ := hp _ (xpF_mem hF) C T N hc
  have hq : q < n := Nat.lt_of_lt_of_le hr hbn
  have he : (xwrl n cT ad h)[q]? = some (ad q, .inr (ci, tm.mapIdx (fun j v => xfv ad h q j v))) := by rw [xwrl_get hq, xce_obj hsh]
  obtain ⟨hfin, hdd⟩ := xkind_ty (hkk f t htk).2 hkd2
  have hset : (xwrl n cT ad h).set q (ad q, .inr (ci, (tm.mapIdx (fun j v => xfv ad h q j v)).set f v)) = xwrl n cT ad h' := by
    rw [xfields_set htk hv ho]
    exact xwrl_set hq (xce_obj hsh) hother
  have hl : f < (tm.mapIdx (fun j v => xfv ad h q j v)).length := by simpa using (List.getElem?_eq_some_iff.mp htk).1
  cases nb with
  | false =>
    refine va_put hx hb hts hu ty0 hty hnm hown hK.1 hP hD hS q he hc f hkN (hts _ (by simpa using hlink)) (fun _ h9 => h9) hfin hdd hn hf hl hd fun H1 locs1 hP1 _ hS1 => ?_
    rw [hset] at hP1
    exact kk H1 locs1 hP1 hS1
  | true =>
    refine va_putN hx hb hts hu ty0 hty hnm hown hK.1 hP hD hS q he hc f hkN (va_Nw.use rfl (hK.2 _ (by simpa using hlink))) (fun _ h9 => h9) hfin hdd hn hf hl hd fun H1 locs1 hP1 _ hS1 => ?_
    rw [hset] at hP1
    exact kk H1 locs1 hP1 hS1
end XSound
set_option maxHeartbeats 4000000 in
theorem xs1_ok {X : XCtx} {own : String} {cc : ByteArray} {nL d b : Nat} {P : XPool} {pc : Nat} {i : Instr} {ls ls' : List (Nat × Value)} {st st' : List Value} {h h' : Hp} {g g' : Bool} (hX : XOk X own cc nL d b) (hp : xpok own P) (hd : decode cc pc = .ok (i, xlen i)) (hs : xs1 P b nL i (ls, st, h, g) = some (ls', st', h', g')) (hg : g' = true) :
    g = true ∧ (XW X (pc + xlen i) ls' st' h' → XW X pc ls st h) := by
  obtain ⟨p, l, e, R, s, m, args, below, meth, c, D, cT, ad, A, Q, n, kc, ks⟩ := X
  obtain ⟨hx, hb, hml, hown, hts, hK, hA, hadr, hbn, hn66, hfr, hlo, hkc, hks⟩ := hX
  subst hml
  cases i with
  | iadd =>
    unfold xs1 at hs; dsimp only at hs
    split at hs
    · cases hs; exact ⟨hg, fun k H locs la hP hS hl => lv_iadd hx hb hd (k H locs la hP hS hl)⟩
    · cases hs
  | isub =>
    unfold xs1 at hs; dsimp only at hs
    split at hs
    · cases hs; exact ⟨hg, fun k H locs la hP hS hl => lv_isub hx hb hd (k H locs la hP hS hl)⟩
    · cases hs
  | imul =>
    unfold xs1 at hs; dsimp only at hs
    split at hs
    · cases hs; exact ⟨hg, fun k H locs la hP hS hl => lv_imul hx hb hd (k H locs la hP hS hl)⟩
    · cases hs
  | iand =>
    unfold xs1 at hs; dsimp only at hs
    split at hs
    · cases hs; exact ⟨hg, fun k H locs la hP hS hl => lv_iand hx hb hd (k H locs la hP hS hl)⟩
    · cases hs
  | ior =>
    unfold xs1 at hs; dsimp only at hs
    split at hs
    · cases hs; exact ⟨hg, fun k H locs la hP hS hl => lv_ior hx hb hd (k H locs la hP hS hl)⟩
    · cases hs
  | ixor =>
    unfold xs1 at hs; dsimp only at hs
    split at hs
    · cases hs; exact ⟨hg, fun k H locs la hP hS hl => lv_ixor hx hb hd (k H locs la hP hS hl)⟩
    · cases hs
  | ladd =>
    unfold xs1 at hs; dsimp only at hs
    split at hs
    · cases hs; exact ⟨hg, fun k H locs la hP hS hl => lv_ladd hx hb hd (k H locs la hP hS hl)⟩
    · cases hs
  | lsub =>
    unfold xs1 at hs; dsimp only at hs
    split at hs
    · cases hs; exact ⟨hg, fun k H locs la hP hS hl => lv_lsub hx hb hd (k H locs la hP hS hl)⟩
    · cases hs
  | lmul =>
    unfold xs1 at hs; dsimp only at hs
    split at hs
    · cases hs; exact ⟨hg, fun k H locs la hP hS hl => lv_lmul hx hb hd (k H locs la hP hS hl)⟩
    · cases hs
  | land =>
    unfold xs1 at hs; dsimp only at hs
    split at hs
    · cases hs; exact ⟨hg, fun k H locs la hP hS hl => lv_land hx hb hd (k H locs la hP hS hl)⟩
    · cases hs
  | lor =>
    unfold xs1 at hs; dsimp only at hs
    split at hs
    · cases hs; exact ⟨hg, fun k H locs la hP hS hl => lv_lor hx hb hd (k H locs la hP hS hl)⟩
    · cases hs
  | lxor =>
    unfold xs1 at hs; dsimp only at hs
    split at hs
    · cases hs; exact ⟨hg, fun k H locs la hP hS hl => lv_lxor hx hb hd (k H locs la hP hS hl)⟩
    · cases hs
  | ineg =>
    unfold xs1 at hs; dsimp only at hs
    split at hs
    · cases hs; exact ⟨hg, fun k H locs la hP hS hl => lv_ineg hx hb hd (k H locs la hP hS hl)⟩
    · cases hs
  | ishl =>
    unfold xs1 at hs; dsimp only at hs
    split at hs
    · cases hs; exact ⟨hg, fun k H locs la hP hS hl => lv_ishl hx hb hd (k H locs la hP hS hl)⟩
    · cases hs
  | ishr =>
    unfold xs1 at hs; dsimp only at hs
    split at hs
    · cases hs; exact ⟨hg, fun k H locs la hP hS hl => lv_ishr hx hb hd (k H locs la hP hS hl)⟩
    · cases hs
  | iushr =>
    unfold xs1 at hs; dsimp only at hs
    split at hs
    · cases hs; exact ⟨hg, fun k H locs la hP hS hl => lv_iushr hx hb hd rfl (k H locs la hP hS hl)⟩
    · cases hs
  | lushr =>
    unfold xs1 at hs; dsimp only at hs
    split at hs
    · cases hs; exact ⟨hg, fun k H locs la hP hS hl => lv_lushr hx hb hd rfl (k H locs la hP hS hl)⟩
    · cases hs
  | lshl =>
    unfold xs1 at hs; dsimp only at hs
    split at hs
    · cases hs; exact ⟨hg, fun k H locs la hP hS hl => lv_lshl hx hb hd rfl (k H locs la hP hS hl)⟩
    · cases hs
  | lshr =>
    unfold xs1 at hs; dsimp only at hs
    split at hs
    · cases hs; exact ⟨hg, fun k H locs la hP hS hl => lv_lshr hx hb hd rfl (k H locs la hP hS hl)⟩
    · cases hs
  | i2l =>
    unfold xs1 at hs; dsimp only at hs
    split at hs
    · cases hs; exact ⟨hg, fun k H locs la hP hS hl => lv_i2l hx hb hd rfl (k H locs la hP hS hl)⟩
    · cases hs
  | l2i =>
    unfold xs1 at hs; dsimp only at hs
    split at hs
    · cases hs; exact ⟨hg, fun k H locs la hP hS hl => lv_l2i hx hb hd rfl (k H locs la hP hS hl)⟩
    · cases hs
  | i2b =>
    unfold xs1 at hs; dsimp only at hs
    split at hs
    · cases hs; exact ⟨hg, fun k H locs la hP hS hl => lv_i2b hx hb hd rfl (k H locs la hP hS hl)⟩
    · cases hs
  | lcmp =>
    unfold xs1 at hs; dsimp only at hs
    split at hs
    · cases hs; exact ⟨hg, fun k H locs la hP hS hl => W.lcmp hx hb hd (k H locs la hP hS hl)⟩
    · cases hs
  | idiv =>
    unfold xs1 at hs; dsimp only at hs
    split at hs
    · cases hs
      simp only [Bool.and_eq_true] at hg
      exact ⟨hg.2, fun k H locs la hP hS hl => lv_idiv hx hb hd (by simpa [xnz] using hg.1) (k H locs la hP hS hl)⟩
    · cases hs
  | irem =>
    unfold xs1 at hs; dsimp only at hs
    split at hs
    · cases hs
      simp only [Bool.and_eq_true] at hg
      exact ⟨hg.2, fun k H locs la hP hS hl => lv_irem hx hb hd (by simpa [xnz] using hg.1) (k H locs la hP hS hl)⟩
    · cases hs
  | iconst v =>
    unfold xs1 at hs; dsimp only at hs
    cases hs; exact ⟨hg, fun k H locs la hP hS hl => lv_iconst hx hb hd (xic_ok v) (k H locs la hP hS hl)⟩
  | bipush v =>
    unfold xs1 at hs; dsimp only at hs
    split at hs
    · next hv => cases hs; exact ⟨hg, fun k H locs la hP hS hl => lv_bipush hx hb hd (xbip hv) (k H locs la hP hS hl)⟩
    · cases hs
  | sipush v =>
    unfold xs1 at hs; dsimp only at hs
    split at hs
    · next hv => cases hs; exact ⟨hg, fun k H locs la hP hS hl => lv_sipush hx hb hd (xsip hv) (k H locs la hP hS hl)⟩
    · cases hs
  | lconst v =>
    unfold xs1 at hs; dsimp only at hs
    cases hs; exact ⟨hg, fun k H locs la hP hS hl => lv_lconst hx hb hd (by match v with
      | 0 => rfl
      | 1 => rfl) (k H locs la hP hS hl)⟩
  | ldc v =>
    unfold xs1 at hs; dsimp only at hs
    split at hs
    · next c0 hv => cases hs; exact ⟨hg, fun k H locs la hP hS hl => lv_ldc hx hb hown (hts _ (hp.2.1 _ (xpC_mem hv))) hd (k H locs la hP hS hl)⟩
    · cases hs
  | ldc2_w v =>
    unfold xs1 at hs; dsimp only at hs
    split at hs
    · next c0 hv => cases hs; exact ⟨hg, fun k H locs la hP hS hl => lv_ldc2 hx hb hown (hts _ (hp.2.2 _ (xpC_mem hv))) hd (k H locs la hP hS hl)⟩
    · cases hs
  | iload v =>
    unfold xs1 at hs; dsimp only at hs
    split at hs
    · next c0 hv => cases hs; exact ⟨hg, fun k H locs la hP hS hl => lv_iload hx hb hd (xlk_at hl hv) (k H locs la hP hS hl)⟩
    · cases hs
  | iload_n v =>
    unfold xs1 at hs; dsimp only at hs
    split at hs
    · next c0 hv => cases hs; exact ⟨hg, fun k H locs la hP hS hl => lv_iload_n hx hb hd rfl (xlk_at hl hv) (k H locs la hP hS hl)⟩
    · cases hs
  | lload v =>
    unfold xs1 at hs; dsimp only at hs
    split at hs
    · next c0 hv => cases hs; exact ⟨hg, fun k H locs la hP hS hl => lv_lload hx hb hd (xlk_at hl hv) (k H locs la hP hS hl)⟩
    · cases hs
  | lload_n v =>
    unfold xs1 at hs; dsimp only at hs
    split at hs
    · next c0 hv => cases hs; exact ⟨hg, fun k H locs la hP hS hl => lv_lload_n hx hb hd rfl (xlk_at hl hv) (k H locs la hP hS hl)⟩
    · cases hs
  | aload v =>
    unfold xs1 at hs; dsimp only at hs
    split at hs
    · next c0 hv => cases hs; exact ⟨hg, fun k H locs la hP hS hl => lv_aload hx hb hd (xlk_at hl hv) (k H locs la hP hS hl)⟩
    · cases hs
  | aload_n v =>
    unfold xs1 at hs; dsimp only at hs
    split at hs
    · next c0 hv => cases hs; exact ⟨hg, fun k H locs la hP hS hl => lv_aload_n hx hb hd rfl (xlk_at hl hv) (k H locs la hP hS hl)⟩
    · cases hs
  | istore v =>
    unfold xs1 at hs; dsimp only at hs
    split at hs
    · split at hs
      · next hv => cases hs; exact ⟨hg, fun k H locs la hP hS hl => lv_istore hx hb hd hl hv (xcl_st1 ad ls _ (.int _)) (fun la hl => k H locs la hP hS hl)⟩
      · cases hs
    · cases hs
  | istore_n v =>
    unfold xs1 at hs; dsimp only at hs
    split at hs
    · split at hs
      · next hv => cases hs; exact ⟨hg, fun k H locs la hP hS hl => lv_istore_n hx hb hd rfl hl hv (xcl_st1 ad ls _ (.int _)) (fun la hl => k H locs la hP hS hl)⟩
      · cases hs
    · cases hs
  | lstore v =>
    unfold xs1 at hs; dsimp only at hs
    split at hs
    · split at hs
      · next hv => cases hs; exact ⟨hg, fun k H locs la hP hS hl => lv_lstore hx hb hd hl hv (xcl_st2 ad ls _ (.long _)) (fun la hl => k H locs la hP hS hl)⟩
      · cases hs
    · cases hs
  | lstore_n v =>
    unfold xs1 at hs; dsimp only at hs
    split at hs
    · split at hs
      · next hv => cases hs; exact ⟨hg, fun k H locs la hP hS hl => lv_lstore_n hx hb hd rfl hl hv (xcl_st2 ad ls _ (.long _)) (fun la hl => k H locs la hP hS hl)⟩
      · cases hs
    · cases hs
  | iinc v w =>
    unfold xs1 at hs; dsimp only at hs
    split at hs
    · next x hv =>
      split at hs
      · next hn =>
        cases hs
        refine ⟨hg, fun k H locs la hP hS hl => ?_⟩
        obtain ⟨j, hj⟩ := List.getElem?_of_mem (xlk_mem hv)
        have hj2 : (xcl ad ls)[j]? = some (v, .int x) := by simp [xcl, hj, xcv]
        exact lv_iinc hx hb hd hl hj2 (by rw [xic_ok]) hn (xcl_st1 ad ls _ (.int _)) (fun la hl => k H locs la hP hS hl)
      · cases hs
    · cases hs
  | dup =>
    unfold xs1 at hs; dsimp only at hs
    split at hs
    · cases hs; exact ⟨hg, fun k H locs la hP hS hl => lv_dup hx hb hd rfl (k H locs la hP hS hl)⟩
    · cases hs; exact ⟨hg, fun k H locs la hP hS hl => lv_dup hx hb hd rfl (k H locs la hP hS hl)⟩
    · cases hs
  | pop =>
    unfold xs1 at hs; dsimp only at hs
    split at hs
    · cases hs; exact ⟨hg, fun k H locs la hP hS hl => lv_pop hx hb hd rfl (k H locs la hP hS hl)⟩
    · cases hs; exact ⟨hg, fun k H locs la hP hS hl => lv_pop hx hb hd rfl (k H locs la hP hS hl)⟩
    · cases hs
  | dup2 =>
    unfold xs1 at hs; dsimp only at hs
    split at hs
    · cases hs; exact ⟨hg, fun k H locs la hP hS hl => lv_dup2_2 hx hb hd rfl (k H locs la hP hS hl)⟩
    · cases hs; exact ⟨hg, fun k H locs la hP hS hl => lv_dup2_11 hx hb hd rfl rfl (k H locs la hP hS hl)⟩
    · cases hs
  | arraylength =>
    unfold xs1 at hs; dsimp only at hs
    split at hs
    · next q r =>
      split at hs
      · next t0 n0 ha =>
        cases hs
        refine ⟨hg, fun k H locs la hP hS hl => ?_⟩
        obtain ⟨hr, rs, hsh⟩ := xar_inv ha
        have hq : q < n := Nat.lt_of_lt_of_le hr hbn
        have ht5 := xsh_arr hsh
        have hty : (xtys cT)[t0]? = some (cT t0, xty t0) := by
          match t0, ht5 with
          | 0, _ => rfl
          | 1, _ => rfl
          | 2, _ => rfl
          | 3, _ => rfl
          | 4, _ => rfl
        exact va_alen (a := ad q) (x := (n0, if t0 = 1 then .inr (.inl (h.2 q)) else if t0 = 4 then .inr (.inr (.inr (.inr (fun j => (rs[j]?).map ad)))) else .inl (h.1 q))) hx hb hK.1 hP q t0 (by rw [xwrl_get hq]; unfold xce; rw [hsh]) hty rfl hd (k H locs la hP hS hl)
      · cases hs
    · cases hs
  | iaload =>
    unfold xs1 at hs; dsimp only at hs
    split at hs
    · next j q r =>
      split at hs
      · next n0 ha =>
        cases hs
        simp only [Bool.and_eq_true] at hg
        refine ⟨hg.2, fun k H locs la hP hS hl => ?_⟩
        obtain ⟨hr, rs, hsh⟩ := xar_inv ha
        have hq : q < n := Nat.lt_of_lt_of_le hr hbn
        exact va_iald (a := ad q) hx hb hK.1 hP q 0 (by rw [xwrl_get hq, xce_int hsh (by decide) (by decide)]) rfl (xin_vp hg.1) hd (k H locs la hP hS hl)
      · cases hs
    · cases hs
  | laload =>
    unfold xs1 at hs; dsimp only at hs
    split at hs
    · next j q r =>
      split at hs
      · next n0 ha =>
        cases hs
        simp only [Bool.and_eq_true] at hg
        refine ⟨hg.2, fun k H locs la hP hS hl => ?_⟩
        obtain ⟨hr, rs, hsh⟩ := xar_inv ha
        have hq : q < n := Nat.lt_of_lt_of_le hr hbn
        exact va_lald (a := ad q) hx hb hK.1 hP q 1 (by rw [xwrl_get hq, xce_long hsh]) rfl (xin_vp hg.1) hd (k H locs la hP hS hl)
      · cases hs
    · cases hs
  | baload =>
    unfold xs1 at hs; dsimp only at hs
    split at hs
    · next j q r =>
      split at hs
      · next n0 ha =>
        cases hs
        simp only [Bool.and_eq_true] at hg
        refine ⟨hg.2, fun k H locs la hP hS hl => ?_⟩
        obtain ⟨hr, rs, hsh⟩ := xar_inv ha
        have hq : q < n := Nat.lt_of_lt_of_le hr hbn
        exact va_bald (a := ad q) hx hb hK.1 hP q 2 (by rw [xwrl_get hq, xce_int hsh (by decide) (by decide)]) rfl (xin_vp hg.1) hd (k H locs la hP hS hl)
      · next n0 ha =>
        cases hs
        simp only [Bool.and_eq_true] at hg
        refine ⟨hg.2, fun k H locs la hP hS hl => ?_⟩
        obtain ⟨hr, rs, hsh⟩ := xar_inv ha
        have hq : q < n := Nat.lt_of_lt_of_le hr hbn
        exact va_zald (a := ad q) hx hb hK.1 hP q 3 (by rw [xwrl_get hq, xce_int hsh (by decide) (by decide)]) rfl (xin_vp hg.1) hd (k H locs la hP hS hl)
      · cases hs
    · cases hs
  | iastore =>
    unfold xs1 at hs; dsimp only at hs
    split at hs
    · next v j q r =>
      split at hs
      · next n0 ha =>
        cases hs
        simp only [Bool.and_eq_true] at hg
        refine ⟨hg.2, fun k H locs la hP hS hl => ?_⟩
        obtain ⟨hr, rs, hsh⟩ := xar_inv ha
        have hq : q < n := Nat.lt_of_lt_of_le hr hbn
        refine va_iast (a := ad q) hx hb hK.1 hP (xad_D hadr h) hS q 0 (by rw [xwrl_get hq, xce_int hsh (by decide) (by decide)]) rfl (xin_vp hg.1) hd (fun H1 locs1 hP1 _ hS1 => k H1 locs1 la ?_ hS1 hl)
        rw [xwrl_set (h' := xI h q j.toNatClampNeg v) hq (by rw [xce_int hsh (by decide) (by decide), xI_self]) (fun j0 e0 => xce_I_ne h _ _ e0)] at hP1
        exact hP1
      · cases hs
    · cases hs
  | lastore =>
    unfold xs1 at hs; dsimp only at hs
    split at hs
    · next v j q r =>
      split at hs
      · next n0 ha =>
        cases hs
        simp only [Bool.and_eq_true] at hg
        refine ⟨hg.2, fun k H locs la hP hS hl => ?_⟩
        obtain ⟨hr, rs, hsh⟩ := xar_inv ha
        have hq : q < n := Nat.lt_of_lt_of_le hr hbn
        refine va_last (a := ad q) hx hb hK.1 hP (xad_D hadr h) hS q 1 (by rw [xwrl_get hq, xce_long hsh]) rfl (xin_vp hg.1) hd (fun H1 locs1 hP1 _ hS1 => k H1 locs1 la ?_ hS1 hl)
        rw [xwrl_set (h' := xL h q j.toNatClampNeg v) hq (by rw [xce_long hsh, xL_self]) (fun j0 e0 => xce_L_ne h _ _ e0)] at hP1
        exact hP1
      · cases hs
    · cases hs
  | bastore =>
    unfold xs1 at hs; dsimp only at hs
    split at hs
    · next v j q r =>
      split at hs
      · next n0 ha =>
        cases hs
        simp only [Bool.and_eq_true] at hg
        refine ⟨hg.2, fun k H locs la hP hS hl => ?_⟩
        obtain ⟨hr, rs, hsh⟩ := xar_inv ha
        have hq : q < n := Nat.lt_of_lt_of_le hr hbn
        refine va_bast (a := ad q) hx hb hK.1 hP (xad_D hadr h) hS q 2 (by rw [xwrl_get hq, xce_int hsh (by decide) (by decide)]) rfl (xin_vp hg.1) hd (fun H1 locs1 hP1 _ hS1 => k H1 locs1 la ?_ hS1 hl)
        rw [xwrl_set (h' := xI h q j.toNatClampNeg (vp_nar .byte v)) hq (by rw [xce_int hsh (by decide) (by decide), xI_self]) (fun j0 e0 => xce_I_ne h _ _ e0)] at hP1
        exact hP1
      · next n0 ha =>
        cases hs
        simp only [Bool.and_eq_true] at hg
        refine ⟨hg.2, fun k H locs la hP hS hl => ?_⟩
        obtain ⟨hr, rs, hsh⟩ := xar_inv ha
        have hq : q < n := Nat.lt_of_lt_of_le hr hbn
        refine va_zast (a := ad q) hx hb hK.1 hP (xad_D hadr h) hS q 3 (by rw [xwrl_get hq, xce_int hsh (by decide) (by decide)]) rfl (xin_vp hg.1) hd (fun H1 locs1 hP1 _ hS1 => k H1 locs1 la ?_ hS1 hl)
        rw [xwrl_set (h' := xI h q j.toNatClampNeg (vp_nar .boolean v)) hq (by rw [xce_int hsh (by decide) (by decide), xI_self]) (fun j0 e0 => xce_I_ne h _ _ e0)] at hP1
        exact hP1
      · cases hs
    · cases hs
  | getfield idx =>
    unfold xs1 at hs; dsimp only at hs
    split at hs
    · next q r =>
      split at hs
      · next ci f nb hF =>
        split at hs
        · next t0 htm =>
          cases hs
          refine ⟨hg, fun k H locs la hP hS hl => xs1_get (v := .int (h.1 q f)) hx hb hown hts hK hP hbn hp.1 hF htm rfl hd (k H locs la hP hS hl)⟩
        · next t0 htm =>
          cases hs
          refine ⟨hg, fun k H locs la hP hS hl => xs1_get (v := .int (h.1 q f)) hx hb hown hts hK hP hbn hp.1 hF htm rfl hd (k H locs la hP hS hl)⟩
        · next t0 htm =>
          cases hs
          refine ⟨hg, fun k H locs la hP hS hl => xs1_get (v := .long (h.2 q f)) hx hb hown hts hK hP hbn hp.1 hF htm rfl hd (k H locs la hP hS hl)⟩
        · next t0 htm =>
          cases hs
          refine ⟨hg, fun k H locs la hP hS hl => xs1_get (v := .ref (ad t0)) hx hb hown hts hK hP hbn hp.1 hF htm rfl hd (k H locs la hP hS hl)⟩
        · cases hs
      · cases hs
    · cases hs
  | putfield idx =>
    unfold xs1 at hs; dsimp only at hs
    split at hs
    · next v q r =>
      split at hs
      · next ci f nb hF =>
        split at hs
        · next t0 htm =>
          cases hs
          exact ⟨hg, fun k H locs la hP hS hl => xs1_put (h' := xI h q f v) (v := .int v) (ty := .int) hx hb hown hts hK hP (xad_D hadr h) hS hbn hp.1 hF htm rfl rfl rfl (by simp [xfv, xI]) (fun j u e0 => by cases u <;> simp [xfv, xI, e0]) (fun j0 e0 => xce_I_ne h _ _ e0) hd (fun H1 locs1 hP1 hS1 => k H1 locs1 la hP1 hS1 hl)⟩
        · next t0 htm =>
          cases hs
          simp only [Bool.and_eq_true] at hg
          exact ⟨hg.2, fun k H locs la hP hS hl => xs1_put (h' := xI h q f v) (v := .int v) (ty := .boolean) hx hb hown hts hK hP (xad_D hadr h) hS hbn hp.1 hF htm rfl (xboolN hg.1) (xboolF hg.1) (by simp [xfv, xI]) (fun j u e0 => by cases u <;> simp [xfv, xI, e0]) (fun j0 e0 => xce_I_ne h _ _ e0) hd (fun H1 locs1 hP1 hS1 => k H1 locs1 la hP1 hS1 hl)⟩
        · cases hs
      · cases hs
    · next v q r =>
      split at hs
      · next ci f nb hF =>
        split at hs
        · next t0 htm =>
          cases hs
          exact ⟨hg, fun k H locs la hP hS hl => xs1_put (h' := xL h q f v) (v := .long v) (ty := .long) hx hb hown hts hK hP (xad_D hadr h) hS hbn hp.1 hF htm rfl rfl rfl (by simp [xfv, xL]) (fun j u e0 => by cases u <;> simp [xfv, xL, e0]) (fun j0 e0 => xce_L_ne h _ _ e0) hd (fun H1 locs1 hP1 hS1 => k H1 locs1 la hP1 hS1 hl)⟩
        · cases hs
      · cases hs
    · cases hs
  | _ => unfold xs1 at hs; cases hs
theorem xblk_ok {X : XCtx} {own : String} {cc : ByteArray} {nL d b : Nat} {P : XPool} (hX : XOk X own cc nL d b) (hp : xpok own P) : ∀ (is : List Instr) (pc : Nat) (ls ls' : List (Nat × Value)) (st st' : List Value) (h h' : Hp) (g g' : Bool), xdec cc pc is = true → xblk P b nL is (ls, st, h, g) = some (ls', st', h', g') → g' = true →
    g = true ∧ (XW X (xend pc is) ls' st' h' → XW X pc ls st h)
  | [], pc, ls, ls', st, st', h, h', g, g', _, hs, hg => by
    cases hs; exact ⟨hg, fun k => k⟩
  | i :: is, pc, ls, ls', st, st', h, h', g, g', hd, hs, hg => by
    simp only [xdec, Bool.and_eq_true, decide_eq_true_eq] at hd
    unfold xblk at hs
    split at hs
    · next s1 h1 =>
      obtain ⟨ls1, st1, hh1, g1⟩ := s1
      obtain ⟨a1, a2⟩ := xblk_ok hX hp is (pc + xlen i) ls1 ls' st1 st' hh1 h' g1 g' hd.2 hs hg
      obtain ⟨b1, b2⟩ := xs1_ok hX hp hd.1 h1 a1
      exact ⟨b1, fun k => b2 (a2 k)⟩
    · cases hs
/-- a stretch of code without jumps and calls -/
theorem Xblk {X : XCtx} {own : String} {cc : ByteArray} {nL d b : Nat} {P : XPool} (hX : XOk X own cc nL d b) (hp : xpok own P) {pc pc' : Nat} (is : List Instr) {ls ls' : List (Nat × Value)} {st st' : List Value} {h h' : Hp} {g : Bool} (hd : xdec cc pc is = true) (he : xend pc is = pc') (hs : xblk P b nL is (ls, st, h, true) = some (ls', st', h', g)) (hg : g = true) (k : XW X pc' ls' st' h') : XW X pc ls st h := by
  subst he
  exact (xblk_ok hX hp is pc ls ls' st st' h h' true g hd hs hg).2 k
end
section
/-! ===== jumps ===== -/
def xcnd : Instr → List Value → Option (Prop × Int × List Value)
  | .ifCond .eq o, .int x :: r => some (x = 0, o, r)
  | .ifCond .lt o, .int x :: r => some (x < 0, o, r)
  | .ifCond .ge o, .int x :: r => some (0 ≤ x, o, r)
  | .ifCond .gt o, .int x :: r => some (0 < x, o, r)
  | .ifCond .le o, .int x :: r => some (x ≤ 0, o, r)
  | .if_icmp .eq o, .int y :: .int x :: r => some (x = y, o, r)
  | .if_icmp .lt o, .int y :: .int x :: r => some (x < y, o, r)
  | .if_icmp .ge o, .int y :: .int x :: r => some (y ≤ x, o, r)
  | .if_icmp .gt o, .int y :: .int x :: r => some (y < x, o, r)
  | .if_icmp .le o, .int y :: .int x :: r => some (x ≤ y, o, r)
  | _, _ => none
def xcndN : Instr → List Value → Option (Prop × Int × List Value)
  | .ifCond .ne o, .int x :: r => some (x = 0, o, r)
  | .if_icmp .ne o, .int y :: .int x :: r => some (x = y, o, r)
  | _, _ => none
theorem Xbr {X : XCtx} {own : String} {cc : ByteArray} {nL d b : Nat} (hX : XOk X own cc nL d b) {pc tgt : Nat} (i : Instr) {ls : List (Nat × Value)} {st r : List Value} {h : Hp} {P : Prop} {o : Int} (hd : decode cc pc = .ok (i, 3)) (hc : xcnd i st = some (P, o, r)) (ht : (pc : Int) + o = (tgt : Int)) (kt : P → XW X tgt ls r h) (kf : ¬ P → XW X (pc + 3) ls r h) : XW X pc ls st h := by
  obtain ⟨p, l, e, R, s, m, args, below, meth, c, D, cT, ad, A, Q, n, kc, ks⟩ := X
  obtain ⟨hx, hb, -⟩ := hX
  intro H locs la hP hS hl
  unfold xcnd at hc
  split at hc
  · cases hc; exact lv_if_eq hx hb hd ht (fun q => kt q H locs la hP hS hl) (fun q => kf q H locs la hP hS hl)
  · cases hc; exact lv_if_lt hx hb hd ht (fun q => kt q H locs la hP hS hl) (fun q => kf q H locs la hP hS hl)
  · cases hc; exact lv_if_ge hx hb hd ht (fun q => kt q H locs la hP hS hl) (fun q => kf q H locs la hP hS hl)
  · cases hc; exact lv_if_gt hx hb hd ht (fun q => kt q H locs la hP hS hl) (fun q => kf q H locs la hP hS hl)
  · cases hc; exact lv_if_le hx hb hd ht (fun q => kt q H locs la hP hS hl) (fun q => kf q H locs la hP hS hl)
  · cases hc; exact lv_icmp_eq hx hb hd ht (fun q => kt q H locs la hP hS hl) (fun q => kf q H locs la hP hS hl)
  · cases hc; exact lv_icmp_lt hx hb hd ht (fun q => kt q H locs la hP hS hl) (fun q => kf q H locs la hP hS hl)
  · cases hc; exact lv_icmp_ge hx hb hd ht (fun q => kt q H locs la hP hS hl) (fun q => kf q H locs la hP hS hl)
  · cases hc; exact lv_icmp_gt hx hb hd ht (fun q => kt q H locs la hP hS hl) (fun q => kf q H locs la hP hS hl)
  · cases hc; exact lv_icmp_le hx hb hd ht (fun q => kt q H locs la hP hS hl) (fun q => kf q H locs la hP hS hl)
  · cases hc
theorem XbrN {X : XCtx} {own : String} {cc : ByteArray} {nL d b : Nat} (hX : XOk X own cc nL d b) {pc tgt : Nat} (i : Instr) {ls : List (Nat × Value)} {st r : List Value} {h : Hp} {P : Prop} {o : Int} (hd : decode cc pc = .ok (i, 3)) (hc : xcndN i st = some (P, o, r)) (ht : (pc : Int) + o = (tgt : Int)) (kf : P → XW X (pc + 3) ls r h) (kt : ¬ P → XW X tgt ls r h) : XW X pc ls st h := by
  obtain ⟨p, l, e, R, s, m, args, below, meth, c, D, cT, ad, A, Q, n, kc, ks⟩ := X
  obtain ⟨hx, hb, -⟩ := hX
  intro H locs la hP hS hl
  unfold xcndN at hc
  split at hc
  · cases hc; exact lv_if_ne hx hb hd ht (fun q => kt q H locs la hP hS hl) (fun q => kf q H locs la hP hS hl)
  · cases hc; exact lv_icmp_ne hx hb hd ht (fun q => kt q H locs la hP hS hl) (fun q => kf q H locs la hP hS hl)
  · cases hc
theorem Xgoto {X : XCtx} {own : String} {cc : ByteArray} {nL d b : Nat} (hX : XOk X own cc nL d b) {pc : Nat} (o : Int) (tgt : Nat) {ls : List (Nat × Value)} {st : List Value} {h : Hp} (hd : decode cc pc = .ok (.goto o, 3)) (ht : (pc : Int) + o = (tgt : Int)) (k : XW X tgt ls st h) : XW X pc ls st h := by
  obtain ⟨p, l, e, R, s, m, args, below, meth, c, D, cT, ad, A, Q, n, kc, ks⟩ := X
  obtain ⟨hx, hb, -⟩ := hX
  intro H locs la hP hS hl
  exact lv_goto hx hb hd ht (k H locs la hP hS hl)
theorem XswOut {X : XCtx} {own : String} {cc : ByteArray} {nL d b : Nat} (hX : XOk X own cc nL d b) {pc : Nat} {dflt lo hi : Int} {offs : Array Int} {len : Nat} {x : Int32} (tgt : Nat) {ls : List (Nat × Value)} {st : List Value} {h : Hp} (hd : decode cc pc = .ok (.tableswitch dflt lo hi offs, len)) (hh : x.toInt < lo ∨ hi < x.toInt) (ht : (pc : Int) + dflt = (tgt : Int)) (k : XW X tgt ls st h) : XW X pc ls (.int x :: st) h := by
  obtain ⟨p, l, e, R, s, m, args, below, meth, c, D, cT, ad, A, Q, n, kc, ks⟩ := X
  obtain ⟨hx, hb, -⟩ := hX
  intro H locs la hP hS hl
  exact lv_tableOut hx hb hd hh ht (k H locs la hP hS hl)
theorem XswIn {X : XCtx} {own : String} {cc : ByteArray} {nL d b : Nat} (hX : XOk X own cc nL d b) {pc : Nat} {dflt lo hi o : Int} {offs : Array Int} {len : Nat} {x : Int32} (tgt : Nat) {ls : List (Nat × Value)} {st : List Value} {h : Hp} (hd : decode cc pc = .ok (.tableswitch dflt lo hi offs, len)) (h1 : ¬ x.toInt < lo) (h2 : ¬ hi < x.toInt) (ho : offs[(x.toInt - lo).toNat]? = some o) (ht : (pc : Int) + o = (tgt : Int)) (k : XW X tgt ls st h) : XW X pc ls (.int x :: st) h := by
  obtain ⟨p, l, e, R, s, m, args, below, meth, c, D, cT, ad, A, Q, n, kc, ks⟩ := X
  obtain ⟨hx, hb, -⟩ := hX
  intro H locs la hP hS hl
  exact lv_tableIn hx hb hd h1 h2 ho ht (k H locs la hP hS hl)
theorem xref_at {rs : List Nat} {ad : Nat → Nat} {j t : Nat} (h : rs[j]? = some t) : va_rf ((rs[j]?).map ad) = .ref (ad t) := by rw [h]; rfl
/-- a reference out of an array of references -/
theorem Xaald {X : XCtx} {own : String} {cc : ByteArray} {nL d b : Nat} (hX : XOk X own cc nL d b) {pc q n0 t : Nat} {rs : List Nat} {j : Int32} {ls : List (Nat × Value)} {st : List Value} {h : Hp} (hd : decode cc pc = .ok (.aaload, 1)) (hsh : xsh q = some (.inl (4, n0, rs))) (hq : q < b) (hj : xin j n0 = true) (hr : rs[j.toNatClampNeg]? = some t) (k : XW X (pc + 1) ls (.ref t :: st) h) : XW X pc ls (.int j :: .ref q :: st) h := by
  obtain ⟨p, l, e, R, s, m, args, below, meth, c, D, cT, ad, A, Q, n, kc, ks⟩ := X
  obtain ⟨hx, hb, hml, hown, hts, hK, hA, hadr, hbn, hn66, hfr, hlo, hkc, hks⟩ := hX
  intro H locs la hP hS hl
  refine va_aldq (a := ad q) (f := fun j => (rs[j]?).map ad) hx hb hK.1 hP q 4 (by rw [xwrl_get (Nat.lt_of_lt_of_le hq hbn), xce_refs hsh]) rfl (xin_vp hj) hd ?_
  rw [xref_at hr]
  exact k H locs la hP hS hl
/-! ===== a method's contract ===== -/
def xrm (d : Nat) : Room := { frames := d, cells := 0, slots := 0, locals := 64 * d }
def xAr (n : Nat) (ad : Nat → Nat) (sz : Nat) : Nat → Prop := fun q => (∃ k, k < n ∧ q = ad k) ∨ sz ≤ q
def xPre (D : va_G) (cT : Nat → ClassId) (ad : Nat → Nat) (n sz : Nat) (h : Hp) (U : State) : Prop := U.heap.size = sz ∧ va_P D vwCl (xwrl n cT ad h) U.heap ∧ XK D cT U ∧ ∀ i j, i < n → j < n → ad i = ad j → i = j
def xQ (D : va_G) (cT : Nat → ClassId) (ad : Nat → Nat) (n : Nat) (A : Nat → Prop) (r : Option Value) (h' : Hp) : Array Value → State → Outcome → State → Prop := fun _ st oc t => (oc = .returned (r.map (xcv ad)) ∧ va_P D vwCl (xwrl n cT ad h') t.heap ∧ XK D cT t) ∧ va_F A st t
def MT (d b : Nat) (y : MethodName) (bytes : ByteArray) (maxL : Nat) (ret : Option FieldType) (as : List Value) (h : Hp) (r : Option Value) (h' : Hp) : Prop :=
  ∀ (l : Launch) (D : va_G) (cT : Nat → ClassId) (ad : Nat → Nat) (n sz : Nat), b ≤ n → n ≤ 66 → Met l y (.code y bytes maxL ret :: XG) (xrm d) (va_Pc (as.map (xcv ad)) (xPre D cT ad n sz h)) (xQ D cT ad n (xAr n ad sz) r h') 0 0 (xAr n ad sz)
/-- what a return must give -/
def XR (X : XCtx) (ret : Option FieldType) (r : Option Value) (h' : Hp) : Prop := match X with
  | (p, l, e, R, s, m, args, below, meth, c, D, cT, ad, A, Q, n, kc, ks) => meth.sig.returnType = ret ∧ meth.locks = false ∧ Q = MQ below (xQ D cT ad n A r h') args s kc ks A
theorem lg_map (ad : Nat → Nat) (vs : List Value) : (lg_sl (vs.map (xcv ad))).length = (lg_sl vs).length := by
  induction vs with
  | nil => rfl
  | cons v t ih =>
    simp only [lg_sl, List.map_cons, List.flatMap_cons, List.length_append] at ih ⊢
    rw [ih, xcv_cat]
    split <;> rfl
theorem lv_args_map (ad : Nat → Nat) (vs : List Value) : ∀ i, lv_args i (vs.map (xcv ad)) = xcl ad (lv_args i vs) := by
  induction vs with
  | nil => intro i; rfl
  | cons v t ih =>
    intro i
    simp only [List.map_cons, lv_args, xcl, xcv_cat]
    rw [ih]
    rfl
theorem MT.of {d b : Nat} {y : MethodName} {bytes : ByteArray} {maxL : Nat} {ret : Option FieldType} {as : List Value} {h h' : Hp} {r : Option Value} (hy : plainName y.cls = true) (hlen : (lg_sl as).length ≤ maxL)
    (body : ∀ X : XCtx, XOk X y.cls bytes maxL d b → XR X ret r h' → XW X 0 (lv_args 0 as) [] h) : MT d b y bytes maxL ret as h r h' := by
  intro l D cT ad n sz hbn hn66
  refine Met.ofW (cc := bytes) (maxL := maxL) (ret := ret) hy rfl ?_
  intro p e s m args below meth c s₁ B hml hv
  obtain ⟨rfl, hsz, hP, hK, hinj⟩ := hv
  subst hsz
  have hts := atoms_spec (ws := .code y bytes maxL ret :: XG) B.pre
  have hown : s.vm.findClass y.cls = some m.cls := findClass_of_methodNamed B.named
  have hl := lv_entry (as.map (xcv ad)) (n := maxL) (by rw [lg_map]; exact hlen)
  rw [lg_entry_eq]
  rw [lv_args_map] at hl
  refine body (p, l, e, xrm d, s, m, (as.map (xcv ad)).toArray, below, meth, c, D, cT, ad, xAr n ad s.heap.size, MQ below (xQ D cT ad n (xAr n ad s.heap.size) r h') (as.map (xcv ad)).toArray s 0 0 (xAr n ad s.heap.size), n, 0, 0) ?_ ?_ s.heap [] _ hP va_S.rf (by rw [hml]; exact hl)
  · exact ⟨B.exec, B.bytes, hml, hown, fun w hw => hts w (List.mem_cons_of_mem _ hw), hK, fun q hq => Or.inr hq, ⟨hinj, fun k hk => Or.inl ⟨k, hk, rfl⟩⟩, hbn, hn66, Nat.le_refl _, Nat.le_refl _, Nat.zero_le _, Nat.zero_le _⟩
  · exact ⟨B.returns, B.notSynchronized, rfl⟩
theorem XretI {X : XCtx} {own : String} {cc : ByteArray} {nL d b : Nat} (hX : XOk X own cc nL d b) {pc : Nat} {ls : List (Nat × Value)} {h : Hp} {v : Int32} (hR : XR X (some .int) (some (.int v)) h) (hd : decode cc pc = .ok (.ireturn, 1)) : XW X pc ls [.int v] h := by
  obtain ⟨p, l, e, R, s, m, args, below, meth, c, D, cT, ad, A, Q, n, kc, ks⟩ := X
  obtain ⟨hx, hb, hml, hown, hts, hK, hA, hadr, hbn, hn66, hfr, hlo, hkc, hks⟩ := hX
  obtain ⟨hr, hlk, rfl⟩ := hR
  intro H locs la hP hS hl
  exact W.iret (v := v) hx hb hr (fun t ht hW => ⟨⟨rfl, by rw [ht]; exact hP, hK.warm hW⟩, hS.F ht⟩) hS.2.2 hd hlk
theorem XretZ {X : XCtx} {own : String} {cc : ByteArray} {nL d b : Nat} (hX : XOk X own cc nL d b) {pc : Nat} {ls : List (Nat × Value)} {h : Hp} {v : Int32} (hR : XR X (some .boolean) (some (.int v)) h) (hv : xbool v = true) (hd : decode cc pc = .ok (.ireturn, 1)) : XW X pc ls [.int v] h := by
  obtain ⟨p, l, e, R, s, m, args, below, meth, c, D, cT, ad, A, Q, n, kc, ks⟩ := X
  obtain ⟨hx, hb, hml, hown, hts, hK, hA, hadr, hbn, hn66, hfr, hlo, hkc, hks⟩ := hX
  obtain ⟨hr, hlk, rfl⟩ := hR
  intro H locs la hP hS hl
  exact W.zret (v := v) hx hb hr (xboolN hv) (fun t ht hW => ⟨⟨rfl, by rw [ht]; exact hP, hK.warm hW⟩, hS.F ht⟩) hS.2.2 hd hlk
theorem XretL {X : XCtx} {own : String} {cc : ByteArray} {nL d b : Nat} (hX : XOk X own cc nL d b) {pc : Nat} {ls : List (Nat × Value)} {h : Hp} {v : Int64} (hR : XR X (some .long) (some (.long v)) h) (hd : decode cc pc = .ok (.lreturn, 1)) : XW X pc ls [.long v] h := by
  obtain ⟨p, l, e, R, s, m, args, below, meth, c, D, cT, ad, A, Q, n, kc, ks⟩ := X
  obtain ⟨hx, hb, hml, hown, hts, hK, hA, hadr, hbn, hn66, hfr, hlo, hkc, hks⟩ := hX
  obtain ⟨hr, hlk, rfl⟩ := hR
  intro H locs la hP hS hl
  exact W.lret (v := v) hx hb hr (fun t ht hW => ⟨⟨rfl, by rw [ht]; exact hP, hK.warm hW⟩, hS.F ht⟩) hS.2.2 hd hlk
theorem XretV {X : XCtx} {own : String} {cc : ByteArray} {nL d b : Nat} (hX : XOk X own cc nL d b) {pc : Nat} {ls : List (Nat × Value)} {h : Hp} (hR : XR X none none h) (hd : decode cc pc = .ok (.return_, 1)) : XW X pc ls [] h := by
  obtain ⟨p, l, e, R, s, m, args, below, meth, c, D, cT, ad, A, Q, n, kc, ks⟩ := X
  obtain ⟨hx, hb, hml, hown, hts, hK, hA, hadr, hbn, hn66, hfr, hlo, hkc, hks⟩ := hX
  obtain ⟨hr, hlk, rfl⟩ := hR
  intro H locs la hP hS hl
  exact W.vret hx hb hr (fun t ht hW => ⟨⟨rfl, by rw [ht]; exact hP, hK.warm hW⟩, hS.F ht⟩) hS.2.2 hd hlk
/-! ===== calls ===== -/
section XRun
variable {p : Program} {l : Launch} {e : Env} {R : Room} {s : State} {m : MethodId} {args : Array Value} {below : List Frame} {meth : Method} {c : Code} {D : va_G} {cT : Nat → ClassId} {ad : Nat → Nat} {A A1 : Nat → Prop} {Q : State → Prop} {n kc ks : Nat} {H : Heap} {locs : List Loc} {la : Array Slot} {pc : Nat} {h' : Hp} {r : Option Value} {rest st0 : List Value} {a : Array Value} {free : Addr → Prop}
theorem xrun (hr : va_Run p l e R s m args below meth c H locs kc ks 0 0 (F0 m pc la st0) rest (xQ D cT ad n A1 r h' a) free) (hS : va_S A s.heap H locs) (hA : ∀ q, A1 q → A q) (hf : ∀ q, free q → A q)
    (kk : ∀ (H1 : Heap) (locs1 : List Loc), va_P D vwCl (xwrl n cT ad h') H1 → va_S A s.heap H1 locs1 → W p l e R s m args below meth c H1 locs1 kc ks Q (F0 m (pc + 3) la ((r.map (xcv ad)).toList ++ rest))) : W p l e R s m args below meth c H locs kc ks Q (F0 m pc la st0) := by
  intro T hT X
  obtain ⟨v, st₀, t, T', L, h0, X', hL, e1, e2, ⟨⟨hv, hp, hb⟩, hz, hk⟩, st⟩ := hr T hT X
  cases hv
  rw [h0] at hz hk
  obtain ⟨t2, a1, b1⟩ := kk T'.heap (locs ++ L) (by rw [e1]; exact hp)
    ⟨Nat.le_trans hS.1 (by rw [e1]; exact hz), fun q h1 h2 => by rw [e1, hk q (Nat.lt_of_lt_of_le h1 hS.1) (fun z => h2 (hA q z))]; exact hS.2.1 q h1 h2, fun q hq => by
      rcases List.mem_append.mp hq with h | h
      · exact hS.2.2 q h
      · exact hf _ (hL q h)⟩ T' rfl X'
  exact ⟨t2, st t2 a1, b1⟩
end XRun
/-- what a caller needs of a method: its code, its class, its descriptor -/
def xmd (y : MethodName) (bytes : ByteArray) (maxL : Nat) (ret : Option FieldType) (na : Nat) : Prop := Cond.code y bytes maxL ret ∈ XG ∧ Cond.initialized y.cls ∈ XG ∧ (y.cls ≠ "java/lang/invoke/MethodHandle" ∧ y.cls ≠ "java/lang/invoke/VarHandle") ∧ (parseMethodDescriptor y.desc).map (fun d => d.parameters.length) = some na ∧ maxL ≤ 45
def xlnk (own : String) (idx : Nat) (y : MethodName) : Prop := Cond.methodLink own idx y ∈ XG ∨ Cond.methodLinkNest own idx y "HallCarrier" ∈ XN
theorem xPre_blind {D : va_G} {cT : Nat → ClassId} {ad : Nat → Nat} {n sz : Nat} {h : Hp} {av : List Value} : FrameBlind (va_Pc av (xPre D cT ad n sz h)) := by
  intro a U g mk hq
  obtain ⟨q0, q1, q2, q3, q4⟩ := hq
  exact ⟨q0, q1, q2, XK.same (u := U) (U := U.calling g mk a) rfl q3, q4⟩
theorem xsum_map (ad : Nat → Nat) (st : List Value) : ((st.map (xcv ad)).map fun v => v.category).sum = (st.map fun v => v.category).sum := by
  rw [List.map_map]
  congr 1
  apply List.map_congr_left
  intro v _
  exact xcv_cat ad v
theorem XcallV {X : XCtx} {own : String} {cc : ByteArray} {nL d b : Nat} (hX : XOk X own cc nL d b) {d' b' : Nat} {y : MethodName} {bytes : ByteArray} {maxL : Nat} {ret : Option FieldType} {k ci : Nat} {tm : List Value} {q : vw_C} {As rest : List Value} {h h' : Hp} {r : Option Value} {pc idx : Nat} {ls : List (Nat × Value)} {st : List Value}
    (hM : MT d' b' y bytes maxL ret (.ref k :: As) h r h') (hb' : b' ≤ b) (hd' : d' + 1 ≤ d) (hy : xmd y bytes maxL ret As.length) (hi : Cond.instanceMethod y ∈ XG) (hse : Cond.selects y.cls y y ∈ XG) (hl : xlnk own idx y) (hk : k < b) (hsh : xsh k = some (.inr (ci, tm))) (hci : vwCl[ci]? = some q) (hcl : q.1 = y.cls) (hst : st = As.reverse ++ .ref k :: rest) (hW : (rest.map fun v => v.category).sum ≤ 8) (hdg : decode cc pc = .ok (.invokevirtual idx, 3))
    (kk : XW X (pc + 3) ls (r.toList ++ rest) h') : XW X pc ls st h := by
  obtain ⟨p, l, e, R, s, m, args, below, meth, c, D, cT, ad, A, Q, n, kc, ks⟩ := X
  obtain ⟨hx, hb, hml, hown, hts, hK, hA, hadr, hbn, hn66, hfr, hlo, hkc, hks⟩ := hX
  obtain ⟨hcode, hini, hne, hpar, hmax⟩ := hy
  intro H locs la hP hS hll
  subst hst
  have hkn : k < n := Nat.lt_of_lt_of_le hk hbn
  have hM1 := hM l D cT ad n H.size (Nat.le_trans hb' hbn) hn66
  have hws := pay_in hts (xg_goodIn0 hcode)
  have hrv : ∃ cell : Cell, H[ad k]? = some cell ∧ cell.vm.isStatics = false ∧ s.vm.findClass y.cls = some cell.cls := by
    rw [← hcl]; exact va_recv hK.1 hP hci (show (xwrl n cT ad h)[k]? = some (ad k, .inr (ci, _)) by rw [xwrl_get hkn, xce_obj hsh])
  have hpre : PreV s H y.cls (ad k) (va_Pc ((Value.ref k :: As).map (xcv ad)) (xPre D cT ad n H.size h)) (As.map (xcv ad)) :=
    ⟨xPre_blind, hrv, fun U hU hW => ⟨rfl, by rw [hU], by rw [hU]; exact hP, hK.warm hW, hadr.1⟩⟩
  have hf2 : ∀ q, xAr n ad H.size q → A q := by
    rintro q (⟨k2, h1, rfl⟩ | h1)
    · exact hadr.2 k2 h1
    · exact hA q (Nat.le_trans hS.1 h1)
  have hroom : 8 + (maxL + 11) + (xrm d').locals ≤ R.locals := by
    show 8 + (maxL + 11) + 64 * d' ≤ R.locals
    omega
  have hframes : (xrm d').frames + 1 ≤ R.frames := by
    show d' + 1 ≤ R.frames
    omega
  have hsig : ∀ sig, parseMethodDescriptor y.desc = some sig → As.length = sig.parameters.length := fun sig hsg => by
    rw [hsg] at hpar; exact (Option.some.inj hpar).symm
  have hstk : (F0 m pc la ((As.reverse ++ .ref k :: rest).map (xcv ad))).stack = (As.map (xcv ad)).reverse ++ .ref (ad k) :: rest.map (xcv ad) := by
    show (As.reverse ++ .ref k :: rest).map (xcv ad) = _
    rw [List.map_append, List.map_reverse]; rfl
  have hW2 : 2 * (F0 m pc la ((As.reverse ++ .ref k :: rest).map (xcv ad))).monitorRoom + ((rest.map (xcv ad)).map fun v => v.category).sum ≤ 8 := lv_room (by rw [xsum_map]; exact hW)
  refine xrun (D := D) (cT := cT) (ad := ad) (n := n) (A1 := xAr n ad H.size) (free := xAr n ad H.size) (rest := rest.map (xcv ad)) (a := (Value.ref (ad k) :: As.map (xcv ad)).toArray) (r := r) (h' := h') ?_ hS hf2 hf2 (fun H1 locs1 hP1 hS1 => ?_)
  · rcases hl with hl | hl
    · exact va_runV (C := y.cls) (b := ad k) (As := As.map (xcv ad)) (nL := nL) ⟨hx, hb, hml, hown, hts⟩ hM1 ⟨⟨rfl, rfl, hframes, hroom, hws, List.mem_cons_self, hts _ hcode, hts _ hini, hne, hsig, hts _ hl⟩, hts _ hi, hts _ hse⟩ hpre rfl (by simp) (by rw [← hml]; exact hll.1) hstk hW2 hdg ⟨hkc, hks⟩
    · exact va_runVN (C := y.cls) (b := ad k) (As := As.map (xcv ad)) (nL := nL) ⟨hx, hb, hml, hown, hts⟩ hM1 ⟨⟨⟨rfl, rfl, hframes, hroom, hws, List.mem_cons_self⟩, hts _ hcode, hts _ hini, hne, hsig, va_Nw.use rfl (hK.2 _ hl)⟩, hts _ hi, hts _ hse⟩ hpre rfl (by simp) (by rw [← hml]; exact hll.1) hstk hW2 hdg ⟨hkc, hks⟩
  · have k1 := kk H1 locs1 la hP1 hS1 hll
    rw [List.map_append] at k1
    cases r <;> exact k1
theorem XcallS {X : XCtx} {own : String} {cc : ByteArray} {nL d b : Nat} (hX : XOk X own cc nL d b) {d' b' : Nat} {y : MethodName} {bytes : ByteArray} {maxL : Nat} {ret : Option FieldType} {As rest : List Value} {h h' : Hp} {r : Option Value} {pc idx : Nat} {ls : List (Nat × Value)} {st : List Value}
    (hM : MT d' b' y bytes maxL ret As h r h') (hb' : b' ≤ b) (hd' : d' + 1 ≤ d) (hy : xmd y bytes maxL ret As.length) (hi : Cond.static y ∈ XG) (hl : xlnk own idx y) (hst : st = As.reverse ++ rest) (hW : (rest.map fun v => v.category).sum ≤ 8) (hdg : decode cc pc = .ok (.invokestatic idx, 3))
    (kk : XW X (pc + 3) ls (r.toList ++ rest) h') : XW X pc ls st h := by
  obtain ⟨p, l, e, R, s, m, args, below, meth, c, D, cT, ad, A, Q, n, kc, ks⟩ := X
  obtain ⟨hx, hb, hml, hown, hts, hK, hA, hadr, hbn, hn66, hfr, hlo, hkc, hks⟩ := hX
  obtain ⟨hcode, hini, hne, hpar, hmax⟩ := hy
  intro H locs la hP hS hll
  subst hst
  have hM1 := hM l D cT ad n H.size (Nat.le_trans hb' hbn) hn66
  have hws := pay_in hts (xg_goodIn0 hcode)
  have hpre : PreS s H (va_Pc (As.map (xcv ad)) (xPre D cT ad n H.size h)) (As.map (xcv ad)) :=
    ⟨xPre_blind, fun U hU hW => ⟨rfl, by rw [hU], by rw [hU]; exact hP, hK.warm hW, hadr.1⟩⟩
  have hf2 : ∀ q, xAr n ad H.size q → A q := by
    rintro q (⟨k2, h1, rfl⟩ | h1)
    · exact hadr.2 k2 h1
    · exact hA q (Nat.le_trans hS.1 h1)
  have hroom : 8 + (maxL + 11) + (xrm d').locals ≤ R.locals := by
    show 8 + (maxL + 11) + 64 * d' ≤ R.locals
    omega
  have hframes : (xrm d').frames + 1 ≤ R.frames := by
    show d' + 1 ≤ R.frames
    omega
  have hsig : ∀ sig, parseMethodDescriptor y.desc = some sig → As.length = sig.parameters.length := fun sig hsg => by
    rw [hsg] at hpar; exact (Option.some.inj hpar).symm
  have hstk : (F0 m pc la ((As.reverse ++ rest).map (xcv ad))).stack = (As.map (xcv ad)).reverse ++ rest.map (xcv ad) := by
    show (As.reverse ++ rest).map (xcv ad) = _
    rw [List.map_append, List.map_reverse]
  have hW2 : 2 * (F0 m pc la ((As.reverse ++ rest).map (xcv ad))).monitorRoom + ((rest.map (xcv ad)).map fun v => v.category).sum ≤ 8 := lv_room (by rw [xsum_map]; exact hW)
  refine xrun (D := D) (cT := cT) (ad := ad) (n := n) (A1 := xAr n ad H.size) (free := xAr n ad H.size) (rest := rest.map (xcv ad)) (a := (As.map (xcv ad)).toArray) (r := r) (h' := h') ?_ hS hf2 hf2 (fun H1 locs1 hP1 hS1 => ?_)
  · rcases hl with hl | hl
    · exact va_runS (As := As.map (xcv ad)) (nL := nL) ⟨hx, hb, hml, hown, hts⟩ hM1 ⟨⟨rfl, rfl, hframes, hroom, hws, List.mem_cons_self, hts _ hcode, hts _ hini, hne, hsig, hts _ hl⟩, hts _ hi⟩ hpre rfl (by simp) (by rw [← hml]; exact hll.1) hstk hW2 hdg ⟨hkc, hks⟩
    · exact va_runSN (As := As.map (xcv ad)) (nL := nL) ⟨hx, hb, hml, hown, hts⟩ hM1 ⟨⟨⟨rfl, rfl, hframes, hroom, hws, List.mem_cons_self⟩, hts _ hcode, hts _ hini, hne, hsig, va_Nw.use rfl (hK.2 _ hl)⟩, hts _ hi, trivial⟩ hpre rfl (by simp) (by rw [← hml]; exact hll.1) hstk hW2 hdg ⟨hkc, hks⟩
  · have k1 := kk H1 locs1 la hP1 hS1 hll
    rw [List.map_append] at k1
    cases r <;> exact k1
/-- System.arraycopy between two int arrays -/
theorem Xcopy {X : XCtx} {own : String} {cc : ByteArray} {nL d b : Nat} (hX : XOk X own cc nL d b) {pc idx q0 q1 n0 n1 : Nat} {r0 r1 : List Nat} {sp dp k : Int32} {ls : List (Nat × Value)} {rest : List Value} {h : Hp} (hl : Cond.methodLink own idx arraycopyName ∈ XG) (hnat : Cond.native arraycopyName ∈ XG) (hstt : Cond.static arraycopyName ∈ XG) (hini : Cond.initialized "java/lang/System" ∈ XG) (h0 : xsh q0 = some (.inl (0, n0, r0))) (h1 : xsh q1 = some (.inl (0, n1, r1))) (hq0 : q0 < b) (hq1 : q1 < b) (hd1 : 1 ≤ d)
    (hg : (!decide (sp < 0) && !decide (dp < 0) && !decide (k < 0) && decide (sp.toNatClampNeg + k.toNatClampNeg ≤ n0) && decide (dp.toNatClampNeg + k.toNatClampNeg ≤ n1)) = true) (hW : (rest.map fun v => v.category).sum ≤ 8) (hdg : decode cc pc = .ok (.invokestatic idx, 3))
    (kk : XW X (pc + 3) ls rest (xCp h q0 q1 sp.toNatClampNeg dp.toNatClampNeg k.toNatClampNeg)) : XW X pc ls (.int k :: .int dp :: .ref q1 :: .int sp :: .ref q0 :: rest) h := by
  obtain ⟨p, l, e, R, s, m, args, below, meth, c, D, cT, ad, A, Q, n, kc, ks⟩ := X
  obtain ⟨hx, hb, hml, hown, hts, hK, hA, hadr, hbn, hn66, hfr, hlo, hkc, hks⟩ := hX
  intro H locs la hP hS hll
  simp only [Bool.and_eq_true, Bool.not_eq_true', decide_eq_false_iff_not, decide_eq_true_eq] at hg
  obtain ⟨⟨⟨⟨g1, g2⟩, g3⟩, g4⟩, g5⟩ := hg
  have hq0n : q0 < n := Nat.lt_of_lt_of_le hq0 hbn
  have hq1n : q1 < n := Nat.lt_of_lt_of_le hq1 hbn
  refine va_copyi (a := ad q1) (a0 := ad q0) (ty := .int) hx hb hll.1.symm hown (hts _ hl) (hts _ hnat) (hts _ hstt) (hts _ hini) hK.1 hP (xad_D hadr h) hS q0 q1 0 0 (by rw [xwrl_get hq0n, xce_int h0 (by decide) (by decide)]) (by rw [xwrl_get hq1n, xce_int h1 (by decide) (by decide)]) rfl rfl rfl g1 g2 g3 g4 g5 (fun i _ => rfl) (by omega) ?_ hdg (fun H1 locs1 hP1 _ hS1 => ?_)
  · rw [xsum_map]
    have : nativeFrameWords "java/lang/System" "arraycopy" 5 + 11 ≤ 56 := by decide
    omega
  · rw [xwrl_set (h' := xCp h q0 q1 sp.toNatClampNeg dp.toNatClampNeg k.toNatClampNeg) hq1n (by rw [xce_int h1 (by decide) (by decide), xCp_self]) (fun j0 e0 => xce_Cp_ne h _ _ _ e0)] at hP1
    exact kk H1 locs1 la hP1 hS1 hll
theorem xb {α β : Type} {x : Option α} {f : α → Option β} {y : β} (h : x.bind f = some y) : ∃ q, x = some q ∧ f q = some y := by
  cases x with
  | none => cases h
  | some q => exact ⟨q, rfl, h⟩
/-- a guard -/
def xgd {α : Type} (g : Bool) (k : Option α) : Option α := if g = true then k else none
theorem xgd_inv {α : Type} {g : Bool} {k : Option α} {y : α} (h : xgd g k = some y) : g = true ∧ k = some y := by
  unfold xgd at h
  split at h
  · next e => exact ⟨e, h⟩
  · cases h
end
section
/-! ===== rows for the written proofs ===== -/
theorem xif_t {α : Type} {P : Prop} [Decidable P] {a b y : α} (h : P) (hf : (if P then a else b) = y) : a = y := by rw [if_pos h] at hf; exact hf
theorem xif_f {α : Type} {P : Prop} [Decidable P] {a b y : α} (h : ¬ P) (hf : (if P then a else b) = y) : b = y := by rw [if_neg h] at hf; exact hf
def xbd1 {α β : Type} (x : Option α) (f : α → Option β) : Option β := match x with
  | some a => f a
  | none => none
def xbd2 {α γ β : Type} (x : Option (α × γ)) (f : α → γ → Option β) : Option β := match x with
  | some (a, c) => f a c
  | none => none
theorem xbd1_inv {α β : Type} {x : Option α} {f : α → Option β} {y : β} (h : xbd1 x f = some y) : ∃ a, x = some a ∧ f a = some y := by
  cases x with
  | none => cases h
  | some a => exact ⟨a, rfl, h⟩
theorem xbd2_inv {α γ β : Type} {x : Option (α × γ)} {f : α → γ → Option β} {y : β} (h : xbd2 x f = some y) : ∃ a c, x = some (a, c) ∧ f a c = some y := by
  match x, h with
  | none, h => cases h
  | some (a, c), h => exact ⟨a, c, rfl, h⟩
theorem xbd1_some {α β : Type} (a : α) (f : α → Option β) : xbd1 (some a) f = f a := rfl
theorem xbd2_some {α γ β : Type} (a : α) (c : γ) (f : α → γ → Option β) : xbd2 (some (a, c)) f = f a c := rfl
section XRets
variable {X : XCtx} {own : String} {cc : ByteArray} {nL d b : Nat} {pc : Nat} {ls : List (Nat × Value)} {h h' : Hp}
theorem XrI2 {v r : Int32} (hX : XOk X own cc nL d b) (hR : XR X (some .int) (some (.int r)) h') (hf : some (v, h) = some (r, h')) (hd : decode cc pc = .ok (.ireturn, 1)) : XW X pc ls [.int v] h := by
  cases hf; exact XretI hX hR hd
theorem XrI1 {v r : Int32} (hX : XOk X own cc nL d b) (hR : XR X (some .int) (some (.int r)) h) (hf : some v = some r) (hd : decode cc pc = .ok (.ireturn, 1)) : XW X pc ls [.int v] h := by
  cases hf; exact XretI hX hR hd
theorem XrZ2 {v r : Int32} (hX : XOk X own cc nL d b) (hR : XR X (some .boolean) (some (.int r)) h') (hf : some (v, h) = some (r, h')) (hv : xbool v = true) (hd : decode cc pc = .ok (.ireturn, 1)) : XW X pc ls [.int v] h := by
  cases hf; exact XretZ hX hR hv hd
theorem XrZ1 {v r : Int32} (hX : XOk X own cc nL d b) (hR : XR X (some .boolean) (some (.int r)) h) (hf : some v = some r) (hv : xbool v = true) (hd : decode cc pc = .ok (.ireturn, 1)) : XW X pc ls [.int v] h := by
  cases hf; exact XretZ hX hR hv hd
theorem XrL2 {v r : Int64} (hX : XOk X own cc nL d b) (hR : XR X (some .long) (some (.long r)) h') (hf : some (v, h) = some (r, h')) (hd : decode cc pc = .ok (.lreturn, 1)) : XW X pc ls [.long v] h := by
  cases hf; exact XretL hX hR hd
theorem XrL1 {v r : Int64} (hX : XOk X own cc nL d b) (hR : XR X (some .long) (some (.long r)) h) (hf : some v = some r) (hd : decode cc pc = .ok (.lreturn, 1)) : XW X pc ls [.long v] h := by
  cases hf; exact XretL hX hR hd
theorem XrV2 (hX : XOk X own cc nL d b) (hR : XR X none none h') (hf : some h = some h') (hd : decode cc pc = .ok (.return_, 1)) : XW X pc ls [] h := by
  cases hf; exact XretV hX hR hd
theorem XswAt {dflt lo hi o : Int} {offs : Array Int} {len : Nat} {x kk : Int32} (hX : XOk X own cc nL d b) (tgt : Nat) {st : List Value} (e : x = kk) (hd : decode cc pc = .ok (.tableswitch dflt lo hi offs, len)) (h1 : ¬ kk.toInt < lo) (h2 : ¬ hi < kk.toInt) (ho : offs[(kk.toInt - lo).toNat]? = some o) (ht : (pc : Int) + o = (tgt : Int)) (k : XW X tgt ls st h) : XW X pc ls (.int x :: st) h := by
  subst e
  exact XswIn hX tgt hd h1 h2 ho ht k
end XRets
/-! ===== the static table of steps ===== -/
def xstep (j : Int32) : Int32 := if j = 0 then -8 else if j = 1 then 1 else if j = 2 then 8 else -1
def xstepV (j : Nat) : Value := .int (match j with
  | 0 => -8
  | 1 => 1
  | 2 => 8
  | _ => -1)
def xZ (ad : Nat → Nat) (A : Nat → Prop) (U : State) : Prop := va_Z "HallCarrier" "STEP_BY" "[I" (.ref (ad 66)) A U U.heap ∧ va_T .int (ad 66) 4 xstepV A U U.heap
def XZ (X : XCtx) : Prop := match X with
  | (p, l, e, R, s, m, args, below, meth, c, D, cT, ad, A, Q, n, kc, ks) => xZ ad A s
def MTS (d b : Nat) (y : MethodName) (bytes : ByteArray) (maxL : Nat) (ret : Option FieldType) (as : List Value) (h : Hp) (r : Option Value) (h' : Hp) : Prop :=
  ∀ (l : Launch) (D : va_G) (cT : Nat → ClassId) (ad : Nat → Nat) (n sz : Nat), b ≤ n → n ≤ 66 → Met l y (.code y bytes maxL ret :: XG) (xrm d) (va_Pc (as.map (xcv ad)) (fun U => xPre D cT ad n sz h U ∧ xZ ad (xAr n ad sz) U)) (xQ D cT ad n (xAr n ad sz) r h') 0 0 (xAr n ad sz)
theorem MTS.of {d b : Nat} {y : MethodName} {bytes : ByteArray} {maxL : Nat} {ret : Option FieldType} {as : List Value} {h h' : Hp} {r : Option Value} (hy : plainName y.cls = true) (hlen : (lg_sl as).length ≤ maxL)
    (body : ∀ X : XCtx, XOk X y.cls bytes maxL d b → XZ X → XR X ret r h' → XW X 0 (lv_args 0 as) [] h) : MTS d b y bytes maxL ret as h r h' := by
  intro l D cT ad n sz hbn hn66
  refine Met.ofW (cc := bytes) (maxL := maxL) (ret := ret) hy rfl ?_
  intro p e s m args below meth c s₁ B hml hv
  obtain ⟨rfl, ⟨hsz, hP, hK, hinj⟩, hZ⟩ := hv
  subst hsz
  have hts := atoms_spec (ws := .code y bytes maxL ret :: XG) B.pre
  have hown : s.vm.findClass y.cls = some m.cls := findClass_of_methodNamed B.named
  have hl := lv_entry (as.map (xcv ad)) (n := maxL) (by rw [lg_map]; exact hlen)
  rw [lg_entry_eq]
  rw [lv_args_map] at hl
  refine body (p, l, e, xrm d, s, m, (as.map (xcv ad)).toArray, below, meth, c, D, cT, ad, xAr n ad s.heap.size, MQ below (xQ D cT ad n (xAr n ad s.heap.size) r h') (as.map (xcv ad)).toArray s 0 0 (xAr n ad s.heap.size), n, 0, 0) ?_ hZ ?_ s.heap [] _ hP va_S.rf (by rw [hml]; exact hl)
  · exact ⟨B.exec, B.bytes, hml, hown, fun w hw => hts w (List.mem_cons_of_mem _ hw), hK, fun q hq => Or.inr hq, ⟨hinj, fun k hk => Or.inl ⟨k, hk, rfl⟩⟩, hbn, hn66, Nat.le_refl _, Nat.le_refl _, Nat.zero_le _, Nat.zero_le _⟩
  · exact ⟨B.returns, B.notSynchronized, rfl⟩
theorem Xstep {X : XCtx} {cc : ByteArray} {nL d b : Nat} {own : String} (hX : XOk X own cc nL d b) (hZ : XZ X) {pc idx : Nat} {k : Fin 4} {j : Int32} {ls : List (Nat × Value)} {st : List Value} {h : Hp} (hw : Cond.fieldLink own idx "HallCarrier" "STEP_BY" "[I" ∈ XG) (hd1 : decode cc pc = .ok (.getstatic idx, 3)) (hd2 : decode cc (pc + 3) = .ok (.iload_n k, 1)) (hd3 : decode cc (pc + 3 + 1) = .ok (.iaload, 1)) (hl : xlk ls k = some (.int j)) (hg : xin j 4 = true) (kk : XW X (pc + 5) ls (.int (xstep j) :: st) h) : XW X pc ls st h := by
  obtain ⟨p, l, e, R, s, m, args, below, meth, c, D, cT, ad, A, Q, n, kc, ks⟩ := X
  obtain ⟨hx, hb, hml, hown, hts, hK, hA, hadr, hbn, hn66, hfr, hlo, hkc, hks⟩ := hX
  obtain ⟨hZ1, hZ2⟩ := hZ
  intro H locs la hP hS hll
  refine va_gets hx hb hZ1 hS hown (hts _ hw) (fun _ q => q) hd1 ?_
  refine lv_iload_n hx hb hd2 rfl (xlk_at hll hl) ?_
  refine va_ti hx hb hZ2 hS (xin_vp hg) (v := .int (xstep j)) ?_ hd3 ?_
  · obtain ⟨i, hi, rfl⟩ := vp_in_of (xin_vp hg) (by decide)
    rw [nI_clamp (by omega)]
    match i, hi with
    | 0, _ => rfl
    | 1, _ => rfl
    | 2, _ => rfl
    | 3, _ => rfl
  · exact kk H locs la hP hS hll
/-! ===== pools ===== -/
def xpck (own : String) (l1 : List ((Nat × Nat × Nat × Bool) × Nat)) (l2 : List ((Nat × Int32) × Nat)) (l3 : List ((Nat × Int64) × Nat)) : Bool :=
  l1.all (fun e => match vwCl[e.1.2.1]? with
    | some (_, T, N) => decide (e.1.2.2.1 < N) && (if e.1.2.2.2 = true then decide (tables_1[e.2]? = some (Cond.fieldLinkNest own e.1.1 (T e.1.2.2.1).1 (T e.1.2.2.1).2.1 (T e.1.2.2.1).2.2.1 "HallCarrier")) else decide (tables_1[e.2]? = some (Cond.fieldLink own e.1.1 (T e.1.2.2.1).1 (T e.1.2.2.1).2.1 (T e.1.2.2.1).2.2.1)))
    | none => false) &&
  l2.all (fun e => decide (tables_1[e.2]? = some (Cond.constant own e.1.1 e.1.2))) && l3.all (fun e => decide (tables_1[e.2]? = some (Cond.constantLong own e.1.1 e.1.2)))
theorem xpok_of {own : String} {P : XPool} {l1 : List ((Nat × Nat × Nat × Bool) × Nat)} {l2 : List ((Nat × Int32) × Nat)} {l3 : List ((Nat × Int64) × Nat)} (e1 : l1.map (fun e => e.1) = P.1) (e2 : l2.map (fun e => e.1) = P.2.1) (e3 : l3.map (fun e => e.1) = P.2.2) (h : xpck own l1 l2 l3 = true) : xpok own P := by
  simp only [xpck, Bool.and_eq_true] at h
  obtain ⟨⟨h1, h2⟩, h3⟩ := h
  refine ⟨fun q hq C T N hc => ?_, fun q hq => ?_, fun q hq => ?_⟩
  · rw [← e1] at hq
    obtain ⟨e, he, rfl⟩ := List.mem_map.mp hq
    have a := List.all_eq_true.mp h1 e he
    rw [hc] at a
    simp only [Bool.and_eq_true, decide_eq_true_eq] at a
    refine ⟨a.1, ?_⟩
    have a2 := a.2
    split
    · next hb => rw [if_pos hb] at a2; exact xn_tab e.2 (of_decide_eq_true a2) rfl
    · next hb => rw [if_neg hb] at a2; exact xg_tab e.2 (of_decide_eq_true a2) (by first | rfl | simp [goodWord, Cond.onTables, Cond.keeps, Cond.steady])
  · rw [← e2] at hq
    obtain ⟨e, he, rfl⟩ := List.mem_map.mp hq
    exact xg_tab e.2 (of_decide_eq_true (List.all_eq_true.mp h2 e he)) (by first | rfl | simp [goodWord, Cond.onTables, Cond.keeps, Cond.steady])
  · rw [← e3] at hq
    obtain ⟨e, he, rfl⟩ := List.mem_map.mp hq
    exact xg_tab e.2 (of_decide_eq_true (List.all_eq_true.mp h3 e he)) (by first | rfl | simp [goodWord, Cond.onTables, Cond.keeps, Cond.steady])
/-! ===== Math.max ===== -/
def jmax (x y : Int32) : Int32 := if x < y then y else x
theorem xmax_s : Cond.static Lib.Math.max.name ∈ XG := xg_tab 544 (by decide +kernel) (by decide +kernel)
theorem xmax_i : Cond.initialized "java/lang/Math" ∈ XG := xg_tab 9 (by decide +kernel) (by decide +kernel)
theorem xmax_c : Cond.code Lib.Math.max.name Lib.Math.max.code 2 (some .int) ∈ XG := xg_tab 545 (by decide +kernel) (by decide +kernel)
theorem Xmax {X : XCtx} {own : String} {cc : ByteArray} {nL d b : Nat} (hX : XOk X own cc nL d b) {pc idx : Nat} {x y : Int32} {ls : List (Nat × Value)} {rest : List Value} {h : Hp} (hl : Cond.methodLink own idx Lib.Math.max.name ∈ XG) (hd1 : 1 ≤ d) (hW : (rest.map fun v => v.category).sum ≤ 8) (hdg : decode cc pc = .ok (.invokestatic idx, 3)) (kk : XW X (pc + 3) ls (.int (jmax x y) :: rest) h) : XW X pc ls (.int y :: .int x :: rest) h := by
  obtain ⟨p, l, e, R, s, m, args, below, meth, c, D, cT, ad, A, Q, n, kc, ks⟩ := X
  obtain ⟨hx, hb, hml, hown, hts, hK, hA, hadr, hbn, hn66, hfr, hlo, hkc, hks⟩ := hX
  intro H locs la hP hS hll
  refine va_mmax hx hb hll.1.symm hown (hts _ hl) (hts _ xmax_s) (hts _ xmax_i) (hts _ xmax_c) (by omega) ?_ hkc hks hdg (kk H locs la hP hS hll)
  rw [xsum_map]
  omega
theorem xsh_0 : xsh 0 = some (.inr (4, [.ref 1, .int 0, .ref 2, .ref 6, .ref 13, .ref 28, .ref 30, .ref 38, .long 0, .long 0])) := rfl
theorem xsh_1 : xsh 1 = some (.inl (0, 80, [])) := rfl
theorem xsh_2 : xsh 2 = some (.inr (1, [.ref 3, .ref 4, .ref 5, .int 0, .long 0, .long 0])) := rfl
theorem xsh_3 : xsh 3 = some (.inl (0, 64, [])) := rfl
theorem xsh_4 : xsh 4 = some (.inl (0, 8, [])) := rfl
theorem xsh_5 : xsh 5 = some (.inl (1, 10, [])) := rfl
theorem xsh_6 : xsh 6 = some (.inr (3, [.ref 7, .ref 8, .ref 9, .ref 10, .ref 11, .ref 12, .int 0, .int 0, .int 0, .int 0, .float 0])) := rfl
theorem xsh_7 : xsh 7 = some (.inl (0, 6, [])) := rfl
theorem xsh_8 : xsh 8 = some (.inl (0, 6, [])) := rfl
theorem xsh_9 : xsh 9 = some (.inl (0, 2, [])) := rfl
theorem xsh_10 : xsh 10 = some (.inl (0, 2, [])) := rfl
theorem xsh_11 : xsh 11 = some (.inl (0, 128, [])) := rfl
theorem xsh_12 : xsh 12 = some (.inl (0, 500, [])) := rfl
theorem xsh_13 : xsh 13 = some (.inl (4, 2, [14, 21])) := rfl
theorem xsh_14 : xsh 14 = some (.inr (3, [.ref 15, .ref 16, .ref 17, .ref 18, .ref 19, .ref 20, .int 0, .int 0, .int 0, .int 0, .float 0])) := rfl
theorem xsh_15 : xsh 15 = some (.inl (0, 6, [])) := rfl
theorem xsh_16 : xsh 16 = some (.inl (0, 6, [])) := rfl
theorem xsh_17 : xsh 17 = some (.inl (0, 2, [])) := rfl
theorem xsh_18 : xsh 18 = some (.inl (0, 2, [])) := rfl
theorem xsh_19 : xsh 19 = some (.inl (0, 128, [])) := rfl
theorem xsh_20 : xsh 20 = some (.inl (0, 500, [])) := rfl
theorem xsh_21 : xsh 21 = some (.inr (3, [.ref 22, .ref 23, .ref 24, .ref 25, .ref 26, .ref 27, .int 0, .int 0, .int 0, .int 0, .float 0])) := rfl
theorem xsh_22 : xsh 22 = some (.inl (0, 6, [])) := rfl
theorem xsh_23 : xsh 23 = some (.inl (0, 6, [])) := rfl
theorem xsh_24 : xsh 24 = some (.inl (0, 2, [])) := rfl
theorem xsh_25 : xsh 25 = some (.inl (0, 2, [])) := rfl
theorem xsh_26 : xsh 26 = some (.inl (0, 128, [])) := rfl
theorem xsh_27 : xsh 27 = some (.inl (0, 500, [])) := rfl
theorem xsh_28 : xsh 28 = some (.inr (0, [.ref 29, .long 0, .long 0, .long 0, .long 0])) := rfl
theorem xsh_29 : xsh 29 = some (.inl (1, 4, [])) := rfl
theorem xsh_30 : xsh 30 = some (.inr (2, [.ref 31, .ref 32, .ref 33, .ref 34, .ref 35, .ref 36, .ref 37, .int 0, .int 0, .float 0, .float 0])) := rfl
theorem xsh_31 : xsh 31 = some (.inl (0, 6, [])) := rfl
theorem xsh_32 : xsh 32 = some (.inl (0, 6, [])) := rfl
theorem xsh_33 : xsh 33 = some (.inl (0, 6, [])) := rfl
theorem xsh_34 : xsh 34 = some (.inl (0, 48, [])) := rfl
theorem xsh_35 : xsh 35 = some (.inl (0, 128, [])) := rfl
theorem xsh_36 : xsh 36 = some (.inl (0, 128, [])) := rfl
theorem xsh_37 : xsh 37 = some (.inl (0, 2, [])) := rfl
theorem xsh_38 : xsh 38 = some (.inl (1, 5, [])) := rfl
theorem xsh_39 : xsh 39 = some (.inr (5, [.long 0, .ref 40, .int 0, .int 0, .int 0, .ref 41, .ref 42, .int 0, .long 0, .long 0, .int 0, .int 0, .int 0, .ref 43, .ref 44, .int 0, .ref 45, .ref 46, .ref 47, .int 0, .int 0, .ref 48, .ref 49, .ref 50, .ref 51, .int 0, .ref 52, .ref 53, .ref 54, .ref 55, .ref 56, .ref 57, .ref 58, .ref 59, .ref 60, .ref 61, .ref 62, .ref 63, .ref 64, .ref 65])) := rfl
theorem xsh_40 : xsh 40 = some (.inl (2, 80, [])) := rfl
theorem xsh_41 : xsh 41 = some (.inl (0, 64, [])) := rfl
theorem xsh_42 : xsh 42 = some (.inl (0, 8, [])) := rfl
theorem xsh_43 : xsh 43 = some (.inl (0, 18, [])) := rfl
theorem xsh_44 : xsh 44 = some (.inl (0, 18, [])) := rfl
theorem xsh_45 : xsh 45 = some (.inl (0, 6, [])) := rfl
theorem xsh_46 : xsh 46 = some (.inl (0, 6, [])) := rfl
theorem xsh_47 : xsh 47 = some (.inl (0, 384, [])) := rfl
theorem xsh_48 : xsh 48 = some (.inl (0, 1500, [])) := rfl
theorem xsh_49 : xsh 49 = some (.inl (1, 21, [])) := rfl
theorem xsh_50 : xsh 50 = some (.inl (1, 21, [])) := rfl
theorem xsh_51 : xsh 51 = some (.inl (3, 160, [])) := rfl
theorem xsh_52 : xsh 52 = some (.inl (0, 6, [])) := rfl
theorem xsh_53 : xsh 53 = some (.inl (0, 6, [])) := rfl
theorem xsh_54 : xsh 54 = some (.inl (0, 6, [])) := rfl
theorem xsh_55 : xsh 55 = some (.inl (0, 48, [])) := rfl
theorem xsh_56 : xsh 56 = some (.inl (0, 6, [])) := rfl
theorem xsh_57 : xsh 57 = some (.inl (0, 6, [])) := rfl
theorem xsh_58 : xsh 58 = some (.inl (0, 12, [])) := rfl
theorem xsh_59 : xsh 59 = some (.inl (0, 2, [])) := rfl
theorem xsh_60 : xsh 60 = some (.inl (0, 6, [])) := rfl
theorem xsh_61 : xsh 61 = some (.inl (3, 2, [])) := rfl
theorem xsh_62 : xsh 62 = some (.inl (0, 2, [])) := rfl
theorem xsh_63 : xsh 63 = some (.inl (0, 2, [])) := rfl
theorem xsh_64 : xsh 64 = some (.inl (0, 2, [])) := rfl
theorem xsh_65 : xsh 65 = some (.inl (0, 2, [])) := rfl
def pkX4 : XPool := ([(9, 4, 0, false), (16, 4, 2, false), (23, 4, 3, false), (27, 4, 4, false), (34, 4, 5, false), (41, 4, 6, false), (45, 4, 7, false), (58, 4, 1, false), (66, 1, 4, true), (80, 1, 0, true), (83, 1, 3, true), (86, 1, 1, true), (96, 1, 5, true), (101, 4, 8, false), (114, 3, 6, true), (124, 3, 7, true), (137, 3, 0, true), (140, 3, 1, true), (146, 3, 2, true), (149, 3, 3, true), (170, 3, 8, true), (180, 3, 9, true), (183, 3, 5, true), (186, 3, 4, true), (214, 1, 2, true), (224, 2, 7, true), (235, 2, 9, true), (239, 2, 8, true), (249, 3, 10, true), (252, 4, 9, false)], [], [(49, (198343339566 : Int64)), (99, (-1 : Int64)), (292, (10 : Int64)), (294, (100 : Int64)), (296, (1000 : Int64)), (298, (10000 : Int64)), (300, (100000 : Int64)), (302, (1000000 : Int64)), (304, (9187201950435737471 : Int64)), (306, (-72340172838076674 : Int64)), (308, (72340172838076673 : Int64))])
theorem pkX4_ok : xpok RX4 pkX4 := xpok_of (l1 := [((9, 4, 0, false), 204), ((16, 4, 2, false), 206), ((23, 4, 3, false), 207), ((27, 4, 4, false), 208), ((34, 4, 5, false), 209), ((41, 4, 6, false), 210), ((45, 4, 7, false), 211), ((58, 4, 1, false), 205), ((66, 1, 4, true), 34), ((80, 1, 0, true), 26), ((83, 1, 3, true), 32), ((86, 1, 1, true), 28), ((96, 1, 5, true), 36), ((101, 4, 8, false), 212), ((114, 3, 6, true), 73), ((124, 3, 7, true), 77), ((137, 3, 0, true), 59), ((140, 3, 1, true), 61), ((146, 3, 2, true), 65), ((149, 3, 3, true), 67), ((170, 3, 8, true), 79), ((180, 3, 9, true), 82), ((183, 3, 5, true), 71), ((186, 3, 4, true), 69), ((214, 1, 2, true), 30), ((224, 2, 7, true), 144), ((235, 2, 9, true), 148), ((239, 2, 8, true), 146), ((249, 3, 10, true), 83), ((252, 4, 9, false), 213)]) (l2 := []) (l3 := [((49, (198343339566 : Int64)), 173), ((99, (-1 : Int64)), 285), ((292, (10 : Int64)), 444), ((294, (100 : Int64)), 449), ((296, (1000 : Int64)), 454), ((298, (10000 : Int64)), 459), ((300, (100000 : Int64)), 464), ((302, (1000000 : Int64)), 469), ((304, (9187201950435737471 : Int64)), 301), ((306, (-72340172838076674 : Int64)), 302), ((308, (72340172838076673 : Int64)), 359)]) rfl rfl rfl (by decide +kernel)
def pkX0 : XPool := ([(9, 0, 0, false), (15, 0, 1, false), (19, 0, 2, false), (22, 0, 3, false), (25, 0, 4, false), (28, 3, 7, true), (34, 3, 2, true)], [], [])
theorem pkX0_ok : xpok RX0 pkX0 := xpok_of (l1 := [((9, 0, 0, false), 114), ((15, 0, 1, false), 115), ((19, 0, 2, false), 116), ((22, 0, 3, false), 117), ((25, 0, 4, false), 118), ((28, 3, 7, true), 75), ((34, 3, 2, true), 63)]) (l2 := []) (l3 := []) rfl rfl rfl (by decide +kernel)
def pkX1 : XPool := ([(9, 1, 0, false), (15, 1, 1, false), (18, 1, 2, false), (28, 1, 3, false), (32, 1, 4, false), (36, 1, 5, false)], [], [(51, (-1 : Int64))])
theorem pkX1_ok : xpok RX1 pkX1 := xpok_of (l1 := [((9, 1, 0, false), 25), ((15, 1, 1, false), 27), ((18, 1, 2, false), 29), ((28, 1, 3, false), 31), ((32, 1, 4, false), 33), ((36, 1, 5, false), 35)]) (l2 := []) (l3 := [((51, (-1 : Int64)), 486)]) rfl rfl rfl (by decide +kernel)
def pkX2 : XPool := ([(9, 2, 0, false), (15, 2, 1, false), (18, 2, 2, false), (21, 2, 3, false), (24, 2, 4, false), (27, 2, 5, false), (30, 2, 6, false), (33, 2, 7, false), (37, 2, 10, false), (41, 3, 7, true), (50, 2, 9, false), (60, 3, 9, true), (75, 3, 2, true), (90, 2, 8, false)], [(53, (1000000 : Int32))], [(78, (-1 : Int64))])
theorem pkX2_ok : xpok RX2 pkX2 := xpok_of (l1 := [((9, 2, 0, false), 136), ((15, 2, 1, false), 137), ((18, 2, 2, false), 138), ((21, 2, 3, false), 139), ((24, 2, 4, false), 140), ((27, 2, 5, false), 141), ((30, 2, 6, false), 142), ((33, 2, 7, false), 143), ((37, 2, 10, false), 149), ((41, 3, 7, true), 76), ((50, 2, 9, false), 147), ((60, 3, 9, true), 81), ((75, 3, 2, true), 64), ((90, 2, 8, false), 145)]) (l2 := [((53, (1000000 : Int32)), 535)]) (l3 := [((78, (-1 : Int64)), 533)]) rfl rfl rfl (by decide +kernel)
def pkX3 : XPool := ([(9, 3, 0, false), (15, 3, 1, false), (18, 3, 2, false), (21, 3, 3, false), (24, 3, 4, false), (27, 3, 5, false), (30, 3, 6, false), (34, 3, 7, false), (37, 3, 8, false), (40, 3, 9, false)], [], [])
theorem pkX3_ok : xpok RX3 pkX3 := xpok_of (l1 := [((9, 3, 0, false), 58), ((15, 3, 1, false), 60), ((18, 3, 2, false), 62), ((21, 3, 3, false), 66), ((24, 3, 4, false), 68), ((27, 3, 5, false), 70), ((30, 3, 6, false), 72), ((34, 3, 7, false), 74), ((37, 3, 8, false), 78), ((40, 3, 9, false), 80)]) (l2 := []) (l3 := []) rfl rfl rfl (by decide +kernel)
def pkL : XPool := ([], [], [(13, (4294967295 : Int64))])
theorem pkL_ok : xpok RL pkL := xpok_of (l1 := []) (l2 := []) (l3 := [((13, (4294967295 : Int64)), 968)]) rfl rfl rfl (by decide +kernel)
def pkX5 : XPool := ([(7, 5, 1, false), (13, 5, 5, false), (17, 5, 6, false), (20, 5, 13, false), (23, 5, 14, false), (26, 5, 16, false), (29, 5, 17, false), (32, 5, 18, false), (35, 5, 21, false), (38, 5, 22, false), (42, 5, 23, false), (45, 5, 24, false), (49, 5, 26, false), (52, 5, 27, false), (55, 5, 28, false), (58, 5, 29, false), (61, 5, 30, false), (64, 5, 31, false), (67, 5, 32, false), (70, 5, 33, false), (73, 5, 34, false), (76, 5, 35, false), (79, 5, 36, false), (82, 5, 37, false), (85, 5, 38, false), (88, 5, 39, false), (91, 5, 3, false), (95, 5, 4, false), (100, 5, 8, false), (104, 5, 9, false), (111, 5, 2, false), (116, 5, 10, false), (119, 5, 11, false), (126, 5, 7, false), (129, 5, 12, false), (132, 5, 15, false), (135, 5, 25, false), (138, 5, 20, false), (141, 5, 19, false), (210, 5, 0, false)], [], [(98, (771 : Int64)), (114, (255 : Int64)), (154, (-1 : Int64)), (178, (-72340172838076674 : Int64)), (180, (9187201950435737471 : Int64)), (213, (11 : Int64)), (215, (101 : Int64)), (217, (1101 : Int64)), (219, (10011 : Int64)), (221, (100001 : Int64)), (223, (1000101 : Int64))])
theorem pkX5_ok : xpok RX5 pkX5 := xpok_of (l1 := [((7, 5, 1, false), 589), ((13, 5, 5, false), 593), ((17, 5, 6, false), 594), ((20, 5, 13, false), 601), ((23, 5, 14, false), 602), ((26, 5, 16, false), 604), ((29, 5, 17, false), 605), ((32, 5, 18, false), 606), ((35, 5, 21, false), 609), ((38, 5, 22, false), 610), ((42, 5, 23, false), 611), ((45, 5, 24, false), 612), ((49, 5, 26, false), 614), ((52, 5, 27, false), 615), ((55, 5, 28, false), 616), ((58, 5, 29, false), 617), ((61, 5, 30, false), 618), ((64, 5, 31, false), 619), ((67, 5, 32, false), 620), ((70, 5, 33, false), 621), ((73, 5, 34, false), 622), ((76, 5, 35, false), 623), ((79, 5, 36, false), 624), ((82, 5, 37, false), 625), ((85, 5, 38, false), 626), ((88, 5, 39, false), 627), ((91, 5, 3, false), 591), ((95, 5, 4, false), 592), ((100, 5, 8, false), 596), ((104, 5, 9, false), 597), ((111, 5, 2, false), 590), ((116, 5, 10, false), 598), ((119, 5, 11, false), 599), ((126, 5, 7, false), 595), ((129, 5, 12, false), 600), ((132, 5, 15, false), 603), ((135, 5, 25, false), 613), ((138, 5, 20, false), 608), ((141, 5, 19, false), 607), ((210, 5, 0, false), 588)]) (l2 := []) (l3 := [((98, (771 : Int64)), 587), ((114, (255 : Int64)), 718), ((154, (-1 : Int64)), 751), ((178, (-72340172838076674 : Int64)), 804), ((180, (9187201950435737471 : Int64)), 805), ((213, (11 : Int64)), 865), ((215, (101 : Int64)), 866), ((217, (1101 : Int64)), 867), ((219, (10011 : Int64)), 868), ((221, (100001 : Int64)), 869), ((223, (1000101 : Int64)), 870)]) rfl rfl rfl (by decide +kernel)
def pkJ13 : XPool := ([], [], [(314, (6148914691236517205 : Int64)), (316, (3689348814741910323 : Int64)), (318, (1085102592571150095 : Int64))])
theorem pkJ13_ok : xpok RJ13 pkJ13 := xpok_of (l1 := []) (l2 := []) (l3 := [((314, (6148914691236517205 : Int64)), 258), ((316, (3689348814741910323 : Int64)), 259), ((318, (1085102592571150095 : Int64)), 260)]) rfl rfl rfl (by decide +kernel)
def pkJ7 : XPool := ([], [], [])
theorem pkJ7_ok : xpok RJ7 pkJ7 := xpok_of (l1 := []) (l2 := []) (l3 := []) rfl rfl rfl (by decide +kernel)
theorem xstep_w : Cond.fieldLink RX4 173 "HallCarrier" "STEP_BY" "[I" ∈ XG := xg_tab 410 (by decide +kernel) (by decide +kernel)
theorem xnative : Cond.native arraycopyName ∈ XG := xg_tab 568 (by decide +kernel) (by decide +kernel)
theorem xstatic_ac : Cond.static arraycopyName ∈ XG := xg_tab 567 (by decide +kernel) (by decide +kernel)
theorem xinit_sys : Cond.initialized "java/lang/System" ∈ XG := xg_tab 10 (by decide +kernel) (by decide +kernel)
theorem xm_X4_type : xmd yX4_type cX4_type 5 (some .int) 2 := ⟨xg_tab 177 (by decide +kernel) (by decide +kernel), xg_tab 1 (by decide +kernel) (by decide +kernel), by decide +kernel, by decide +kernel, by decide⟩
theorem xi_X4_type : Cond.instanceMethod yX4_type ∈ XG := xg_tab 175 (by decide +kernel) (by decide +kernel)
theorem xs_X4_type : Cond.selects yX4_type.cls yX4_type yX4_type ∈ XG := xg_tab 176 (by decide +kernel) (by decide +kernel)
theorem xm_X4_becomeHall : xmd yX4_becomeHall cX4_becomeHall 4 none 0 := ⟨xg_tab 181 (by decide +kernel) (by decide +kernel), xg_tab 1 (by decide +kernel) (by decide +kernel), by decide +kernel, by decide +kernel, by decide⟩
theorem xi_X4_becomeHall : Cond.instanceMethod yX4_becomeHall ∈ XG := xg_tab 180 (by decide +kernel) (by decide +kernel)
theorem xs_X4_becomeHall : Cond.selects yX4_becomeHall.cls yX4_becomeHall yX4_becomeHall ∈ XG := xg_prv (n := 10) 0 (by decide +kernel) (by decide +kernel)
theorem xm_X1_empty : xmd yX1_empty cX1_empty 1 none 0 := ⟨xg_tab 185 (by decide +kernel) (by decide +kernel), xg_tab 2 (by decide +kernel) (by decide +kernel), by decide +kernel, by decide +kernel, by decide⟩
theorem xi_X1_empty : Cond.instanceMethod yX1_empty ∈ XG := xg_tab 184 (by decide +kernel) (by decide +kernel)
theorem xs_X1_empty : Cond.selects yX1_empty.cls yX1_empty yX1_empty ∈ XG := xg_prv (n := 6) 1 (by decide +kernel) (by decide +kernel)
theorem xm_J7_fill_d0a16 : xmd yJ7_fill_d0a16 cJ7_fill_d0a16 5 none 2 := ⟨xg_tab 188 (by decide +kernel) (by decide +kernel), xg_tab 6 (by decide +kernel) (by decide +kernel), by decide +kernel, by decide +kernel, by decide⟩
theorem xi_J7_fill_d0a16 : Cond.static yJ7_fill_d0a16 ∈ XG := xg_tab 187 (by decide +kernel) (by decide +kernel)
theorem xm_X1_put : xmd yX1_put cX1_put 7 none 3 := ⟨xg_tab 192 (by decide +kernel) (by decide +kernel), xg_tab 2 (by decide +kernel) (by decide +kernel), by decide +kernel, by decide +kernel, by decide⟩
theorem xi_X1_put : Cond.instanceMethod yX1_put ∈ XG := xg_tab 191 (by decide +kernel) (by decide +kernel)
theorem xs_X1_put : Cond.selects yX1_put.cls yX1_put yX1_put ∈ XG := xg_prv (n := 6) 2 (by decide +kernel) (by decide +kernel)
theorem xm_X4_isMark : xmd yX4_isMark cX4_isMark 1 (some .boolean) 1 := ⟨xg_tab 195 (by decide +kernel) (by decide +kernel), xg_tab 1 (by decide +kernel) (by decide +kernel), by decide +kernel, by decide +kernel, by decide⟩
theorem xi_X4_isMark : Cond.static yX4_isMark ∈ XG := xg_tab 194 (by decide +kernel) (by decide +kernel)
theorem xm_X3_empty : xmd yX3_empty cX3_empty 1 none 0 := ⟨xg_tab 199 (by decide +kernel) (by decide +kernel), xg_tab 3 (by decide +kernel) (by decide +kernel), by decide +kernel, by decide +kernel, by decide⟩
theorem xi_X3_empty : Cond.instanceMethod yX3_empty ∈ XG := xg_tab 198 (by decide +kernel) (by decide +kernel)
theorem xs_X3_empty : Cond.selects yX3_empty.cls yX3_empty yX3_empty ∈ XG := xg_prv (n := 11) 3 (by decide +kernel) (by decide +kernel)
theorem xm_X2_empty : xmd yX2_empty cX2_empty 1 none 0 := ⟨xg_tab 203 (by decide +kernel) (by decide +kernel), xg_tab 5 (by decide +kernel) (by decide +kernel), by decide +kernel, by decide +kernel, by decide⟩
theorem xi_X2_empty : Cond.instanceMethod yX2_empty ∈ XG := xg_tab 202 (by decide +kernel) (by decide +kernel)
theorem xs_X2_empty : Cond.selects yX2_empty.cls yX2_empty yX2_empty ∈ XG := xg_prv (n := 11) 4 (by decide +kernel) (by decide +kernel)
theorem xm_X4_clear : xmd yX4_clear cX4_clear 2 (some .int) 0 := ⟨xg_tab 239 (by decide +kernel) (by decide +kernel), xg_tab 1 (by decide +kernel) (by decide +kernel), by decide +kernel, by decide +kernel, by decide⟩
theorem xi_X4_clear : Cond.instanceMethod yX4_clear ∈ XG := xg_tab 237 (by decide +kernel) (by decide +kernel)
theorem xs_X4_clear : Cond.selects yX4_clear.cls yX4_clear yX4_clear ∈ XG := xg_tab 238 (by decide +kernel) (by decide +kernel)
theorem xm_X4_hall : xmd yX4_hall cX4_hall 2 (some .int) 0 := ⟨xg_tab 243 (by decide +kernel) (by decide +kernel), xg_tab 1 (by decide +kernel) (by decide +kernel), by decide +kernel, by decide +kernel, by decide⟩
theorem xi_X4_hall : Cond.instanceMethod yX4_hall ∈ XG := xg_tab 241 (by decide +kernel) (by decide +kernel)
theorem xs_X4_hall : Cond.selects yX4_hall.cls yX4_hall yX4_hall ∈ XG := xg_tab 242 (by decide +kernel) (by decide +kernel)
theorem xm_X4_faultPlace : xmd yX4_faultPlace cX4_faultPlace 9 (some .int) 0 := ⟨xg_tab 247 (by decide +kernel) (by decide +kernel), xg_tab 1 (by decide +kernel) (by decide +kernel), by decide +kernel, by decide +kernel, by decide⟩
theorem xi_X4_faultPlace : Cond.instanceMethod yX4_faultPlace ∈ XG := xg_tab 246 (by decide +kernel) (by decide +kernel)
theorem xs_X4_faultPlace : Cond.selects yX4_faultPlace.cls yX4_faultPlace yX4_faultPlace ∈ XG := xg_prv (n := 10) 5 (by decide +kernel) (by decide +kernel)
theorem xm_X4_markOf : xmd yX4_markOf cX4_markOf 1 (some .int) 1 := ⟨xg_tab 250 (by decide +kernel) (by decide +kernel), xg_tab 1 (by decide +kernel) (by decide +kernel), by decide +kernel, by decide +kernel, by decide⟩
theorem xi_X4_markOf : Cond.static yX4_markOf ∈ XG := xg_tab 249 (by decide +kernel) (by decide +kernel)
theorem xm_X4_isSign : xmd yX4_isSign cX4_isSign 1 (some .boolean) 1 := ⟨xg_tab 254 (by decide +kernel) (by decide +kernel), xg_tab 1 (by decide +kernel) (by decide +kernel), by decide +kernel, by decide +kernel, by decide⟩
theorem xi_X4_isSign : Cond.static yX4_isSign ∈ XG := xg_tab 253 (by decide +kernel) (by decide +kernel)
theorem xm_J13_bitCount_95d88 : xmd yJ13_bitCount_95d88 cJ13_bitCount_95d88 2 (some .int) 1 := ⟨xg_tab 257 (by decide +kernel) (by decide +kernel), xg_tab 8 (by decide +kernel) (by decide +kernel), by decide +kernel, by decide +kernel, by decide⟩
theorem xi_J13_bitCount_95d88 : Cond.static yJ13_bitCount_95d88 ∈ XG := xg_tab 256 (by decide +kernel) (by decide +kernel)
theorem xm_X4_sign : xmd yX4_sign cX4_sign 2 (some .int) 1 := ⟨xg_tab 264 (by decide +kernel) (by decide +kernel), xg_tab 1 (by decide +kernel) (by decide +kernel), by decide +kernel, by decide +kernel, by decide⟩
theorem xi_X4_sign : Cond.instanceMethod yX4_sign ∈ XG := xg_tab 262 (by decide +kernel) (by decide +kernel)
theorem xs_X4_sign : Cond.selects yX4_sign.cls yX4_sign yX4_sign ∈ XG := xg_tab 263 (by decide +kernel) (by decide +kernel)
theorem xm_X1_has : xmd yX1_has cX1_has 2 (some .boolean) 1 := ⟨xg_tab 268 (by decide +kernel) (by decide +kernel), xg_tab 2 (by decide +kernel) (by decide +kernel), by decide +kernel, by decide +kernel, by decide⟩
theorem xi_X1_has : Cond.instanceMethod yX1_has ∈ XG := xg_tab 267 (by decide +kernel) (by decide +kernel)
theorem xs_X1_has : Cond.selects yX1_has.cls yX1_has yX1_has ∈ XG := xg_prv (n := 6) 6 (by decide +kernel) (by decide +kernel)
theorem xm_X4_door : xmd yX4_door cX4_door 6 (some .int) 2 := ⟨xg_tab 272 (by decide +kernel) (by decide +kernel), xg_tab 1 (by decide +kernel) (by decide +kernel), by decide +kernel, by decide +kernel, by decide⟩
theorem xi_X4_door : Cond.instanceMethod yX4_door ∈ XG := xg_tab 270 (by decide +kernel) (by decide +kernel)
theorem xs_X4_door : Cond.selects yX4_door.cls yX4_door yX4_door ∈ XG := xg_tab 271 (by decide +kernel) (by decide +kernel)
theorem xm_X3_taken : xmd yX3_taken cX3_taken 4 (some .long) 0 := ⟨xg_tab 276 (by decide +kernel) (by decide +kernel), xg_tab 3 (by decide +kernel) (by decide +kernel), by decide +kernel, by decide +kernel, by decide⟩
theorem xi_X3_taken : Cond.instanceMethod yX3_taken ∈ XG := xg_tab 275 (by decide +kernel) (by decide +kernel)
theorem xs_X3_taken : Cond.selects yX3_taken.cls yX3_taken yX3_taken ∈ XG := xg_prv (n := 11) 7 (by decide +kernel) (by decide +kernel)
theorem xm_X3_carriersTaken : xmd yX3_carriersTaken cX3_carriersTaken 4 (some .long) 0 := ⟨xg_tab 280 (by decide +kernel) (by decide +kernel), xg_tab 3 (by decide +kernel) (by decide +kernel), by decide +kernel, by decide +kernel, by decide⟩
theorem xi_X3_carriersTaken : Cond.instanceMethod yX3_carriersTaken ∈ XG := xg_tab 279 (by decide +kernel) (by decide +kernel)
theorem xs_X3_carriersTaken : Cond.selects yX3_carriersTaken.cls yX3_carriersTaken yX3_carriersTaken ∈ XG := xg_prv (n := 11) 8 (by decide +kernel) (by decide +kernel)
theorem xm_X2_ends : xmd yX2_ends cX2_ends 4 (some .long) 0 := ⟨xg_tab 284 (by decide +kernel) (by decide +kernel), xg_tab 5 (by decide +kernel) (by decide +kernel), by decide +kernel, by decide +kernel, by decide⟩
theorem xi_X2_ends : Cond.instanceMethod yX2_ends ∈ XG := xg_tab 283 (by decide +kernel) (by decide +kernel)
theorem xs_X2_ends : Cond.selects yX2_ends.cls yX2_ends yX2_ends ∈ XG := xg_prv (n := 11) 9 (by decide +kernel) (by decide +kernel)
theorem xm_X2_forgetPlan : xmd yX2_forgetPlan cX2_forgetPlan 1 none 0 := ⟨xg_tab 289 (by decide +kernel) (by decide +kernel), xg_tab 5 (by decide +kernel) (by decide +kernel), by decide +kernel, by decide +kernel, by decide⟩
theorem xi_X2_forgetPlan : Cond.instanceMethod yX2_forgetPlan ∈ XG := xg_tab 288 (by decide +kernel) (by decide +kernel)
theorem xs_X2_forgetPlan : Cond.selects yX2_forgetPlan.cls yX2_forgetPlan yX2_forgetPlan ∈ XG := xg_prv (n := 11) 10 (by decide +kernel) (by decide +kernel)
theorem xm_X4_sees : xmd yX4_sees cX4_sees 2 (some .long) 1 := ⟨xg_tab 293 (by decide +kernel) (by decide +kernel), xg_tab 1 (by decide +kernel) (by decide +kernel), by decide +kernel, by decide +kernel, by decide⟩
theorem xi_X4_sees : Cond.instanceMethod yX4_sees ∈ XG := xg_tab 291 (by decide +kernel) (by decide +kernel)
theorem xs_X4_sees : Cond.selects yX4_sees.cls yX4_sees yX4_sees ∈ XG := xg_tab 292 (by decide +kernel) (by decide +kernel)
theorem xm_X1_seenFrom : xmd yX1_seenFrom cX1_seenFrom 12 (some .long) 1 := ⟨xg_tab 297 (by decide +kernel) (by decide +kernel), xg_tab 2 (by decide +kernel) (by decide +kernel), by decide +kernel, by decide +kernel, by decide⟩
theorem xi_X1_seenFrom : Cond.instanceMethod yX1_seenFrom ∈ XG := xg_tab 296 (by decide +kernel) (by decide +kernel)
theorem xs_X1_seenFrom : Cond.selects yX1_seenFrom.cls yX1_seenFrom yX1_seenFrom ∈ XG := xg_prv (n := 6) 11 (by decide +kernel) (by decide +kernel)
theorem xm_X4_shifted : xmd yX4_shifted cX4_shifted 3 (some .long) 2 := ⟨xg_tab 300 (by decide +kernel) (by decide +kernel), xg_tab 1 (by decide +kernel) (by decide +kernel), by decide +kernel, by decide +kernel, by decide⟩
theorem xi_X4_shifted : Cond.static yX4_shifted ∈ XG := xg_tab 299 (by decide +kernel) (by decide +kernel)
theorem xm_X4_person : xmd yX4_person cX4_person 3 (some .int) 2 := ⟨xg_tab 306 (by decide +kernel) (by decide +kernel), xg_tab 1 (by decide +kernel) (by decide +kernel), by decide +kernel, by decide +kernel, by decide⟩
theorem xi_X4_person : Cond.instanceMethod yX4_person ∈ XG := xg_tab 304 (by decide +kernel) (by decide +kernel)
theorem xs_X4_person : Cond.selects yX4_person.cls yX4_person yX4_person ∈ XG := xg_tab 305 (by decide +kernel) (by decide +kernel)
theorem xm_X1_isFree : xmd yX1_isFree cX1_isFree 2 (some .boolean) 1 := ⟨xg_tab 310 (by decide +kernel) (by decide +kernel), xg_tab 2 (by decide +kernel) (by decide +kernel), by decide +kernel, by decide +kernel, by decide⟩
theorem xi_X1_isFree : Cond.instanceMethod yX1_isFree ∈ XG := xg_tab 309 (by decide +kernel) (by decide +kernel)
theorem xs_X1_isFree : Cond.selects yX1_isFree.cls yX1_isFree yX1_isFree ∈ XG := xg_prv (n := 6) 12 (by decide +kernel) (by decide +kernel)
theorem xm_X3_addPerson : xmd yX3_addPerson cX3_addPerson 3 (some .int) 2 := ⟨xg_tab 314 (by decide +kernel) (by decide +kernel), xg_tab 3 (by decide +kernel) (by decide +kernel), by decide +kernel, by decide +kernel, by decide⟩
theorem xi_X3_addPerson : Cond.instanceMethod yX3_addPerson ∈ XG := xg_tab 313 (by decide +kernel) (by decide +kernel)
theorem xs_X3_addPerson : Cond.selects yX3_addPerson.cls yX3_addPerson yX3_addPerson ∈ XG := xg_prv (n := 11) 13 (by decide +kernel) (by decide +kernel)
theorem xm_X4_carrier : xmd yX4_carrier cX4_carrier 4 (some .int) 2 := ⟨xg_tab 318 (by decide +kernel) (by decide +kernel), xg_tab 1 (by decide +kernel) (by decide +kernel), by decide +kernel, by decide +kernel, by decide⟩
theorem xi_X4_carrier : Cond.instanceMethod yX4_carrier ∈ XG := xg_tab 316 (by decide +kernel) (by decide +kernel)
theorem xs_X4_carrier : Cond.selects yX4_carrier.cls yX4_carrier yX4_carrier ∈ XG := xg_tab 317 (by decide +kernel) (by decide +kernel)
theorem xm_X3_addCarrier : xmd yX3_addCarrier cX3_addCarrier 4 (some .int) 2 := ⟨xg_tab 323 (by decide +kernel) (by decide +kernel), xg_tab 3 (by decide +kernel) (by decide +kernel), by decide +kernel, by decide +kernel, by decide⟩
theorem xi_X3_addCarrier : Cond.instanceMethod yX3_addCarrier ∈ XG := xg_tab 322 (by decide +kernel) (by decide +kernel)
theorem xs_X3_addCarrier : Cond.selects yX3_addCarrier.cls yX3_addCarrier yX3_addCarrier ∈ XG := xg_prv (n := 11) 14 (by decide +kernel) (by decide +kernel)
theorem xm_X4_lookAround : xmd yX4_lookAround cX4_lookAround 5 none 1 := ⟨xg_tab 327 (by decide +kernel) (by decide +kernel), xg_tab 1 (by decide +kernel) (by decide +kernel), by decide +kernel, by decide +kernel, by decide⟩
theorem xi_X4_lookAround : Cond.instanceMethod yX4_lookAround ∈ XG := xg_tab 326 (by decide +kernel) (by decide +kernel)
theorem xs_X4_lookAround : Cond.selects yX4_lookAround.cls yX4_lookAround yX4_lookAround ∈ XG := xg_prv (n := 10) 15 (by decide +kernel) (by decide +kernel)
theorem xm_X4_seenBy : xmd yX4_seenBy cX4_seenBy 2 (some .long) 1 := ⟨xg_tab 331 (by decide +kernel) (by decide +kernel), xg_tab 1 (by decide +kernel) (by decide +kernel), by decide +kernel, by decide +kernel, by decide⟩
theorem xi_X4_seenBy : Cond.instanceMethod yX4_seenBy ∈ XG := xg_tab 330 (by decide +kernel) (by decide +kernel)
theorem xs_X4_seenBy : Cond.selects yX4_seenBy.cls yX4_seenBy yX4_seenBy ∈ XG := xg_prv (n := 10) 16 (by decide +kernel) (by decide +kernel)
theorem xm_X4_at : xmd yX4_at cX4_at 5 (some .int) 2 := ⟨xg_tab 335 (by decide +kernel) (by decide +kernel), xg_tab 1 (by decide +kernel) (by decide +kernel), by decide +kernel, by decide +kernel, by decide⟩
theorem xi_X4_at : Cond.instanceMethod yX4_at ∈ XG := xg_tab 333 (by decide +kernel) (by decide +kernel)
theorem xs_X4_at : Cond.selects yX4_at.cls yX4_at yX4_at ∈ XG := xg_tab 334 (by decide +kernel) (by decide +kernel)
theorem xm_X4_isPerson : xmd yX4_isPerson cX4_isPerson 2 (some .boolean) 1 := ⟨xg_tab 339 (by decide +kernel) (by decide +kernel), xg_tab 1 (by decide +kernel) (by decide +kernel), by decide +kernel, by decide +kernel, by decide⟩
theorem xi_X4_isPerson : Cond.instanceMethod yX4_isPerson ∈ XG := xg_tab 338 (by decide +kernel) (by decide +kernel)
theorem xs_X4_isPerson : Cond.selects yX4_isPerson.cls yX4_isPerson yX4_isPerson ∈ XG := xg_prv (n := 10) 17 (by decide +kernel) (by decide +kernel)
theorem xm_X4_isCarrier : xmd yX4_isCarrier cX4_isCarrier 2 (some .boolean) 1 := ⟨xg_tab 343 (by decide +kernel) (by decide +kernel), xg_tab 1 (by decide +kernel) (by decide +kernel), by decide +kernel, by decide +kernel, by decide⟩
theorem xi_X4_isCarrier : Cond.instanceMethod yX4_isCarrier ∈ XG := xg_tab 342 (by decide +kernel) (by decide +kernel)
theorem xs_X4_isCarrier : Cond.selects yX4_isCarrier.cls yX4_isCarrier yX4_isCarrier ∈ XG := xg_prv (n := 10) 18 (by decide +kernel) (by decide +kernel)
theorem xm_X4_could : xmd yX4_could cX4_could 3 (some .long) 2 := ⟨xg_tab 347 (by decide +kernel) (by decide +kernel), xg_tab 1 (by decide +kernel) (by decide +kernel), by decide +kernel, by decide +kernel, by decide⟩
theorem xi_X4_could : Cond.instanceMethod yX4_could ∈ XG := xg_tab 345 (by decide +kernel) (by decide +kernel)
theorem xs_X4_could : Cond.selects yX4_could.cls yX4_could yX4_could ∈ XG := xg_tab 346 (by decide +kernel) (by decide +kernel)
theorem xm_X4_couldBe : xmd yX4_couldBe cX4_couldBe 3 (some .long) 2 := ⟨xg_tab 351 (by decide +kernel) (by decide +kernel), xg_tab 1 (by decide +kernel) (by decide +kernel), by decide +kernel, by decide +kernel, by decide⟩
theorem xi_X4_couldBe : Cond.instanceMethod yX4_couldBe ∈ XG := xg_tab 350 (by decide +kernel) (by decide +kernel)
theorem xs_X4_couldBe : Cond.selects yX4_couldBe.cls yX4_couldBe yX4_couldBe ∈ XG := xg_prv (n := 10) 19 (by decide +kernel) (by decide +kernel)
theorem xm_X0_empty : xmd yX0_empty cX0_empty 4 none 1 := ⟨xg_tab 355 (by decide +kernel) (by decide +kernel), xg_tab 4 (by decide +kernel) (by decide +kernel), by decide +kernel, by decide +kernel, by decide⟩
theorem xi_X0_empty : Cond.instanceMethod yX0_empty ∈ XG := xg_tab 354 (by decide +kernel) (by decide +kernel)
theorem xs_X0_empty : Cond.selects yX0_empty.cls yX0_empty yX0_empty ∈ XG := xg_prv (n := 5) 20 (by decide +kernel) (by decide +kernel)
theorem xm_X4_behind : xmd yX4_behind cX4_behind 4 (some .long) 2 := ⟨xg_tab 358 (by decide +kernel) (by decide +kernel), xg_tab 1 (by decide +kernel) (by decide +kernel), by decide +kernel, by decide +kernel, by decide⟩
theorem xi_X4_behind : Cond.static yX4_behind ∈ XG := xg_tab 357 (by decide +kernel) (by decide +kernel)
theorem xm_X0_join : xmd yX0_join cX0_join 4 none 2 := ⟨xg_tab 363 (by decide +kernel) (by decide +kernel), xg_tab 4 (by decide +kernel) (by decide +kernel), by decide +kernel, by decide +kernel, by decide⟩
theorem xi_X0_join : Cond.instanceMethod yX0_join ∈ XG := xg_tab 362 (by decide +kernel) (by decide +kernel)
theorem xs_X0_join : Cond.selects yX0_join.cls yX0_join yX0_join ∈ XG := xg_prv (n := 5) 21 (by decide +kernel) (by decide +kernel)
theorem xm_X0_afterTicks : xmd yX0_afterTicks cX0_afterTicks 5 (some .long) 2 := ⟨xg_tab 367 (by decide +kernel) (by decide +kernel), xg_tab 4 (by decide +kernel) (by decide +kernel), by decide +kernel, by decide +kernel, by decide⟩
theorem xi_X0_afterTicks : Cond.instanceMethod yX0_afterTicks ∈ XG := xg_tab 366 (by decide +kernel) (by decide +kernel)
theorem xs_X0_afterTicks : Cond.selects yX0_afterTicks.cls yX0_afterTicks yX0_afterTicks ∈ XG := xg_prv (n := 5) 22 (by decide +kernel) (by decide +kernel)
theorem xm_X4_widened : xmd yX4_widened cX4_widened 6 (some .long) 2 := ⟨xg_tab 370 (by decide +kernel) (by decide +kernel), xg_tab 1 (by decide +kernel) (by decide +kernel), by decide +kernel, by decide +kernel, by decide⟩
theorem xi_X4_widened : Cond.static yX4_widened ∈ XG := xg_tab 369 (by decide +kernel) (by decide +kernel)
theorem xm_X0_nearer : xmd yX0_nearer cX0_nearer 6 (some .long) 1 := ⟨xg_tab 374 (by decide +kernel) (by decide +kernel), xg_tab 4 (by decide +kernel) (by decide +kernel), by decide +kernel, by decide +kernel, by decide⟩
theorem xi_X0_nearer : Cond.instanceMethod yX0_nearer ∈ XG := xg_tab 373 (by decide +kernel) (by decide +kernel)
theorem xs_X0_nearer : Cond.selects yX0_nearer.cls yX0_nearer yX0_nearer ∈ XG := xg_prv (n := 5) 23 (by decide +kernel) (by decide +kernel)
theorem xm_X4_anybody : xmd yX4_anybody cX4_anybody 3 (some .long) 2 := ⟨xg_tab 379 (by decide +kernel) (by decide +kernel), xg_tab 1 (by decide +kernel) (by decide +kernel), by decide +kernel, by decide +kernel, by decide⟩
theorem xi_X4_anybody : Cond.instanceMethod yX4_anybody ∈ XG := xg_tab 377 (by decide +kernel) (by decide +kernel)
theorem xs_X4_anybody : Cond.selects yX4_anybody.cls yX4_anybody yX4_anybody ∈ XG := xg_tab 378 (by decide +kernel) (by decide +kernel)
theorem xm_X4_gatherAnybody : xmd yX4_gatherAnybody cX4_gatherAnybody 4 none 1 := ⟨xg_tab 383 (by decide +kernel) (by decide +kernel), xg_tab 1 (by decide +kernel) (by decide +kernel), by decide +kernel, by decide +kernel, by decide⟩
theorem xi_X4_gatherAnybody : Cond.instanceMethod yX4_gatherAnybody ∈ XG := xg_tab 382 (by decide +kernel) (by decide +kernel)
theorem xs_X4_gatherAnybody : Cond.selects yX4_gatherAnybody.cls yX4_gatherAnybody yX4_gatherAnybody ∈ XG := xg_prv (n := 10) 24 (by decide +kernel) (by decide +kernel)
theorem xm_X4_gatherSeen : xmd yX4_gatherSeen cX4_gatherSeen 4 none 1 := ⟨xg_tab 387 (by decide +kernel) (by decide +kernel), xg_tab 1 (by decide +kernel) (by decide +kernel), by decide +kernel, by decide +kernel, by decide⟩
theorem xi_X4_gatherSeen : Cond.instanceMethod yX4_gatherSeen ∈ XG := xg_tab 386 (by decide +kernel) (by decide +kernel)
theorem xs_X4_gatherSeen : Cond.selects yX4_gatherSeen.cls yX4_gatherSeen yX4_gatherSeen ∈ XG := xg_prv (n := 10) 25 (by decide +kernel) (by decide +kernel)
theorem xm_X4_let : xmd yX4_let cX4_let 4 (some .int) 1 := ⟨xg_tab 391 (by decide +kernel) (by decide +kernel), xg_tab 1 (by decide +kernel) (by decide +kernel), by decide +kernel, by decide +kernel, by decide⟩
theorem xi_X4_let : Cond.instanceMethod yX4_let ∈ XG := xg_tab 389 (by decide +kernel) (by decide +kernel)
theorem xs_X4_let : Cond.selects yX4_let.cls yX4_let yX4_let ∈ XG := xg_tab 390 (by decide +kernel) (by decide +kernel)
theorem xm_X4_whyNot : xmd yX4_whyNot cX4_whyNot 5 (some .int) 2 := ⟨xg_tab 395 (by decide +kernel) (by decide +kernel), xg_tab 1 (by decide +kernel) (by decide +kernel), by decide +kernel, by decide +kernel, by decide⟩
theorem xi_X4_whyNot : Cond.instanceMethod yX4_whyNot ∈ XG := xg_tab 394 (by decide +kernel) (by decide +kernel)
theorem xs_X4_whyNot : Cond.selects yX4_whyNot.cls yX4_whyNot yX4_whyNot ∈ XG := xg_prv (n := 10) 26 (by decide +kernel) (by decide +kernel)
theorem xm_X4_soonest : xmd yX4_soonest cX4_soonest 4 (some .int) 3 := ⟨xg_tab 400 (by decide +kernel) (by decide +kernel), xg_tab 1 (by decide +kernel) (by decide +kernel), by decide +kernel, by decide +kernel, by decide⟩
theorem xi_X4_soonest : Cond.instanceMethod yX4_soonest ∈ XG := xg_tab 398 (by decide +kernel) (by decide +kernel)
theorem xs_X4_soonest : Cond.selects yX4_soonest.cls yX4_soonest yX4_soonest ∈ XG := xg_tab 399 (by decide +kernel) (by decide +kernel)
theorem xm_X4_soonestRow : xmd yX4_soonestRow cX4_soonestRow 13 (some .int) 3 := ⟨xg_tab 404 (by decide +kernel) (by decide +kernel), xg_tab 1 (by decide +kernel) (by decide +kernel), by decide +kernel, by decide +kernel, by decide⟩
theorem xi_X4_soonestRow : Cond.instanceMethod yX4_soonestRow ∈ XG := xg_tab 403 (by decide +kernel) (by decide +kernel)
theorem xs_X4_soonestRow : Cond.selects yX4_soonestRow.cls yX4_soonestRow yX4_soonestRow ∈ XG := xg_prv (n := 10) 27 (by decide +kernel) (by decide +kernel)
theorem xm_X4_act : xmd yX4_act cX4_act 4 (some .int) 2 := ⟨xg_tab 409 (by decide +kernel) (by decide +kernel), xg_tab 1 (by decide +kernel) (by decide +kernel), by decide +kernel, by decide +kernel, by decide⟩
theorem xi_X4_act : Cond.instanceMethod yX4_act ∈ XG := xg_tab 407 (by decide +kernel) (by decide +kernel)
theorem xs_X4_act : Cond.selects yX4_act.cls yX4_act yX4_act ∈ XG := xg_tab 408 (by decide +kernel) (by decide +kernel)
theorem xm_X3_addLine : xmd yX3_addLine cX3_addLine 5 none 3 := ⟨xg_tab 415 (by decide +kernel) (by decide +kernel), xg_tab 3 (by decide +kernel) (by decide +kernel), by decide +kernel, by decide +kernel, by decide⟩
theorem xi_X3_addLine : Cond.instanceMethod yX3_addLine ∈ XG := xg_tab 414 (by decide +kernel) (by decide +kernel)
theorem xs_X3_addLine : Cond.selects yX3_addLine.cls yX3_addLine yX3_addLine ∈ XG := xg_prv (n := 11) 28 (by decide +kernel) (by decide +kernel)
theorem xm_X4_walk : xmd yX4_walk cX4_walk 4 (some .int) 2 := ⟨xg_tab 419 (by decide +kernel) (by decide +kernel), xg_tab 1 (by decide +kernel) (by decide +kernel), by decide +kernel, by decide +kernel, by decide⟩
theorem xi_X4_walk : Cond.instanceMethod yX4_walk ∈ XG := xg_tab 417 (by decide +kernel) (by decide +kernel)
theorem xs_X4_walk : Cond.selects yX4_walk.cls yX4_walk yX4_walk ∈ XG := xg_tab 418 (by decide +kernel) (by decide +kernel)
theorem xm_X4_tick : xmd yX4_tick cX4_tick 3 (some .int) 1 := ⟨xg_tab 423 (by decide +kernel) (by decide +kernel), xg_tab 1 (by decide +kernel) (by decide +kernel), by decide +kernel, by decide +kernel, by decide⟩
theorem xi_X4_tick : Cond.instanceMethod yX4_tick ∈ XG := xg_tab 421 (by decide +kernel) (by decide +kernel)
theorem xs_X4_tick : Cond.selects yX4_tick.cls yX4_tick yX4_tick ∈ XG := xg_tab 422 (by decide +kernel) (by decide +kernel)
theorem xm_X4_line : xmd yX4_line cX4_line 3 (some .int) 2 := ⟨xg_tab 427 (by decide +kernel) (by decide +kernel), xg_tab 1 (by decide +kernel) (by decide +kernel), by decide +kernel, by decide +kernel, by decide⟩
theorem xi_X4_line : Cond.instanceMethod yX4_line ∈ XG := xg_tab 425 (by decide +kernel) (by decide +kernel)
theorem xs_X4_line : Cond.selects yX4_line.cls yX4_line yX4_line ∈ XG := xg_tab 426 (by decide +kernel) (by decide +kernel)
theorem xm_X4_age : xmd yX4_age cX4_age 4 (some .int) 2 := ⟨xg_tab 431 (by decide +kernel) (by decide +kernel), xg_tab 1 (by decide +kernel) (by decide +kernel), by decide +kernel, by decide +kernel, by decide⟩
theorem xi_X4_age : Cond.instanceMethod yX4_age ∈ XG := xg_tab 429 (by decide +kernel) (by decide +kernel)
theorem xs_X4_age : Cond.selects yX4_age.cls yX4_age yX4_age ∈ XG := xg_tab 430 (by decide +kernel) (by decide +kernel)
theorem xm_X4_charge : xmd yX4_charge cX4_charge 3 (some .int) 2 := ⟨xg_tab 435 (by decide +kernel) (by decide +kernel), xg_tab 1 (by decide +kernel) (by decide +kernel), by decide +kernel, by decide +kernel, by decide⟩
theorem xi_X4_charge : Cond.instanceMethod yX4_charge ∈ XG := xg_tab 433 (by decide +kernel) (by decide +kernel)
theorem xs_X4_charge : Cond.selects yX4_charge.cls yX4_charge yX4_charge ∈ XG := xg_tab 434 (by decide +kernel) (by decide +kernel)
theorem xm_X4_chargeMove : xmd yX4_chargeMove cX4_chargeMove 1 (some .int) 0 := ⟨xg_tab 439 (by decide +kernel) (by decide +kernel), xg_tab 1 (by decide +kernel) (by decide +kernel), by decide +kernel, by decide +kernel, by decide⟩
theorem xi_X4_chargeMove : Cond.instanceMethod yX4_chargeMove ∈ XG := xg_tab 438 (by decide +kernel) (by decide +kernel)
theorem xs_X4_chargeMove : Cond.selects yX4_chargeMove.cls yX4_chargeMove yX4_chargeMove ∈ XG := xg_prv (n := 10) 29 (by decide +kernel) (by decide +kernel)
theorem xm_X4_chargeGo : xmd yX4_chargeGo cX4_chargeGo 2 (some .int) 1 := ⟨xg_tab 443 (by decide +kernel) (by decide +kernel), xg_tab 1 (by decide +kernel) (by decide +kernel), by decide +kernel, by decide +kernel, by decide⟩
theorem xi_X4_chargeGo : Cond.instanceMethod yX4_chargeGo ∈ XG := xg_tab 442 (by decide +kernel) (by decide +kernel)
theorem xs_X4_chargeGo : Cond.selects yX4_chargeGo.cls yX4_chargeGo yX4_chargeGo ∈ XG := xg_prv (n := 10) 30 (by decide +kernel) (by decide +kernel)
theorem xm_X4_chargeWait : xmd yX4_chargeWait cX4_chargeWait 2 (some .int) 1 := ⟨xg_tab 448 (by decide +kernel) (by decide +kernel), xg_tab 1 (by decide +kernel) (by decide +kernel), by decide +kernel, by decide +kernel, by decide⟩
theorem xi_X4_chargeWait : Cond.instanceMethod yX4_chargeWait ∈ XG := xg_tab 447 (by decide +kernel) (by decide +kernel)
theorem xs_X4_chargeWait : Cond.selects yX4_chargeWait.cls yX4_chargeWait yX4_chargeWait ∈ XG := xg_prv (n := 10) 31 (by decide +kernel) (by decide +kernel)
theorem xm_X4_chargeYield : xmd yX4_chargeYield cX4_chargeYield 2 (some .int) 1 := ⟨xg_tab 453 (by decide +kernel) (by decide +kernel), xg_tab 1 (by decide +kernel) (by decide +kernel), by decide +kernel, by decide +kernel, by decide⟩
theorem xi_X4_chargeYield : Cond.instanceMethod yX4_chargeYield ∈ XG := xg_tab 452 (by decide +kernel) (by decide +kernel)
theorem xs_X4_chargeYield : Cond.selects yX4_chargeYield.cls yX4_chargeYield yX4_chargeYield ∈ XG := xg_prv (n := 10) 32 (by decide +kernel) (by decide +kernel)
theorem xm_X4_chargeBack : xmd yX4_chargeBack cX4_chargeBack 2 (some .int) 1 := ⟨xg_tab 458 (by decide +kernel) (by decide +kernel), xg_tab 1 (by decide +kernel) (by decide +kernel), by decide +kernel, by decide +kernel, by decide⟩
theorem xi_X4_chargeBack : Cond.instanceMethod yX4_chargeBack ∈ XG := xg_tab 457 (by decide +kernel) (by decide +kernel)
theorem xs_X4_chargeBack : Cond.selects yX4_chargeBack.cls yX4_chargeBack yX4_chargeBack ∈ XG := xg_prv (n := 10) 33 (by decide +kernel) (by decide +kernel)
theorem xm_X4_chargeRide : xmd yX4_chargeRide cX4_chargeRide 2 (some .int) 1 := ⟨xg_tab 463 (by decide +kernel) (by decide +kernel), xg_tab 1 (by decide +kernel) (by decide +kernel), by decide +kernel, by decide +kernel, by decide⟩
theorem xi_X4_chargeRide : Cond.instanceMethod yX4_chargeRide ∈ XG := xg_tab 462 (by decide +kernel) (by decide +kernel)
theorem xs_X4_chargeRide : Cond.selects yX4_chargeRide.cls yX4_chargeRide yX4_chargeRide ∈ XG := xg_prv (n := 10) 34 (by decide +kernel) (by decide +kernel)
theorem xm_X4_chargeAsk : xmd yX4_chargeAsk cX4_chargeAsk 6 (some .int) 1 := ⟨xg_tab 468 (by decide +kernel) (by decide +kernel), xg_tab 1 (by decide +kernel) (by decide +kernel), by decide +kernel, by decide +kernel, by decide⟩
theorem xi_X4_chargeAsk : Cond.instanceMethod yX4_chargeAsk ∈ XG := xg_tab 467 (by decide +kernel) (by decide +kernel)
theorem xs_X4_chargeAsk : Cond.selects yX4_chargeAsk.cls yX4_chargeAsk yX4_chargeAsk ∈ XG := xg_prv (n := 10) 35 (by decide +kernel) (by decide +kernel)
theorem xm_X4_lost : xmd yX4_lost cX4_lost 1 (some .int) 0 := ⟨xg_tab 473 (by decide +kernel) (by decide +kernel), xg_tab 1 (by decide +kernel) (by decide +kernel), by decide +kernel, by decide +kernel, by decide⟩
theorem xi_X4_lost : Cond.instanceMethod yX4_lost ∈ XG := xg_tab 471 (by decide +kernel) (by decide +kernel)
theorem xs_X4_lost : Cond.selects yX4_lost.cls yX4_lost yX4_lost ∈ XG := xg_tab 472 (by decide +kernel) (by decide +kernel)
theorem xm_X4_look : xmd yX4_look cX4_look 3 (some .int) 2 := ⟨xg_tab 477 (by decide +kernel) (by decide +kernel), xg_tab 1 (by decide +kernel) (by decide +kernel), by decide +kernel, by decide +kernel, by decide⟩
theorem xi_X4_look : Cond.instanceMethod yX4_look ∈ XG := xg_tab 475 (by decide +kernel) (by decide +kernel)
theorem xs_X4_look : Cond.selects yX4_look.cls yX4_look yX4_look ∈ XG := xg_tab 476 (by decide +kernel) (by decide +kernel)
theorem xm_X1_looksLike : xmd yX1_looksLike cX1_looksLike 5 (some .long) 1 := ⟨xg_tab 481 (by decide +kernel) (by decide +kernel), xg_tab 2 (by decide +kernel) (by decide +kernel), by decide +kernel, by decide +kernel, by decide⟩
theorem xi_X1_looksLike : Cond.instanceMethod yX1_looksLike ∈ XG := xg_tab 480 (by decide +kernel) (by decide +kernel)
theorem xs_X1_looksLike : Cond.selects yX1_looksLike.cls yX1_looksLike yX1_looksLike ∈ XG := xg_prv (n := 6) 36 (by decide +kernel) (by decide +kernel)
theorem xm_X1_canStep : xmd yX1_canStep cX1_canStep 2 (some .long) 1 := ⟨xg_tab 485 (by decide +kernel) (by decide +kernel), xg_tab 2 (by decide +kernel) (by decide +kernel), by decide +kernel, by decide +kernel, by decide⟩
theorem xi_X1_canStep : Cond.instanceMethod yX1_canStep ∈ XG := xg_tab 484 (by decide +kernel) (by decide +kernel)
theorem xs_X1_canStep : Cond.selects yX1_canStep.cls yX1_canStep yX1_canStep ∈ XG := xg_prv (n := 6) 37 (by decide +kernel) (by decide +kernel)
theorem xm_X4_step : xmd yX4_step cX4_step 2 (some .int) 1 := ⟨xg_tab 490 (by decide +kernel) (by decide +kernel), xg_tab 1 (by decide +kernel) (by decide +kernel), by decide +kernel, by decide +kernel, by decide⟩
theorem xi_X4_step : Cond.instanceMethod yX4_step ∈ XG := xg_tab 488 (by decide +kernel) (by decide +kernel)
theorem xs_X4_step : Cond.selects yX4_step.cls yX4_step yX4_step ∈ XG := xg_tab 489 (by decide +kernel) (by decide +kernel)
theorem xm_X1_stepped : xmd yX1_stepped cX1_stepped 4 (some .long) 2 := ⟨xg_tab 494 (by decide +kernel) (by decide +kernel), xg_tab 2 (by decide +kernel) (by decide +kernel), by decide +kernel, by decide +kernel, by decide⟩
theorem xi_X1_stepped : Cond.instanceMethod yX1_stepped ∈ XG := xg_tab 493 (by decide +kernel) (by decide +kernel)
theorem xs_X1_stepped : Cond.selects yX1_stepped.cls yX1_stepped yX1_stepped ∈ XG := xg_prv (n := 6) 38 (by decide +kernel) (by decide +kernel)
theorem xm_X4_where : xmd yX4_where cX4_where 1 (some .long) 0 := ⟨xg_tab 498 (by decide +kernel) (by decide +kernel), xg_tab 1 (by decide +kernel) (by decide +kernel), by decide +kernel, by decide +kernel, by decide⟩
theorem xi_X4_where : Cond.instanceMethod yX4_where ∈ XG := xg_tab 496 (by decide +kernel) (by decide +kernel)
theorem xs_X4_where : Cond.selects yX4_where.cls yX4_where yX4_where ∈ XG := xg_tab 497 (by decide +kernel) (by decide +kernel)
theorem xm_X4_tells : xmd yX4_tells cX4_tells 6 (some .int) 1 := ⟨xg_tab 502 (by decide +kernel) (by decide +kernel), xg_tab 1 (by decide +kernel) (by decide +kernel), by decide +kernel, by decide +kernel, by decide⟩
theorem xi_X4_tells : Cond.instanceMethod yX4_tells ∈ XG := xg_tab 500 (by decide +kernel) (by decide +kernel)
theorem xs_X4_tells : Cond.selects yX4_tells.cls yX4_tells yX4_tells ∈ XG := xg_tab 501 (by decide +kernel) (by decide +kernel)
theorem xm_X1_unlikeLooks : xmd yX1_unlikeLooks cX1_unlikeLooks 5 (some .int) 1 := ⟨xg_tab 506 (by decide +kernel) (by decide +kernel), xg_tab 2 (by decide +kernel) (by decide +kernel), by decide +kernel, by decide +kernel, by decide⟩
theorem xi_X1_unlikeLooks : Cond.instanceMethod yX1_unlikeLooks ∈ XG := xg_tab 505 (by decide +kernel) (by decide +kernel)
theorem xs_X1_unlikeLooks : Cond.selects yX1_unlikeLooks.cls yX1_unlikeLooks yX1_unlikeLooks ∈ XG := xg_prv (n := 6) 39 (by decide +kernel) (by decide +kernel)
theorem xm_X4_order : xmd yX4_order cX4_order 4 (some .int) 3 := ⟨xg_tab 512 (by decide +kernel) (by decide +kernel), xg_tab 1 (by decide +kernel) (by decide +kernel), by decide +kernel, by decide +kernel, by decide⟩
theorem xi_X4_order : Cond.instanceMethod yX4_order ∈ XG := xg_tab 510 (by decide +kernel) (by decide +kernel)
theorem xs_X4_order : Cond.selects yX4_order.cls yX4_order yX4_order ∈ XG := xg_tab 511 (by decide +kernel) (by decide +kernel)
theorem xm_X2_add : xmd yX2_add cX2_add 4 (some .int) 3 := ⟨xg_tab 516 (by decide +kernel) (by decide +kernel), xg_tab 5 (by decide +kernel) (by decide +kernel), by decide +kernel, by decide +kernel, by decide⟩
theorem xi_X2_add : Cond.instanceMethod yX2_add ∈ XG := xg_tab 515 (by decide +kernel) (by decide +kernel)
theorem xs_X2_add : Cond.selects yX2_add.cls yX2_add yX2_add ∈ XG := xg_prv (n := 11) 40 (by decide +kernel) (by decide +kernel)
theorem xm_X4_late : xmd yX4_late cX4_late 1 (some .int) 0 := ⟨xg_tab 520 (by decide +kernel) (by decide +kernel), xg_tab 1 (by decide +kernel) (by decide +kernel), by decide +kernel, by decide +kernel, by decide⟩
theorem xi_X4_late : Cond.instanceMethod yX4_late ∈ XG := xg_tab 518 (by decide +kernel) (by decide +kernel)
theorem xs_X4_late : Cond.selects yX4_late.cls yX4_late yX4_late ∈ XG := xg_tab 519 (by decide +kernel) (by decide +kernel)
theorem xm_X2_makePlan : xmd yX2_makePlan cX2_makePlan 5 none 2 := ⟨xg_tab 524 (by decide +kernel) (by decide +kernel), xg_tab 5 (by decide +kernel) (by decide +kernel), by decide +kernel, by decide +kernel, by decide⟩
theorem xi_X2_makePlan : Cond.instanceMethod yX2_makePlan ∈ XG := xg_tab 523 (by decide +kernel) (by decide +kernel)
theorem xs_X2_makePlan : Cond.selects yX2_makePlan.cls yX2_makePlan yX2_makePlan ∈ XG := xg_prv (n := 11) 41 (by decide +kernel) (by decide +kernel)
theorem xm_X2_measure : xmd yX2_measure cX2_measure 7 (some .boolean) 2 := ⟨xg_tab 528 (by decide +kernel) (by decide +kernel), xg_tab 5 (by decide +kernel) (by decide +kernel), by decide +kernel, by decide +kernel, by decide⟩
theorem xi_X2_measure : Cond.instanceMethod yX2_measure ∈ XG := xg_tab 527 (by decide +kernel) (by decide +kernel)
theorem xs_X2_measure : Cond.selects yX2_measure.cls yX2_measure yX2_measure ∈ XG := xg_prv (n := 11) 42 (by decide +kernel) (by decide +kernel)
theorem xm_X2_measureFrom : xmd yX2_measureFrom cX2_measureFrom 12 none 3 := ⟨xg_tab 532 (by decide +kernel) (by decide +kernel), xg_tab 5 (by decide +kernel) (by decide +kernel), by decide +kernel, by decide +kernel, by decide⟩
theorem xi_X2_measureFrom : Cond.instanceMethod yX2_measureFrom ∈ XG := xg_tab 531 (by decide +kernel) (by decide +kernel)
theorem xs_X2_measureFrom : Cond.selects yX2_measureFrom.cls yX2_measureFrom yX2_measureFrom ∈ XG := xg_prv (n := 11) 43 (by decide +kernel) (by decide +kernel)
theorem xm_J7_fill_53178 : xmd yJ7_fill_53178 cJ7_fill_53178 4 none 2 := ⟨xg_tab 538 (by decide +kernel) (by decide +kernel), xg_tab 6 (by decide +kernel) (by decide +kernel), by decide +kernel, by decide +kernel, by decide⟩
theorem xi_J7_fill_53178 : Cond.static yJ7_fill_53178 ∈ XG := xg_tab 537 (by decide +kernel) (by decide +kernel)
theorem xm_X2_tryRows : xmd yX2_tryRows cX2_tryRows 13 none 7 := ⟨xg_tab 542 (by decide +kernel) (by decide +kernel), xg_tab 5 (by decide +kernel) (by decide +kernel), by decide +kernel, by decide +kernel, by decide⟩
theorem xi_X2_tryRows : Cond.instanceMethod yX2_tryRows ∈ XG := xg_tab 541 (by decide +kernel) (by decide +kernel)
theorem xs_X2_tryRows : Cond.selects yX2_tryRows.cls yX2_tryRows yX2_tryRows ∈ XG := xg_prv (n := 11) 44 (by decide +kernel) (by decide +kernel)
theorem xm_X2_chooseSets : xmd yX2_chooseSets cX2_chooseSets 5 none 1 := ⟨xg_tab 549 (by decide +kernel) (by decide +kernel), xg_tab 5 (by decide +kernel) (by decide +kernel), by decide +kernel, by decide +kernel, by decide⟩
theorem xi_X2_chooseSets : Cond.instanceMethod yX2_chooseSets ∈ XG := xg_tab 548 (by decide +kernel) (by decide +kernel)
theorem xs_X2_chooseSets : Cond.selects yX2_chooseSets.cls yX2_chooseSets yX2_chooseSets ∈ XG := xg_prv (n := 11) 45 (by decide +kernel) (by decide +kernel)
theorem xm_X4_served : xmd yX4_served cX4_served 3 (some .int) 2 := ⟨xg_tab 553 (by decide +kernel) (by decide +kernel), xg_tab 1 (by decide +kernel) (by decide +kernel), by decide +kernel, by decide +kernel, by decide⟩
theorem xi_X4_served : Cond.instanceMethod yX4_served ∈ XG := xg_tab 551 (by decide +kernel) (by decide +kernel)
theorem xs_X4_served : Cond.selects yX4_served.cls yX4_served yX4_served ∈ XG := xg_tab 552 (by decide +kernel) (by decide +kernel)
theorem xm_X2_planned : xmd yX2_planned cX2_planned 4 (some .int) 2 := ⟨xg_tab 557 (by decide +kernel) (by decide +kernel), xg_tab 5 (by decide +kernel) (by decide +kernel), by decide +kernel, by decide +kernel, by decide⟩
theorem xi_X2_planned : Cond.instanceMethod yX2_planned ∈ XG := xg_tab 556 (by decide +kernel) (by decide +kernel)
theorem xs_X2_planned : Cond.selects yX2_planned.cls yX2_planned yX2_planned ∈ XG := xg_prv (n := 11) 46 (by decide +kernel) (by decide +kernel)
theorem xm_X4_keep : xmd yX4_keep cX4_keep 2 (some .int) 1 := ⟨xg_tab 561 (by decide +kernel) (by decide +kernel), xg_tab 1 (by decide +kernel) (by decide +kernel), by decide +kernel, by decide +kernel, by decide⟩
theorem xi_X4_keep : Cond.instanceMethod yX4_keep ∈ XG := xg_tab 559 (by decide +kernel) (by decide +kernel)
theorem xs_X4_keep : Cond.selects yX4_keep.cls yX4_keep yX4_keep ∈ XG := xg_tab 560 (by decide +kernel) (by decide +kernel)
theorem xm_X3_copyFrom : xmd yX3_copyFrom cX3_copyFrom 2 none 1 := ⟨xg_tab 565 (by decide +kernel) (by decide +kernel), xg_tab 3 (by decide +kernel) (by decide +kernel), by decide +kernel, by decide +kernel, by decide⟩
theorem xi_X3_copyFrom : Cond.instanceMethod yX3_copyFrom ∈ XG := xg_tab 564 (by decide +kernel) (by decide +kernel)
theorem xs_X3_copyFrom : Cond.selects yX3_copyFrom.cls yX3_copyFrom yX3_copyFrom ∈ XG := xg_prv (n := 11) 47 (by decide +kernel) (by decide +kernel)
theorem xm_X4_back : xmd yX4_back cX4_back 2 (some .int) 1 := ⟨xg_tab 572 (by decide +kernel) (by decide +kernel), xg_tab 1 (by decide +kernel) (by decide +kernel), by decide +kernel, by decide +kernel, by decide⟩
theorem xi_X4_back : Cond.instanceMethod yX4_back ∈ XG := xg_tab 570 (by decide +kernel) (by decide +kernel)
theorem xs_X4_back : Cond.selects yX4_back.cls yX4_back yX4_back ∈ XG := xg_tab 571 (by decide +kernel) (by decide +kernel)
theorem xm_X4_count : xmd yX4_count cX4_count 2 (some .int) 1 := ⟨xg_tab 576 (by decide +kernel) (by decide +kernel), xg_tab 1 (by decide +kernel) (by decide +kernel), by decide +kernel, by decide +kernel, by decide⟩
theorem xi_X4_count : Cond.instanceMethod yX4_count ∈ XG := xg_tab 574 (by decide +kernel) (by decide +kernel)
theorem xs_X4_count : Cond.selects yX4_count.cls yX4_count yX4_count ∈ XG := xg_tab 575 (by decide +kernel) (by decide +kernel)
theorem xm_X4_trace : xmd yX4_trace cX4_trace 1 (some .long) 0 := ⟨xg_tab 580 (by decide +kernel) (by decide +kernel), xg_tab 1 (by decide +kernel) (by decide +kernel), by decide +kernel, by decide +kernel, by decide⟩
theorem xi_X4_trace : Cond.instanceMethod yX4_trace ∈ XG := xg_tab 578 (by decide +kernel) (by decide +kernel)
theorem xs_X4_trace : Cond.selects yX4_trace.cls yX4_trace yX4_trace ∈ XG := xg_tab 579 (by decide +kernel) (by decide +kernel)
theorem xm_X5_type : xmd yX5_type cX5_type 5 (some .int) 2 := ⟨xg_tab 714 (by decide +kernel) (by decide +kernel), xg_tab 7 (by decide +kernel) (by decide +kernel), by decide +kernel, by decide +kernel, by decide⟩
theorem xi_X5_type : Cond.instanceMethod yX5_type ∈ XG := xg_tab 712 (by decide +kernel) (by decide +kernel)
theorem xs_X5_type : Cond.selects yX5_type.cls yX5_type yX5_type ∈ XG := xg_tab 713 (by decide +kernel) (by decide +kernel)
theorem xm_X5_in : xmd yX5_in cX5_in 3 (some .boolean) 3 := ⟨xg_tab 717 (by decide +kernel) (by decide +kernel), xg_tab 7 (by decide +kernel) (by decide +kernel), by decide +kernel, by decide +kernel, by decide⟩
theorem xi_X5_in : Cond.static yX5_in ∈ XG := xg_tab 716 (by decide +kernel) (by decide +kernel)
theorem xm_X5_clear : xmd yX5_clear cX5_clear 2 (some .int) 0 := ⟨xg_tab 722 (by decide +kernel) (by decide +kernel), xg_tab 7 (by decide +kernel) (by decide +kernel), by decide +kernel, by decide +kernel, by decide⟩
theorem xi_X5_clear : Cond.instanceMethod yX5_clear ∈ XG := xg_tab 720 (by decide +kernel) (by decide +kernel)
theorem xs_X5_clear : Cond.selects yX5_clear.cls yX5_clear yX5_clear ∈ XG := xg_tab 721 (by decide +kernel) (by decide +kernel)
theorem xm_X5_hall : xmd yX5_hall cX5_hall 4 (some .int) 0 := ⟨xg_tab 726 (by decide +kernel) (by decide +kernel), xg_tab 7 (by decide +kernel) (by decide +kernel), by decide +kernel, by decide +kernel, by decide⟩
theorem xi_X5_hall : Cond.instanceMethod yX5_hall ∈ XG := xg_tab 724 (by decide +kernel) (by decide +kernel)
theorem xs_X5_hall : Cond.selects yX5_hall.cls yX5_hall yX5_hall ∈ XG := xg_tab 725 (by decide +kernel) (by decide +kernel)
theorem xm_X5_fault : xmd yX5_fault cX5_fault 8 (some .int) 0 := ⟨xg_tab 730 (by decide +kernel) (by decide +kernel), xg_tab 7 (by decide +kernel) (by decide +kernel), by decide +kernel, by decide +kernel, by decide⟩
theorem xi_X5_fault : Cond.instanceMethod yX5_fault ∈ XG := xg_tab 729 (by decide +kernel) (by decide +kernel)
theorem xs_X5_fault : Cond.selects yX5_fault.cls yX5_fault yX5_fault ∈ XG := xg_prv (n := 40) 48 (by decide +kernel) (by decide +kernel)
theorem xm_X5_sign : xmd yX5_sign cX5_sign 2 (some .int) 1 := ⟨xg_tab 734 (by decide +kernel) (by decide +kernel), xg_tab 7 (by decide +kernel) (by decide +kernel), by decide +kernel, by decide +kernel, by decide⟩
theorem xi_X5_sign : Cond.instanceMethod yX5_sign ∈ XG := xg_tab 732 (by decide +kernel) (by decide +kernel)
theorem xs_X5_sign : Cond.selects yX5_sign.cls yX5_sign yX5_sign ∈ XG := xg_tab 733 (by decide +kernel) (by decide +kernel)
theorem xm_X5_isCell : xmd yX5_isCell cX5_isCell 2 (some .boolean) 1 := ⟨xg_tab 738 (by decide +kernel) (by decide +kernel), xg_tab 7 (by decide +kernel) (by decide +kernel), by decide +kernel, by decide +kernel, by decide⟩
theorem xi_X5_isCell : Cond.instanceMethod yX5_isCell ∈ XG := xg_tab 737 (by decide +kernel) (by decide +kernel)
theorem xs_X5_isCell : Cond.selects yX5_isCell.cls yX5_isCell yX5_isCell ∈ XG := xg_prv (n := 40) 49 (by decide +kernel) (by decide +kernel)
theorem xm_X5_door : xmd yX5_door cX5_door 5 (some .int) 2 := ⟨xg_tab 742 (by decide +kernel) (by decide +kernel), xg_tab 7 (by decide +kernel) (by decide +kernel), by decide +kernel, by decide +kernel, by decide⟩
theorem xi_X5_door : Cond.instanceMethod yX5_door ∈ XG := xg_tab 740 (by decide +kernel) (by decide +kernel)
theorem xs_X5_door : Cond.selects yX5_door.cls yX5_door yX5_door ∈ XG := xg_tab 741 (by decide +kernel) (by decide +kernel)
theorem xm_X5_isEnd : xmd yX5_isEnd cX5_isEnd 4 (some .boolean) 1 := ⟨xg_tab 746 (by decide +kernel) (by decide +kernel), xg_tab 7 (by decide +kernel) (by decide +kernel), by decide +kernel, by decide +kernel, by decide⟩
theorem xi_X5_isEnd : Cond.instanceMethod yX5_isEnd ∈ XG := xg_tab 745 (by decide +kernel) (by decide +kernel)
theorem xs_X5_isEnd : Cond.selects yX5_isEnd.cls yX5_isEnd yX5_isEnd ∈ XG := xg_prv (n := 40) 50 (by decide +kernel) (by decide +kernel)
theorem xm_X5_isFree : xmd yX5_isFree cX5_isFree 2 (some .boolean) 1 := ⟨xg_tab 750 (by decide +kernel) (by decide +kernel), xg_tab 7 (by decide +kernel) (by decide +kernel), by decide +kernel, by decide +kernel, by decide⟩
theorem xi_X5_isFree : Cond.instanceMethod yX5_isFree ∈ XG := xg_tab 749 (by decide +kernel) (by decide +kernel)
theorem xs_X5_isFree : Cond.selects yX5_isFree.cls yX5_isFree yX5_isFree ∈ XG := xg_prv (n := 40) 51 (by decide +kernel) (by decide +kernel)
theorem xm_X5_sees : xmd yX5_sees cX5_sees 2 (some .long) 1 := ⟨xg_tab 755 (by decide +kernel) (by decide +kernel), xg_tab 7 (by decide +kernel) (by decide +kernel), by decide +kernel, by decide +kernel, by decide⟩
theorem xi_X5_sees : Cond.instanceMethod yX5_sees ∈ XG := xg_tab 753 (by decide +kernel) (by decide +kernel)
theorem xs_X5_sees : Cond.selects yX5_sees.cls yX5_sees yX5_sees ∈ XG := xg_tab 754 (by decide +kernel) (by decide +kernel)
theorem xm_X5_seenFrom : xmd yX5_seenFrom cX5_seenFrom 8 (some .long) 1 := ⟨xg_tab 759 (by decide +kernel) (by decide +kernel), xg_tab 7 (by decide +kernel) (by decide +kernel), by decide +kernel, by decide +kernel, by decide⟩
theorem xi_X5_seenFrom : Cond.instanceMethod yX5_seenFrom ∈ XG := xg_tab 758 (by decide +kernel) (by decide +kernel)
theorem xs_X5_seenFrom : Cond.selects yX5_seenFrom.cls yX5_seenFrom yX5_seenFrom ∈ XG := xg_prv (n := 40) 52 (by decide +kernel) (by decide +kernel)
theorem xm_X5_beside : xmd yX5_beside cX5_beside 5 (some .int) 2 := ⟨xg_tab 763 (by decide +kernel) (by decide +kernel), xg_tab 7 (by decide +kernel) (by decide +kernel), by decide +kernel, by decide +kernel, by decide⟩
theorem xi_X5_beside : Cond.instanceMethod yX5_beside ∈ XG := xg_tab 762 (by decide +kernel) (by decide +kernel)
theorem xs_X5_beside : Cond.selects yX5_beside.cls yX5_beside yX5_beside ∈ XG := xg_prv (n := 40) 53 (by decide +kernel) (by decide +kernel)
theorem xm_X5_person : xmd yX5_person cX5_person 3 (some .int) 2 := ⟨xg_tab 767 (by decide +kernel) (by decide +kernel), xg_tab 7 (by decide +kernel) (by decide +kernel), by decide +kernel, by decide +kernel, by decide⟩
theorem xi_X5_person : Cond.instanceMethod yX5_person ∈ XG := xg_tab 765 (by decide +kernel) (by decide +kernel)
theorem xs_X5_person : Cond.selects yX5_person.cls yX5_person yX5_person ∈ XG := xg_tab 766 (by decide +kernel) (by decide +kernel)
theorem xm_X5_carrier : xmd yX5_carrier cX5_carrier 4 (some .int) 2 := ⟨xg_tab 771 (by decide +kernel) (by decide +kernel), xg_tab 7 (by decide +kernel) (by decide +kernel), by decide +kernel, by decide +kernel, by decide⟩
theorem xi_X5_carrier : Cond.instanceMethod yX5_carrier ∈ XG := xg_tab 769 (by decide +kernel) (by decide +kernel)
theorem xs_X5_carrier : Cond.selects yX5_carrier.cls yX5_carrier yX5_carrier ∈ XG := xg_tab 770 (by decide +kernel) (by decide +kernel)
theorem xm_X5_carrierOn : xmd yX5_carrierOn cX5_carrierOn 3 (some .int) 1 := ⟨xg_tab 775 (by decide +kernel) (by decide +kernel), xg_tab 7 (by decide +kernel) (by decide +kernel), by decide +kernel, by decide +kernel, by decide⟩
theorem xi_X5_carrierOn : Cond.instanceMethod yX5_carrierOn ∈ XG := xg_tab 774 (by decide +kernel) (by decide +kernel)
theorem xs_X5_carrierOn : Cond.selects yX5_carrierOn.cls yX5_carrierOn yX5_carrierOn ∈ XG := xg_prv (n := 40) 54 (by decide +kernel) (by decide +kernel)
theorem xm_X5_lookAbout : xmd yX5_lookAbout cX5_lookAbout 5 none 1 := ⟨xg_tab 779 (by decide +kernel) (by decide +kernel), xg_tab 7 (by decide +kernel) (by decide +kernel), by decide +kernel, by decide +kernel, by decide⟩
theorem xi_X5_lookAbout : Cond.instanceMethod yX5_lookAbout ∈ XG := xg_tab 778 (by decide +kernel) (by decide +kernel)
theorem xs_X5_lookAbout : Cond.selects yX5_lookAbout.cls yX5_lookAbout yX5_lookAbout ∈ XG := xg_prv (n := 40) 55 (by decide +kernel) (by decide +kernel)
theorem xm_X5_at : xmd yX5_at cX5_at 3 (some .int) 2 := ⟨xg_tab 783 (by decide +kernel) (by decide +kernel), xg_tab 7 (by decide +kernel) (by decide +kernel), by decide +kernel, by decide +kernel, by decide⟩
theorem xi_X5_at : Cond.instanceMethod yX5_at ∈ XG := xg_tab 781 (by decide +kernel) (by decide +kernel)
theorem xs_X5_at : Cond.selects yX5_at.cls yX5_at yX5_at ∈ XG := xg_tab 782 (by decide +kernel) (by decide +kernel)
theorem xm_X5_isPerson : xmd yX5_isPerson cX5_isPerson 2 (some .boolean) 1 := ⟨xg_tab 787 (by decide +kernel) (by decide +kernel), xg_tab 7 (by decide +kernel) (by decide +kernel), by decide +kernel, by decide +kernel, by decide⟩
theorem xi_X5_isPerson : Cond.instanceMethod yX5_isPerson ∈ XG := xg_tab 786 (by decide +kernel) (by decide +kernel)
theorem xs_X5_isPerson : Cond.selects yX5_isPerson.cls yX5_isPerson yX5_isPerson ∈ XG := xg_prv (n := 40) 56 (by decide +kernel) (by decide +kernel)
theorem xm_X5_isCarrier : xmd yX5_isCarrier cX5_isCarrier 2 (some .boolean) 1 := ⟨xg_tab 791 (by decide +kernel) (by decide +kernel), xg_tab 7 (by decide +kernel) (by decide +kernel), by decide +kernel, by decide +kernel, by decide⟩
theorem xi_X5_isCarrier : Cond.instanceMethod yX5_isCarrier ∈ XG := xg_tab 790 (by decide +kernel) (by decide +kernel)
theorem xs_X5_isCarrier : Cond.selects yX5_isCarrier.cls yX5_isCarrier yX5_isCarrier ∈ XG := xg_prv (n := 40) 57 (by decide +kernel) (by decide +kernel)
theorem xm_X5_could : xmd yX5_could cX5_could 3 (some .long) 2 := ⟨xg_tab 795 (by decide +kernel) (by decide +kernel), xg_tab 7 (by decide +kernel) (by decide +kernel), by decide +kernel, by decide +kernel, by decide⟩
theorem xi_X5_could : Cond.instanceMethod yX5_could ∈ XG := xg_tab 793 (by decide +kernel) (by decide +kernel)
theorem xs_X5_could : Cond.selects yX5_could.cls yX5_could yX5_could ∈ XG := xg_tab 794 (by decide +kernel) (by decide +kernel)
theorem xm_X5_couldBe : xmd yX5_couldBe cX5_couldBe 8 (some .long) 3 := ⟨xg_tab 799 (by decide +kernel) (by decide +kernel), xg_tab 7 (by decide +kernel) (by decide +kernel), by decide +kernel, by decide +kernel, by decide⟩
theorem xi_X5_couldBe : Cond.instanceMethod yX5_couldBe ∈ XG := xg_tab 798 (by decide +kernel) (by decide +kernel)
theorem xs_X5_couldBe : Cond.selects yX5_couldBe.cls yX5_couldBe yX5_couldBe ∈ XG := xg_prv (n := 40) 58 (by decide +kernel) (by decide +kernel)
theorem xm_X5_spread : xmd yX5_spread cX5_spread 3 (some .long) 1 := ⟨xg_tab 803 (by decide +kernel) (by decide +kernel), xg_tab 7 (by decide +kernel) (by decide +kernel), by decide +kernel, by decide +kernel, by decide⟩
theorem xi_X5_spread : Cond.instanceMethod yX5_spread ∈ XG := xg_tab 802 (by decide +kernel) (by decide +kernel)
theorem xs_X5_spread : Cond.selects yX5_spread.cls yX5_spread yX5_spread ∈ XG := xg_prv (n := 40) 59 (by decide +kernel) (by decide +kernel)
theorem xm_X5_close : xmd yX5_close cX5_close 10 (some .long) 1 := ⟨xg_tab 809 (by decide +kernel) (by decide +kernel), xg_tab 7 (by decide +kernel) (by decide +kernel), by decide +kernel, by decide +kernel, by decide⟩
theorem xi_X5_close : Cond.instanceMethod yX5_close ∈ XG := xg_tab 808 (by decide +kernel) (by decide +kernel)
theorem xs_X5_close : Cond.selects yX5_close.cls yX5_close yX5_close ∈ XG := xg_prv (n := 40) 60 (by decide +kernel) (by decide +kernel)
theorem xm_X5_apart : xmd yX5_apart cX5_apart 4 (some .int) 2 := ⟨xg_tab 812 (by decide +kernel) (by decide +kernel), xg_tab 7 (by decide +kernel) (by decide +kernel), by decide +kernel, by decide +kernel, by decide⟩
theorem xi_X5_apart : Cond.static yX5_apart ∈ XG := xg_tab 811 (by decide +kernel) (by decide +kernel)
theorem xm_X5_anybody : xmd yX5_anybody cX5_anybody 3 (some .long) 2 := ⟨xg_tab 816 (by decide +kernel) (by decide +kernel), xg_tab 7 (by decide +kernel) (by decide +kernel), by decide +kernel, by decide +kernel, by decide⟩
theorem xi_X5_anybody : Cond.instanceMethod yX5_anybody ∈ XG := xg_tab 814 (by decide +kernel) (by decide +kernel)
theorem xs_X5_anybody : Cond.selects yX5_anybody.cls yX5_anybody yX5_anybody ∈ XG := xg_tab 815 (by decide +kernel) (by decide +kernel)
theorem xm_X5_seenCould : xmd yX5_seenCould cX5_seenCould 9 (some .long) 2 := ⟨xg_tab 820 (by decide +kernel) (by decide +kernel), xg_tab 7 (by decide +kernel) (by decide +kernel), by decide +kernel, by decide +kernel, by decide⟩
theorem xi_X5_seenCould : Cond.instanceMethod yX5_seenCould ∈ XG := xg_tab 819 (by decide +kernel) (by decide +kernel)
theorem xs_X5_seenCould : Cond.selects yX5_seenCould.cls yX5_seenCould yX5_seenCould ∈ XG := xg_prv (n := 40) 61 (by decide +kernel) (by decide +kernel)
theorem xm_X5_unseenCould : xmd yX5_unseenCould cX5_unseenCould 3 (some .long) 2 := ⟨xg_tab 824 (by decide +kernel) (by decide +kernel), xg_tab 7 (by decide +kernel) (by decide +kernel), by decide +kernel, by decide +kernel, by decide⟩
theorem xi_X5_unseenCould : Cond.instanceMethod yX5_unseenCould ∈ XG := xg_tab 823 (by decide +kernel) (by decide +kernel)
theorem xs_X5_unseenCould : Cond.selects yX5_unseenCould.cls yX5_unseenCould yX5_unseenCould ∈ XG := xg_prv (n := 40) 62 (by decide +kernel) (by decide +kernel)
theorem xm_X5_let : xmd yX5_let cX5_let 4 (some .int) 1 := ⟨xg_tab 828 (by decide +kernel) (by decide +kernel), xg_tab 7 (by decide +kernel) (by decide +kernel), by decide +kernel, by decide +kernel, by decide⟩
theorem xi_X5_let : Cond.instanceMethod yX5_let ∈ XG := xg_tab 826 (by decide +kernel) (by decide +kernel)
theorem xs_X5_let : Cond.selects yX5_let.cls yX5_let yX5_let ∈ XG := xg_tab 827 (by decide +kernel) (by decide +kernel)
theorem xm_X5_why : xmd yX5_why cX5_why 4 (some .int) 2 := ⟨xg_tab 832 (by decide +kernel) (by decide +kernel), xg_tab 7 (by decide +kernel) (by decide +kernel), by decide +kernel, by decide +kernel, by decide⟩
theorem xi_X5_why : Cond.instanceMethod yX5_why ∈ XG := xg_tab 831 (by decide +kernel) (by decide +kernel)
theorem xs_X5_why : Cond.selects yX5_why.cls yX5_why yX5_why ∈ XG := xg_prv (n := 40) 63 (by decide +kernel) (by decide +kernel)
theorem xm_X5_soonest : xmd yX5_soonest cX5_soonest 11 (some .int) 3 := ⟨xg_tab 836 (by decide +kernel) (by decide +kernel), xg_tab 7 (by decide +kernel) (by decide +kernel), by decide +kernel, by decide +kernel, by decide⟩
theorem xi_X5_soonest : Cond.instanceMethod yX5_soonest ∈ XG := xg_tab 834 (by decide +kernel) (by decide +kernel)
theorem xs_X5_soonest : Cond.selects yX5_soonest.cls yX5_soonest yX5_soonest ∈ XG := xg_tab 835 (by decide +kernel) (by decide +kernel)
theorem xm_X5_goOn : xmd yX5_goOn cX5_goOn 4 (some .long) 2 := ⟨xg_tab 840 (by decide +kernel) (by decide +kernel), xg_tab 7 (by decide +kernel) (by decide +kernel), by decide +kernel, by decide +kernel, by decide⟩
theorem xi_X5_goOn : Cond.instanceMethod yX5_goOn ∈ XG := xg_tab 839 (by decide +kernel) (by decide +kernel)
theorem xs_X5_goOn : Cond.selects yX5_goOn.cls yX5_goOn yX5_goOn ∈ XG := xg_prv (n := 40) 64 (by decide +kernel) (by decide +kernel)
theorem xm_X5_act : xmd yX5_act cX5_act 4 (some .int) 2 := ⟨xg_tab 844 (by decide +kernel) (by decide +kernel), xg_tab 7 (by decide +kernel) (by decide +kernel), by decide +kernel, by decide +kernel, by decide⟩
theorem xi_X5_act : Cond.instanceMethod yX5_act ∈ XG := xg_tab 842 (by decide +kernel) (by decide +kernel)
theorem xs_X5_act : Cond.selects yX5_act.cls yX5_act yX5_act ∈ XG := xg_tab 843 (by decide +kernel) (by decide +kernel)
theorem xm_X5_walk : xmd yX5_walk cX5_walk 4 (some .int) 2 := ⟨xg_tab 848 (by decide +kernel) (by decide +kernel), xg_tab 7 (by decide +kernel) (by decide +kernel), by decide +kernel, by decide +kernel, by decide⟩
theorem xi_X5_walk : Cond.instanceMethod yX5_walk ∈ XG := xg_tab 846 (by decide +kernel) (by decide +kernel)
theorem xs_X5_walk : Cond.selects yX5_walk.cls yX5_walk yX5_walk ∈ XG := xg_tab 847 (by decide +kernel) (by decide +kernel)
theorem xm_X5_tick : xmd yX5_tick cX5_tick 3 (some .int) 1 := ⟨xg_tab 852 (by decide +kernel) (by decide +kernel), xg_tab 7 (by decide +kernel) (by decide +kernel), by decide +kernel, by decide +kernel, by decide⟩
theorem xi_X5_tick : Cond.instanceMethod yX5_tick ∈ XG := xg_tab 850 (by decide +kernel) (by decide +kernel)
theorem xs_X5_tick : Cond.selects yX5_tick.cls yX5_tick yX5_tick ∈ XG := xg_tab 851 (by decide +kernel) (by decide +kernel)
theorem xm_X5_line : xmd yX5_line cX5_line 3 (some .int) 2 := ⟨xg_tab 856 (by decide +kernel) (by decide +kernel), xg_tab 7 (by decide +kernel) (by decide +kernel), by decide +kernel, by decide +kernel, by decide⟩
theorem xi_X5_line : Cond.instanceMethod yX5_line ∈ XG := xg_tab 854 (by decide +kernel) (by decide +kernel)
theorem xs_X5_line : Cond.selects yX5_line.cls yX5_line yX5_line ∈ XG := xg_tab 855 (by decide +kernel) (by decide +kernel)
theorem xm_X5_age : xmd yX5_age cX5_age 3 (some .int) 2 := ⟨xg_tab 860 (by decide +kernel) (by decide +kernel), xg_tab 7 (by decide +kernel) (by decide +kernel), by decide +kernel, by decide +kernel, by decide⟩
theorem xi_X5_age : Cond.instanceMethod yX5_age ∈ XG := xg_tab 858 (by decide +kernel) (by decide +kernel)
theorem xs_X5_age : Cond.selects yX5_age.cls yX5_age yX5_age ∈ XG := xg_tab 859 (by decide +kernel) (by decide +kernel)
theorem xm_X5_charge : xmd yX5_charge cX5_charge 7 (some .int) 2 := ⟨xg_tab 864 (by decide +kernel) (by decide +kernel), xg_tab 7 (by decide +kernel) (by decide +kernel), by decide +kernel, by decide +kernel, by decide⟩
theorem xi_X5_charge : Cond.instanceMethod yX5_charge ∈ XG := xg_tab 862 (by decide +kernel) (by decide +kernel)
theorem xs_X5_charge : Cond.selects yX5_charge.cls yX5_charge yX5_charge ∈ XG := xg_tab 863 (by decide +kernel) (by decide +kernel)
theorem xm_X5_lost : xmd yX5_lost cX5_lost 1 (some .int) 0 := ⟨xg_tab 874 (by decide +kernel) (by decide +kernel), xg_tab 7 (by decide +kernel) (by decide +kernel), by decide +kernel, by decide +kernel, by decide⟩
theorem xi_X5_lost : Cond.instanceMethod yX5_lost ∈ XG := xg_tab 872 (by decide +kernel) (by decide +kernel)
theorem xs_X5_lost : Cond.selects yX5_lost.cls yX5_lost yX5_lost ∈ XG := xg_tab 873 (by decide +kernel) (by decide +kernel)
theorem xm_X5_bitsIn : xmd yX5_bitsIn cX5_bitsIn 4 (some .int) 1 := ⟨xg_tab 877 (by decide +kernel) (by decide +kernel), xg_tab 7 (by decide +kernel) (by decide +kernel), by decide +kernel, by decide +kernel, by decide⟩
theorem xi_X5_bitsIn : Cond.static yX5_bitsIn ∈ XG := xg_tab 876 (by decide +kernel) (by decide +kernel)
theorem xm_X5_look : xmd yX5_look cX5_look 5 (some .int) 2 := ⟨xg_tab 881 (by decide +kernel) (by decide +kernel), xg_tab 7 (by decide +kernel) (by decide +kernel), by decide +kernel, by decide +kernel, by decide⟩
theorem xi_X5_look : Cond.instanceMethod yX5_look ∈ XG := xg_tab 879 (by decide +kernel) (by decide +kernel)
theorem xs_X5_look : Cond.selects yX5_look.cls yX5_look yX5_look ∈ XG := xg_tab 880 (by decide +kernel) (by decide +kernel)
theorem xm_X5_looks : xmd yX5_looks cX5_looks 5 (some .int) 1 := ⟨xg_tab 885 (by decide +kernel) (by decide +kernel), xg_tab 7 (by decide +kernel) (by decide +kernel), by decide +kernel, by decide +kernel, by decide⟩
theorem xi_X5_looks : Cond.instanceMethod yX5_looks ∈ XG := xg_tab 884 (by decide +kernel) (by decide +kernel)
theorem xs_X5_looks : Cond.selects yX5_looks.cls yX5_looks yX5_looks ∈ XG := xg_prv (n := 40) 65 (by decide +kernel) (by decide +kernel)
theorem xm_X5_step : xmd yX5_step cX5_step 2 (some .int) 1 := ⟨xg_tab 889 (by decide +kernel) (by decide +kernel), xg_tab 7 (by decide +kernel) (by decide +kernel), by decide +kernel, by decide +kernel, by decide⟩
theorem xi_X5_step : Cond.instanceMethod yX5_step ∈ XG := xg_tab 887 (by decide +kernel) (by decide +kernel)
theorem xs_X5_step : Cond.selects yX5_step.cls yX5_step yX5_step ∈ XG := xg_tab 888 (by decide +kernel) (by decide +kernel)
theorem xm_X5_stepped : xmd yX5_stepped cX5_stepped 6 (some .long) 1 := ⟨xg_tab 893 (by decide +kernel) (by decide +kernel), xg_tab 7 (by decide +kernel) (by decide +kernel), by decide +kernel, by decide +kernel, by decide⟩
theorem xi_X5_stepped : Cond.instanceMethod yX5_stepped ∈ XG := xg_tab 892 (by decide +kernel) (by decide +kernel)
theorem xs_X5_stepped : Cond.selects yX5_stepped.cls yX5_stepped yX5_stepped ∈ XG := xg_prv (n := 40) 66 (by decide +kernel) (by decide +kernel)
theorem xm_X5_where : xmd yX5_where cX5_where 1 (some .long) 0 := ⟨xg_tab 897 (by decide +kernel) (by decide +kernel), xg_tab 7 (by decide +kernel) (by decide +kernel), by decide +kernel, by decide +kernel, by decide⟩
theorem xi_X5_where : Cond.instanceMethod yX5_where ∈ XG := xg_tab 895 (by decide +kernel) (by decide +kernel)
theorem xs_X5_where : Cond.selects yX5_where.cls yX5_where yX5_where ∈ XG := xg_tab 896 (by decide +kernel) (by decide +kernel)
theorem xm_X5_tells : xmd yX5_tells cX5_tells 6 (some .int) 1 := ⟨xg_tab 901 (by decide +kernel) (by decide +kernel), xg_tab 7 (by decide +kernel) (by decide +kernel), by decide +kernel, by decide +kernel, by decide⟩
theorem xi_X5_tells : Cond.instanceMethod yX5_tells ∈ XG := xg_tab 899 (by decide +kernel) (by decide +kernel)
theorem xs_X5_tells : Cond.selects yX5_tells.cls yX5_tells yX5_tells ∈ XG := xg_tab 900 (by decide +kernel) (by decide +kernel)
theorem xm_X5_unlikeLooks : xmd yX5_unlikeLooks cX5_unlikeLooks 5 (some .int) 1 := ⟨xg_tab 905 (by decide +kernel) (by decide +kernel), xg_tab 7 (by decide +kernel) (by decide +kernel), by decide +kernel, by decide +kernel, by decide⟩
theorem xi_X5_unlikeLooks : Cond.instanceMethod yX5_unlikeLooks ∈ XG := xg_tab 904 (by decide +kernel) (by decide +kernel)
theorem xs_X5_unlikeLooks : Cond.selects yX5_unlikeLooks.cls yX5_unlikeLooks yX5_unlikeLooks ∈ XG := xg_prv (n := 40) 67 (by decide +kernel) (by decide +kernel)
theorem xm_X5_order : xmd yX5_order cX5_order 4 (some .int) 3 := ⟨xg_tab 909 (by decide +kernel) (by decide +kernel), xg_tab 7 (by decide +kernel) (by decide +kernel), by decide +kernel, by decide +kernel, by decide⟩
theorem xi_X5_order : Cond.instanceMethod yX5_order ∈ XG := xg_tab 907 (by decide +kernel) (by decide +kernel)
theorem xs_X5_order : Cond.selects yX5_order.cls yX5_order yX5_order ∈ XG := xg_tab 908 (by decide +kernel) (by decide +kernel)
theorem xm_X5_late : xmd yX5_late cX5_late 1 (some .int) 0 := ⟨xg_tab 913 (by decide +kernel) (by decide +kernel), xg_tab 7 (by decide +kernel) (by decide +kernel), by decide +kernel, by decide +kernel, by decide⟩
theorem xi_X5_late : Cond.instanceMethod yX5_late ∈ XG := xg_tab 911 (by decide +kernel) (by decide +kernel)
theorem xs_X5_late : Cond.selects yX5_late.cls yX5_late yX5_late ∈ XG := xg_tab 912 (by decide +kernel) (by decide +kernel)
theorem xm_X5_measure : xmd yX5_measure cX5_measure 4 (some .boolean) 0 := ⟨xg_tab 917 (by decide +kernel) (by decide +kernel), xg_tab 7 (by decide +kernel) (by decide +kernel), by decide +kernel, by decide +kernel, by decide⟩
theorem xi_X5_measure : Cond.instanceMethod yX5_measure ∈ XG := xg_tab 916 (by decide +kernel) (by decide +kernel)
theorem xs_X5_measure : Cond.selects yX5_measure.cls yX5_measure yX5_measure ∈ XG := xg_prv (n := 40) 68 (by decide +kernel) (by decide +kernel)
theorem xm_X5_steps : xmd yX5_steps cX5_steps 8 (some .int) 2 := ⟨xg_tab 921 (by decide +kernel) (by decide +kernel), xg_tab 7 (by decide +kernel) (by decide +kernel), by decide +kernel, by decide +kernel, by decide⟩
theorem xi_X5_steps : Cond.instanceMethod yX5_steps ∈ XG := xg_tab 920 (by decide +kernel) (by decide +kernel)
theorem xs_X5_steps : Cond.selects yX5_steps.cls yX5_steps yX5_steps ∈ XG := xg_prv (n := 40) 69 (by decide +kernel) (by decide +kernel)
theorem xm_X5_findLate : xmd yX5_findLate cX5_findLate 6 (some .int) 0 := ⟨xg_tab 925 (by decide +kernel) (by decide +kernel), xg_tab 7 (by decide +kernel) (by decide +kernel), by decide +kernel, by decide +kernel, by decide⟩
theorem xi_X5_findLate : Cond.instanceMethod yX5_findLate ∈ XG := xg_tab 924 (by decide +kernel) (by decide +kernel)
theorem xs_X5_findLate : Cond.selects yX5_findLate.cls yX5_findLate yX5_findLate ∈ XG := xg_prv (n := 40) 70 (by decide +kernel) (by decide +kernel)
theorem xm_X5_leastOf : xmd yX5_leastOf cX5_leastOf 9 (some .int) 3 := ⟨xg_tab 929 (by decide +kernel) (by decide +kernel), xg_tab 7 (by decide +kernel) (by decide +kernel), by decide +kernel, by decide +kernel, by decide⟩
theorem xi_X5_leastOf : Cond.instanceMethod yX5_leastOf ∈ XG := xg_tab 928 (by decide +kernel) (by decide +kernel)
theorem xs_X5_leastOf : Cond.selects yX5_leastOf.cls yX5_leastOf yX5_leastOf ∈ XG := xg_prv (n := 40) 71 (by decide +kernel) (by decide +kernel)
theorem xm_X5_tellRow : xmd yX5_tellRow cX5_tellRow 9 (some .int) 2 := ⟨xg_tab 933 (by decide +kernel) (by decide +kernel), xg_tab 7 (by decide +kernel) (by decide +kernel), by decide +kernel, by decide +kernel, by decide⟩
theorem xi_X5_tellRow : Cond.instanceMethod yX5_tellRow ∈ XG := xg_tab 932 (by decide +kernel) (by decide +kernel)
theorem xs_X5_tellRow : Cond.selects yX5_tellRow.cls yX5_tellRow yX5_tellRow ∈ XG := xg_prv (n := 40) 72 (by decide +kernel) (by decide +kernel)
theorem xm_X5_rowsOf : xmd yX5_rowsOf cX5_rowsOf 3 (some .int) 1 := ⟨xg_tab 936 (by decide +kernel) (by decide +kernel), xg_tab 7 (by decide +kernel) (by decide +kernel), by decide +kernel, by decide +kernel, by decide⟩
theorem xi_X5_rowsOf : Cond.static yX5_rowsOf ∈ XG := xg_tab 935 (by decide +kernel) (by decide +kernel)
theorem xm_X5_lateOf : xmd yX5_lateOf cX5_lateOf 8 (some .int) 2 := ⟨xg_tab 940 (by decide +kernel) (by decide +kernel), xg_tab 7 (by decide +kernel) (by decide +kernel), by decide +kernel, by decide +kernel, by decide⟩
theorem xi_X5_lateOf : Cond.instanceMethod yX5_lateOf ∈ XG := xg_tab 939 (by decide +kernel) (by decide +kernel)
theorem xs_X5_lateOf : Cond.selects yX5_lateOf.cls yX5_lateOf yX5_lateOf ∈ XG := xg_prv (n := 40) 73 (by decide +kernel) (by decide +kernel)
theorem xm_X5_served : xmd yX5_served cX5_served 3 (some .int) 2 := ⟨xg_tab 944 (by decide +kernel) (by decide +kernel), xg_tab 7 (by decide +kernel) (by decide +kernel), by decide +kernel, by decide +kernel, by decide⟩
theorem xi_X5_served : Cond.instanceMethod yX5_served ∈ XG := xg_tab 942 (by decide +kernel) (by decide +kernel)
theorem xs_X5_served : Cond.selects yX5_served.cls yX5_served yX5_served ∈ XG := xg_tab 943 (by decide +kernel) (by decide +kernel)
theorem xm_X5_keep : xmd yX5_keep cX5_keep 2 (some .int) 1 := ⟨xg_tab 948 (by decide +kernel) (by decide +kernel), xg_tab 7 (by decide +kernel) (by decide +kernel), by decide +kernel, by decide +kernel, by decide⟩
theorem xi_X5_keep : Cond.instanceMethod yX5_keep ∈ XG := xg_tab 946 (by decide +kernel) (by decide +kernel)
theorem xs_X5_keep : Cond.selects yX5_keep.cls yX5_keep yX5_keep ∈ XG := xg_tab 947 (by decide +kernel) (by decide +kernel)
theorem xm_X5_moveAll : xmd yX5_moveAll cX5_moveAll 3 none 2 := ⟨xg_tab 952 (by decide +kernel) (by decide +kernel), xg_tab 7 (by decide +kernel) (by decide +kernel), by decide +kernel, by decide +kernel, by decide⟩
theorem xi_X5_moveAll : Cond.instanceMethod yX5_moveAll ∈ XG := xg_tab 951 (by decide +kernel) (by decide +kernel)
theorem xs_X5_moveAll : Cond.selects yX5_moveAll.cls yX5_moveAll yX5_moveAll ∈ XG := xg_prv (n := 40) 74 (by decide +kernel) (by decide +kernel)
theorem xm_X5_move : xmd yX5_move cX5_move 5 none 4 := ⟨xg_tab 955 (by decide +kernel) (by decide +kernel), xg_tab 7 (by decide +kernel) (by decide +kernel), by decide +kernel, by decide +kernel, by decide⟩
theorem xi_X5_move : Cond.static yX5_move ∈ XG := xg_tab 954 (by decide +kernel) (by decide +kernel)
theorem xm_X5_back : xmd yX5_back cX5_back 4 (some .int) 1 := ⟨xg_tab 959 (by decide +kernel) (by decide +kernel), xg_tab 7 (by decide +kernel) (by decide +kernel), by decide +kernel, by decide +kernel, by decide⟩
theorem xi_X5_back : Cond.instanceMethod yX5_back ∈ XG := xg_tab 957 (by decide +kernel) (by decide +kernel)
theorem xs_X5_back : Cond.selects yX5_back.cls yX5_back yX5_back ∈ XG := xg_tab 958 (by decide +kernel) (by decide +kernel)
theorem xm_X5_count : xmd yX5_count cX5_count 2 (some .int) 1 := ⟨xg_tab 963 (by decide +kernel) (by decide +kernel), xg_tab 7 (by decide +kernel) (by decide +kernel), by decide +kernel, by decide +kernel, by decide⟩
theorem xi_X5_count : Cond.instanceMethod yX5_count ∈ XG := xg_tab 961 (by decide +kernel) (by decide +kernel)
theorem xs_X5_count : Cond.selects yX5_count.cls yX5_count yX5_count ∈ XG := xg_tab 962 (by decide +kernel) (by decide +kernel)
theorem xm_X5_trace : xmd yX5_trace cX5_trace 1 (some .long) 0 := ⟨xg_tab 967 (by decide +kernel) (by decide +kernel), xg_tab 7 (by decide +kernel) (by decide +kernel), by decide +kernel, by decide +kernel, by decide⟩
theorem xi_X5_trace : Cond.instanceMethod yX5_trace ∈ XG := xg_tab 965 (by decide +kernel) (by decide +kernel)
theorem xs_X5_trace : Cond.selects yX5_trace.cls yX5_trace yX5_trace ∈ XG := xg_tab 966 (by decide +kernel) (by decide +kernel)
theorem xl_RX4_55 : xlnk RX4 55 yX4_becomeHall := Or.inl (xg_tab 178 (by decide +kernel) (by decide +kernel))
theorem xl_RX4_62 : xlnk RX4 62 yX4_faultPlace := Or.inl (xg_tab 244 (by decide +kernel) (by decide +kernel))
theorem xl_RX4_70 : xlnk RX4 70 yJ13_bitCount_95d88 := Or.inl (xg_tab 255 (by decide +kernel) (by decide +kernel))
theorem xl_RX4_76 : xlnk RX4 76 yX1_has := Or.inr (xn_tab 265 (by decide +kernel) (by decide +kernel))
theorem xl_RX4_89 : xlnk RX4 89 yX3_taken := Or.inr (xn_tab 273 (by decide +kernel) (by decide +kernel))
theorem xl_RX4_93 : xlnk RX4 93 yX2_ends := Or.inr (xn_tab 281 (by decide +kernel) (by decide +kernel))
theorem xl_RX4_104 : xlnk RX4 104 yX2_forgetPlan := Or.inr (xn_tab 286 (by decide +kernel) (by decide +kernel))
theorem xl_RX4_107 : xlnk RX4 107 yX1_seenFrom := Or.inr (xn_tab 294 (by decide +kernel) (by decide +kernel))
theorem xl_RX4_111 : xlnk RX4 111 yX1_isFree := Or.inr (xn_tab 307 (by decide +kernel) (by decide +kernel))
theorem xl_RX4_117 : xlnk RX4 117 yX3_addPerson := Or.inr (xn_tab 311 (by decide +kernel) (by decide +kernel))
theorem xl_RX4_121 : xlnk RX4 121 yX3_carriersTaken := Or.inr (xn_tab 319 (by decide +kernel) (by decide +kernel))
theorem xl_RX4_127 : xlnk RX4 127 yX3_addCarrier := Or.inr (xn_tab 320 (by decide +kernel) (by decide +kernel))
theorem xl_RX4_130 : xlnk RX4 130 yX4_lookAround := Or.inl (xg_tab 324 (by decide +kernel) (by decide +kernel))
theorem xl_RX4_134 : xlnk RX4 134 yX4_isPerson := Or.inl (xg_tab 336 (by decide +kernel) (by decide +kernel))
theorem xl_RX4_143 : xlnk RX4 143 yX4_isCarrier := Or.inl (xg_tab 340 (by decide +kernel) (by decide +kernel))
theorem xl_RX4_152 : xlnk RX4 152 yX4_couldBe := Or.inl (xg_tab 348 (by decide +kernel) (by decide +kernel))
theorem xl_RX4_156 : xlnk RX4 156 yX4_gatherAnybody := Or.inl (xg_tab 380 (by decide +kernel) (by decide +kernel))
theorem xl_RX4_159 : xlnk RX4 159 yX0_afterTicks := Or.inr (xn_tab 364 (by decide +kernel) (by decide +kernel))
theorem xl_RX4_163 : xlnk RX4 163 yX4_whyNot := Or.inl (xg_tab 392 (by decide +kernel) (by decide +kernel))
theorem xl_RX4_166 : xlnk RX4 166 yX4_soonestRow := Or.inl (xg_tab 401 (by decide +kernel) (by decide +kernel))
theorem xl_RX4_176 : xlnk RX4 176 yX3_addLine := Or.inr (xn_tab 412 (by decide +kernel) (by decide +kernel))
theorem xl_RX4_189 : xlnk RX4 189 yX4_chargeMove := Or.inl (xg_tab 436 (by decide +kernel) (by decide +kernel))
theorem xl_RX4_192 : xlnk RX4 192 yX4_chargeGo := Or.inl (xg_tab 440 (by decide +kernel) (by decide +kernel))
theorem xl_RX4_196 : xlnk RX4 196 yX4_chargeWait := Or.inl (xg_tab 445 (by decide +kernel) (by decide +kernel))
theorem xl_RX4_199 : xlnk RX4 199 yX4_chargeYield := Or.inl (xg_tab 450 (by decide +kernel) (by decide +kernel))
theorem xl_RX4_202 : xlnk RX4 202 yX4_chargeBack := Or.inl (xg_tab 455 (by decide +kernel) (by decide +kernel))
theorem xl_RX4_205 : xlnk RX4 205 yX4_chargeRide := Or.inl (xg_tab 460 (by decide +kernel) (by decide +kernel))
theorem xl_RX4_208 : xlnk RX4 208 yX4_chargeAsk := Or.inl (xg_tab 465 (by decide +kernel) (by decide +kernel))
theorem xl_RX4_211 : xlnk RX4 211 yX1_looksLike := Or.inr (xn_tab 478 (by decide +kernel) (by decide +kernel))
theorem xl_RX4_217 : xlnk RX4 217 yX1_stepped := Or.inr (xn_tab 491 (by decide +kernel) (by decide +kernel))
theorem xl_RX4_221 : xlnk RX4 221 yX1_unlikeLooks := Or.inr (xn_tab 503 (by decide +kernel) (by decide +kernel))
theorem xl_RX4_227 : xlnk RX4 227 yX2_add := Or.inr (xn_tab 513 (by decide +kernel) (by decide +kernel))
theorem xl_RX4_231 : xlnk RX4 231 yX2_makePlan := Or.inr (xn_tab 521 (by decide +kernel) (by decide +kernel))
theorem xl_RX4_242 : xlnk RX4 242 yX2_planned := Or.inr (xn_tab 554 (by decide +kernel) (by decide +kernel))
theorem xl_RX4_245 : xlnk RX4 245 yX3_copyFrom := Or.inr (xn_tab 562 (by decide +kernel) (by decide +kernel))
theorem xl_RX4_255 : xlnk RX4 255 yX4_markOf := Or.inl (xg_tab 248 (by decide +kernel) (by decide +kernel))
theorem xl_RX4_258 : xlnk RX4 258 yX4_isSign := Or.inl (xg_tab 252 (by decide +kernel) (by decide +kernel))
theorem xl_RX4_261 : xlnk RX4 261 yX4_isMark := Or.inl (xg_tab 251 (by decide +kernel) (by decide +kernel))
theorem xl_RX4_264 : xlnk RX4 264 yX1_empty := Or.inr (xn_tab 182 (by decide +kernel) (by decide +kernel))
theorem xl_RX4_267 : xlnk RX4 267 yX1_put := Or.inr (xn_tab 189 (by decide +kernel) (by decide +kernel))
theorem xl_RX4_270 : xlnk RX4 270 yX3_empty := Or.inr (xn_tab 196 (by decide +kernel) (by decide +kernel))
theorem xl_RX4_271 : xlnk RX4 271 yX2_empty := Or.inr (xn_tab 200 (by decide +kernel) (by decide +kernel))
theorem xl_RX4_272 : xlnk RX4 272 yX4_seenBy := Or.inl (xg_tab 328 (by decide +kernel) (by decide +kernel))
theorem xl_RX4_275 : xlnk RX4 275 yX0_empty := Or.inr (xn_tab 352 (by decide +kernel) (by decide +kernel))
theorem xl_RX4_277 : xlnk RX4 277 yX0_join := Or.inr (xn_tab 360 (by decide +kernel) (by decide +kernel))
theorem xl_RX4_281 : xlnk RX4 281 yX4_gatherSeen := Or.inl (xg_tab 384 (by decide +kernel) (by decide +kernel))
theorem xl_RX4_285 : xlnk RX4 285 yX4_shifted := Or.inl (xg_tab 396 (by decide +kernel) (by decide +kernel))
theorem xl_RX4_288 : xlnk RX4 288 yX4_widened := Or.inl (xg_tab 405 (by decide +kernel) (by decide +kernel))
theorem xl_RX0_38 : xlnk RX0 38 yX4_behind := Or.inr (xn_tab 356 (by decide +kernel) (by decide +kernel))
theorem xl_RX0_42 : xlnk RX0 42 yX4_widened := Or.inr (xn_tab 368 (by decide +kernel) (by decide +kernel))
theorem xl_RX0_46 : xlnk RX0 46 yX0_nearer := Or.inl (xg_tab 371 (by decide +kernel) (by decide +kernel))
theorem xl_RX0_50 : xlnk RX0 50 yX4_shifted := Or.inr (xn_tab 375 (by decide +kernel) (by decide +kernel))
theorem xl_RX1_22 : xlnk RX1 22 yJ7_fill_d0a16 := Or.inl (xg_tab 186 (by decide +kernel) (by decide +kernel))
theorem xl_RX1_39 : xlnk RX1 39 yX4_isMark := Or.inr (xn_tab 193 (by decide +kernel) (by decide +kernel))
theorem xl_RX1_43 : xlnk RX1 43 yX4_shifted := Or.inr (xn_tab 298 (by decide +kernel) (by decide +kernel))
theorem xl_RX1_47 : xlnk RX1 47 yX1_canStep := Or.inl (xg_tab 482 (by decide +kernel) (by decide +kernel))
theorem xl_RX1_53 : xlnk RX1 53 yJ13_bitCount_95d88 := Or.inl (xg_tab 507 (by decide +kernel) (by decide +kernel))
theorem xl_RX1_59 : xlnk RX1 59 yX1_looksLike := Or.inl (xg_tab 508 (by decide +kernel) (by decide +kernel))
theorem xl_RX2_46 : xlnk RX2 46 yX2_measure := Or.inl (xg_tab 525 (by decide +kernel) (by decide +kernel))
theorem xl_RX2_54 : xlnk RX2 54 yJ7_fill_53178 := Or.inl (xg_tab 536 (by decide +kernel) (by decide +kernel))
theorem xl_RX2_63 : xlnk RX2 63 yX2_tryRows := Or.inl (xg_tab 539 (by decide +kernel) (by decide +kernel))
theorem xl_RX2_67 : xlnk RX2 67 yX2_chooseSets := Or.inl (xg_tab 546 (by decide +kernel) (by decide +kernel))
theorem xl_RX2_71 : xlnk RX2 71 yX2_measureFrom := Or.inl (xg_tab 529 (by decide +kernel) (by decide +kernel))
theorem xl_RX2_80 : xlnk RX2 80 yX4_widened := Or.inr (xn_tab 534 (by decide +kernel) (by decide +kernel))
theorem xl_RX2_84 : Cond.methodLink RX2 84 Lib.Math.max.name ∈ XG := xg_tab 543 (by decide +kernel) (by decide +kernel)
theorem xl_RX3_43 : xlnk RX3 43 yX3_carriersTaken := Or.inl (xg_tab 277 (by decide +kernel) (by decide +kernel))
theorem xl_RX3_47 : Cond.methodLink RX3 47 arraycopyName ∈ XG := xg_tab 566 (by decide +kernel) (by decide +kernel)
theorem xl_RL_15 : xlnk RL 15 yX4_type := Or.inl (xg_tab 235 (by decide +kernel) (by decide +kernel))
theorem xl_RL_19 : xlnk RL 19 yX5_type := Or.inl (xg_tab 711 (by decide +kernel) (by decide +kernel))
theorem xl_RL_20 : xlnk RL 20 yX4_clear := Or.inl (xg_tab 236 (by decide +kernel) (by decide +kernel))
theorem xl_RL_24 : xlnk RL 24 yX5_clear := Or.inl (xg_tab 719 (by decide +kernel) (by decide +kernel))
theorem xl_RL_25 : xlnk RL 25 yX4_hall := Or.inl (xg_tab 240 (by decide +kernel) (by decide +kernel))
theorem xl_RL_28 : xlnk RL 28 yX5_hall := Or.inl (xg_tab 723 (by decide +kernel) (by decide +kernel))
theorem xl_RL_29 : xlnk RL 29 yX4_sign := Or.inl (xg_tab 261 (by decide +kernel) (by decide +kernel))
theorem xl_RL_33 : xlnk RL 33 yX5_sign := Or.inl (xg_tab 731 (by decide +kernel) (by decide +kernel))
theorem xl_RL_34 : xlnk RL 34 yX4_door := Or.inl (xg_tab 269 (by decide +kernel) (by decide +kernel))
theorem xl_RL_38 : xlnk RL 38 yX5_door := Or.inl (xg_tab 739 (by decide +kernel) (by decide +kernel))
theorem xl_RL_39 : xlnk RL 39 yX4_sees := Or.inl (xg_tab 290 (by decide +kernel) (by decide +kernel))
theorem xl_RL_43 : xlnk RL 43 yX5_sees := Or.inl (xg_tab 752 (by decide +kernel) (by decide +kernel))
theorem xl_RL_44 : xlnk RL 44 yX4_person := Or.inl (xg_tab 303 (by decide +kernel) (by decide +kernel))
theorem xl_RL_47 : xlnk RL 47 yX5_person := Or.inl (xg_tab 764 (by decide +kernel) (by decide +kernel))
theorem xl_RL_48 : xlnk RL 48 yX4_carrier := Or.inl (xg_tab 315 (by decide +kernel) (by decide +kernel))
theorem xl_RL_51 : xlnk RL 51 yX5_carrier := Or.inl (xg_tab 768 (by decide +kernel) (by decide +kernel))
theorem xl_RL_52 : xlnk RL 52 yX4_at := Or.inl (xg_tab 332 (by decide +kernel) (by decide +kernel))
theorem xl_RL_55 : xlnk RL 55 yX5_at := Or.inl (xg_tab 780 (by decide +kernel) (by decide +kernel))
theorem xl_RL_56 : xlnk RL 56 yX4_could := Or.inl (xg_tab 344 (by decide +kernel) (by decide +kernel))
theorem xl_RL_60 : xlnk RL 60 yX5_could := Or.inl (xg_tab 792 (by decide +kernel) (by decide +kernel))
theorem xl_RL_61 : xlnk RL 61 yX4_anybody := Or.inl (xg_tab 376 (by decide +kernel) (by decide +kernel))
theorem xl_RL_64 : xlnk RL 64 yX5_anybody := Or.inl (xg_tab 813 (by decide +kernel) (by decide +kernel))
theorem xl_RL_65 : xlnk RL 65 yX4_let := Or.inl (xg_tab 388 (by decide +kernel) (by decide +kernel))
theorem xl_RL_68 : xlnk RL 68 yX5_let := Or.inl (xg_tab 825 (by decide +kernel) (by decide +kernel))
theorem xl_RL_69 : xlnk RL 69 yX4_soonest := Or.inl (xg_tab 397 (by decide +kernel) (by decide +kernel))
theorem xl_RL_73 : xlnk RL 73 yX5_soonest := Or.inl (xg_tab 833 (by decide +kernel) (by decide +kernel))
theorem xl_RL_74 : xlnk RL 74 yX4_act := Or.inl (xg_tab 406 (by decide +kernel) (by decide +kernel))
theorem xl_RL_77 : xlnk RL 77 yX5_act := Or.inl (xg_tab 841 (by decide +kernel) (by decide +kernel))
theorem xl_RL_78 : xlnk RL 78 yX4_walk := Or.inl (xg_tab 416 (by decide +kernel) (by decide +kernel))
theorem xl_RL_81 : xlnk RL 81 yX5_walk := Or.inl (xg_tab 845 (by decide +kernel) (by decide +kernel))
theorem xl_RL_82 : xlnk RL 82 yX4_tick := Or.inl (xg_tab 420 (by decide +kernel) (by decide +kernel))
theorem xl_RL_85 : xlnk RL 85 yX5_tick := Or.inl (xg_tab 849 (by decide +kernel) (by decide +kernel))
theorem xl_RL_86 : xlnk RL 86 yX4_line := Or.inl (xg_tab 424 (by decide +kernel) (by decide +kernel))
theorem xl_RL_89 : xlnk RL 89 yX5_line := Or.inl (xg_tab 853 (by decide +kernel) (by decide +kernel))
theorem xl_RL_90 : xlnk RL 90 yX4_age := Or.inl (xg_tab 428 (by decide +kernel) (by decide +kernel))
theorem xl_RL_93 : xlnk RL 93 yX5_age := Or.inl (xg_tab 857 (by decide +kernel) (by decide +kernel))
theorem xl_RL_94 : xlnk RL 94 yX4_charge := Or.inl (xg_tab 432 (by decide +kernel) (by decide +kernel))
theorem xl_RL_97 : xlnk RL 97 yX5_charge := Or.inl (xg_tab 861 (by decide +kernel) (by decide +kernel))
theorem xl_RL_98 : xlnk RL 98 yX4_lost := Or.inl (xg_tab 470 (by decide +kernel) (by decide +kernel))
theorem xl_RL_101 : xlnk RL 101 yX5_lost := Or.inl (xg_tab 871 (by decide +kernel) (by decide +kernel))
theorem xl_RL_102 : xlnk RL 102 yX4_look := Or.inl (xg_tab 474 (by decide +kernel) (by decide +kernel))
theorem xl_RL_105 : xlnk RL 105 yX5_look := Or.inl (xg_tab 878 (by decide +kernel) (by decide +kernel))
theorem xl_RL_106 : xlnk RL 106 yX4_step := Or.inl (xg_tab 487 (by decide +kernel) (by decide +kernel))
theorem xl_RL_109 : xlnk RL 109 yX5_step := Or.inl (xg_tab 886 (by decide +kernel) (by decide +kernel))
theorem xl_RL_110 : xlnk RL 110 yX4_where := Or.inl (xg_tab 495 (by decide +kernel) (by decide +kernel))
theorem xl_RL_114 : xlnk RL 114 yX5_where := Or.inl (xg_tab 894 (by decide +kernel) (by decide +kernel))
theorem xl_RL_115 : xlnk RL 115 yX4_tells := Or.inl (xg_tab 499 (by decide +kernel) (by decide +kernel))
theorem xl_RL_118 : xlnk RL 118 yX5_tells := Or.inl (xg_tab 898 (by decide +kernel) (by decide +kernel))
theorem xl_RL_119 : xlnk RL 119 yX4_order := Or.inl (xg_tab 509 (by decide +kernel) (by decide +kernel))
theorem xl_RL_122 : xlnk RL 122 yX5_order := Or.inl (xg_tab 906 (by decide +kernel) (by decide +kernel))
theorem xl_RL_123 : xlnk RL 123 yX4_late := Or.inl (xg_tab 517 (by decide +kernel) (by decide +kernel))
theorem xl_RL_126 : xlnk RL 126 yX5_late := Or.inl (xg_tab 910 (by decide +kernel) (by decide +kernel))
theorem xl_RL_127 : xlnk RL 127 yX4_served := Or.inl (xg_tab 550 (by decide +kernel) (by decide +kernel))
theorem xl_RL_130 : xlnk RL 130 yX5_served := Or.inl (xg_tab 941 (by decide +kernel) (by decide +kernel))
theorem xl_RL_131 : xlnk RL 131 yX4_keep := Or.inl (xg_tab 558 (by decide +kernel) (by decide +kernel))
theorem xl_RL_134 : xlnk RL 134 yX5_keep := Or.inl (xg_tab 945 (by decide +kernel) (by decide +kernel))
theorem xl_RL_135 : xlnk RL 135 yX4_back := Or.inl (xg_tab 569 (by decide +kernel) (by decide +kernel))
theorem xl_RL_138 : xlnk RL 138 yX5_back := Or.inl (xg_tab 956 (by decide +kernel) (by decide +kernel))
theorem xl_RL_139 : xlnk RL 139 yX4_count := Or.inl (xg_tab 573 (by decide +kernel) (by decide +kernel))
theorem xl_RL_142 : xlnk RL 142 yX5_count := Or.inl (xg_tab 960 (by decide +kernel) (by decide +kernel))
theorem xl_RL_143 : xlnk RL 143 yX4_trace := Or.inl (xg_tab 577 (by decide +kernel) (by decide +kernel))
theorem xl_RL_146 : xlnk RL 146 yX5_trace := Or.inl (xg_tab 964 (by decide +kernel) (by decide +kernel))
theorem xl_RX5_107 : xlnk RX5 107 yX5_in := Or.inl (xg_tab 715 (by decide +kernel) (by decide +kernel))
theorem xl_RX5_122 : xlnk RX5 122 yX5_fault := Or.inl (xg_tab 727 (by decide +kernel) (by decide +kernel))
theorem xl_RX5_144 : xlnk RX5 144 yX5_isCell := Or.inl (xg_tab 735 (by decide +kernel) (by decide +kernel))
theorem xl_RX5_148 : xlnk RX5 148 yX5_isEnd := Or.inl (xg_tab 743 (by decide +kernel) (by decide +kernel))
theorem xl_RX5_151 : xlnk RX5 151 yX5_isFree := Or.inl (xg_tab 747 (by decide +kernel) (by decide +kernel))
theorem xl_RX5_156 : xlnk RX5 156 yX5_beside := Or.inl (xg_tab 760 (by decide +kernel) (by decide +kernel))
theorem xl_RX5_160 : xlnk RX5 160 yX5_seenFrom := Or.inl (xg_tab 756 (by decide +kernel) (by decide +kernel))
theorem xl_RX5_164 : xlnk RX5 164 yX5_carrierOn := Or.inl (xg_tab 772 (by decide +kernel) (by decide +kernel))
theorem xl_RX5_168 : xlnk RX5 168 yX5_lookAbout := Or.inl (xg_tab 776 (by decide +kernel) (by decide +kernel))
theorem xl_RX5_172 : xlnk RX5 172 yX5_isPerson := Or.inl (xg_tab 784 (by decide +kernel) (by decide +kernel))
theorem xl_RX5_175 : xlnk RX5 175 yX5_isCarrier := Or.inl (xg_tab 788 (by decide +kernel) (by decide +kernel))
theorem xl_RX5_182 : xlnk RX5 182 yX5_apart := Or.inl (xg_tab 810 (by decide +kernel) (by decide +kernel))
theorem xl_RX5_185 : xlnk RX5 185 yX5_spread := Or.inl (xg_tab 800 (by decide +kernel) (by decide +kernel))
theorem xl_RX5_189 : xlnk RX5 189 yX5_close := Or.inl (xg_tab 806 (by decide +kernel) (by decide +kernel))
theorem xl_RX5_192 : xlnk RX5 192 yX5_couldBe := Or.inl (xg_tab 796 (by decide +kernel) (by decide +kernel))
theorem xl_RX5_196 : xlnk RX5 196 yX5_seenCould := Or.inl (xg_tab 817 (by decide +kernel) (by decide +kernel))
theorem xl_RX5_200 : xlnk RX5 200 yX5_unseenCould := Or.inl (xg_tab 821 (by decide +kernel) (by decide +kernel))
theorem xl_RX5_203 : xlnk RX5 203 yX5_why := Or.inl (xg_tab 829 (by decide +kernel) (by decide +kernel))
theorem xl_RX5_206 : xlnk RX5 206 yX5_goOn := Or.inl (xg_tab 837 (by decide +kernel) (by decide +kernel))
theorem xl_RX5_225 : xlnk RX5 225 yX5_bitsIn := Or.inl (xg_tab 875 (by decide +kernel) (by decide +kernel))
theorem xl_RX5_229 : xlnk RX5 229 yX5_looks := Or.inl (xg_tab 882 (by decide +kernel) (by decide +kernel))
theorem xl_RX5_232 : xlnk RX5 232 yX5_stepped := Or.inl (xg_tab 890 (by decide +kernel) (by decide +kernel))
theorem xl_RX5_235 : xlnk RX5 235 yX5_unlikeLooks := Or.inl (xg_tab 902 (by decide +kernel) (by decide +kernel))
theorem xl_RX5_238 : xlnk RX5 238 yX5_steps := Or.inl (xg_tab 918 (by decide +kernel) (by decide +kernel))
theorem xl_RX5_241 : xlnk RX5 241 yX5_rowsOf := Or.inl (xg_tab 934 (by decide +kernel) (by decide +kernel))
theorem xl_RX5_244 : xlnk RX5 244 yX5_tellRow := Or.inl (xg_tab 930 (by decide +kernel) (by decide +kernel))
theorem xl_RX5_247 : xlnk RX5 247 yX5_lateOf := Or.inl (xg_tab 937 (by decide +kernel) (by decide +kernel))
theorem xl_RX5_250 : xlnk RX5 250 yX5_leastOf := Or.inl (xg_tab 926 (by decide +kernel) (by decide +kernel))
theorem xl_RX5_254 : xlnk RX5 254 yX5_measure := Or.inl (xg_tab 914 (by decide +kernel) (by decide +kernel))
theorem xl_RX5_258 : xlnk RX5 258 yX5_findLate := Or.inl (xg_tab 922 (by decide +kernel) (by decide +kernel))
theorem xl_RX5_261 : xlnk RX5 261 yX5_move := Or.inl (xg_tab 953 (by decide +kernel) (by decide +kernel))
theorem xl_RX5_265 : xlnk RX5 265 yX5_moveAll := Or.inl (xg_tab 949 (by decide +kernel) (by decide +kernel))
end
section
/-! THE CLAIM OUT OF ONE WALK OF THE LAW'S BODY. Your part is whole_start (and what it stands on); all else here is the same for every law, but numbers. -/
def R_law : String := "HallCarrierLaw"
def lw_P (b : Addr) (xs : List Int32) (args : Array Value) (s : State) : Prop := args = #[.ref b] ∧ s.IntsAt b xs ∧ xs.length ≤ 2048 ∧ (Jvm.Cond.and given_1 narrow_1).before args s = true
def lw_Q (_ : Array Value) (s : State) (o : Outcome) (t : State) : Prop := o = .returned (some (.int 1)) ∧ Framed s o t [] 600000 7302250
def lw_Z (below : List Frame) (a : Array Value) (s : State) : State → Prop := fun t => ∃ o, t.status = .running ∧ Ended t below o ∧ lw_Q a s o t
/-- the law's own end, with 1 on the stack, nothing written that was there before, its room as the claim has it -/
theorem lw_ret {p : Program} {l : Launch} {e : Env} {s : State} {m : MethodId} {below : List Frame} {meth : Method} {c : Code} {b : Nat} (hx : p.tables.exec = Jvm.exec) (hb : c.code = code) (hr : meth.sig.returnType = ret) (hlocks : meth.locks = false) {pc : Nat} {H : Heap} {ls : Array Slot} (hdg : decode code pc = .ok (.ireturn, 1)) : W p l e room_1 s m #[Value.ref b] below meth c H [] 600000 7302250 (lw_Z below #[Value.ref b] s) (F0 m pc ls [.int 1]) := by
  intro T hT X
  obtain ⟨fs, hret, hrun, hended, hW, hframe⟩ := X.leave (v := some (.int 1)) (hlocks := hlocks) (fun h => by rw [hr] at h; cases h)
  have hmeth' : T.vm.method? m = some meth := X.method'
  refine ⟨T.setFrames fs, ?_, .returned (some (.int 1)), hrun, hended, rfl, ⟨_, rfl⟩, hW, hframe⟩
  jvm_step X.here [X.here.top, hx, hb, hdg, hmeth', hr, ret, narrow_b1]
  (try refine ⟨rfl, ?_⟩); (try refine ⟨rfl, ?_⟩)
  first | (intro acts; rw [hret _ acts rfl rfl rfl]) | rw [hret _ _ rfl rfl rfl]
  exact Steps.refl _
/-- what holds at the law's entry: the machine, the code, the tables' words (any of lw_tbl by 'hts w (by decide +kernel)'), the script of L ints xs at the cell b, what the Statement gives of the start (any of its parts by flat_of_before) -/
def lw_At (p : Program) (s : State) (m : MethodId) (meth : Method) (c : Code) (b L : Nat) (xs : Nat → Int32) : Prop :=
  p.tables.exec = Jvm.exec ∧ c.code = code ∧ meth.sig.returnType = ret ∧ c.maxLocals = 4 ∧ s.vm.findClass R_law = some m.cls ∧ (∀ w ∈ lw_tbl, w.before #[Value.ref b] s = true) ∧ va_X b L xs s s.heap ∧ b < s.heap.size ∧ meth.locks = false ∧ (Jvm.Cond.and given_1 narrow_1).before #[Value.ref b] s = true
/-! ===== the law's own instructions, calls and return ===== -/
def XScr (X : XCtx) (L : Nat) (xs : Nat → Int32) : Prop := match X with
  | (p, l, e, R, s, m, args, below, meth, c, D, cT, ad, A, Q, n, kc, ks) => va_X (ad 67) L xs s s.heap ∧ ad 67 < s.heap.size ∧ ¬ A (ad 67)
theorem Xsld {X : XCtx} {own : String} {cc : ByteArray} {nL d b : Nat} (hX : XOk X own cc nL d b) {L : Nat} {xs : Nat → Int32} (hS : XScr X L xs) {pc : Nat} {j : Int32} {ls : List (Nat × Value)} {st : List Value} {h : Hp} (hd : decode cc pc = .ok (.iaload, 1)) (hg : xin j L = true) (k : XW X (pc + 1) ls (.int (xs j.toNatClampNeg) :: st) h) : XW X pc ls (.int j :: .ref 67 :: st) h := by
  obtain ⟨p, l, e, R, s, m, args, below, meth, c, D, cT, ad, A, Q, n, kc, ks⟩ := X
  obtain ⟨hx, hb, hml, hown, hts, hK, hA, hadr, hbn, hn66, hfr, hlo, hkc, hks⟩ := hX
  obtain ⟨h1, h2, h3⟩ := hS
  intro H locs la hP hSS hl
  exact va_sld hx hb h1 h2 h3 hSS (xin_vp hg) hd (k H locs la hP hSS hl)
theorem Xslen {X : XCtx} {own : String} {cc : ByteArray} {nL d b : Nat} (hX : XOk X own cc nL d b) {L : Nat} {xs : Nat → Int32} (hS : XScr X L xs) {pc : Nat} {ls : List (Nat × Value)} {st : List Value} {h : Hp} (hd : decode cc pc = .ok (.arraylength, 1)) (k : XW X (pc + 1) ls (.int (Int32.ofNat L) :: st) h) : XW X pc ls (.ref 67 :: st) h := by
  obtain ⟨p, l, e, R, s, m, args, below, meth, c, D, cT, ad, A, Q, n, kc, ks⟩ := X
  obtain ⟨hx, hb, hml, hown, hts, hK, hA, hadr, hbn, hn66, hfr, hlo, hkc, hks⟩ := hX
  obtain ⟨h1, h2, h3⟩ := hS
  intro H locs la hP hSS hl
  exact va_slen hx hb h1 h2 h3 hSS hd (k H locs la hP hSS hl)
def XRL (X : XCtx) (b : Nat) : Prop := match X with
  | (p, l, e, R, s, m, args, below, meth, c, D, cT, ad, A, Q, n, kc, ks) => R = room_1 ∧ args = #[Value.ref b] ∧ meth.sig.returnType = ret ∧ meth.locks = false ∧ Q = lw_Z below args s ∧ (∀ q, A q → s.heap.size ≤ q) ∧ kc ≤ 600000 ∧ ks ≤ 7302250
theorem XrLaw {X : XCtx} {own : String} {nL d b bb : Nat} (hX : XOk X own code nL d b) (hR : XRL X bb) {pc : Nat} {ls : List (Nat × Value)} {h h' : Hp} {v : Int32} (hf : some (v, h) = some ((1 : Int32), h')) (hd : decode code pc = .ok (.ireturn, 1)) : XW X pc ls [.int v] h := by
  cases hf
  obtain ⟨p, l, e, R, s, m, args, below, meth, c, D, cT, ad, A, Q, n, kc, ks⟩ := X
  obtain ⟨hx, hb, hml, hown, hts, hK, hA, hadr, hbn, hn66, hfr, hlo, hkc, hks⟩ := hX
  obtain ⟨rfl, rfl, hr, hlk, rfl, hAs, h1, h2⟩ := hR
  intro H locs la hP hSS hl
  refine va_forget (fun q hq => hAs _ (hSS.2.2 q hq)) ?_
  refine W.widen (k := 600000) (n := 7302250) h1 h2 ?_
  exact lw_ret hx hb hr hlk hd
theorem xZ_blind {D : va_G} {cT : Nat → ClassId} {ad : Nat → Nat} {n sz : Nat} {h : Hp} {av : List Value} {A : Nat → Prop} : FrameBlind (va_Pc av (fun U => xPre D cT ad n sz h U ∧ xZ ad A U)) := by
  intro a U g mk hq
  obtain ⟨q0, ⟨q1, q2, q3, q4⟩, q5, q6⟩ := hq
  exact ⟨q0, ⟨q1, q2, XK.same (u := U) (U := U.calling g mk a) rfl q3, q4⟩, va_Z.moved (u := U) (U := U.calling g mk a) (Vm.Alike.refl U.vm) q5, va_T.moved (u := U) (U := U.calling g mk a) (Vm.Alike.refl U.vm) q6⟩
theorem XcallVS {X : XCtx} {own : String} {cc : ByteArray} {nL d b : Nat} (hX : XOk X own cc nL d b) (hZ : XZ X) {d' b' : Nat} {y : MethodName} {bytes : ByteArray} {maxL : Nat} {ret : Option FieldType} {k ci : Nat} {tm : List Value} {q : vw_C} {As rest : List Value} {h h' : Hp} {r : Option Value} {pc idx : Nat} {ls : List (Nat × Value)} {st : List Value}
    (hM : MTS d' b' y bytes maxL ret (.ref k :: As) h r h') (hb' : b' ≤ b) (hd' : d' + 1 ≤ d) (hy : xmd y bytes maxL ret As.length) (hi : Cond.instanceMethod y ∈ XG) (hse : Cond.selects y.cls y y ∈ XG) (hl : xlnk own idx y) (hk : k < b) (hsh : xsh k = some (.inr (ci, tm))) (hci : vwCl[ci]? = some q) (hcl : q.1 = y.cls) (hst : st = As.reverse ++ .ref k :: rest) (hW : (rest.map fun v => v.category).sum ≤ 8) (hdg : decode cc pc = .ok (.invokevirtual idx, 3))
    (kk : XW X (pc + 3) ls (r.toList ++ rest) h') : XW X pc ls st h := by
  obtain ⟨p, l, e, R, s, m, args, below, meth, c, D, cT, ad, A, Q, n, kc, ks⟩ := X
  obtain ⟨hx, hb, hml, hown, hts, hK, hA, hadr, hbn, hn66, hfr, hlo, hkc, hks⟩ := hX
  obtain ⟨hcode, hini, hne, hpar, hmax⟩ := hy
  obtain ⟨hZ1, hZ2⟩ := hZ
  intro H locs la hP hS hll
  subst hst
  have hkn : k < n := Nat.lt_of_lt_of_le hk hbn
  have hM1 := hM l D cT ad n H.size (Nat.le_trans hb' hbn) hn66
  have hws := pay_in hts (xg_goodIn0 hcode)
  have hrv : ∃ cell : Cell, H[ad k]? = some cell ∧ cell.vm.isStatics = false ∧ s.vm.findClass y.cls = some cell.cls := by
    rw [← hcl]; exact va_recv hK.1 hP hci (show (xwrl n cT ad h)[k]? = some (ad k, .inr (ci, _)) by rw [xwrl_get hkn, xce_obj hsh])
  have hf2 : ∀ q, xAr n ad H.size q → A q := by
    rintro q (⟨k2, h1, rfl⟩ | h1)
    · exact hadr.2 k2 h1
    · exact hA q (Nat.le_trans hS.1 h1)
  have hpre : PreV s H y.cls (ad k) (va_Pc ((Value.ref k :: As).map (xcv ad)) (fun U => xPre D cT ad n H.size h U ∧ xZ ad (xAr n ad H.size) U)) (As.map (xcv ad)) :=
    ⟨xZ_blind, hrv, fun U hU hW => ⟨rfl, ⟨by rw [hU], by rw [hU]; exact hP, hK.warm hW, hadr.1⟩, by
      have z1 := (va_Z.narrow (hZ1.kept (H1 := H) (fun a h1 h2 => hS.2.1 a h1 h2)) hf2).moved hW.alike
      have z2 := (va_T.narrow (hZ2.kept (H1 := H) (fun a h1 h2 => hS.2.1 a h1 h2)) hf2).moved hW.alike
      unfold xZ
      rw [hU]
      exact ⟨z1, z2⟩⟩⟩
  have hroom : 8 + (maxL + 11) + (xrm d').locals ≤ R.locals := by
    show 8 + (maxL + 11) + 64 * d' ≤ R.locals
    omega
  have hframes : (xrm d').frames + 1 ≤ R.frames := by
    show d' + 1 ≤ R.frames
    omega
  have hsig : ∀ sig, parseMethodDescriptor y.desc = some sig → As.length = sig.parameters.length := fun sig hsg => by
    rw [hsg] at hpar; exact (Option.some.inj hpar).symm
  have hstk : (F0 m pc la ((As.reverse ++ .ref k :: rest).map (xcv ad))).stack = (As.map (xcv ad)).reverse ++ .ref (ad k) :: rest.map (xcv ad) := by
    show (As.reverse ++ .ref k :: rest).map (xcv ad) = _
    rw [List.map_append, List.map_reverse]; rfl
  have hW2 : 2 * (F0 m pc la ((As.reverse ++ .ref k :: rest).map (xcv ad))).monitorRoom + ((rest.map (xcv ad)).map fun v => v.category).sum ≤ 8 := lv_room (by rw [xsum_map]; exact hW)
  refine xrun (D := D) (cT := cT) (ad := ad) (n := n) (A1 := xAr n ad H.size) (free := xAr n ad H.size) (rest := rest.map (xcv ad)) (a := (Value.ref (ad k) :: As.map (xcv ad)).toArray) (r := r) (h' := h') ?_ hS hf2 hf2 (fun H1 locs1 hP1 hS1 => ?_)
  · rcases hl with hl | hl
    · exact va_runV (C := y.cls) (b := ad k) (As := As.map (xcv ad)) (nL := nL) ⟨hx, hb, hml, hown, hts⟩ hM1 ⟨⟨rfl, rfl, hframes, hroom, hws, List.mem_cons_self, hts _ hcode, hts _ hini, hne, hsig, hts _ hl⟩, hts _ hi, hts _ hse⟩ hpre rfl (by simp) (by rw [← hml]; exact hll.1) hstk hW2 hdg ⟨hkc, hks⟩
    · exact va_runVN (C := y.cls) (b := ad k) (As := As.map (xcv ad)) (nL := nL) ⟨hx, hb, hml, hown, hts⟩ hM1 ⟨⟨⟨rfl, rfl, hframes, hroom, hws, List.mem_cons_self⟩, hts _ hcode, hts _ hini, hne, hsig, va_Nw.use rfl (hK.2 _ hl)⟩, hts _ hi, hts _ hse⟩ hpre rfl (by simp) (by rw [← hml]; exact hll.1) hstk hW2 hdg ⟨hkc, hks⟩
  · have k1 := kk H1 locs1 la hP1 hS1 hll
    rw [List.map_append] at k1
    cases r <;> exact k1
end
section
/-! ===== constructors: worlds that grow; nothing in them but defaults and references ===== -/
def yce (cT : Nat → ClassId) (ad : Nat → Nat) : xSh → va_E
  | .inl (t, n, rs) => .inl (cT t, n, if t = 1 then .inr (.inl (fun _ => 0)) else if t = 4 then .inr (.inr (.inr (.inr (fun j => (rs[j]?).map ad)))) else .inl (fun _ => 0))
  | .inr (ci, fs) => .inr (ci, fs.map (xcv ad))
def ywrl (o : Nat) (cT : Nat → ClassId) (ad : Nat → Nat) (cs : List xSh) : va_W := cs.mapIdx (fun k c => (ad (o + k), yce cT ad c))
def vlt (m : Nat) : Value → Bool
  | .ref r => decide (r < m)
  | _ => true
def clt (m : Nat) : xSh → Bool
  | .inl (_, _, rs) => rs.all (fun r => decide (r < m))
  | .inr (_, fs) => fs.all (vlt m)
def ychk (m : Nat) (ls : List (Nat × Value)) (st : List Value) (cs : List xSh) : Bool := ls.all (fun q => vlt m q.2) && (st.all (vlt m) && cs.all (clt m))
theorem vlt_eq {m : Nat} {ad ad' : Nat → Nat} (h : ∀ j, j < m → ad' j = ad j) {v : Value} (hv : vlt m v = true) : xcv ad' v = xcv ad v := by
  cases v <;> simp [xcv]
  case ref r => exact h r (by simpa [vlt] using hv)
theorem clt_eq {m : Nat} {cT : Nat → ClassId} {ad ad' : Nat → Nat} (h : ∀ j, j < m → ad' j = ad j) {c : xSh} (hc : clt m c = true) : yce cT ad' c = yce cT ad c := by
  match c, hc with
  | .inl (t, n, rs), hc =>
    have e : (fun j : Nat => (rs[j]?).map ad') = (fun j : Nat => (rs[j]?).map ad) := by
      funext j
      cases hr : rs[j]? with
      | none => rfl
      | some r =>
        have := List.all_eq_true.mp hc r (List.mem_of_getElem? hr)
        simp [h r (by simpa using this)]
    simp only [yce, e]
  | .inr (ci, fs), hc =>
    have e : fs.map (xcv ad') = fs.map (xcv ad) := List.map_congr_left fun v hv => vlt_eq h (List.all_eq_true.mp hc v hv)
    simp only [yce, e]
theorem ywrl_get {o : Nat} {cT : Nat → ClassId} {ad : Nat → Nat} {cs : List xSh} {k : Nat} {c : xSh} (h : cs[k]? = some c) : (ywrl o cT ad cs)[k]? = some (ad (o + k), yce cT ad c) := by
  simp [ywrl, h]
theorem ywrl_eq {o : Nat} {cT : Nat → ClassId} {ad ad' : Nat → Nat} {cs : List xSh} (h : ∀ j, j < o + cs.length → ad' j = ad j) (hc : cs.all (clt (o + cs.length)) = true) : ywrl o cT ad' cs = ywrl o cT ad cs := by
  apply List.ext_getElem?
  intro k
  cases hk : cs[k]? with
  | none => simp [ywrl, hk]
  | some c =>
    have hl : k < cs.length := (List.getElem?_eq_some_iff.mp hk).1
    rw [ywrl_get hk, ywrl_get hk, h _ (by omega), clt_eq h (List.all_eq_true.mp hc c (List.mem_of_getElem? hk))]
theorem ywrl_push {o : Nat} {cT : Nat → ClassId} {ad : Nat → Nat} {cs : List xSh} {c : xSh} : ywrl o cT ad (cs ++ [c]) = ywrl o cT ad cs ++ [(ad (o + cs.length), yce cT ad c)] := by
  simp [ywrl, List.mapIdx_append]
theorem ywrl_set {o : Nat} {cT : Nat → ClassId} {ad : Nat → Nat} {cs : List xSh} {k : Nat} {c : xSh} : (ywrl o cT ad cs).set k (ad (o + k), yce cT ad c) = ywrl o cT ad (cs.set k c) := by
  apply List.ext_getElem?
  intro i
  by_cases hi : i = k
  · subst hi
    by_cases hl : i < cs.length
    · rw [List.getElem?_set_self (by simpa [ywrl] using hl), ywrl_get (List.getElem?_set_self hl)]
    · rw [List.getElem?_eq_none (by simpa [ywrl] using hl), List.getElem?_eq_none (by simpa [ywrl] using hl)]
  · rw [List.getElem?_set_ne (Ne.symm hi)]
    simp [ywrl, List.getElem?_set_ne (Ne.symm hi)]
/-- an address more -/
def yad (ad : Nat → Nat) (m q : Nat) : Nat → Nat := fun j => if j = m then q else ad j
theorem yad_lt {ad : Nat → Nat} {m q : Nat} : ∀ j, j < m → yad ad m q j = ad j := fun j h => by simp [yad, Nat.ne_of_lt h]
theorem ywrl_new {o : Nat} {cT : Nat → ClassId} {ad : Nat → Nat} {cs : List xSh} {c : xSh} {q : Nat} (hc : cs.all (clt (o + cs.length)) = true) (hn : clt (o + cs.length) c = true) : ywrl o cT ad cs ++ [(q, yce cT ad c)] = ywrl o cT (yad ad (o + cs.length) q) (cs ++ [c]) := by
  rw [ywrl_push, ywrl_eq yad_lt hc, clt_eq yad_lt hn]
  simp [yad]
/-- the first cells of the world, whole; behind them cells that come -/
def yall (po : Nat) (hh : Hp) (o : Nat) (cT : Nat → ClassId) (ad : Nat → Nat) (cs : List xSh) : va_W := xwrl po cT ad hh ++ ywrl o cT ad cs
/-- the first cells point to nothing but themselves -/
def xclo (po : Nat) : Bool := (xshL.take po).all (clt po)
theorem xclo_eq {po : Nat} (h : xclo po = true) {cT : Nat → ClassId} {ad ad' : Nat → Nat} {hh : Hp} (ha : ∀ j, j < po → ad' j = ad j) : xwrl po cT ad' hh = xwrl po cT ad hh := by
  unfold xwrl
  apply List.map_congr_left
  intro k hk
  have hk : k < po := List.mem_range.mp hk
  rw [ha k hk]
  congr 1
  unfold xce
  cases hs : xsh k with
  | none => rfl
  | some c =>
    have hc : clt po c = true := by
      refine List.all_eq_true.mp h c (List.mem_of_getElem? (i := k) ?_)
      rw [List.getElem?_take_of_lt hk]; exact hs
    match c, hc with
    | .inl (t, n, rs), hc =>
      have e : (fun j : Nat => (rs[j]?).map ad') = (fun j : Nat => (rs[j]?).map ad) := by
        funext j
        cases hr : rs[j]? with
        | none => rfl
        | some r =>
          have := List.all_eq_true.mp hc r (List.mem_of_getElem? hr)
          simp [ha r (by simpa using this)]
      simp only [e]
    | .inr (ci, tm), hc =>
      have e : tm.mapIdx (fun j v => xfv ad' hh k j v) = tm.mapIdx (fun j v => xfv ad hh k j v) := by
        apply List.ext_getElem?
        intro i
        simp only [List.getElem?_mapIdx]
        cases hv : tm[i]? with
        | none => rfl
        | some v =>
          have := List.all_eq_true.mp hc v (List.mem_of_getElem? hv)
          cases v <;> simp [xfv]
          case ref r => exact ha r (by simpa [vlt] using this)
      simp only [e]
theorem yall_get {po o : Nat} {hh : Hp} {cT : Nat → ClassId} {ad : Nat → Nat} {cs : List xSh} {k : Nat} {c : xSh} (h : cs[k]? = some c) : (yall po hh o cT ad cs)[po + k]? = some (ad (o + k), yce cT ad c) := by
  unfold yall
  rw [List.getElem?_append_right (by simp [xwrl])]
  have : po + k - (xwrl po cT ad hh).length = k := by simp [xwrl]
  rw [this]
  exact ywrl_get h
theorem yall_set {po o : Nat} {hh : Hp} {cT : Nat → ClassId} {ad : Nat → Nat} {cs : List xSh} {k : Nat} {c : xSh} : (yall po hh o cT ad cs).set (po + k) (ad (o + k), yce cT ad c) = yall po hh o cT ad (cs.set k c) := by
  unfold yall
  rw [List.set_append_right _ _ (by simp [xwrl])]
  have : po + k - (xwrl po cT ad hh).length = k := by simp [xwrl]
  rw [this, ywrl_set]
theorem yall_new {po o : Nat} {hh : Hp} {cT : Nat → ClassId} {ad : Nat → Nat} {cs : List xSh} {c : xSh} {q : Nat} (hpo : po ≤ o) (hx : xclo po = true) (hc : cs.all (clt (o + cs.length)) = true) (hn : clt (o + cs.length) c = true) : yall po hh o cT ad cs ++ [(q, yce cT ad c)] = yall po hh o cT (yad ad (o + cs.length) q) (cs ++ [c]) := by
  unfold yall
  rw [List.append_assoc, ywrl_new hc hn, xclo_eq hx (fun j hj => yad_lt j (by omega))]
theorem xcl_eq {m : Nat} {ad ad' : Nat → Nat} (h : ∀ j, j < m → ad' j = ad j) {ls : List (Nat × Value)} (hl : ls.all (fun q => vlt m q.2) = true) : xcl ad' ls = xcl ad ls := by
  unfold xcl
  apply List.map_congr_left
  intro q hq
  rw [vlt_eq h (List.all_eq_true.mp hl q hq)]
theorem xst_eq {m : Nat} {ad ad' : Nat → Nat} (h : ∀ j, j < m → ad' j = ad j) {st : List Value} (hl : st.all (vlt m) = true) : st.map (xcv ad') = st.map (xcv ad) :=
  List.map_congr_left fun v hv => vlt_eq h (List.all_eq_true.mp hl v hv)
def YW (X : XCtx) (po : Nat) (hh : Hp) (o pc : Nat) (ls : List (Nat × Value)) (st : List Value) (cs : List xSh) (kc ks : Nat) : Prop := match X with
  | (p, l, e, R, s, m, args, below, meth, c, D, cT, ad0, A, Q, _, _, _) => ∀ (ad : Nat → Nat) (H : Heap) (locs : List Loc) (la : Array Slot), (∀ j, j ≤ o → ad j = ad0 j) → va_P D vwCl (yall po hh o cT ad cs) H → va_D A (yall po hh o cT ad cs) → va_S A s.heap H locs → lv_has la c.maxLocals (xcl ad ls) →
    W p l e R s m args below meth c H locs kc ks Q (F0 m pc la (st.map (xcv ad)))
def YOk (X : XCtx) (own : String) (cc : ByteArray) (nL d mc ms : Nat) : Prop := match X with
  | (p, l, e, R, s, m, args, below, meth, c, D, cT, ad, A, Q, _, _, _) => p.tables.exec = Jvm.exec ∧ c.code = cc ∧ c.maxLocals = nL ∧ s.vm.findClass own = some m.cls ∧ (∀ w ∈ XG, w.before args s = true) ∧ XK D cT s ∧ (∀ q, s.heap.size ≤ q → A q) ∧ meth.name = "<init>" ∧ d ≤ R.frames ∧ 64 * d ≤ R.locals ∧ R.cells = mc ∧ R.slots = ms
def ydef : Nat → Option (List Value)
  | 0 => some [.null, .long 0, .long 0, .long 0, .long 0]
  | 1 => some [.null, .null, .null, .int 0, .long 0, .long 0]
  | 2 => some [.null, .null, .null, .null, .null, .null, .null, .int 0, .int 0, .int 0, .int 0]
  | 3 => some [.null, .null, .null, .null, .null, .null, .int 0, .int 0, .int 0, .int 0, .int 0]
  | 4 => some [.null, .int 0, .null, .null, .null, .null, .null, .null, .long 0, .long 0]
  | 5 => some [.long 0, .null, .int 0, .int 0, .int 0, .null, .null, .int 0, .long 0, .long 0, .int 0, .int 0, .int 0, .null, .null, .int 0, .null, .null, .null, .int 0, .int 0, .null, .null, .null, .null, .int 0, .null, .null, .null, .null, .null, .null, .null, .null, .null, .null, .null, .null, .null, .null]
  | _ => none
abbrev YS : Type := List (Nat × Value) × List Value × List xSh × Nat × Nat
/-- classes that a class makes: (entry, class) -/
abbrev YPool : Type := List (Nat × Nat)
def yat : ArrayType → Option Nat
  | .int => some 0
  | .long => some 1
  | .byte => some 2
  | .boolean => some 3
  | _ => none
def ylen : Instr → Nat
  | .bipush _ => 2
  | .newarray _ => 2
  | .sipush _ => 3
  | .putfield _ => 3
  | .new _ => 3
  | .anewarray _ => 3
  | _ => 1
/-- one instruction of a constructor -/
def ys1 (P : XPool) (C : YPool) (o RC RS : Nat) (i : Instr) (s : YS) : Option YS := match s with
  | (ls, st, cs, kc, ks) => match i with
    | .iconst n => some (ls, .int (xic n) :: st, cs, kc, ks)
    | .bipush n => if -128 ≤ n ∧ n < 128 then some (ls, .int (xic n) :: st, cs, kc, ks) else none
    | .sipush n => if -32768 ≤ n ∧ n < 32768 then some (ls, .int (xic n) :: st, cs, kc, ks) else none
    | .aload_n k => match xlk ls k with
      | some (.ref v) => some (ls, .ref v :: st, cs, kc, ks)
      | _ => none
    | .dup => match st with
      | .ref x :: r => some (ls, .ref x :: .ref x :: r, cs, kc, ks)
      | _ => none
    | .newarray a => match st with
      | .int n :: r => match yat a with
        | some t => if (!decide (n < 0) && (decide (n.toNatClampNeg ≤ 5000) && (decide (kc + 1 ≤ RC) && (decide (ks + n.toNatClampNeg ≤ RS) && ychk (o + cs.length) ls r cs)))) = true then some (ls, .ref (o + cs.length) :: r, cs ++ [.inl (t, n.toNatClampNeg, [])], kc + 1, ks + n.toNatClampNeg) else none
        | none => none
      | _ => none
    | .anewarray k => match st with
      | .int n :: r => match xpC C k with
        | some 3 => if (!decide (n < 0) && (decide (n.toNatClampNeg ≤ 5000) && (decide (kc + 1 ≤ RC) && (decide (ks + n.toNatClampNeg ≤ RS) && ychk (o + cs.length) ls r cs)))) = true then some (ls, .ref (o + cs.length) :: r, cs ++ [.inl (4, n.toNatClampNeg, [])], kc + 1, ks + n.toNatClampNeg) else none
        | _ => none
      | _ => none
    | .new k => match xpC C k with
      | some ci => match ydef ci with
        | some fs => if (decide (kc + 1 ≤ RC) && (decide (ks + fs.length ≤ RS) && (ychk (o + cs.length) ls st cs && fs.all (vlt 0)))) = true then some (ls, .ref (o + cs.length) :: st, cs ++ [.inr (ci, fs)], kc + 1, ks + fs.length) else none
        | none => none
      | none => none
    | .putfield k => match st with
      | .ref v :: .ref q :: r => match xpF P.1 k with
        | some (ci, f, false) => if o ≤ q then (match cs[q - o]? with
          | some (.inr (c, fs)) => if c = ci ∧ f < fs.length then (match vwCl[ci]? with
            | some (_, T, N) => if (decide (f < N) && (T f).2.2.2) = true then some (ls, r, cs.set (q - o) (.inr (ci, fs.set f (.ref v))), kc, ks) else none
            | none => none) else none
          | _ => none) else none
        | _ => none
      | _ => none
    | .aastore => match st with
      | .ref v :: .int j :: .ref q :: r => if o ≤ q ∧ o ≤ v then (match cs[q - o]?, cs[v - o]? with
        | some (.inl (4, n, rs)), some (.inr (3, _)) => if (xin j n && decide (rs.length = j.toNatClampNeg)) = true then some (ls, r, cs.set (q - o) (.inl (4, n, rs ++ [v])), kc, ks) else none
        | _, _ => none) else none
      | _ => none
    | _ => none
def yblk (P : XPool) (C : YPool) (o RC RS : Nat) : List Instr → YS → Option YS
  | [], s => some s
  | i :: is, s => match ys1 P C o RC RS i s with
    | some s' => yblk P C o RC RS is s'
    | none => none
def ydec (cc : ByteArray) : Nat → List Instr → Bool
  | _, [] => true
  | pc, i :: is => decide (decode cc pc = .ok (i, ylen i)) && ydec cc (pc + ylen i) is
def yend : Nat → List Instr → Nat
  | pc, [] => pc
  | pc, i :: is => yend (pc + ylen i) is
def ypok (own : String) (C : YPool) : Prop := ∀ q ∈ C, ∀ (K : String) (T : u_T) (N : Nat), vwCl[q.2]? = some (K, T, N) → Cond.classLink own q.1 K ∈ XG ∧ Cond.instantiable K N ∈ XG ∧ Cond.initialized K ∈ XG
theorem ydef_ok : ∀ ci fs, ydef ci = some fs → ∃ (K : String) (T : u_T) (N : Nat) (ty : Nat → FieldType), vwCl[ci]? = some (K, T, N) ∧ (∀ w ∈ u_ws K T N, w ∈ XG) ∧ (∀ k, k < N → parseFieldDescriptor (T k).2.2.1 = some (ty k)) ∧ fs.length = N ∧ ∀ j, j < N → defaultValue (ty j) = vp_V fs j := by
  intro ci fs h
  match ci, h with
  | 0, h => cases h; exact ⟨_, _, _, tyX0, rfl, xu0, tyX0_ok, rfl, by decide⟩
  | 1, h => cases h; exact ⟨_, _, _, tyX1, rfl, xu1, tyX1_ok, rfl, by decide⟩
  | 2, h => cases h; exact ⟨_, _, _, tyX2, rfl, xu2, tyX2_ok, rfl, by decide⟩
  | 3, h => cases h; exact ⟨_, _, _, tyX3, rfl, xu3, tyX3_ok, rfl, by decide⟩
  | 4, h => cases h; exact ⟨_, _, _, tyX4, rfl, xu4, tyX4_ok, rfl, by decide⟩
  | 5, h => cases h; exact ⟨_, _, _, tyX5, rfl, xu5, tyX5_ok, rfl, by decide +kernel⟩
  | n + 6, h => simp [ydef] at h
theorem va_RA_one {U : State} {a b : ClassId} {ty : FieldType} (h1 : va_RA U a ty) (h2 : va_RA U b ty) : a = b := by
  cases ty with
  | object C =>
    obtain ⟨_, _, _, _, _, h1⟩ := h1
    obtain ⟨_, _, _, _, _, h2⟩ := h2
    exact Option.some.inj (h1.symm.trans h2)
  | _ => exact Option.some.inj (h1.symm.trans h2)
theorem xty_at {cT : Nat → ClassId} {t : Nat} (h : t < 5) : (xtys cT)[t]? = some (cT t, xty t) := by
  match t, h with
  | 0, _ => rfl
  | 1, _ => rfl
  | 2, _ => rfl
  | 3, _ => rfl
  | 4, _ => rfl
theorem xty_one {D : va_G} {cT : Nat → ClassId} {s : State} {t : Nat} {cA : ClassId} (ht : t < 5) (hK : XK D cT s) (h : va_K D vwCl (xtys cT ++ [(cA, xty t)]) s) : cA = cT t := by
  have h1 := (h.2 5 (cA, xty t) (by simp [xtys])).2
  have h2 := (hK.1.2 t _ (xty_at ht)).2
  exact va_RA_one h1 h2
end
section
/-! ===== the constructors' step function is what the machine does ===== -/
theorem vwCl_in {ci : Nat} {q : vw_C} (h : vwCl[ci]? = some q) : ci < 6 := by
  have := (List.getElem?_eq_some_iff.mp h).1
  simpa [vwCl] using this
theorem yref_fits {T : u_T} {f : Nat} {ty : FieldType} (h : parseFieldDescriptor (T f).2.2.1 = some ty) (hfin : (T f).2.2.2 = true) {ci : Nat} {K : String} {N : Nat} (hc : vwCl[ci]? = some (K, T, N)) (hf : f < N) (v : Nat) : narrow ty (.ref v) = .ref v ∧ fits ty (.ref v) = true ∧ (T f).1 = K := by
  have key : ∀ (ty0 : Nat → FieldType), (∀ k, k < N → parseFieldDescriptor (T k).2.2.1 = some (ty0 k)) → (∀ k, k < N → (T k).2.2.2 = true → (match ty0 k with
    | .object _ => true
    | .array _ => true
    | _ => false) = true ∧ (T k).1 = K) → narrow ty (.ref v) = .ref v ∧ fits ty (.ref v) = true ∧ (T f).1 = K := by
    intro ty0 h1 h2
    have e := h1 f hf
    rw [h] at e
    have e := Option.some.inj e
    obtain ⟨h3, h4⟩ := h2 f hf hfin
    rw [← e] at h3
    refine ⟨?_, ?_, h4⟩
    · cases ty <;> first | rfl | (simp at h3)
    · cases ty <;> first | rfl | (simp at h3)
  match ci, hc with
  | 0, hc => cases hc; exact key tyX0 tyX0_ok (by decide)
  | 1, hc => cases hc; exact key tyX1 tyX1_ok (by decide)
  | 2, hc => cases hc; exact key tyX2 tyX2_ok (by decide)
  | 3, hc => cases hc; exact key tyX3 tyX3_ok (by decide)
  | 4, hc => cases hc; exact key tyX4 tyX4_ok (by decide)
  | 5, hc => cases hc; exact key tyX5 tyX5_ok (by decide +kernel)
  | n + 6, hc => simp [vwCl] at hc
theorem yarr_words {t : Nat} {a : ArrayType} (h : yat a = some t) : Cond.arrayClass (newarray.typeOf a) ∈ XG ∧ newarray.typeOf a = xty t ∧ t < 5 ∧ t ≠ 4 ∧ componentBytes (xty t) ≤ 8 := by
  cases a <;> simp [yat] at h
  all_goals subst h
  · exact ⟨xg_tab 710 (by decide +kernel) (by decide +kernel), rfl, by decide, by decide, by decide⟩
  · exact ⟨xg_tab 709 (by decide +kernel) (by decide +kernel), rfl, by decide, by decide, by decide⟩
  · exact ⟨xg_tab 50 (by decide +kernel) (by decide +kernel), rfl, by decide, by decide, by decide⟩
  · exact ⟨xg_tab 51 (by decide +kernel) (by decide +kernel), rfl, by decide, by decide, by decide⟩
set_option maxHeartbeats 4000000 in
theorem ys1_ok {X : XCtx} {own : String} {cc : ByteArray} {nL d mc ms : Nat} {P : XPool} {C : YPool} {po : Nat} {hh : Hp} {o pc : Nat} {i : Instr} {ls ls' : List (Nat × Value)} {st st' : List Value} {cs cs' : List xSh} {kc ks kc' ks' : Nat} (hX : YOk X own cc nL d mc ms) (hpo : po ≤ o) (hxo : xclo po = true) (hAO : match X with
    | (_, _, _, _, s, _) => va_AO "HallCarrier$Scene" s) (hp : xpok own P) (hF0 : ∀ q ∈ P.1, q.2.2.2 = false → ∀ (K : String) (T : u_T) (N : Nat), vwCl[q.2.1]? = some (K, T, N) → K = own) (hC : ypok own C) (hd : decode cc pc = .ok (i, ylen i)) (hs : ys1 P C o mc ms i (ls, st, cs, kc, ks) = some (ls', st', cs', kc', ks'))
    (k : YW X po hh o (pc + ylen i) ls' st' cs' kc' ks') (hoc : 0 < cs.length) : YW X po hh o pc ls st cs kc ks ∧ 0 < cs'.length := by
  obtain ⟨p, l, e, R, s, m, args, below, meth, c, D, cT, ad0, A, Q, n0, n1, n2⟩ := X
  obtain ⟨hx, hb, hml, hown, hts, hK, hA, hin, hfr, hlo, rfl, rfl⟩ := hX
  subst hml
  cases i with
  | iconst v =>
    unfold ys1 at hs; dsimp only at hs
    cases hs
    exact ⟨fun ad H locs la h0 hP hD hS hl => lv_iconst hx hb hd (xic_ok v) (k ad H locs la h0 hP hD hS hl), hoc⟩
  | bipush v =>
    unfold ys1 at hs; dsimp only at hs
    split at hs
    · next hv => cases hs; exact ⟨fun ad H locs la h0 hP hD hS hl => lv_bipush hx hb hd (xbip hv) (k ad H locs la h0 hP hD hS hl), hoc⟩
    · cases hs
  | sipush v =>
    unfold ys1 at hs; dsimp only at hs
    split at hs
    · next hv => cases hs; exact ⟨fun ad H locs la h0 hP hD hS hl => lv_sipush hx hb hd (xsip hv) (k ad H locs la h0 hP hD hS hl), hoc⟩
    · cases hs
  | aload_n v =>
    unfold ys1 at hs; dsimp only at hs
    split at hs
    · next c0 hv => cases hs; exact ⟨fun ad H locs la h0 hP hD hS hl => lv_aload_n hx hb hd rfl (xlk_at hl hv) (k ad H locs la h0 hP hD hS hl), hoc⟩
    · cases hs
  | dup =>
    unfold ys1 at hs; dsimp only at hs
    split at hs
    · cases hs; exact ⟨fun ad H locs la h0 hP hD hS hl => lv_dup hx hb hd rfl (k ad H locs la h0 hP hD hS hl), hoc⟩
    · cases hs
  | newarray a =>
    unfold ys1 at hs; dsimp only at hs
    split at hs
    · next nn r =>
      split at hs
      · next t ht =>
        split at hs
        · next hg =>
          cases hs
          simp only [Bool.and_eq_true, Bool.not_eq_true', decide_eq_false_iff_not, decide_eq_true_eq, ychk] at hg
          obtain ⟨g1, g2, g3, g4, g5, g6, g7⟩ := hg
          obtain ⟨w1, w2, w3, w4, w5⟩ := yarr_words ht
          refine ⟨fun ad H locs la h0 hP hD hS hl => ?_, by simp⟩
          refine va_newa (a0 := (nn.toNatClampNeg, if t = 1 then .inr (.inl (fun _ => 0)) else if t = 4 then .inr (.inr (.inr (.inr (fun j : Nat => (([] : List Nat)[j]?).map ad)))) else .inl (fun _ => 0))) hx hb (hts _ w1) w2 hK.1 hP hD hS hA ?_ g1 rfl ?_ g3 g4 hd (fun q cA H1 hK1 hP1 hD1 hS1 => ?_)
          · intro cA
            rcases (show t = 0 ∨ t = 1 ∨ t = 2 ∨ t = 3 by omega) with rfl | rfl | rfl | rfl <;> rfl
          · have : nn.toNatClampNeg * componentBytes (xty t) ≤ 5000 * 8 := Nat.mul_le_mul g2 w5
            omega
          · have e := xty_one w3 hK hK1
            subst e
            have e2 : yall po hh o cT ad cs ++ [(q, yce cT ad (.inl (t, nn.toNatClampNeg, [])))] = yall po hh o cT (yad ad (o + cs.length) q) (cs ++ [.inl (t, nn.toNatClampNeg, [])]) := yall_new hpo hxo g7 rfl
            have hP2 : va_P D vwCl (yall po hh o cT ad cs ++ [(q, yce cT ad (.inl (t, nn.toNatClampNeg, [])))]) H1 := hP1
            have hD2 : va_D A (yall po hh o cT ad cs ++ [(q, yce cT ad (.inl (t, nn.toNatClampNeg, [])))]) := hD1
            rw [e2] at hP2 hD2
            have kk := k (yad ad (o + cs.length) q) H1 locs la (fun j hj => by rw [yad_lt j (by omega)]; exact h0 j hj) hP2 hD2 hS1 (by rw [xcl_eq yad_lt g5]; exact hl)
            rw [List.map_cons, xst_eq yad_lt g6] at kk
            have e3 : xcv (yad ad (o + cs.length) q) (.ref (o + cs.length)) = .ref q := by simp [xcv, yad]
            rw [e3] at kk
            exact kk
        · cases hs
      · cases hs
    · cases hs
  | anewarray idx =>
    unfold ys1 at hs; dsimp only at hs
    split at hs
    · next nn r =>
      split at hs
      · next hcl =>
        split at hs
        · next hg =>
          cases hs
          simp only [Bool.and_eq_true, Bool.not_eq_true', decide_eq_false_iff_not, decide_eq_true_eq, ychk] at hg
          obtain ⟨g1, g2, g3, g4, g5, g6, g7⟩ := hg
          obtain ⟨w1, -, -⟩ := hC _ (xpC_mem hcl) RX3 TX3 11 rfl
          refine ⟨fun ad H locs la h0 hP hD hS hl => ?_, by simp⟩
          refine va_newq (C := "HallCarrier$Scene") hx hb hown (hts _ w1) hAO hK.1 hP hD hS hA g1 rfl (by omega) g3 g4 hd (fun q cA H1 hK1 hP1 hD1 hS1 => ?_)
          have e := xty_one (t := 4) (by decide) hK hK1
          subst e
          have e2 : yall po hh o cT ad cs ++ [(q, yce cT ad (.inl (4, nn.toNatClampNeg, [])))] = yall po hh o cT (yad ad (o + cs.length) q) (cs ++ [.inl (4, nn.toNatClampNeg, [])]) := yall_new hpo hxo g7 rfl
          have hP2 : va_P D vwCl (yall po hh o cT ad cs ++ [(q, yce cT ad (.inl (4, nn.toNatClampNeg, [])))]) H1 := hP1
          have hD2 : va_D A (yall po hh o cT ad cs ++ [(q, yce cT ad (.inl (4, nn.toNatClampNeg, [])))]) := hD1
          rw [e2] at hP2 hD2
          have kk := k (yad ad (o + cs.length) q) H1 locs la (fun j hj => by rw [yad_lt j (by omega)]; exact h0 j hj) hP2 hD2 hS1 (by rw [xcl_eq yad_lt g5]; exact hl)
          rw [List.map_cons, xst_eq yad_lt g6] at kk
          have e3 : xcv (yad ad (o + cs.length) q) (.ref (o + cs.length)) = .ref q := by simp [xcv, yad]
          rw [e3] at kk
          exact kk
        · cases hs
      · cases hs
    · cases hs
  | new idx =>
    unfold ys1 at hs; dsimp only at hs
    split at hs
    · next ci hcl =>
      split at hs
      · next fs hfs =>
        split at hs
        · next hg =>
          cases hs
          simp only [Bool.and_eq_true, decide_eq_true_eq, ychk] at hg
          obtain ⟨g3, g4, ⟨g5, g6, g7⟩, g8⟩ := hg
          obtain ⟨K, T, N, ty, hc, hu, hty, hlen, hdf⟩ := ydef_ok ci fs hfs
          obtain ⟨w1, w2, w3⟩ := hC _ (xpC_mem hcl) K T N hc
          refine ⟨fun ad H locs la h0 hP hD hS hl => ?_, by simp⟩
          have hmap : fs.map (xcv ad) = fs := by
            have : ∀ v ∈ fs, xcv ad v = v := fun v hv => by
              have := List.all_eq_true.mp g8 v hv
              cases v <;> first | rfl | (simp [vlt] at this)
            rw [List.map_congr_left (g := id) this, List.map_id]
          have hg8 : clt (o + cs.length) (.inr (ci, fs)) = true := by
            refine List.all_eq_true.mpr fun v hv => ?_
            have := List.all_eq_true.mp g8 v hv
            cases v <;> first | rfl | (simp [vlt] at this)
          subst hlen
          refine va_new (ci := ci) (fs := fs) hx hb hts hu ty hty hown (hts _ w1) (hts _ w2) (hts _ w3) hK.1 hP hD hS hA hc hdf g3 g4 hd (fun q H1 hP1 hD1 hS1 => ?_)
          have e2 : yall po hh o cT ad cs ++ [(q, yce cT ad (.inr (ci, fs)))] = yall po hh o cT (yad ad (o + cs.length) q) (cs ++ [.inr (ci, fs)]) := yall_new hpo hxo g7 hg8
          have e4 : yce cT ad (.inr (ci, fs)) = .inr (ci, fs) := by simp only [yce, hmap]
          have hP2 : va_P D vwCl (yall po hh o cT ad cs ++ [(q, yce cT ad (.inr (ci, fs)))]) H1 := by rw [e4]; exact hP1
          have hD2 : va_D A (yall po hh o cT ad cs ++ [(q, yce cT ad (.inr (ci, fs)))]) := by rw [e4]; exact hD1
          rw [e2] at hP2 hD2
          have kk := k (yad ad (o + cs.length) q) H1 locs la (fun j hj => by rw [yad_lt j (by omega)]; exact h0 j hj) hP2 hD2 hS1 (by rw [xcl_eq yad_lt g5]; exact hl)
          rw [List.map_cons, xst_eq yad_lt g6] at kk
          have e3 : xcv (yad ad (o + cs.length) q) (.ref (o + cs.length)) = .ref q := by simp [xcv, yad]
          rw [e3] at kk
          exact kk
        · cases hs
      · cases hs
    · cases hs
  | putfield idx =>
    unfold ys1 at hs; dsimp only at hs
    split at hs
    · next v q r =>
      split at hs
      · next ci f hF =>
        split at hs
        · next hoq =>
          split at hs
          · next c1 fs hcs =>
            split at hs
            · next hcf =>
              obtain ⟨rfl, hfl⟩ := hcf
              split at hs
              · next K T N hc =>
                split at hs
                · next hg =>
                  cases hs
                  simp only [Bool.and_eq_true, decide_eq_true_eq] at hg
                  obtain ⟨C', T', N', ty0, hc', hu, hty, hnm⟩ := xc_all hc
                  cases hc.symm.trans hc'
                  obtain ⟨hkN, hlink⟩ := hp.1 _ (xpF_mem hF) K T N hc
                  obtain ⟨f1, f2, f3⟩ := yref_fits (hty f hkN) hg.2 hc hkN 0
                  have hlk : Cond.fieldLink own idx (T f).1 (T f).2.1 (T f).2.2.1 ∈ XG := by simpa using hlink
                  refine ⟨fun ad H locs la h0 hP hD hS hl => ?_, by simpa using hoc⟩
                  have hq : o + (q - o) = q := by omega
                  have he : (yall po hh o cT ad cs)[po + (q - o)]? = some (ad q, .inr (c1, fs.map (xcv ad))) := by rw [yall_get hcs, hq]; rfl
                  obtain ⟨f1, f2, f3⟩ := yref_fits (hty f hkN) hg.2 hc hkN (ad v)
                  have hw : K = own := hF0 _ (xpF_mem hF) rfl K T N hc
                  subst hw
                  refine va_putF (ci := c1) (v := .ref (ad v)) hx hb hts hu ty0 hty hnm hown hK.1 hP hD hS (po + (q - o)) he hc f hkN (hts _ hlk) (fun _ h9 => h9) hg.2 hin f3 (hty f hkN) f1 f2 (by simpa using hfl) hd (fun H1 locs1 hP1 hD1 hS1 => ?_)
                  have e2 : (yall po hh o cT ad cs).set (po + (q - o)) (ad q, .inr (c1, (fs.map (xcv ad)).set f (.ref (ad v)))) = yall po hh o cT ad (cs.set (q - o) (.inr (c1, fs.set f (.ref v)))) := by
                    have := yall_set (po := po) (hh := hh) (o := o) (cT := cT) (ad := ad) (cs := cs) (k := q - o) (c := .inr (c1, fs.set f (.ref v)))
                    rw [hq] at this
                    rw [← this]
                    simp only [yce, List.map_set, xcv]
                  rw [e2] at hP1 hD1
                  exact k ad H1 locs1 la h0 hP1 hD1 hS1 hl
                · cases hs
              · cases hs
            · cases hs
          · cases hs
        · cases hs
      · cases hs
    · cases hs
  | aastore =>
    unfold ys1 at hs; dsimp only at hs
    split at hs
    · next v j q r =>
      split at hs
      · next hov =>
        split at hs
        · next nn rs fs hq1 hv1 =>
          split at hs
          · next hg =>
            cases hs
            simp only [Bool.and_eq_true, decide_eq_true_eq] at hg
            refine ⟨fun ad H locs la h0 hP hD hS hl => ?_, by simpa using hoc⟩
            have hqq : o + (q - o) = q := by omega
            have hvv : o + (v - o) = v := by omega
            have he : (yall po hh o cT ad cs)[po + (q - o)]? = some (ad q, .inl (cT 4, nn, .inr (.inr (.inr (.inr (fun j : Nat => (rs[j]?).map ad)))))) := by rw [yall_get hq1, hqq]; rfl
            have hev : (yall po hh o cT ad cs)[po + (v - o)]? = some (ad v, .inr (3, fs.map (xcv ad))) := by rw [yall_get hv1, hvv]; rfl
            refine va_astq (a := ad q) (v := ad v) (r := (RX3, TX3, 11)) hx hb hK.1 hP hD hS (po + (q - o)) 4 (po + (v - o)) 3 he rfl hev rfl (xin_vp hg.1) hd (fun H1 locs1 hP1 hD1 hS1 => ?_)
            have e5 : va_up (fun j : Nat => (rs[j]?).map ad) j.toNatClampNeg (some (ad v)) = (fun j : Nat => ((rs ++ [v])[j]?).map ad) := by
              funext i
              by_cases hi : i = j.toNatClampNeg
              · subst hi
                simp [va_up, ← hg.2]
              · by_cases hl2 : i < rs.length
                · simp [va_up, hi, List.getElem?_append_left hl2]
                · have h3 : rs.length < i := by omega
                  have h4 : (rs ++ [v])[i]? = none := List.getElem?_eq_none (by simp; omega)
                  have h5 : rs[i]? = none := List.getElem?_eq_none (by omega)
                  simp [va_up, hi, h4, h5]
            have e2 : (yall po hh o cT ad cs).set (po + (q - o)) (ad q, .inl (cT 4, nn, .inr (.inr (.inr (.inr (va_up (fun j : Nat => (rs[j]?).map ad) j.toNatClampNeg (some (ad v)))))))) = yall po hh o cT ad (cs.set (q - o) (.inl (4, nn, rs ++ [v]))) := by
              have := yall_set (po := po) (hh := hh) (o := o) (cT := cT) (ad := ad) (cs := cs) (k := q - o) (c := .inl (4, nn, rs ++ [v]))
              rw [hqq] at this
              rw [← this, e5]
              rfl
            rw [e2] at hP1 hD1
            exact k ad H1 locs1 la h0 hP1 hD1 hS1 hl
          · cases hs
        · cases hs
      · cases hs
    · cases hs
  | _ => unfold ys1 at hs; cases hs
theorem ys1_len {P : XPool} {C : YPool} {o RC RS : Nat} {i : Instr} {ls ls' : List (Nat × Value)} {st st' : List Value} {cs cs' : List xSh} {kc ks kc' ks' : Nat} (hs : ys1 P C o RC RS i (ls, st, cs, kc, ks) = some (ls', st', cs', kc', ks')) (h0 : 0 < cs.length) : 0 < cs'.length := by
  unfold ys1 at hs
  dsimp only at hs
  (repeat' split at hs) <;> first | (cases hs; first | exact h0 | (simp; done) | (simpa using h0)) | (cases hs)
theorem yblk_ok {X : XCtx} {own : String} {cc : ByteArray} {nL d mc ms : Nat} {P : XPool} {C : YPool} {po : Nat} {hh : Hp} {o : Nat} (hX : YOk X own cc nL d mc ms) (hpo : po ≤ o) (hxo : xclo po = true) (hAO : match X with
    | (_, _, _, _, s, _) => va_AO "HallCarrier$Scene" s) (hp : xpok own P) (hF0 : ∀ q ∈ P.1, q.2.2.2 = false → ∀ (K : String) (T : u_T) (N : Nat), vwCl[q.2.1]? = some (K, T, N) → K = own) (hC : ypok own C) : ∀ (is : List Instr) (pc : Nat) (ls ls' : List (Nat × Value)) (st st' : List Value) (cs cs' : List xSh) (kc ks kc' ks' : Nat), ydec cc pc is = true → yblk P C o mc ms is (ls, st, cs, kc, ks) = some (ls', st', cs', kc', ks') → 0 < cs.length →
    YW X po hh o (yend pc is) ls' st' cs' kc' ks' → YW X po hh o pc ls st cs kc ks
  | [], pc, ls, ls', st, st', cs, cs', kc, ks, kc', ks', _, hs, _, k => by
    cases hs; exact k
  | i :: is, pc, ls, ls', st, st', cs, cs', kc, ks, kc', ks', hd, hs, h0, k => by
    simp only [ydec, Bool.and_eq_true, decide_eq_true_eq] at hd
    unfold yblk at hs
    split at hs
    · next s1 h1 =>
      obtain ⟨ls1, st1, cs1, kc1, ks1⟩ := s1
      have h01 : 0 < cs1.length := ys1_len h1 h0
      exact (ys1_ok hX hpo hxo hAO hp hF0 hC hd.1 h1 (yblk_ok hX hpo hxo hAO hp hF0 hC is (pc + ylen i) ls1 ls' st1 st' cs1 cs' kc1 ks1 kc' ks' hd.2 hs h01 k) h0).1
    · cases hs
end
section
/-! ===== constructors' contracts and calls ===== -/
theorem Yblk {X : XCtx} {own : String} {cc : ByteArray} {nL d mc ms : Nat} {P : XPool} {C : YPool} {po : Nat} {hh : Hp} {o : Nat} (hX : YOk X own cc nL d mc ms) (hpo : po ≤ o) (hxo : xclo po = true) (hAO : match X with
    | (_, _, _, _, s, _) => va_AO "HallCarrier$Scene" s) (hp : xpok own P) (hF0 : ∀ q ∈ P.1, q.2.2.2 = false → ∀ (K : String) (T : u_T) (N : Nat), vwCl[q.2.1]? = some (K, T, N) → K = own) (hC : ypok own C) {pc pc' : Nat} (is : List Instr) {ls ls' : List (Nat × Value)} {st st' : List Value} {cs cs' : List xSh} {kc ks kc' ks' : Nat} (hd : ydec cc pc is = true) (he : yend pc is = pc') (hs : yblk P C o mc ms is (ls, st, cs, kc, ks) = some (ls', st', cs', kc', ks')) (h0 : 0 < cs.length) (k : YW X po hh o pc' ls' st' cs' kc' ks') : YW X po hh o pc ls st cs kc ks := by
  subst he
  exact yblk_ok hX hpo hxo hAO hp hF0 hC is pc ls ls' st st' cs cs' kc ks kc' ks' hd hs h0 k
theorem Yobj {X : XCtx} {own : String} {cc : ByteArray} {nL d mc ms : Nat} {po : Nat} {hh : Hp} {o pc idx r : Nat} {ls : List (Nat × Value)} {st : List Value} {cs : List xSh} {kc ks : Nat} (hX : YOk X own cc nL d mc ms) (hd1 : 1 ≤ d) (hl : Cond.methodLink own idx objectInit ∈ XG) (hi : Cond.instanceMethod objectInit ∈ XG) (hc : Cond.code objectInit ⟨#[0xb1]⟩ 1 none ∈ XG) (hW : (st.map fun v => v.category).sum ≤ 8) (hd : decode cc pc = .ok (.invokespecial idx, 3)) (k : YW X po hh o (pc + 3) ls st cs kc ks) : YW X po hh o pc ls (.ref r :: st) cs kc ks := by
  obtain ⟨p, l, e, R, s, m, args, below, meth, c, D, cT, ad0, A, Q, n0, n1, n2⟩ := X
  obtain ⟨hx, hb, hml, hown, hts, hK, hA, hin, hfr, hlo, rfl, rfl⟩ := hX
  intro ad H locs la h0 hP hD hS hll
  refine W.objInit hx hb hown (hts _ hl) (hts _ hi) (hts _ hc) rfl hll.1 rfl hd (by omega) ?_ ?_
  · have := lv_room (m := m) (pc := pc) (ls := la) (rest := (.ref r :: st).map (xcv ad)) (st := st.map (xcv ad)) (by rw [xsum_map]; exact hW)
    have h12 : 2 * (F0 m pc la ((.ref r :: st).map (xcv ad))).monitorRoom + ((st.map (xcv ad)).map fun v => v.category).sum ≤ 8 := this
    omega
  · exact k ad H locs la h0 hP hD hS hll
def yrm (d mc ms : Nat) : Room := { frames := d, cells := mc, slots := ms, locals := 64 * d }
def yPre (D : va_G) (cT : Nat → ClassId) (ad0 : Nat → Nat) (po : Nat) (hh : Hp) (o sz : Nat) (cs0 : List xSh) (U : State) : Prop := U.heap.size = sz ∧ va_P D vwCl (yall po hh o cT ad0 cs0) U.heap ∧ XK D cT U ∧ va_D (fun _ => True) (yall po hh o cT ad0 cs0) ∧ va_AO "HallCarrier$Scene" U
/-- a constructor's end: its world is w ad' -/
def yQ (D : va_G) (cT : Nat → ClassId) (ad0 : Nat → Nat) (o : Nat) (A : Nat → Prop) (w : (Nat → Nat) → va_W) : Array Value → State → Outcome → State → Prop := fun _ st oc t => (oc = .returned none ∧ ∃ ad' : Nat → Nat, (∀ j, j ≤ o → ad' j = ad0 j) ∧ va_P D vwCl (w ad') t.heap ∧ va_D A (w ad') ∧ XK D cT t) ∧ va_F A st t
def MI (d mc ms po : Nat) (hh : Hp) (o : Nat) (y : MethodName) (bytes : ByteArray) (maxL : Nat) (cs0 : List xSh) (w : (Nat → ClassId) → (Nat → Nat) → va_W) : Prop :=
  ∀ (l : Launch) (D : va_G) (cT : Nat → ClassId) (ad0 : Nat → Nat) (sz : Nat), Met l y (.code y bytes maxL none :: XG) (yrm d mc ms) (va_Pc [.ref (ad0 o)] (yPre D cT ad0 po hh o sz cs0)) (yQ D cT ad0 o (va_A (yall po hh o cT ad0 cs0) sz) (w cT)) mc ms (va_A (yall po hh o cT ad0 cs0) sz)
def YR (X : XCtx) (o mc ms : Nat) (w : (Nat → ClassId) → (Nat → Nat) → va_W) : Prop := match X with
  | (p, l, e, R, s, m, args, below, meth, c, D, cT, ad0, A, Q, _, _, _) => meth.sig.returnType = none ∧ meth.locks = false ∧ Q = MQ below (yQ D cT ad0 o A (w cT)) args s mc ms A
theorem MI.of {d mc ms po : Nat} {hh : Hp} {o : Nat} {y : MethodName} {bytes : ByteArray} {maxL : Nat} {cs0 : List xSh} {w : (Nat → ClassId) → (Nat → Nat) → va_W} (hy : plainName y.cls = true) (hn : y.name = "<init>") (hlen : 1 ≤ maxL)
    (body : ∀ X : XCtx, YOk X y.cls bytes maxL d mc ms → (match X with
    | (_, _, _, _, s, _) => va_AO "HallCarrier$Scene" s) → YR X o mc ms w → YW X po hh o 0 [(0, .ref o)] [] cs0 0 0) : MI d mc ms po hh o y bytes maxL cs0 w := by
  intro l D cT ad0 sz
  refine Met.ofW (cc := bytes) (maxL := maxL) (ret := none) hy rfl ?_
  intro p e s m args below meth c s₁ B hml hv
  obtain ⟨rfl, hsz, hP, hK, hD, hAO⟩ := hv
  subst hsz
  have hts := atoms_spec (ws := .code y bytes maxL none :: XG) B.pre
  have hown : s.vm.findClass y.cls = some m.cls := findClass_of_methodNamed B.named
  have hin : meth.name = "<init>" := hn ▸ (name_of_methodNamed B.named B.method).1
  have hl := lv_entry [Value.ref (ad0 o)] (n := maxL) hlen
  rw [lg_entry_eq]
  refine body (p, l, e, yrm d mc ms, s, m, [Value.ref (ad0 o)].toArray, below, meth, c, D, cT, ad0, va_A (yall po hh o cT ad0 cs0) s.heap.size, MQ below (yQ D cT ad0 o (va_A (yall po hh o cT ad0 cs0) s.heap.size) (w cT)) [Value.ref (ad0 o)].toArray s mc ms (va_A (yall po hh o cT ad0 cs0) s.heap.size), 0, 0, 0) ?_ hAO ?_ ad0 s.heap [] _ (fun _ _ => rfl) hP hD.self va_S.rf (by rw [hml]; exact hl)
  · exact ⟨B.exec, B.bytes, hml, hown, fun w hw => hts w (List.mem_cons_of_mem _ hw), hK, fun q hq => Or.inr hq, hin, Nat.le_refl _, Nat.le_refl _, rfl, rfl⟩
  · exact ⟨B.returns, B.notSynchronized, rfl⟩
theorem Yret {X : XCtx} {own : String} {cc : ByteArray} {nL d mc ms : Nat} {po : Nat} {hh : Hp} {o pc : Nat} {ls : List (Nat × Value)} {cs : List xSh} (hX : YOk X own cc nL d mc ms) (hR : YR X o mc ms (fun cT ad => yall po hh o cT ad cs)) (hd : decode cc pc = .ok (.return_, 1)) : YW X po hh o pc ls [] cs mc ms := by
  obtain ⟨p, l, e, R, s, m, args, below, meth, c, D, cT, ad0, A, Q, n0, n1, n2⟩ := X
  obtain ⟨hx, hb, hml, hown, hts, hK, hA, hin, hfr, hlo, rfl, rfl⟩ := hX
  obtain ⟨hr, hlk, rfl⟩ := hR
  intro ad H locs la h0 hP hD hS hl
  exact W.vret hx hb hr (fun t ht hW => ⟨⟨rfl, ad, h0, by rw [ht]; exact hP, hD, hK.warm hW⟩, hS.F ht⟩) hS.2.2 hd hlk
theorem va_nd_range (k : Nat) : va_nd (List.range k) = true := by
  have key : ∀ l : List Nat, l.Nodup → va_nd l = true := by
    intro l
    induction l with
    | nil => intro _; rfl
    | cons a t ih =>
      intro h
      have h := List.nodup_cons.mp h
      simp only [va_nd, Bool.and_eq_true, decide_eq_true_eq]
      exact ⟨h.1, ih h.2⟩
  exact key _ List.nodup_range
theorem ywrl_app {o : Nat} {cT : Nat → ClassId} {ad : Nat → Nat} {c1 c2 : List xSh} : ywrl o cT ad (c1 ++ c2) = ywrl o cT ad c1 ++ ywrl (o + c1.length) cT ad c2 := by
  unfold ywrl
  rw [List.mapIdx_append]
  congr 1
  apply List.ext_getElem?
  intro i
  simp only [List.getElem?_mapIdx]
  cases c2[i]? with
  | none => rfl
  | some c => simp; congr 1; omega
theorem va_AO.warm {C : String} {s U : State} (hW : s.WarmedH U.vm) (h : va_AO C s) : va_AO C U := va_AO.moved hW.alike h
/-- the call of a nest mate's constructor, on the cell that was made last -/
theorem YcallN {X : XCtx} {own : String} {cc : ByteArray} {nL d mc ms : Nat} {o pc idx : Nat} {hh : Hp} {ls : List (Nat × Value)} {st : List Value} {cs cs0 cs1 : List xSh} {c0 : xSh} {kc ks d' mc' ms' maxL : Nat} {y : MethodName} {bytes : ByteArray} {hh' : Hp} (hX : YOk X own cc nL d mc ms) (hAO : match X with
    | (_, _, _, _, s, _) => va_AO "HallCarrier$Scene" s) (hM : MI d' mc' ms' 0 hh' (o + cs0.length) y bytes maxL [c0] (fun cT ad => yall 0 hh' (o + cs0.length) cT ad cs1)) (hd' : d' + 1 ≤ d) (hy : xmd y bytes maxL none 0) (hi : Cond.instanceMethod y ∈ XG) (hyn : y.name = "<init>") (hl : Cond.methodLinkNest own idx y "HallCarrier" ∈ XN) (hcs : cs = cs0 ++ [c0]) (hchk : ychk (o + cs0.length + 1) ls st [] = true) (hc0 : cs0.all (clt (o + cs0.length)) = true) (hW : (st.map fun v => v.category).sum ≤ 8) (hkc : kc + mc' ≤ mc) (hks : ks + ms' ≤ ms) (hd : decode cc pc = .ok (.invokespecial idx, 3))
    (k : YW X 0 hh o (pc + 3) ls st (cs0 ++ cs1) (kc + mc') (ks + ms')) : YW X 0 hh o pc ls (.ref (o + cs0.length) :: st) cs kc ks := by
  obtain ⟨p, l, e, R, s, m, args, below, meth, c, D, cT, ad0, A, Q, n0, n1, n2⟩ := X
  obtain ⟨hx, hb, hml, hown, hts, hK, hA, hin, hfr, hlo, rfl, rfl⟩ := hX
  obtain ⟨hcode, hini, hne, hpar, hmax⟩ := hy
  simp only [ychk, Bool.and_eq_true] at hchk
  subst hcs
  intro ad H locs la h0 hP hD hS hll
  have hM1 := hM l D cT ad H.size
  have hws := pay_in hts (xg_goodIn0 hcode)
  have ew : yall 0 hh o cT ad (cs0 ++ [c0]) = ywrl o cT ad cs0 ++ yall 0 hh' (o + cs0.length) cT ad [c0] := by
    simp only [yall, ywrl_app]
    rfl
  have el : (ywrl o cT ad cs0).length = cs0.length := by simp [ywrl]
  have hC : [cs0.length].map (fun i => (yall 0 hh o cT ad (cs0 ++ [c0]))[i]?) = (yall 0 hh' (o + cs0.length) cT ad [c0]).map some := by
    rw [ew]
    simp only [List.map_cons, List.map_nil]
    rw [List.getElem?_append_right (by omega), el, Nat.sub_self]
    simp [yall, ywrl, xwrl]
  have hRr : (List.range cs0.length).map (fun i => (yall 0 hh o cT ad (cs0 ++ [c0]))[i]?) = (ywrl o cT ad cs0).map some := by
    rw [ew]
    apply List.ext_getElem?
    intro i
    by_cases hi2 : i < cs0.length
    · have h9 : i < (ywrl o cT ad cs0).length := by omega
      simp [hi2, List.getElem?_append_left h9, List.getElem?_eq_getElem h9]
    · rw [List.getElem?_eq_none (by simpa using hi2), List.getElem?_eq_none (by simp [el]; omega)]
  have hPc : va_P D vwCl (yall 0 hh' (o + cs0.length) cT ad [c0]) H := by
    intro k2 q hq
    refine hP (cs0.length + k2) q ?_
    rw [ew, List.getElem?_append_right (by omega), el]
    simpa using hq
  have hDc : va_D (fun _ => True) (yall 0 hh' (o + cs0.length) cT ad [c0]) := by
    refine ⟨fun i j a b h1 h2 h3 => ?_, fun _ _ _ => trivial⟩
    have e1 : (yall 0 hh o cT ad (cs0 ++ [c0]))[cs0.length + i]? = some a := by
      rw [ew, List.getElem?_append_right (by omega), el]; simpa using h1
    have e2 : (yall 0 hh o cT ad (cs0 ++ [c0]))[cs0.length + j]? = some b := by
      rw [ew, List.getElem?_append_right (by omega), el]; simpa using h2
    have := hD.1 _ _ a b e1 e2 h3
    omega
  have hFc := va_free (wc := yall 0 hh' (o + cs0.length) cT ad [c0]) hD hS hA [cs0.length] hC
  have hpre : PreS s H (va_Pc [.ref (ad (o + cs0.length))] (yPre D cT ad 0 hh' (o + cs0.length) H.size [c0])) (.ref (ad (o + cs0.length)) :: []) := by
    refine ⟨?_, fun U hU hW => ⟨rfl, by rw [hU], by rw [hU]; exact hPc, hK.warm hW, hDc, va_AO.warm hW hAO⟩⟩
    intro a U g mk hq
    obtain ⟨q0, q1, q2, q3, q4, q5⟩ := hq
    exact ⟨q0, q1, q2, XK.same (u := U) (U := U.calling g mk a) rfl q3, q4, q5⟩
  have hroom : 8 + (maxL + 11) + (yrm d' mc' ms').locals ≤ R.locals := by
    show 8 + (maxL + 11) + 64 * d' ≤ R.locals
    omega
  have hframes : (yrm d' mc' ms').frames + 1 ≤ R.frames := by
    show d' + 1 ≤ R.frames
    omega
  have hsig : ∀ sig, parseMethodDescriptor y.desc = some sig → 0 = sig.parameters.length := fun sig hsg => by
    rw [hsg] at hpar; exact (Option.some.inj hpar).symm
  have hW2 : 2 * (F0 m pc la ((.ref (o + cs0.length) :: st).map (xcv ad))).monitorRoom + ((st.map (xcv ad)).map fun v => v.category).sum ≤ 8 := lv_room (by rw [xsum_map]; exact hW)
  have hrun := va_runIN (e := e) (b := ad (o + cs0.length)) (As := []) (rest := st.map (xcv ad)) (nL := nL) (g := F0 m pc la ((.ref (o + cs0.length) :: st).map (xcv ad))) (locs := locs) (cells := kc) (slots := ks) (below := below) (meth := meth) ⟨hx, hb, hml, hown, hts⟩ hM1 ⟨⟨⟨rfl, rfl, hframes, hroom, hws, List.mem_cons_self⟩, hts _ hcode, hts _ hini, hne, hsig, va_Nw.use rfl (hK.2 _ hl)⟩, hyn, hts _ hi⟩ hpre rfl rfl (by rw [← hml]; exact hll.1) rfl hW2 hd ⟨hkc, hks⟩
  intro T hT X9
  obtain ⟨v, st₀, t, T', L, h00, X', hL, e1, e2, ⟨⟨hv, ad', hag, hp1, hd1, hk1⟩, hz, hkk⟩, stp⟩ := hrun T hT X9
  cases hv
  rw [h00] at hz hkk
  obtain ⟨hP3, hD3⟩ := va_join (H1 := T'.heap) (wr := ywrl o cT ad cs0) (w1 := yall 0 hh' (o + cs0.length) cT ad' cs1) hP hD [cs0.length] (List.range cs0.length) hC hRr (va_nd_range _) (fun i hi9 hi8 => by
    have := List.mem_range.mp hi9
    rw [List.mem_singleton] at hi8
    omega) (fun q h1 h2 => by rw [e1, hkk q h1 h2]) hFc (by rw [e1]; exact hp1) hd1
  have hlt : ∀ j, j < o + cs0.length → ad' j = ad j := fun j hj => hag j (by omega)
  have hlt1 : ∀ j, j < o + cs0.length + 1 → ad' j = ad j := fun j hj => hag j (by omega)
  have e5 : ywrl o cT ad cs0 ++ yall 0 hh' (o + cs0.length) cT ad' cs1 = yall 0 hh o cT ad' (cs0 ++ cs1) := by
    rw [← ywrl_eq hlt hc0]
    simp only [yall, ywrl_app]
    rfl
  rw [e5] at hP3 hD3
  obtain ⟨t2, a1, b1⟩ := k ad' T'.heap (locs ++ L) la (fun j hj => by rw [hag j (by omega)]; exact h0 j hj) hP3 hD3
    ⟨Nat.le_trans hS.1 (by rw [e1]; exact hz), fun q h1 h2 => by rw [e1, hkk q (Nat.lt_of_lt_of_le h1 hS.1) (fun z => h2 (hFc q z))]; exact hS.2.1 q h1 h2, fun q hq => by
      rcases List.mem_append.mp hq with h | h
      · exact hS.2.2 q h
      · exact hFc _ (hL q h)⟩ (by rw [xcl_eq hlt1 hchk.1]; exact hll) T' rfl X'
  rw [xst_eq hlt1 hchk.2.1] at a1
  exact ⟨t2, stp t2 a1, b1⟩
/-! ===== from the growing world to the whole one ===== -/
def hz (po : Nat) (hh : Hp) : Hp := (fun a b => if a < po then hh.1 a b else 0, fun a b => if a < po then hh.2 a b else 0)
def yshv : Value → Value
  | .int _ => .int 0
  | .float _ => .int 0
  | .long _ => .long 0
  | v => v
def ysh : xSh → xSh
  | .inl a => .inl a
  | .inr (ci, tm) => .inr (ci, tm.map yshv)
theorem yce_x {cT : Nat → ClassId} {ad : Nat → Nat} {po k : Nat} {hh : Hp} {c : xSh} (hs : xsh k = some c) (hk : po ≤ k) : yce cT ad (ysh c) = xce cT ad (hz po hh) k := by
  have hn : ¬ k < po := by omega
  have e1 : (hz po hh).1 k = fun _ => 0 := by funext b; simp [hz, hn]
  have e2 : (hz po hh).2 k = fun _ => 0 := by funext b; simp [hz, hn]
  match c, hs with
  | .inl (t, n, rs), hs => unfold xce; rw [hs]; simp only [ysh, yce, e1, e2]
  | .inr (ci, tm), hs =>
    rw [xce_obj hs]
    simp only [ysh, yce]
    congr 2
    apply List.ext_getElem?
    intro i
    simp only [List.map_map, List.getElem?_map, List.getElem?_mapIdx]
    cases tm[i]? with
    | none => rfl
    | some v => cases v <;> simp [yshv, xcv, xfv, e1, e2]
theorem yall_x {cT : Nat → ClassId} {ad : Nat → Nat} {po n : Nat} {hh : Hp} {cs : List xSh} (hn : po + cs.length = n) (hn66 : n ≤ 66) (hcs : ((xshL.drop po).take cs.length).map ysh = cs) : yall po hh po cT ad cs = xwrl n cT ad (hz po hh) := by
  subst hn
  apply List.ext_getElem?
  intro i
  by_cases hi : i < po
  · unfold yall
    rw [List.getElem?_append_left (by simpa [xwrl] using hi), xwrl_get hi, xwrl_get (by omega)]
    have e : xce cT ad (hz po hh) i = xce cT ad hh i := by
      have e1 : (hz po hh).1 i = hh.1 i := by funext b; simp [hz, hi]
      have e2 : (hz po hh).2 i = hh.2 i := by funext b; simp [hz, hi]
      have e3 : ∀ k w, xfv ad (hz po hh) i k w = xfv ad hh i k w := by
        intro k w; cases w <;> simp [xfv, e1, e2]
      unfold xce
      split <;> simp [e1, e2, e3]
    rw [e]
  · unfold yall
    rw [List.getElem?_append_right (by simpa [xwrl] using hi)]
    have e0 : i - (xwrl po cT ad hh).length = i - po := by simp [xwrl]
    rw [e0]
    by_cases hl : i - po < cs.length
    · have hx : ∃ c, xsh i = some c ∧ cs[i - po]? = some (ysh c) := by
        have h1 : cs[i - po]? = (((xshL.drop po).take cs.length).map ysh)[i - po]? := by rw [hcs]
        rw [List.getElem?_map, List.getElem?_take_of_lt hl, List.getElem?_drop] at h1
        have h2 : po + (i - po) = i := by omega
        rw [h2] at h1
        have h3 : i < xshL.length := by rw [xshL_len]; omega
        refine ⟨xshL[i], List.getElem?_eq_getElem h3, ?_⟩
        rw [h1, List.getElem?_eq_getElem h3]
        rfl
      obtain ⟨c, h1, h2⟩ := hx
      rw [ywrl_get h2, xwrl_get (by omega), yce_x (po := po) (hh := hh) h1 (by omega)]
      congr 2
      congr 1
      omega
    · rw [List.getElem?_eq_none (by simpa [ywrl] using hl), List.getElem?_eq_none (by simp [xwrl]; omega)]
def xset (X : XCtx) (ad : Nat → Nat) (n kc ks : Nat) : XCtx := match X with
  | (p, l, e, R, s, m, args, below, meth, c, D, cT, _, A, Q, _, _, _) => (p, l, e, R, s, m, args, below, meth, c, D, cT, ad, A, Q, n, kc, ks)
/-- what a constructor's end must give, seen from the whole world -/
def XRC (X : XCtx) (o n : Nat) (h' : Hp) : Prop := match X with
  | (p, l, e, R, s, m, args, below, meth, c, D, cT, ad, A, Q, _, kc, ks) => meth.sig.returnType = none ∧ meth.locks = false ∧ ∃ ad0 : Nat → Nat, (∀ j, j ≤ o → ad j = ad0 j) ∧ Q = MQ below (yQ D cT ad0 o A (fun ad' => xwrl n cT ad' h')) args s kc ks A
theorem XrC {X : XCtx} {own : String} {cc : ByteArray} {nL d b o pc : Nat} {ls : List (Nat × Value)} {h h' : Hp} (hX : XOk X own cc nL d b) (hR : XRC X o b h') (hbn : match X with
    | (_, _, _, _, _, _, _, _, _, _, _, _, _, _, _, n, _, _) => n = b) (hf : some h = some h') (hd : decode cc pc = .ok (.return_, 1)) : XW X pc ls [] h := by
  cases hf
  obtain ⟨p, l, e, R, s, m, args, below, meth, c, D, cT, ad, A, Q, n, kc, ks⟩ := X
  obtain ⟨hx, hb, hml, hown, hts, hK, hA, hadr, hbn', hn66, hfr, hlo, hkc, hks⟩ := hX
  obtain ⟨hr, hlk, ad0, hag, rfl⟩ := hR
  have hbn : n = b := hbn
  subst hbn
  intro H locs la hP hS hl
  exact W.vret hx hb hr (fun t ht hW => ⟨⟨rfl, ad, hag, by rw [ht]; exact hP, xad_D hadr _, hK.warm hW⟩, hS.F ht⟩) hS.2.2 hd hlk
theorem YX {X : XCtx} {own : String} {cc : ByteArray} {nL d mc ms : Nat} {po n pc : Nat} {hh h' : Hp} {ls : List (Nat × Value)} {st : List Value} {cs : List xSh} (hX : YOk X own cc nL d mc ms) (hR : YR X po mc ms (fun cT ad' => xwrl n cT ad' h')) (hn : po + cs.length = n) (hn66 : n ≤ 66) (hcs : ((xshL.drop po).take cs.length).map ysh = cs)
    (k : ∀ X' : XCtx, XOk X' own cc nL d n → XRC X' po n h' → (match X' with
    | (_, _, _, _, _, _, _, _, _, _, _, _, _, _, _, n', _, _) => n' = n) → XW X' pc ls st (hz po hh)) : YW X po hh po pc ls st cs mc ms := by
  obtain ⟨p, l, e, R, s, m, args, below, meth, c, D, cT, ad0, A, Q, n0, n1, n2⟩ := X
  obtain ⟨hx, hb, hml, hown, hts, hK, hA, hin, hfr, hlo, rfl, rfl⟩ := hX
  obtain ⟨hr, hlk, rfl⟩ := hR
  intro ad H locs la h0 hP hD hS hl
  rw [yall_x hn hn66 hcs] at hP hD
  exact k (p, l, e, R, s, m, args, below, meth, c, D, cT, ad, A, _, n, R.cells, R.slots) ⟨hx, hb, hml, hown, hts, hK, hA, xad_of_D hD, Nat.le_refl _, hn66, hfr, hlo, Nat.le_refl _, Nat.le_refl _⟩ ⟨hr, hlk, ad0, h0, rfl⟩ rfl H locs la hP hS hl
end
