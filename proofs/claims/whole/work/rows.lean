section
-- ===== PART A: goes FIRST, ahead of the names: the tables' words, and 'selects' of the private methods out of them =====
/-- a private method of a class that the tables say can be made, by its rows of tables_1 -/
def lw_okq (q : MethodName × Nat) : Prop := (q.1.cls ≠ "java/lang/invoke/MethodHandle" ∧ q.1.cls ≠ "java/lang/invoke/VarHandle") ∧ Cond.instantiable q.1.cls q.2 ∈ tables_1 ∧ Cond.privateMethod q.1 ∈ tables_1 ∧ Cond.instanceMethod q.1 ∈ tables_1
theorem lw_p0 : lw_okq (⟨"LiftRows2", "giveAnew", "(I)I"⟩, 5) := ⟨⟨by decide +kernel, by decide +kernel⟩, List.mem_of_getElem? (i := 18) (by decide +kernel), List.mem_of_getElem? (i := 171) (by decide +kernel), List.mem_of_getElem? (i := 172) (by decide +kernel)⟩
theorem lw_p1 : lw_okq (⟨"LiftRows2$Calls", "is", "(III)Z"⟩, 10) := ⟨⟨by decide +kernel, by decide +kernel⟩, List.mem_of_getElem? (i := 77) (by decide +kernel), List.mem_of_getElem? (i := 175) (by decide +kernel), List.mem_of_getElem? (i := 176) (by decide +kernel)⟩
theorem lw_p2 : lw_okq (⟨"LiftRows2", "nearestLift", "(II)I"⟩, 5) := ⟨⟨by decide +kernel, by decide +kernel⟩, List.mem_of_getElem? (i := 18) (by decide +kernel), List.mem_of_getElem? (i := 179) (by decide +kernel), List.mem_of_getElem? (i := 180) (by decide +kernel)⟩
theorem lw_p3 : lw_okq (⟨"LiftRows2$Lifts", "mayGet", "(II)Z"⟩, 9) := ⟨⟨by decide +kernel, by decide +kernel⟩, List.mem_of_getElem? (i := 32) (by decide +kernel), List.mem_of_getElem? (i := 186) (by decide +kernel), List.mem_of_getElem? (i := 187) (by decide +kernel)⟩
theorem lw_p4 : lw_okq (⟨"LiftRows2$Calls", "numberWaiting", "()I"⟩, 10) := ⟨⟨by decide +kernel, by decide +kernel⟩, List.mem_of_getElem? (i := 77) (by decide +kernel), List.mem_of_getElem? (i := 197) (by decide +kernel), List.mem_of_getElem? (i := 198) (by decide +kernel)⟩
theorem lw_p5 : lw_okq (⟨"LiftRows2$Calls", "number", "(II)I"⟩, 10) := ⟨⟨by decide +kernel, by decide +kernel⟩, List.mem_of_getElem? (i := 77) (by decide +kernel), List.mem_of_getElem? (i := 202) (by decide +kernel), List.mem_of_getElem? (i := 203) (by decide +kernel)⟩
theorem lw_p6 : lw_okq (⟨"LiftRows2$Calls", "setOf", "(II)I"⟩, 10) := ⟨⟨by decide +kernel, by decide +kernel⟩, List.mem_of_getElem? (i := 77) (by decide +kernel), List.mem_of_getElem? (i := 206) (by decide +kernel), List.mem_of_getElem? (i := 207) (by decide +kernel)⟩
theorem lw_p7 : lw_okq (⟨"LiftRows2$Calls", "levelsWithWaiting", "()I"⟩, 10) := ⟨⟨by decide +kernel, by decide +kernel⟩, List.mem_of_getElem? (i := 77) (by decide +kernel), List.mem_of_getElem? (i := 217) (by decide +kernel), List.mem_of_getElem? (i := 218) (by decide +kernel)⟩
theorem lw_p8 : lw_okq (⟨"java/lang/Throwable", "fillInStackTrace", "(I)Ljava/lang/Throwable;"⟩, 6) := ⟨⟨by decide +kernel, by decide +kernel⟩, List.mem_of_getElem? (i := 276) (by decide +kernel), List.mem_of_getElem? (i := 274) (by decide +kernel), List.mem_of_getElem? (i := 275) (by decide +kernel)⟩
theorem lw_p9 : lw_okq (⟨"LiftRows2$Lifts", "add", "(II)I"⟩, 9) := ⟨⟨by decide +kernel, by decide +kernel⟩, List.mem_of_getElem? (i := 32) (by decide +kernel), List.mem_of_getElem? (i := 322) (by decide +kernel), List.mem_of_getElem? (i := 323) (by decide +kernel)⟩
theorem lw_p10 : lw_okq (⟨"LiftRows2$Calls", "add", "(IIIII)I"⟩, 10) := ⟨⟨by decide +kernel, by decide +kernel⟩, List.mem_of_getElem? (i := 77) (by decide +kernel), List.mem_of_getElem? (i := 335) (by decide +kernel), List.mem_of_getElem? (i := 336) (by decide +kernel)⟩
theorem lw_p11 : lw_okq (⟨"LiftRows2", "passSecond", "()V"⟩, 5) := ⟨⟨by decide +kernel, by decide +kernel⟩, List.mem_of_getElem? (i := 18) (by decide +kernel), List.mem_of_getElem? (i := 346) (by decide +kernel), List.mem_of_getElem? (i := 347) (by decide +kernel)⟩
theorem lw_p12 : lw_okq (⟨"LiftRows2", "doOneThing", "(I)V"⟩, 5) := ⟨⟨by decide +kernel, by decide +kernel⟩, List.mem_of_getElem? (i := 18) (by decide +kernel), List.mem_of_getElem? (i := 350) (by decide +kernel), List.mem_of_getElem? (i := 351) (by decide +kernel)⟩
theorem lw_p13 : lw_okq (⟨"LiftRows2$Lifts", "passOpenSecond", "(I)V"⟩, 9) := ⟨⟨by decide +kernel, by decide +kernel⟩, List.mem_of_getElem? (i := 32) (by decide +kernel), List.mem_of_getElem? (i := 354) (by decide +kernel), List.mem_of_getElem? (i := 355) (by decide +kernel)⟩
theorem lw_p14 : lw_okq (⟨"LiftRows2", "opensHere", "(I)Z"⟩, 5) := ⟨⟨by decide +kernel, by decide +kernel⟩, List.mem_of_getElem? (i := 18) (by decide +kernel), List.mem_of_getElem? (i := 359) (by decide +kernel), List.mem_of_getElem? (i := 360) (by decide +kernel)⟩
theorem lw_p15 : lw_okq (⟨"LiftRows2$Calls", "loadStaying", "(II)I"⟩, 10) := ⟨⟨by decide +kernel, by decide +kernel⟩, List.mem_of_getElem? (i := 77) (by decide +kernel), List.mem_of_getElem? (i := 363) (by decide +kernel), List.mem_of_getElem? (i := 364) (by decide +kernel)⟩
def lw_privs_1 : List (MethodName × Nat) := [(⟨"LiftRows2", "giveAnew", "(I)I"⟩, 5), (⟨"LiftRows2$Calls", "is", "(III)Z"⟩, 10), (⟨"LiftRows2", "nearestLift", "(II)I"⟩, 5), (⟨"LiftRows2$Lifts", "mayGet", "(II)Z"⟩, 9), (⟨"LiftRows2$Calls", "numberWaiting", "()I"⟩, 10), (⟨"LiftRows2$Calls", "number", "(II)I"⟩, 10), (⟨"LiftRows2$Calls", "setOf", "(II)I"⟩, 10), (⟨"LiftRows2$Calls", "levelsWithWaiting", "()I"⟩, 10), (⟨"java/lang/Throwable", "fillInStackTrace", "(I)Ljava/lang/Throwable;"⟩, 6), (⟨"LiftRows2$Lifts", "add", "(II)I"⟩, 9), (⟨"LiftRows2$Calls", "add", "(IIIII)I"⟩, 10), (⟨"LiftRows2", "passSecond", "()V"⟩, 5), (⟨"LiftRows2", "doOneThing", "(I)V"⟩, 5), (⟨"LiftRows2$Lifts", "passOpenSecond", "(I)V"⟩, 9), (⟨"LiftRows2", "opensHere", "(I)Z"⟩, 5), (⟨"LiftRows2$Calls", "loadStaying", "(II)I"⟩, 10)]
theorem lw_r1 : ∀ q ∈ lw_privs_1, lw_okq q := List.forall_mem_cons.mpr ⟨lw_p0, List.forall_mem_cons.mpr ⟨lw_p1, List.forall_mem_cons.mpr ⟨lw_p2, List.forall_mem_cons.mpr ⟨lw_p3, List.forall_mem_cons.mpr ⟨lw_p4, List.forall_mem_cons.mpr ⟨lw_p5, List.forall_mem_cons.mpr ⟨lw_p6, List.forall_mem_cons.mpr ⟨lw_p7, List.forall_mem_cons.mpr ⟨lw_p8, List.forall_mem_cons.mpr ⟨lw_p9, List.forall_mem_cons.mpr ⟨lw_p10, List.forall_mem_cons.mpr ⟨lw_p11, List.forall_mem_cons.mpr ⟨lw_p12, List.forall_mem_cons.mpr ⟨lw_p13, List.forall_mem_cons.mpr ⟨lw_p14, List.forall_mem_cons.mpr ⟨lw_p15, fun _ h => absurd h List.not_mem_nil⟩⟩⟩⟩⟩⟩⟩⟩⟩⟩⟩⟩⟩⟩⟩⟩
theorem lw_p16 : lw_okq (⟨"LiftRows2$Calls", "getsOut", "(III)Z"⟩, 10) := ⟨⟨by decide +kernel, by decide +kernel⟩, List.mem_of_getElem? (i := 77) (by decide +kernel), List.mem_of_getElem? (i := 367) (by decide +kernel), List.mem_of_getElem? (i := 368) (by decide +kernel)⟩
theorem lw_p17 : lw_okq (⟨"LiftRows2$Calls", "fitsIn", "(IIII)Z"⟩, 10) := ⟨⟨by decide +kernel, by decide +kernel⟩, List.mem_of_getElem? (i := 77) (by decide +kernel), List.mem_of_getElem? (i := 371) (by decide +kernel), List.mem_of_getElem? (i := 372) (by decide +kernel)⟩
theorem lw_p18 : lw_okq (⟨"LiftRows2", "letOut", "(I)V"⟩, 5) := ⟨⟨by decide +kernel, by decide +kernel⟩, List.mem_of_getElem? (i := 18) (by decide +kernel), List.mem_of_getElem? (i := 375) (by decide +kernel), List.mem_of_getElem? (i := 376) (by decide +kernel)⟩
theorem lw_p19 : lw_okq (⟨"LiftRows2$Events", "add", "(IIII)V"⟩, 5) := ⟨⟨by decide +kernel, by decide +kernel⟩, List.mem_of_getElem? (i := 124) (by decide +kernel), List.mem_of_getElem? (i := 379) (by decide +kernel), List.mem_of_getElem? (i := 380) (by decide +kernel)⟩
theorem lw_p20 : lw_okq (⟨"LiftRows2", "letIn", "(I)V"⟩, 5) := ⟨⟨by decide +kernel, by decide +kernel⟩, List.mem_of_getElem? (i := 18) (by decide +kernel), List.mem_of_getElem? (i := 383) (by decide +kernel), List.mem_of_getElem? (i := 384) (by decide +kernel)⟩
theorem lw_p21 : lw_okq (⟨"LiftRows2$Calls", "loadAboard", "(I)I"⟩, 10) := ⟨⟨by decide +kernel, by decide +kernel⟩, List.mem_of_getElem? (i := 77) (by decide +kernel), List.mem_of_getElem? (i := 387) (by decide +kernel), List.mem_of_getElem? (i := 388) (by decide +kernel)⟩
theorem lw_p22 : lw_okq (⟨"LiftRows2$Calls", "hasWork", "(III)Z"⟩, 10) := ⟨⟨by decide +kernel, by decide +kernel⟩, List.mem_of_getElem? (i := 77) (by decide +kernel), List.mem_of_getElem? (i := 392) (by decide +kernel), List.mem_of_getElem? (i := 393) (by decide +kernel)⟩
theorem lw_p23 : lw_okq (⟨"LiftRows2$Calls", "nearestStop", "(IIII)I"⟩, 10) := ⟨⟨by decide +kernel, by decide +kernel⟩, List.mem_of_getElem? (i := 77) (by decide +kernel), List.mem_of_getElem? (i := 396) (by decide +kernel), List.mem_of_getElem? (i := 397) (by decide +kernel)⟩
theorem lw_p24 : lw_okq (⟨"LiftRows2$Lifts", "go", "(IZZ)V"⟩, 9) := ⟨⟨by decide +kernel, by decide +kernel⟩, List.mem_of_getElem? (i := 32) (by decide +kernel), List.mem_of_getElem? (i := 400) (by decide +kernel), List.mem_of_getElem? (i := 401) (by decide +kernel)⟩
theorem lw_p25 : lw_okq (⟨"LiftRows2", "refuseNoLift", "(I)V"⟩, 5) := ⟨⟨by decide +kernel, by decide +kernel⟩, List.mem_of_getElem? (i := 18) (by decide +kernel), List.mem_of_getElem? (i := 458) (by decide +kernel), List.mem_of_getElem? (i := 459) (by decide +kernel)⟩
theorem lw_p26 : lw_okq (⟨"LiftRows2", "refuseNoCall", "(I)V"⟩, 5) := ⟨⟨by decide +kernel, by decide +kernel⟩, List.mem_of_getElem? (i := 18) (by decide +kernel), List.mem_of_getElem? (i := 519) (by decide +kernel), List.mem_of_getElem? (i := 520) (by decide +kernel)⟩
theorem lw_p27 : lw_okq (⟨"LiftRows2$Calls", "setFrom", "(I)I"⟩, 10) := ⟨⟨by decide +kernel, by decide +kernel⟩, List.mem_of_getElem? (i := 77) (by decide +kernel), List.mem_of_getElem? (i := 543) (by decide +kernel), List.mem_of_getElem? (i := 544) (by decide +kernel)⟩
theorem lw_p28 : lw_okq (⟨"LiftRows2$Calls", "setTo", "(I)I"⟩, 10) := ⟨⟨by decide +kernel, by decide +kernel⟩, List.mem_of_getElem? (i := 77) (by decide +kernel), List.mem_of_getElem? (i := 547) (by decide +kernel), List.mem_of_getElem? (i := 548) (by decide +kernel)⟩
theorem lw_p29 : lw_okq (⟨"LiftRows2Model", "isLevel", "(I)Z"⟩, 28) := ⟨⟨by decide +kernel, by decide +kernel⟩, List.mem_of_getElem? (i := 568) (by decide +kernel), List.mem_of_getElem? (i := 667) (by decide +kernel), List.mem_of_getElem? (i := 668) (by decide +kernel)⟩
theorem lw_p30 : lw_okq (⟨"LiftRows2Model", "nearest", "(I)I"⟩, 28) := ⟨⟨by decide +kernel, by decide +kernel⟩, List.mem_of_getElem? (i := 568) (by decide +kernel), List.mem_of_getElem? (i := 678) (by decide +kernel), List.mem_of_getElem? (i := 679) (by decide +kernel)⟩
theorem lw_p31 : lw_okq (⟨"LiftRows2Model", "second", "(I)V"⟩, 28) := ⟨⟨by decide +kernel, by decide +kernel⟩, List.mem_of_getElem? (i := 568) (by decide +kernel), List.mem_of_getElem? (i := 689) (by decide +kernel), List.mem_of_getElem? (i := 690) (by decide +kernel)⟩
def lw_privs_2 : List (MethodName × Nat) := [(⟨"LiftRows2$Calls", "getsOut", "(III)Z"⟩, 10), (⟨"LiftRows2$Calls", "fitsIn", "(IIII)Z"⟩, 10), (⟨"LiftRows2", "letOut", "(I)V"⟩, 5), (⟨"LiftRows2$Events", "add", "(IIII)V"⟩, 5), (⟨"LiftRows2", "letIn", "(I)V"⟩, 5), (⟨"LiftRows2$Calls", "loadAboard", "(I)I"⟩, 10), (⟨"LiftRows2$Calls", "hasWork", "(III)Z"⟩, 10), (⟨"LiftRows2$Calls", "nearestStop", "(IIII)I"⟩, 10), (⟨"LiftRows2$Lifts", "go", "(IZZ)V"⟩, 9), (⟨"LiftRows2", "refuseNoLift", "(I)V"⟩, 5), (⟨"LiftRows2", "refuseNoCall", "(I)V"⟩, 5), (⟨"LiftRows2$Calls", "setFrom", "(I)I"⟩, 10), (⟨"LiftRows2$Calls", "setTo", "(I)I"⟩, 10), (⟨"LiftRows2Model", "isLevel", "(I)Z"⟩, 28), (⟨"LiftRows2Model", "nearest", "(I)I"⟩, 28), (⟨"LiftRows2Model", "second", "(I)V"⟩, 28)]
theorem lw_r2 : ∀ q ∈ lw_privs_2, lw_okq q := List.forall_mem_cons.mpr ⟨lw_p16, List.forall_mem_cons.mpr ⟨lw_p17, List.forall_mem_cons.mpr ⟨lw_p18, List.forall_mem_cons.mpr ⟨lw_p19, List.forall_mem_cons.mpr ⟨lw_p20, List.forall_mem_cons.mpr ⟨lw_p21, List.forall_mem_cons.mpr ⟨lw_p22, List.forall_mem_cons.mpr ⟨lw_p23, List.forall_mem_cons.mpr ⟨lw_p24, List.forall_mem_cons.mpr ⟨lw_p25, List.forall_mem_cons.mpr ⟨lw_p26, List.forall_mem_cons.mpr ⟨lw_p27, List.forall_mem_cons.mpr ⟨lw_p28, List.forall_mem_cons.mpr ⟨lw_p29, List.forall_mem_cons.mpr ⟨lw_p30, List.forall_mem_cons.mpr ⟨lw_p31, fun _ h => absurd h List.not_mem_nil⟩⟩⟩⟩⟩⟩⟩⟩⟩⟩⟩⟩⟩⟩⟩⟩
theorem lw_p32 : lw_okq (⟨"LiftRows2Model", "stops", "(I)Z"⟩, 28) := ⟨⟨by decide +kernel, by decide +kernel⟩, List.mem_of_getElem? (i := 568) (by decide +kernel), List.mem_of_getElem? (i := 693) (by decide +kernel), List.mem_of_getElem? (i := 694) (by decide +kernel)⟩
theorem lw_p33 : lw_okq (⟨"LiftRows2Model", "is", "(III)Z"⟩, 28) := ⟨⟨by decide +kernel, by decide +kernel⟩, List.mem_of_getElem? (i := 568) (by decide +kernel), List.mem_of_getElem? (i := 697) (by decide +kernel), List.mem_of_getElem? (i := 698) (by decide +kernel)⟩
theorem lw_p34 : lw_okq (⟨"LiftRows2Model", "exchange", "(I)V"⟩, 28) := ⟨⟨by decide +kernel, by decide +kernel⟩, List.mem_of_getElem? (i := 568) (by decide +kernel), List.mem_of_getElem? (i := 701) (by decide +kernel), List.mem_of_getElem? (i := 702) (by decide +kernel)⟩
theorem lw_p35 : lw_okq (⟨"LiftRows2Model", "tell", "(II)V"⟩, 28) := ⟨⟨by decide +kernel, by decide +kernel⟩, List.mem_of_getElem? (i := 568) (by decide +kernel), List.mem_of_getElem? (i := 705) (by decide +kernel), List.mem_of_getElem? (i := 706) (by decide +kernel)⟩
theorem lw_p36 : lw_okq (⟨"LiftRows2Model", "aboard", "(I)I"⟩, 28) := ⟨⟨by decide +kernel, by decide +kernel⟩, List.mem_of_getElem? (i := 568) (by decide +kernel), List.mem_of_getElem? (i := 709) (by decide +kernel), List.mem_of_getElem? (i := 710) (by decide +kernel)⟩
theorem lw_p37 : lw_okq (⟨"LiftRows2Model", "hasWork", "(II)Z"⟩, 28) := ⟨⟨by decide +kernel, by decide +kernel⟩, List.mem_of_getElem? (i := 568) (by decide +kernel), List.mem_of_getElem? (i := 713) (by decide +kernel), List.mem_of_getElem? (i := 714) (by decide +kernel)⟩
theorem lw_p38 : lw_okq (⟨"LiftRows2Model", "isLift", "(I)Z"⟩, 28) := ⟨⟨by decide +kernel, by decide +kernel⟩, List.mem_of_getElem? (i := 568) (by decide +kernel), List.mem_of_getElem? (i := 729) (by decide +kernel), List.mem_of_getElem? (i := 730) (by decide +kernel)⟩
theorem lw_p39 : lw_okq (⟨"LiftRows2Model", "many", "(II)I"⟩, 28) := ⟨⟨by decide +kernel, by decide +kernel⟩, List.mem_of_getElem? (i := 568) (by decide +kernel), List.mem_of_getElem? (i := 733) (by decide +kernel), List.mem_of_getElem? (i := 734) (by decide +kernel)⟩
theorem lw_p40 : lw_okq (⟨"LiftRows2Model", "isCall", "(I)Z"⟩, 28) := ⟨⟨by decide +kernel, by decide +kernel⟩, List.mem_of_getElem? (i := 568) (by decide +kernel), List.mem_of_getElem? (i := 757) (by decide +kernel), List.mem_of_getElem? (i := 758) (by decide +kernel)⟩
theorem lw_p41 : lw_okq (⟨"LiftRows2Model", "goOn", "(III)V"⟩, 28) := ⟨⟨by decide +kernel, by decide +kernel⟩, List.mem_of_getElem? (i := 568) (by decide +kernel), List.mem_of_getElem? (i := 770) (by decide +kernel), List.mem_of_getElem? (i := 771) (by decide +kernel)⟩
theorem lw_p42 : lw_okq (⟨"LiftRows2Model", "lower", "(III)V"⟩, 28) := ⟨⟨by decide +kernel, by decide +kernel⟩, List.mem_of_getElem? (i := 568) (by decide +kernel), List.mem_of_getElem? (i := 774) (by decide +kernel), List.mem_of_getElem? (i := 775) (by decide +kernel)⟩
def lw_privs_3 : List (MethodName × Nat) := [(⟨"LiftRows2Model", "stops", "(I)Z"⟩, 28), (⟨"LiftRows2Model", "is", "(III)Z"⟩, 28), (⟨"LiftRows2Model", "exchange", "(I)V"⟩, 28), (⟨"LiftRows2Model", "tell", "(II)V"⟩, 28), (⟨"LiftRows2Model", "aboard", "(I)I"⟩, 28), (⟨"LiftRows2Model", "hasWork", "(II)Z"⟩, 28), (⟨"LiftRows2Model", "isLift", "(I)Z"⟩, 28), (⟨"LiftRows2Model", "many", "(II)I"⟩, 28), (⟨"LiftRows2Model", "isCall", "(I)Z"⟩, 28), (⟨"LiftRows2Model", "goOn", "(III)V"⟩, 28), (⟨"LiftRows2Model", "lower", "(III)V"⟩, 28)]
theorem lw_r3 : ∀ q ∈ lw_privs_3, lw_okq q := List.forall_mem_cons.mpr ⟨lw_p32, List.forall_mem_cons.mpr ⟨lw_p33, List.forall_mem_cons.mpr ⟨lw_p34, List.forall_mem_cons.mpr ⟨lw_p35, List.forall_mem_cons.mpr ⟨lw_p36, List.forall_mem_cons.mpr ⟨lw_p37, List.forall_mem_cons.mpr ⟨lw_p38, List.forall_mem_cons.mpr ⟨lw_p39, List.forall_mem_cons.mpr ⟨lw_p40, List.forall_mem_cons.mpr ⟨lw_p41, List.forall_mem_cons.mpr ⟨lw_p42, fun _ h => absurd h List.not_mem_nil⟩⟩⟩⟩⟩⟩⟩⟩⟩⟩⟩
def lw_privs : List (MethodName × Nat) := lw_privs_1 ++ (lw_privs_2 ++ (lw_privs_3))
def lw_tbl : List Cond := k2_sels lw_privs ++ tables_1
theorem lw_privs_ok : ∀ q ∈ lw_privs, lw_okq q := by
  show ∀ q ∈ lw_privs_1 ++ (lw_privs_2 ++ (lw_privs_3)), lw_okq q
  exact List.forall_mem_append.mpr ⟨lw_r1, List.forall_mem_append.mpr ⟨lw_r2, lw_r3⟩⟩
end
section
/-! A throw that is caught by a row of the walked method's own table, the rows' classes linked or not yet: own lemmas, over the short library. -/
section ZC
/-- the rows ahead of the one that takes it -/
def zc_past (pl : Platform) (s₀ : State) (d : ClassId) (pc : Nat) (th : ClassId) (y : ExceptionTableEntry) : Prop :=
  covers y pc = false ∨ (y.catchType ≠ 0 ∧ ∃ k, s₀.vm.ClassLinks pl d y.catchType k ∧ s₀.vm.assignable th k = false)
/-- one covered row: its class is linked, then it takes the thrown object or the search goes on -/
theorem zc_row {Q : Handler → Pre} {E : CtlPost} {e : Env} {dd : Bool} {acts : List Action} {S : State} {f : JFrame} {a : Addr} {x : ExceptionTableEntry} {t : List ExceptionTableEntry} {k : ClassId} {cell : Cell}
    (hx : covers x f.pc = true) (h0 : x.catchType ≠ 0) (hl : S.vm.ClassLinks e.platform f.method.cls x.catchType k) (hcell : S.heap[a]? = some cell) (hobj : ∀ z, cell.vm ≠ .statics z)
    (hk : ∃ z, S.vm.classes[cell.cls]? = some z) (hc : ∃ z, S.vm.classes[k]? = some z) :
    (S.vm.assignable cell.cls k = true → (wp (findHandler.go f a (x :: t)) Q E e dd acts S ↔ Q (.found x.handlerPc) dd acts (S.setVm (S.vm.noted f.method.cls x.catchType (.cls k))))) ∧
    (S.vm.assignable cell.cls k = false → (wp (findHandler.go f a (x :: t)) Q E e dd acts S ↔ wp (findHandler.go f a t) Q E e dd acts (S.setVm (S.vm.noted f.method.cls x.catchType (.cls k))))) := by
  simp only [covers] at hx
  obtain ⟨g1, g2⟩ := (resolveClass_links e.toSetting hl).op (op := VmOp.resolveClass f.method.cls x.catchType) rfl
  have hal : S.vm.Alike (S.vm.noted f.method.cls x.catchType (.cls k)) := (Vm.Alike.refl S.vm).noted _ _ _
  obtain ⟨z1, hz1⟩ := hk
  obtain ⟨z2, hz2⟩ := hc
  obtain ⟨y1, hy1, -⟩ := hal.2.2 _ _ hz1
  obtain ⟨y2, hy2, -⟩ := hal.2.2 _ _ hz2
  refine ⟨fun hf => ?_, fun hf => ?_⟩
  · have hf' : (S.vm.noted f.method.cls x.catchType (.cls k)).assignable cell.cls k = true := by rw [hal.assignable]; exact hf
    simp [findHandler.go, hx, h0, g1, g2, hcell, hobj, hy1, hy2, hf', VmOp.dirties, VmOp.acts]
  · have hf' : (S.vm.noted f.method.cls x.catchType (.cls k)).assignable cell.cls k = false := by rw [hal.assignable]; exact hf
    simp [findHandler.go, hx, h0, g1, g2, hcell, hobj, hy1, hy2, hf', VmOp.dirties, VmOp.acts]
/-- the search over a table whose row x takes it -/
theorem zc_find {e : Env} {s₀ : State} {f : JFrame} {a : Addr} {cell : Cell} {k : ClassId} (hobj : ∀ z, cell.vm ≠ .statics z) (hk0 : ∃ z, s₀.vm.classes[cell.cls]? = some z)
    (x : ExceptionTableEntry) (suf : List ExceptionTableEntry) (hx : covers x f.pc = true) (h0 : x.catchType ≠ 0) (hl : s₀.vm.ClassLinks e.platform f.method.cls x.catchType k) (hfit : s₀.vm.assignable cell.cls k = true) :
    ∀ (pre : List ExceptionTableEntry) (S : State), s₀.WarmedH S.vm → S.heap[a]? = some cell → (∀ y ∈ pre, zc_past e.platform s₀ f.method.cls f.pc cell.cls y) →
      ∃ vm', s₀.WarmedH vm' ∧ ∀ (Q : Handler → Pre) (E : CtlPost) (dd : Bool) (acts : List Action), wp (findHandler.go f a (pre ++ x :: suf)) Q E e dd acts S ↔ Q (.found x.handlerPc) dd acts (S.setVm vm')
  | [], S, hW, hcell, _ => by
    obtain ⟨z0, hz0⟩ := hk0
    obtain ⟨y0, hy0, -⟩ := hW.alike.2.2 _ _ hz0
    obtain ⟨_, _, _, kt, hd, _, _, _, _, hkt, _, hop⟩ := hl.here
    obtain ⟨yt, hyt, -⟩ := hW.alike.2.2 _ _ hkt
    exact ⟨_, hW.noted hd hop (State.rightAt_cls hl), fun Q E dd acts => (zc_row hx h0 (hW.classLinks hl) hcell hobj ⟨y0, hy0⟩ ⟨yt, hyt⟩).1 (by rw [hW.alike.assignable]; exact hfit)⟩
  | y :: ys, S, hW, hcell, hp => by
    have hp' : ∀ z ∈ ys, zc_past e.platform s₀ f.method.cls f.pc cell.cls z := fun z hz => hp z (List.mem_cons_of_mem _ hz)
    rcases hp y List.mem_cons_self with h | ⟨hy0, c1, hl1, hno⟩
    · obtain ⟨vm', hW', hq⟩ := zc_find hobj hk0 x suf hx h0 hl hfit ys S hW hcell hp'
      exact ⟨vm', hW', fun Q E dd acts => by rw [List.cons_append, W.findHandler_go_skip h]; exact hq Q E dd acts⟩
    · by_cases hcov : covers y f.pc = true
      · obtain ⟨z0, hz0⟩ := hk0
        obtain ⟨y0, hyy, -⟩ := hW.alike.2.2 _ _ hz0
        obtain ⟨_, _, _, kt, hd, _, _, _, _, hkt, _, hop⟩ := hl1.here
        obtain ⟨yt, hyt, -⟩ := hW.alike.2.2 _ _ hkt
        obtain ⟨vm', hW', hq⟩ := zc_find hobj ⟨z0, hz0⟩ x suf hx h0 hl hfit ys (S.setVm (S.vm.noted f.method.cls y.catchType (.cls c1))) (hW.noted hd hop (State.rightAt_cls hl1)) hcell hp'
        exact ⟨vm', hW', fun Q E dd acts => by
          rw [List.cons_append, (zc_row hcov hy0 (hW.classLinks hl1) hcell hobj ⟨y0, hyy⟩ ⟨yt, hyt⟩).2 (by rw [hW.alike.assignable]; exact hno)]
          exact hq Q E dd acts⟩
      · obtain ⟨vm', hW', hq⟩ := zc_find hobj hk0 x suf hx h0 hl hfit ys S hW hcell hp'
        exact ⟨vm', hW', fun Q E dd acts => by rw [List.cons_append, W.findHandler_go_skip (by simpa using hcov)]; exact hq Q E dd acts⟩
variable {p : Program} {l : Launch} {e : Env} {R : Room} {s : State} {m₀ : MethodId} {args : Array Value} {below : List Frame} {meth : Method} {c : Code} {T : State} {locs : List Loc} {cells slots : Nat}
/-- from the note of the thrown object to the handler -/
theorem zc_caught (X : Stand p l e R s m₀ args below meth c T locs cells slots) (a : Addr) {g : JFrame} (hg : g.method = m₀) {cell : Cell} {k : ClassId} (hcell : T.heap[a]? = some cell) (hobj : cell.vm.isStatics = false)
    (hk0 : ∃ z, s.vm.classes[cell.cls]? = some z) (pre : List ExceptionTableEntry) (x : ExceptionTableEntry) (suf : List ExceptionTableEntry) (hsplit : c.exceptionTable.toList = pre ++ x :: suf)
    (hpass : ∀ y ∈ pre, zc_past e.platform s m₀.cls g.pc cell.cls y) (hx : covers x g.pc = true) (h0 : x.catchType ≠ 0) (hl : s.vm.ClassLinks e.platform m₀.cls x.catchType k) (hfit : s.vm.assignable cell.cls k = true) :
    ∃ vm', Stand p l e R s m₀ args below meth c (T.setVm vm') locs cells slots ∧ Steps p.tables e below ((T.setTop g).pushFrame (.throwing a)) ((T.setVm vm').setTop { g with pc := x.handlerPc, stack := [.ref a] }) := by
  subst hg
  have hne : ∀ z, cell.vm ≠ .statics z := fun z hz => by rw [hz] at hobj; cases hobj
  obtain ⟨vm', hW', hq⟩ := zc_find (e := e) (s₀ := s) (f := g) (a := a) hne hk0 x suf hx h0 hl hfit pre ((T.setTop g).pushFrame (.throwing a)) X.warmed hcell hpass
  have hfind : ∀ (Q : Handler → Pre) (E : CtlPost) (dd : Bool) (acts : List Action), wp (findHandler g a) Q E e dd acts ((T.setTop g).pushFrame (.throwing a)) ↔ Q (.found x.handlerPc) dd acts (((T.setTop g).pushFrame (.throwing a)).setVm vm') := fun Q E dd acts => by
    rw [W.findHandler_eq (s := (T.setTop g).pushFrame (.throwing a)) (meth := meth) (code := c) X.method' X.code, hsplit]; exact hq Q E dd acts
  refine ⟨vm', X.noted hW', ?_⟩
  obtain ⟨hgo, hw⟩ := X.here.throwing a (g := g)
  refine Steps.head hgo hw ?_
  rw [stepThread_throwing (frames_entered X.here.top _)]
  have hst : (stepThrowing e ((T.setTop g).pushFrame (.throwing a)) a (.java g :: T.frames.tail)).1 = (((T.setTop g).pushFrame (.throwing a)).setVm vm').setFrames (.java { g with pc := x.handlerPc, stack := [.ref a] } :: T.frames.tail) := by
    simp only [stepThrowing, searchFrame, vmDo]
    generalize hr : Sem.go _ e false [] _ = res
    obtain ⟨as, rfl, -⟩ := Sem.eq_ok_of hr (a := Handler.found x.handlerPc) (s' := ((T.setTop g).pushFrame (.throwing a)).setVm vm') (acts' := []) (by simp [hfind _ _ _ _])
    rfl
  rw [hst]
  obtain ⟨g₀, hg0⟩ := Option.isSome_iff_exists.mp X.here.top
  obtain ⟨r, hr⟩ := State.topJava?_eq_some.mp hg0
  have hr' : (T.setVm vm').frames = .java g₀ :: r := hr
  have e1 : (((T.setTop g).pushFrame (.throwing a)).setVm vm').setFrames (.java { g with pc := x.handlerPc, stack := [.ref a] } :: T.frames.tail) = (T.setVm vm').setTop { g with pc := x.handlerPc, stack := [.ref a] } := by
    rw [State.setTop_of_frames _ hr', hr, List.tail_cons, State.pushFrame, State.setTop_of_frames _ hr]
    show (((T.setVm vm').setFrames _).setFrames _).setFrames _ = _
    rw [State.setFrames_setFrames, State.setFrames_setFrames]
  rw [e1]
  exact Steps.refl _
end ZC
end
section
/-! ===== BEGIN words of one list among another's, by their places ===== -/
theorem goodIn_r {big : List Cond} (ws : List Cond) (ps : List Nat) (hp : ws = ps.filterMap (fun i => big[i]?)) (h : ws.all goodWord = true) : GoodIn big ws := by
  intro w hw
  have h1 := List.all_eq_true.mp h w hw
  rw [hp] at hw
  obtain ⟨i, -, hi⟩ := List.mem_filterMap.mp hw
  have hm : w ∈ big := by first | exact List.mem_of_getElem? hi | exact List.getElem?_mem hi
  exact ⟨hm, good_of_word h1⟩
theorem goodIn_app {big a b : List Cond} (ha : GoodIn big a) (hb : GoodIn big b) : GoodIn big (a ++ b) := fun w h => (List.mem_append.mp h).elim (ha w) (hb w)
theorem goodIn_ca {big a b : List Cond} {c : Cond} (ha : GoodIn big (c :: a)) (hb : GoodIn big b) : GoodIn big (c :: (a ++ b)) := fun w h => (List.mem_cons.mp h).elim (fun e => ha w (List.mem_cons.mpr (Or.inl e))) (fun h => (List.mem_append.mp h).elim (fun h => ha w (List.mem_cons.mpr (Or.inr h))) (hb w))
theorem goodIn_sub {big ws : List Cond} (hm : ∀ w ∈ ws, w ∈ big) (h : ws.all goodWord = true) : GoodIn big ws := fun w hw => ⟨hm w hw, good_of_word (List.all_eq_true.mp h w hw)⟩
/-! ===== END ===== -/

/-! ===== BEGIN exceptions that leave a method, and their catching by the caller (launches without stack traces) ===== -/
section VXA
/-! The laws vx_back, vx_callV, vx_callS, vx_callSW, vx_throw0, vx_throwS follow proofs of the library, with one case more: JvmDerived/Free/Laws.lean (Back.of_free), Shelf42/LK1.lean (callV, callS), Shelf/KitTraced.lean (throwNew0V, throwNewS). -/
/-- where a method has thrown q: the class by its name, the cell, what was written, the world -/
def vx_T (XC : String → State → State → Prop) (st : State) (q : Addr) (t : State) (mc ms : Nat) (free : Addr → Prop) : Prop :=
  ∃ (E : String) (ce : Cell) (L : List Loc), XC E st t ∧ t.heap[q]? = some ce ∧ ce.vm = .none ∧ st.vm.findClass E = some ce.cls ∧ st.WarmedH t.vm ∧ st.sameButNew ({ t with vm := st.vm } : State) L mc ms ∧ ∀ z ∈ L, free z.base
def vx_Q (Qc : Array Value → State → Outcome → State → Prop) (XC : String → State → State → Prop) (mc ms : Nat) (free : Addr → Prop) : Array Value → State → Outcome → State → Prop := fun a st o t =>
  (Qc a st o t ∧ ∃ L, FrameEnd st o t L mc ms ∧ ∀ q ∈ L, free q.base) ∨ ∃ q, o = .threw q ∧ vx_T XC st q t mc ms free
/-- a callee that returns or throws -/
def vx_Met (l : Launch) (y : MethodName) (ws : List Cond) (rm : Room) (Pc : Array Value → State → Prop) (Qc : Array Value → State → Outcome → State → Prop) (XC : String → State → State → Prop) (mc ms : Nat) (free : Addr → Prop) : Prop :=
  MetFree l y (headSpec ws rm) Pc (fun _ _ _ _ _ => True) (vx_Q Qc XC mc ms free)
def vx_Post (XC : String → State → State → Prop) (mc ms : Nat) (free : Addr → Prop) : Pt → Array Value → Addr → Pt → Prop := fun A a q B =>
  ∃ (g : JFrame) (mk : MethodId) (t : State) (L : List Loc) (E : String) (ce : Cell), B.U.heap = t.heap ∧ B.U.vm = t.vm ∧ XC E (A.U.calling g mk a) t ∧ t.heap[q]? = some ce ∧ ce.vm = .none ∧ A.U.vm.findClass E = some ce.cls ∧ B.locs = A.locs ++ L ∧ (∀ z ∈ L, free z.base) ∧ B.cells = A.cells + mc ∧ B.slots = A.slots + ms
def vx_Back (l : Launch) (R : Room) (p : Program) (e : Env) (below : List Frame) (s : State) (sargs : Array Value) (y : MethodName) (len W9 : Nat)
    (Pre : Pt → Array Value → Prop) (Post : Pt → Array Value → Option Value → Pt → Prop) (PostX : Pt → Array Value → Addr → Pt → Prop) : Prop :=
  ∀ (m : MethodId) (meth : Method) (c : Code) (A : Pt) (g : JFrame) (ig : Instr) (mk : MethodId) (a : Array Value),
    Stand p l e R s m sargs below meth c A.U A.locs A.cells A.slots → g.method = m → g.locals.size = c.maxLocals → decode c.code g.pc = .ok (ig, len) →
    2 * g.monitorRoom + (g.stack.map fun v => v.category).sum ≤ W9 → A.U.methodNamed? y = some mk → Pre A a →
    (∃ (v : Option Value) (B : Pt), Stand p l e R s m sargs below meth c B.U B.locs B.cells B.slots ∧ Post A a v B ∧
      Steps p.tables e below (doInvoke e (A.U.setTop g) [] mk a).1 (B.U.setTop { g with pc := g.pc + len, stack := v.toList ++ g.stack })) ∨
    (∃ (q : Addr) (B : Pt), Stand p l e R s m sargs below meth c B.U B.locs B.cells B.slots ∧ PostX A a q B ∧
      Steps p.tables e below (doInvoke e (A.U.setTop g) [] mk a).1 ((B.U.setTop g).pushFrame (.throwing q)))
section Payer
variable {l : Launch} {R : Room} {p : Program} {e : Env} {below : List Frame} {s : State} {sargs : Array Value} {y : MethodName} {len W9 : Nat}
theorem vx_back {ws : List Cond} {rm : Room} {Pc : Array Value → State → Prop} {Qc : Array Value → State → Outcome → State → Prop} {XC : String → State → State → Prop} {mc ms : Nat} {free : Addr → Prop} {bytes : ByteArray} {maxL : Nat} {ret : Option FieldType}
    (hM : vx_Met l y ws rm Pc Qc XC mc ms free) (hblind : FrameBlind Pc) (hrc : rm.cells = mc) (hrs : rm.slots = ms)
    (hframes : rm.frames + 1 ≤ R.frames) (hlocals : W9 + (maxL + 11) + rm.locals ≤ R.locals)
    (hws : ∀ w ∈ ws, ∀ a' U, s.WarmedH U.vm → w.before a' U = true) (hcode : Cond.code y bytes maxL ret ∈ ws) (hinit : ∀ a' U, s.WarmedH U.vm → (Cond.initialized y.cls).before a' U = true) :
    vx_Back l R p e below s sargs y len W9 (PreOf R mc ms Pc) (PostOf Qc mc ms free) (vx_Post XC mc ms free) := by
  intro m meth c A g ig mk a X hg hsize hdg hW hn hp
  have h1 : (headSpec ws rm).pre.before a A.U = true := atoms_intro fun w hw => hws w hw _ _ X.warmed
  have h2 : (Cond.code y bytes maxL ret).before a A.U = true := hws _ hcode _ _ X.warmed
  have h3 : (Cond.initialized y.cls).before a A.U = true := hinit _ _ X.warmed
  have h4 : A.cells + (headSpec ws rm).room.cells ≤ R.cells := by rw [show (headSpec ws rm).room.cells = mc from hrc]; exact hp.1
  have h5 : A.slots + (headSpec ws rm).room.slots ≤ R.slots := by rw [show (headSpec ws rm).room.slots = ms from hrs]; exact hp.2.1
  have hPc : Pc a (A.U.calling g mk a) := hblind _ _ _ _ hp.2.2
  obtain ⟨U, Ls, c0, s0⟩ := A
  dsimp only [Pt.U, Pt.locs, Pt.cells, Pt.slots] at h1 h2 h3 h4 h5 X hn hPc ⊢
  obtain ⟨methY, cY, hmY, hcY, -, hlY, -, -, -, -⟩ := Cond.code_spec hn h2
  obtain ⟨kY, hkY, -⟩ := className_of_methodNamed hn
  have hinitY : kY.init = .initialized := Cond.initialized_spec (findClass_of_methodNamed hn) hkY h3
  have h : At U g.method c below := by rw [hg]; exact X.here
  have hlocals9 : W9 + (maxL + 11) + (headSpec ws rm).room.locals ≤ R.locals := hlocals
  have happ : (headSpec ws rm).appliesLoose y e.platform (U.calling g mk a) = true :=
    Spec.appliesLoose_calling (g := g) h hdg hn hkY hinitY
      (X.room_calling (g := g) (R' := (headSpec ws rm).room) hsize hmY hcY hframes (by rw [hlY]; omega) h4 h5) h1
  obtain ⟨mid, hmid⟩ := h.above
  have hfr : (U.setTop g).frames = (.java g :: mid) ++ below := by rw [State.frames_setTop' g h.top, hmid]; rfl
  obtain ⟨o, s₂, hsteps, -, hend, hq⟩ := Steps.callFree hM p X.admits X.cas X.clock (acts := []) hfr happ hPc trivial
  have hq' : vx_Q Qc XC mc ms free a (U.calling g mk a) o s₂ := hq
  rw [State.frames_setTop' g h.top] at hend
  obtain ⟨g₀, hg0⟩ := Option.isSome_iff_exists.mp h.top
  obtain ⟨r, hr⟩ := State.topJava?_eq_some.mp hg0
  have hr' : (({ U with heap := s₂.heap, slotsUsed := s₂.slotsUsed } : State).setVm s₂.vm).frames = .java g₀ :: r := hr
  rcases hq' with ⟨hqc, L, hfe, hL⟩ | ⟨q, rfl, E, ce, L, hx, hce, hcv, hcl, hW₂, hsm, hL⟩
  · obtain ⟨⟨v, rfl⟩, hW₂, e2, q2, q3, q4, q5, q6⟩ := id hfe
    have e3 : s₂ = ({ (U.calling g mk a).setFrames s₂.frames with heap := s₂.heap, slotsUsed := s₂.slotsUsed } : State).setVm s₂.vm := by
      have : s₂ = ({ s₂ with vm := (U.calling g mk a).vm } : State).setVm s₂.vm := rfl
      rw [e2] at this
      exact this
    obtain ⟨c₂, i₂, len₂, hc₂, hd₂, hf₂⟩ := hend
    have hW' : U.WarmedH s₂.vm := hW₂
    have hcc : c₂ = c := by
      have h1 : s₂.code? g.method = U.code? g.method := by
        rw [State.code?_eq, State.code?_eq, hW'.alike.method?]
      exact Option.some.inj (hc₂.symm.trans (h1.trans h.code))
    subst hcc
    have hlen : len₂ = len := by rw [hdg] at hd₂; cases hd₂; rfl
    subst hlen
    have hs₂ : s₂ = (({ U with heap := s₂.heap, slotsUsed := s₂.slotsUsed } : State).setVm s₂.vm).setTop { g with pc := g.pc + len₂, stack := v.toList ++ g.stack } := by
      refine e3.trans ?_
      rw [hf₂, State.calling_eq h.top, State.setFrames_setFrames, State.setTop_of_frames _ hr', hr]
      rfl
    have hsame : U.sameButNew ({ U with heap := s₂.heap, slotsUsed := s₂.slotsUsed } : State) L mc ms := by
      refine ⟨?_, q2, q3, q4, q5, q6⟩
      obtain ⟨t, ht, -⟩ := State.frames_cons hr
      show ({ U with heap := s₂.heap, slotsUsed := s₂.slotsUsed } : State) = { U.setFrames U.frames with heap := s₂.heap, slotsUsed := s₂.slotsUsed }
      rw [State.setFrames_self ht]
    subst hg
    refine Or.inl ⟨v, ⟨(({ U with heap := s₂.heap, slotsUsed := s₂.slotsUsed } : State).setVm s₂.vm), Ls ++ L, c0 + mc, s0 + ms⟩,
      ⟨X.admits, X.cas, X.clock, X.frames, X.room, X.hears, X.method, X.code, (X.here.setHeapUsed s₂.heap s₂.slotsUsed).setVm hW'.alike, X.tail, State.WarmedH.trans X.warmed hW', X.limits, X.bytes, X.same.trans (hsame.setVm s.vm)⟩,
      ⟨g, mk, s₂, L, rfl, rfl, hqc, rfl, hL, rfl, rfl⟩, ?_⟩
    show Steps p.tables e below _ ((({ U with heap := s₂.heap, slotsUsed := s₂.slotsUsed } : State).setVm s₂.vm).setTop { g with pc := g.pc + len₂, stack := v.toList ++ g.stack })
    rw [← hs₂]
    exact hsteps
  · obtain ⟨e2, q2, q3, q4, q5, q6⟩ := id hsm
    have e3 : s₂ = ({ (U.calling g mk a).setFrames s₂.frames with heap := s₂.heap, slotsUsed := s₂.slotsUsed } : State).setVm s₂.vm := by
      have : s₂ = ({ s₂ with vm := (U.calling g mk a).vm } : State).setVm s₂.vm := rfl
      rw [e2] at this
      exact this
    have hf₂ : s₂.frames = .throwing q :: .java g :: U.frames.tail := hend
    have hW' : U.WarmedH s₂.vm := hW₂
    have hs₂ : s₂ = ((({ U with heap := s₂.heap, slotsUsed := s₂.slotsUsed } : State).setVm s₂.vm).setTop g).pushFrame (.throwing q) := by
      refine e3.trans ?_
      rw [hf₂, State.calling_eq h.top, State.setFrames_setFrames, State.pushFrame, State.frames_setTop _ hr', State.setTop_of_frames _ hr', State.setFrames_setFrames, hr]
      rfl
    have hsame : U.sameButNew ({ U with heap := s₂.heap, slotsUsed := s₂.slotsUsed } : State) L mc ms := by
      refine ⟨?_, q2, q3, q4, q5, q6⟩
      obtain ⟨t, ht, -⟩ := State.frames_cons hr
      show ({ U with heap := s₂.heap, slotsUsed := s₂.slotsUsed } : State) = { U.setFrames U.frames with heap := s₂.heap, slotsUsed := s₂.slotsUsed }
      rw [State.setFrames_self ht]
    subst hg
    refine Or.inr ⟨q, ⟨(({ U with heap := s₂.heap, slotsUsed := s₂.slotsUsed } : State).setVm s₂.vm), Ls ++ L, c0 + mc, s0 + ms⟩,
      ⟨X.admits, X.cas, X.clock, X.frames, X.room, X.hears, X.method, X.code, (X.here.setHeapUsed s₂.heap s₂.slotsUsed).setVm hW'.alike, X.tail, State.WarmedH.trans X.warmed hW', X.limits, X.bytes, X.same.trans (hsame.setVm s.vm)⟩,
      ⟨g, mk, s₂, L, E, ce, rfl, rfl, hx, hce, hcv, hcl, rfl, hL, rfl, rfl⟩, ?_⟩
    show Steps p.tables e below _ (((({ U with heap := s₂.heap, slotsUsed := s₂.slotsUsed } : State).setVm s₂.vm).setTop g).pushFrame (.throwing q))
    rw [← hs₂]
    exact hsteps
end Payer
section Calls
variable {p : Program} {l : Launch} {e : Env} {R : Room} {s : State} {m : MethodId} {args : Array Value} {below : List Frame} {meth : Method} {c : Code} {T : State} {locs : List Loc} {cells slots : Nat}
theorem vx_callV (X : Stand p l e R s m args below meth c T locs cells slots) (hexec : p.tables.exec = Jvm.exec) {own C : String} {index : Nat} {y : MethodName} {bytes : ByteArray} {maxL : Nat} {ret : Option FieldType}
    (hown : s.vm.findClass own = some m.cls) (hlink : (Cond.methodLink own index y).before args s = true) (hinst : (Cond.instanceMethod y).before args s = true) (hsel : (Cond.selects C y y).before args s = true)
    (hcode : (Cond.code y bytes maxL ret).before args s = true) (hy : y.cls ≠ "java/lang/invoke/MethodHandle" ∧ y.cls ≠ "java/lang/invoke/VarHandle")
    {W9 : Nat} {Pre : Pt → Array Value → Prop} {Post : Pt → Array Value → Option Value → Pt → Prop} {PostX : Pt → Array Value → Addr → Pt → Prop} (hK : vx_Back l R p e below s args y 3 W9 Pre Post PostX)
    {b : Addr} {cellB : Cell} (hcell : T.heap[b]? = some cellB) (hobj : cellB.vm.isStatics = false) (hcls : s.vm.findClass C = some cellB.cls)
    {g : JFrame} (hg : g.method = m) (hsize : g.locals.size = c.maxLocals) {argsL rest : List Value} (hlen : ∀ sig, parseMethodDescriptor y.desc = some sig → argsL.length = sig.parameters.length)
    (hstack : g.stack = argsL.reverse ++ .ref b :: rest) (hW : 2 * g.monitorRoom + (rest.map fun v => v.category).sum ≤ W9) (hdg : decode c.code g.pc = .ok (.invokevirtual index, 3))
    (hpre : ∀ vm₁, s.WarmedH vm₁ → Pre ⟨T.setVm vm₁, locs, cells, slots⟩ (Value.ref b :: argsL).toArray) :
    (∃ (v : Option Value) (vm₁ : Vm) (B : Pt), s.WarmedH vm₁ ∧ Stand p l e R s m args below meth c B.U B.locs B.cells B.slots ∧ Post ⟨T.setVm vm₁, locs, cells, slots⟩ (Value.ref b :: argsL).toArray v B ∧
      ∀ target, Steps p.tables e below (B.U.setTop { g with pc := g.pc + 3, stack := v.toList ++ rest }) target → Steps p.tables e below (T.setTop g) target) ∨
    (∃ (q : Addr) (vm₁ : Vm) (B : Pt), s.WarmedH vm₁ ∧ Stand p l e R s m args below meth c B.U B.locs B.cells B.slots ∧ PostX ⟨T.setVm vm₁, locs, cells, slots⟩ (Value.ref b :: argsL).toArray q B ∧
      Steps p.tables e below (T.setTop g) ((B.U.setTop { g with stack := rest }).pushFrame (.throwing q))) := by
  obtain ⟨mk, methM, hnamed, hmethM, hstM, habM⟩ := Cond.instanceMethod_spec hinst
  obtain ⟨methM', cM, hmethM', -, -, -, -, -, -, hsigM⟩ := Cond.code_spec hnamed hcode
  cases hmethM.symm.trans hmethM'
  obtain ⟨c2, r2, m2, q1, q2, q3, q4, kP, hkP, hkPi⟩ := Cond.selects_spec hsel
  cases hcls.symm.trans q1
  cases (State.methodFound?_of_named hnamed hy).symm.trans q2
  cases hnamed.symm.trans q3
  have hselP : selectMethod e.platform s.vm cellB.cls mk = .method mk := by rw [Launch.admits_selectMethod X.admits]; exact q4
  obtain ⟨vm₁, X₁, hstep₁⟩ := X.invokevirtual hexec hown hlink hnamed hmethM hstM hkP hkPi hy (a := b) (cell := cellB) hcell
    (fun z h => by rw [h] at hobj; cases hobj) hselP hmethM habM hkP hkPi (g := g) hg (argsL := argsL) (rest := rest) (hlen _ hsigM) hstack hdg
  rcases hK m meth c ⟨T.setVm vm₁, locs, cells, slots⟩ { g with stack := rest } (.invokevirtual index) mk (Value.ref b :: argsL).toArray X₁ hg hsize hdg hW (X₁.named hnamed) (hpre vm₁ X₁.warmed) with ⟨v, B, X', hpost, hsteps⟩ | ⟨q, B, X', hpost, hsteps⟩
  · exact Or.inl ⟨v, vm₁, B, X₁.warmed, X', hpost, fun target h => hstep₁ _ fun acts => by rw [doInvoke_state]; exact hsteps.trans h⟩
  · exact Or.inr ⟨q, vm₁, B, X₁.warmed, X', hpost, hstep₁ _ fun acts => by rw [doInvoke_state]; exact hsteps⟩
theorem vx_callS (X : Stand p l e R s m args below meth c T locs cells slots) (hexec : p.tables.exec = Jvm.exec) {own : String} {index : Nat} {y : MethodName} {bytes : ByteArray} {maxL : Nat} {ret : Option FieldType}
    (hown : s.vm.findClass own = some m.cls) (hlink : (Cond.methodLink own index y).before args s = true) (hstat : (Cond.static y).before args s = true) (hinit : (Cond.initialized y.cls).before args s = true)
    (hcode : (Cond.code y bytes maxL ret).before args s = true) (hy : y.cls ≠ "java/lang/invoke/MethodHandle" ∧ y.cls ≠ "java/lang/invoke/VarHandle")
    {W9 : Nat} {Pre : Pt → Array Value → Prop} {Post : Pt → Array Value → Option Value → Pt → Prop} {PostX : Pt → Array Value → Addr → Pt → Prop} (hK : vx_Back l R p e below s args y 3 W9 Pre Post PostX)
    {g : JFrame} (hg : g.method = m) (hsize : g.locals.size = c.maxLocals) {argsL rest : List Value} (hlen : ∀ sig, parseMethodDescriptor y.desc = some sig → argsL.length = sig.parameters.length)
    (hstack : g.stack = argsL.reverse ++ rest) (hW : 2 * g.monitorRoom + (rest.map fun v => v.category).sum ≤ W9) (hdg : decode c.code g.pc = .ok (.invokestatic index, 3))
    (hpre : ∀ vm₁, s.WarmedH vm₁ → Pre ⟨T.setVm vm₁, locs, cells, slots⟩ argsL.toArray) :
    (∃ (v : Option Value) (vm₁ : Vm) (B : Pt), s.WarmedH vm₁ ∧ Stand p l e R s m args below meth c B.U B.locs B.cells B.slots ∧ Post ⟨T.setVm vm₁, locs, cells, slots⟩ argsL.toArray v B ∧
      ∀ target, Steps p.tables e below (B.U.setTop { g with pc := g.pc + 3, stack := v.toList ++ rest }) target → Steps p.tables e below (T.setTop g) target) ∨
    (∃ (q : Addr) (vm₁ : Vm) (B : Pt), s.WarmedH vm₁ ∧ Stand p l e R s m args below meth c B.U B.locs B.cells B.slots ∧ PostX ⟨T.setVm vm₁, locs, cells, slots⟩ argsL.toArray q B ∧
      Steps p.tables e below (T.setTop g) ((B.U.setTop { g with stack := rest }).pushFrame (.throwing q))) := by
  obtain ⟨mk, hnamed⟩ := Cond.code_named hcode
  obtain ⟨methM, cM, hmethM, -, -, -, -, -, -, hsigM⟩ := Cond.code_spec hnamed hcode
  have hstatic : methM.isStatic = true := Cond.static_spec hnamed hmethM hstat
  obtain ⟨kP, hkP, -⟩ := className_of_methodNamed hnamed
  have hinitP : kP.init = .initialized := Cond.initialized_spec (findClass_of_methodNamed hnamed) hkP hinit
  obtain ⟨vm₁, X₁, hstep₁⟩ := X.invokestatic hexec hown hlink hnamed hmethM hstatic hkP hinitP hy (g := g) hg (argsL := argsL) (rest := rest) (hlen _ hsigM) hstack hdg
  rcases hK m meth c ⟨T.setVm vm₁, locs, cells, slots⟩ { g with stack := rest } (.invokestatic index) mk argsL.toArray X₁ hg hsize hdg hW (X₁.named hnamed) (hpre vm₁ X₁.warmed) with ⟨v, B, X', hpost, hsteps⟩ | ⟨q, B, X', hpost, hsteps⟩
  · exact Or.inl ⟨v, vm₁, B, X₁.warmed, X', hpost, fun target h => hstep₁ _ fun acts => by rw [doInvoke_state]; exact hsteps.trans h⟩
  · exact Or.inr ⟨q, vm₁, B, X₁.warmed, X', hpost, hstep₁ _ fun acts => by rw [doInvoke_state]; exact hsteps⟩
end Calls
theorem vx_cls {s : State} {T : State} {vm₁ : Vm} {E : String} {k : ClassId} (hW : s.WarmedH vm₁) (h : (T.setVm vm₁).vm.findClass E = some k) : s.vm.findClass E = some k := by
  have h1 : vm₁.findClass E = some k := h
  rw [hW.alike.findClass] at h1
  exact h1
/-- the method's frame g, with q thrown over it -/
def vx_W (p : Program) (l : Launch) (e : Env) (R : Room) (s : State) (m : MethodId) (args : Array Value) (below : List Frame) (meth : Method) (c : Code) (H : Heap) (locs : List Loc) (cells slots : Nat) (Q : State → Prop) (g : JFrame) (q : Addr) : Prop :=
  ∀ T : State, T.heap = H → Stand p l e R s m args below meth c T locs cells slots → ∃ t, Steps p.tables e below ((T.setTop g).pushFrame (.throwing q)) t ∧ Q t
def vx_Run (p : Program) (l : Launch) (e : Env) (R : Room) (s : State) (m : MethodId) (args : Array Value) (below : List Frame) (meth : Method) (c : Code) (H : Heap) (locs : List Loc) (cells slots mc ms : Nat) (g : JFrame) (rest : List Value) (Qa : State → Outcome → State → Prop) (XC : String → State → State → Prop) (free : Addr → Prop) : Prop :=
  ∀ T : State, T.heap = H → Stand p l e R s m args below meth c T locs cells slots →
    (∃ (v : Option Value) (st₀ t T' : State) (L : List Loc), st₀.heap = H ∧ Stand p l e R s m args below meth c T' (locs ++ L) (cells + mc) (slots + ms) ∧ (∀ q ∈ L, free q.base) ∧ T'.heap = t.heap ∧ T'.vm = t.vm ∧ Qa st₀ (.returned v) t ∧
      Goes p e below T g T' { g with pc := g.pc + 3, stack := v.toList ++ rest }) ∨
    (∃ (q : Addr) (st₀ t T' : State) (L : List Loc) (E : String) (ce : Cell), st₀.heap = H ∧ Stand p l e R s m args below meth c T' (locs ++ L) (cells + mc) (slots + ms) ∧ (∀ z ∈ L, free z.base) ∧ T'.heap = t.heap ∧ T'.vm = t.vm ∧ XC E st₀ t ∧ t.heap[q]? = some ce ∧ ce.vm = .none ∧ s.vm.findClass E = some ce.cls ∧
      Steps p.tables e below (T.setTop g) ((T'.setTop { g with stack := rest }).pushFrame (.throwing q)))
def vx_X {S : Type} (px : S → Prop) (B : String → S → State → Prop) (A : Nat → Prop) : String → State → State → Prop := fun E st t => ∃ u : S, px u ∧ B E u t ∧ va_F A st t
section Runs
variable {p : Program} {l : Launch} {e : Env} {R : Room} {s : State} {m : MethodId} {args : Array Value} {below : List Frame} {meth : Method} {c : Code} {H : Heap} {locs : List Loc} {cells slots : Nat}
variable {y : MethodName} {bytes cc : ByteArray} {maxL nL mc ms n index : Nat} {ret : Option FieldType} {ws : List Cond} {rm : Room} {Pc : Array Value → State → Prop} {Qc : Array Value → State → Outcome → State → Prop} {XC : String → State → State → Prop} {free : Addr → Prop} {Ts : List Cond} {own C : String} {b : Addr} {As rest : List Value} {g : JFrame}
theorem vx_callBack (cb : CallB R s args own index y bytes maxL ret ws rm mc ms n) (hM : vx_Met l y ws rm Pc Qc XC mc ms free) (hbl : FrameBlind Pc) : vx_Back l R p e below s args y 3 8 (PreOf R mc ms Pc) (PostOf Qc mc ms free) (vx_Post XC mc ms free) := by
  obtain ⟨hrc, hrs, hfr, hlo, hws, hcw, -, hini, -⟩ := cb
  exact vx_back (bytes := bytes) (maxL := maxL) (ret := ret) hM hbl hrc hrs hfr hlo hws hcw (fun a' U hW => word_at hW (Or.inl (by first | rfl | simp [Cond.onTables, Cond.keeps, Cond.steady])) hini)
theorem vx_runV (S : CallFix p m c cc nL s args Ts own) (hM : vx_Met l y ws rm Pc Qc XC mc ms free) (cw : CallW R s args own C index y bytes maxL ret ws rm mc ms n) (hp : PreV s H C b Pc As)
    (hg : g.method = m) (hn : As.length = n) (hsize : g.locals.size = nL) (hstack : g.stack = As.reverse ++ .ref b :: rest) (hW : 2 * g.monitorRoom + (rest.map fun v => v.category).sum ≤ 8) (hdg : decode cc g.pc = .ok (.invokevirtual index, 3)) (hf : cells + mc ≤ R.cells ∧ slots + ms ≤ R.slots) :
    vx_Run p l e R s m args below meth c H locs cells slots mc ms g rest (Qc (Value.ref b :: As).toArray) XC free := by
  have hK : vx_Back l R p e below s args y 3 8 (PreOf R mc ms Pc) (PostOf Qc mc ms free) (vx_Post XC mc ms free) := vx_callBack cw.1 hM hp.1
  obtain ⟨⟨-, -, -, -, -, -, hcode, -, hy, hlen, hl⟩, hin, hse⟩ := cw
  obtain ⟨hx, hb, hml, ho, -⟩ := S
  obtain ⟨-, ⟨cellB, hcB, hoB, hclB⟩, hPc⟩ := hp
  intro T hT X
  rcases vx_callV X hx (C := C) (bytes := bytes) (maxL := maxL) (ret := ret) ho hl hin hse hcode hy hK (by rw [hT]; exact hcB) hoB hclB hg (hsize.trans hml.symm) (argsL := As) (rest := rest) (fun sig h => hn.trans (hlen sig h)) hstack hW (by rw [hb]; exact hdg)
    (fun vm₁ hW₁ => ⟨hf.1, hf.2, hPc (T.setVm vm₁) hT hW₁⟩) with ⟨v, vm₁, ⟨U', l2, c2, s2⟩, hW₁, X', ⟨g', mk, t, L, e1, e2, hq, h1, hL, h2, h3⟩, st⟩ | ⟨q, vm₁, ⟨U', l2, c2, s2⟩, hW₁, X', ⟨g', mk, t, L, E, ce, e1, e2, hq, hce, hcv, hcl, h1, hL, h2, h3⟩, st⟩
  · dsimp only [Pt.U, Pt.locs, Pt.cells, Pt.slots] at X' e1 e2 h1 h2 h3 st
    subst h1; subst h2; subst h3
    exact Or.inl ⟨v, (T.setVm vm₁).calling g' mk (Value.ref b :: As).toArray, t, U', L, hT, X', hL, e1, e2, hq, st⟩
  · dsimp only [Pt.U, Pt.locs, Pt.cells, Pt.slots] at X' e1 e2 h1 h2 h3 st hcl
    subst h1; subst h2; subst h3
    exact Or.inr ⟨q, (T.setVm vm₁).calling g' mk (Value.ref b :: As).toArray, t, U', L, E, ce, hT, X', hL, e1, e2, hq, hce, hcv, vx_cls hW₁ hcl, st⟩
theorem vx_runS (S : CallFix p m c cc nL s args Ts own) (hM : vx_Met l y ws rm Pc Qc XC mc ms free) (cw : CallB R s args own index y bytes maxL ret ws rm mc ms n ∧ (Cond.static y).before args s = true) (hp : PreS s H Pc As)
    (hg : g.method = m) (hn : As.length = n) (hsize : g.locals.size = nL) (hstack : g.stack = As.reverse ++ rest) (hW : 2 * g.monitorRoom + (rest.map fun v => v.category).sum ≤ 8) (hdg : decode cc g.pc = .ok (.invokestatic index, 3)) (hf : cells + mc ≤ R.cells ∧ slots + ms ≤ R.slots) :
    vx_Run p l e R s m args below meth c H locs cells slots mc ms g rest (Qc As.toArray) XC free := by
  have hK : vx_Back l R p e below s args y 3 8 (PreOf R mc ms Pc) (PostOf Qc mc ms free) (vx_Post XC mc ms free) := vx_callBack cw.1 hM hp.1
  obtain ⟨⟨-, -, -, -, -, -, hcode, hini, hy, hlen, hl⟩, hstt⟩ := cw
  obtain ⟨hx, hb, hml, ho, -⟩ := S
  intro T hT X
  rcases vx_callS X hx (bytes := bytes) (maxL := maxL) (ret := ret) ho hl hstt hini hcode hy hK hg (hsize.trans hml.symm) (argsL := As) (rest := rest) (fun sig h => hn.trans (hlen sig h)) hstack hW (by rw [hb]; exact hdg)
    (fun vm₁ hW₁ => ⟨hf.1, hf.2, hp.2 (T.setVm vm₁) hT hW₁⟩) with ⟨v, vm₁, ⟨U', l2, c2, s2⟩, hW₁, X', ⟨g', mk, t, L, e1, e2, hq, h1, hL, h2, h3⟩, st⟩ | ⟨q, vm₁, ⟨U', l2, c2, s2⟩, hW₁, X', ⟨g', mk, t, L, E, ce, e1, e2, hq, hce, hcv, hcl, h1, hL, h2, h3⟩, st⟩
  · dsimp only [Pt.U, Pt.locs, Pt.cells, Pt.slots] at X' e1 e2 h1 h2 h3 st
    subst h1; subst h2; subst h3
    exact Or.inl ⟨v, (T.setVm vm₁).calling g' mk As.toArray, t, U', L, hT, X', hL, e1, e2, hq, st⟩
  · dsimp only [Pt.U, Pt.locs, Pt.cells, Pt.slots] at X' e1 e2 h1 h2 h3 st hcl
    subst h1; subst h2; subst h3
    exact Or.inr ⟨q, (T.setVm vm₁).calling g' mk As.toArray, t, U', L, E, ce, hT, X', hL, e1, e2, hq, hce, hcv, vx_cls hW₁ hcl, st⟩
end Runs
section Rows
variable {p : Program} {l : Launch} {e : Env} {R : Room} {s : State} {m : MethodId} {args : Array Value} {below : List Frame} {meth : Method} {c : Code} {H : Heap} {locs : List Loc} {cells slots : Nat} {Q : State → Prop}
variable {mc ms : Nat} {free : Addr → Prop} {A0 A1 : Nat → Prop} {H0 : Heap} {a : Array Value} {pc : Nat} {ls : Array Slot} {st0 rest : List Value}
theorem vx_keep {st₀ t T' : State} {L : List Loc} (h0 : st₀.heap = H) (e1 : T'.heap = t.heap) (hS : va_S A0 H0 H locs) (hA : ∀ q, q < H.size → A1 q → A0 q) (hf : ∀ q, free q → A0 q) (hL : ∀ q ∈ L, free q.base) (hF : va_F A1 st₀ t) :
    H.size ≤ T'.heap.size ∧ (∀ q : Nat, q < H.size → ¬ A1 q → T'.heap[q]? = H[q]?) ∧ va_S A0 H0 T'.heap (locs ++ L) := by
  obtain ⟨hz, hk⟩ := hF
  rw [h0] at hz hk
  exact ⟨by rw [e1]; exact hz, fun q h1 h2 => by rw [e1]; exact hk q h1 h2,
    ⟨Nat.le_trans hS.1 (by rw [e1]; exact hz), fun q h1 h2 => by rw [e1, hk q (Nat.lt_of_lt_of_le h1 hS.1) (fun z => h2 (hA q (Nat.lt_of_lt_of_le h1 hS.1) z))]; exact hS.2.1 q h1 h2, fun q hq => by
      rcases List.mem_append.mp hq with h | h
      · exact hS.2.2 q h
      · exact hf _ (hL q h)⟩⟩
theorem vx_calli {S SX : Type} {post : Int32 → S → Prop} {px : SX → Prop} {B : S → State → Prop} {BX : String → SX → State → Prop} {AX : Nat → Prop} (hr : vx_Run p l e R s m args below meth c H locs cells slots mc ms (F0 m pc ls st0) rest (va_Qi post B A1 a) (vx_X px BX AX) free) (hS : va_S A0 H0 H locs) (hA : ∀ q, q < H.size → A1 q → A0 q) (hf : ∀ q, free q → A0 q) (hAX : ∀ q, q < H.size → AX q → A0 q)
    (kx : ∀ (E : String) (ce : Cell) (q9 : Addr) (u : SX) (t : State) (H1 : Heap) (locs1 : List Loc), t.heap = H1 → s.vm.Alike t.vm → px u → BX E u t → H.size ≤ H1.size → (∀ q : Nat, q < H.size → ¬ AX q → H1[q]? = H[q]?) → va_S A0 H0 H1 locs1 → H1[q9]? = some ce → ce.vm = .none → s.vm.findClass E = some ce.cls → vx_W p l e R s m args below meth c H1 locs1 (cells + mc) (slots + ms) Q (F0 m pc ls rest) q9)
    (kk : ∀ (r : Int32) (u : S) (t : State) (H1 : Heap) (locs1 : List Loc), t.heap = H1 → s.vm.Alike t.vm → post r u → B u t → H.size ≤ H1.size → (∀ q : Nat, q < H.size → ¬ A1 q → H1[q]? = H[q]?) → va_S A0 H0 H1 locs1 → W p l e R s m args below meth c H1 locs1 (cells + mc) (slots + ms) Q (F0 m (pc + 3) ls (.int r :: rest))) : W p l e R s m args below meth c H locs cells slots Q (F0 m pc ls st0) := by
  intro T hT X
  rcases hr T hT X with ⟨v, st₀, t, T', L, h0, X', hL, e1, e2, ⟨⟨r, u, hv, hp, hb⟩, hF⟩, st⟩ | ⟨q, st₀, t, T', L, E, ce, h0, X', hL, e1, e2, ⟨u, hp, hb, hF⟩, hce, hcv, hcl, st⟩
  · cases hv
    obtain ⟨k1, k2, k3⟩ := vx_keep h0 e1 hS hA hf hL hF
    obtain ⟨t2, a1, b1⟩ := kk r u t T'.heap (locs ++ L) e1.symm (by rw [← e2]; exact X'.warmed.alike) hp hb k1 k2 k3 T' rfl X'
    exact ⟨t2, st t2 a1, b1⟩
  · obtain ⟨k1, k2, k3⟩ := vx_keep h0 e1 hS hAX hf hL hF
    obtain ⟨t2, a1, b1⟩ := kx E ce q u t T'.heap (locs ++ L) e1.symm (by rw [← e2]; exact X'.warmed.alike) hp hb k1 k2 k3 (by rw [e1]; exact hce) hcv hcl T' rfl X'
    exact ⟨t2, st.trans a1, b1⟩
theorem vx_calll {S SX : Type} {post : Int64 → S → Prop} {px : SX → Prop} {B : S → State → Prop} {BX : String → SX → State → Prop} {AX : Nat → Prop} (hr : vx_Run p l e R s m args below meth c H locs cells slots mc ms (F0 m pc ls st0) rest (va_Ql post B A1 a) (vx_X px BX AX) free) (hS : va_S A0 H0 H locs) (hA : ∀ q, q < H.size → A1 q → A0 q) (hf : ∀ q, free q → A0 q) (hAX : ∀ q, q < H.size → AX q → A0 q)
    (kx : ∀ (E : String) (ce : Cell) (q9 : Addr) (u : SX) (t : State) (H1 : Heap) (locs1 : List Loc), t.heap = H1 → s.vm.Alike t.vm → px u → BX E u t → H.size ≤ H1.size → (∀ q : Nat, q < H.size → ¬ AX q → H1[q]? = H[q]?) → va_S A0 H0 H1 locs1 → H1[q9]? = some ce → ce.vm = .none → s.vm.findClass E = some ce.cls → vx_W p l e R s m args below meth c H1 locs1 (cells + mc) (slots + ms) Q (F0 m pc ls rest) q9)
    (kk : ∀ (r : Int64) (u : S) (t : State) (H1 : Heap) (locs1 : List Loc), t.heap = H1 → s.vm.Alike t.vm → post r u → B u t → H.size ≤ H1.size → (∀ q : Nat, q < H.size → ¬ A1 q → H1[q]? = H[q]?) → va_S A0 H0 H1 locs1 → W p l e R s m args below meth c H1 locs1 (cells + mc) (slots + ms) Q (F0 m (pc + 3) ls (.long r :: rest))) : W p l e R s m args below meth c H locs cells slots Q (F0 m pc ls st0) := by
  intro T hT X
  rcases hr T hT X with ⟨v, st₀, t, T', L, h0, X', hL, e1, e2, ⟨⟨r, u, hv, hp, hb⟩, hF⟩, st⟩ | ⟨q, st₀, t, T', L, E, ce, h0, X', hL, e1, e2, ⟨u, hp, hb, hF⟩, hce, hcv, hcl, st⟩
  · cases hv
    obtain ⟨k1, k2, k3⟩ := vx_keep h0 e1 hS hA hf hL hF
    obtain ⟨t2, a1, b1⟩ := kk r u t T'.heap (locs ++ L) e1.symm (by rw [← e2]; exact X'.warmed.alike) hp hb k1 k2 k3 T' rfl X'
    exact ⟨t2, st t2 a1, b1⟩
  · obtain ⟨k1, k2, k3⟩ := vx_keep h0 e1 hS hAX hf hL hF
    obtain ⟨t2, a1, b1⟩ := kx E ce q u t T'.heap (locs ++ L) e1.symm (by rw [← e2]; exact X'.warmed.alike) hp hb k1 k2 k3 (by rw [e1]; exact hce) hcv hcl T' rfl X'
    exact ⟨t2, st.trans a1, b1⟩
theorem vx_callf {S SX : Type} {post : UInt32 → S → Prop} {px : SX → Prop} {B : S → State → Prop} {BX : String → SX → State → Prop} {AX : Nat → Prop} (hr : vx_Run p l e R s m args below meth c H locs cells slots mc ms (F0 m pc ls st0) rest (va_Qf post B A1 a) (vx_X px BX AX) free) (hS : va_S A0 H0 H locs) (hA : ∀ q, q < H.size → A1 q → A0 q) (hf : ∀ q, free q → A0 q) (hAX : ∀ q, q < H.size → AX q → A0 q)
    (kx : ∀ (E : String) (ce : Cell) (q9 : Addr) (u : SX) (t : State) (H1 : Heap) (locs1 : List Loc), t.heap = H1 → s.vm.Alike t.vm → px u → BX E u t → H.size ≤ H1.size → (∀ q : Nat, q < H.size → ¬ AX q → H1[q]? = H[q]?) → va_S A0 H0 H1 locs1 → H1[q9]? = some ce → ce.vm = .none → s.vm.findClass E = some ce.cls → vx_W p l e R s m args below meth c H1 locs1 (cells + mc) (slots + ms) Q (F0 m pc ls rest) q9)
    (kk : ∀ (r : UInt32) (u : S) (t : State) (H1 : Heap) (locs1 : List Loc), t.heap = H1 → s.vm.Alike t.vm → post r u → B u t → H.size ≤ H1.size → (∀ q : Nat, q < H.size → ¬ A1 q → H1[q]? = H[q]?) → va_S A0 H0 H1 locs1 → W p l e R s m args below meth c H1 locs1 (cells + mc) (slots + ms) Q (F0 m (pc + 3) ls (.float r :: rest))) : W p l e R s m args below meth c H locs cells slots Q (F0 m pc ls st0) := by
  intro T hT X
  rcases hr T hT X with ⟨v, st₀, t, T', L, h0, X', hL, e1, e2, ⟨⟨r, u, hv, hp, hb⟩, hF⟩, st⟩ | ⟨q, st₀, t, T', L, E, ce, h0, X', hL, e1, e2, ⟨u, hp, hb, hF⟩, hce, hcv, hcl, st⟩
  · cases hv
    obtain ⟨k1, k2, k3⟩ := vx_keep h0 e1 hS hA hf hL hF
    obtain ⟨t2, a1, b1⟩ := kk r u t T'.heap (locs ++ L) e1.symm (by rw [← e2]; exact X'.warmed.alike) hp hb k1 k2 k3 T' rfl X'
    exact ⟨t2, st t2 a1, b1⟩
  · obtain ⟨k1, k2, k3⟩ := vx_keep h0 e1 hS hAX hf hL hF
    obtain ⟨t2, a1, b1⟩ := kx E ce q u t T'.heap (locs ++ L) e1.symm (by rw [← e2]; exact X'.warmed.alike) hp hb k1 k2 k3 (by rw [e1]; exact hce) hcv hcl T' rfl X'
    exact ⟨t2, st.trans a1, b1⟩
theorem vx_calld {S SX : Type} {post : UInt64 → S → Prop} {px : SX → Prop} {B : S → State → Prop} {BX : String → SX → State → Prop} {AX : Nat → Prop} (hr : vx_Run p l e R s m args below meth c H locs cells slots mc ms (F0 m pc ls st0) rest (va_Qd post B A1 a) (vx_X px BX AX) free) (hS : va_S A0 H0 H locs) (hA : ∀ q, q < H.size → A1 q → A0 q) (hf : ∀ q, free q → A0 q) (hAX : ∀ q, q < H.size → AX q → A0 q)
    (kx : ∀ (E : String) (ce : Cell) (q9 : Addr) (u : SX) (t : State) (H1 : Heap) (locs1 : List Loc), t.heap = H1 → s.vm.Alike t.vm → px u → BX E u t → H.size ≤ H1.size → (∀ q : Nat, q < H.size → ¬ AX q → H1[q]? = H[q]?) → va_S A0 H0 H1 locs1 → H1[q9]? = some ce → ce.vm = .none → s.vm.findClass E = some ce.cls → vx_W p l e R s m args below meth c H1 locs1 (cells + mc) (slots + ms) Q (F0 m pc ls rest) q9)
    (kk : ∀ (r : UInt64) (u : S) (t : State) (H1 : Heap) (locs1 : List Loc), t.heap = H1 → s.vm.Alike t.vm → post r u → B u t → H.size ≤ H1.size → (∀ q : Nat, q < H.size → ¬ A1 q → H1[q]? = H[q]?) → va_S A0 H0 H1 locs1 → W p l e R s m args below meth c H1 locs1 (cells + mc) (slots + ms) Q (F0 m (pc + 3) ls (.double r :: rest))) : W p l e R s m args below meth c H locs cells slots Q (F0 m pc ls st0) := by
  intro T hT X
  rcases hr T hT X with ⟨v, st₀, t, T', L, h0, X', hL, e1, e2, ⟨⟨r, u, hv, hp, hb⟩, hF⟩, st⟩ | ⟨q, st₀, t, T', L, E, ce, h0, X', hL, e1, e2, ⟨u, hp, hb, hF⟩, hce, hcv, hcl, st⟩
  · cases hv
    obtain ⟨k1, k2, k3⟩ := vx_keep h0 e1 hS hA hf hL hF
    obtain ⟨t2, a1, b1⟩ := kk r u t T'.heap (locs ++ L) e1.symm (by rw [← e2]; exact X'.warmed.alike) hp hb k1 k2 k3 T' rfl X'
    exact ⟨t2, st t2 a1, b1⟩
  · obtain ⟨k1, k2, k3⟩ := vx_keep h0 e1 hS hAX hf hL hF
    obtain ⟨t2, a1, b1⟩ := kx E ce q u t T'.heap (locs ++ L) e1.symm (by rw [← e2]; exact X'.warmed.alike) hp hb k1 k2 k3 (by rw [e1]; exact hce) hcv hcl T' rfl X'
    exact ⟨t2, st.trans a1, b1⟩
theorem vx_callv {S SX : Type} {post : S → Prop} {px : SX → Prop} {B : S → State → Prop} {BX : String → SX → State → Prop} {AX : Nat → Prop} (hr : vx_Run p l e R s m args below meth c H locs cells slots mc ms (F0 m pc ls st0) rest (va_Qv post B A1 a) (vx_X px BX AX) free) (hS : va_S A0 H0 H locs) (hA : ∀ q, q < H.size → A1 q → A0 q) (hf : ∀ q, free q → A0 q) (hAX : ∀ q, q < H.size → AX q → A0 q)
    (kx : ∀ (E : String) (ce : Cell) (q9 : Addr) (u : SX) (t : State) (H1 : Heap) (locs1 : List Loc), t.heap = H1 → s.vm.Alike t.vm → px u → BX E u t → H.size ≤ H1.size → (∀ q : Nat, q < H.size → ¬ AX q → H1[q]? = H[q]?) → va_S A0 H0 H1 locs1 → H1[q9]? = some ce → ce.vm = .none → s.vm.findClass E = some ce.cls → vx_W p l e R s m args below meth c H1 locs1 (cells + mc) (slots + ms) Q (F0 m pc ls rest) q9)
    (kk : ∀ (u : S) (t : State) (H1 : Heap) (locs1 : List Loc), t.heap = H1 → s.vm.Alike t.vm → post u → B u t → H.size ≤ H1.size → (∀ q : Nat, q < H.size → ¬ A1 q → H1[q]? = H[q]?) → va_S A0 H0 H1 locs1 → W p l e R s m args below meth c H1 locs1 (cells + mc) (slots + ms) Q (F0 m (pc + 3) ls (rest))) : W p l e R s m args below meth c H locs cells slots Q (F0 m pc ls st0) := by
  intro T hT X
  rcases hr T hT X with ⟨v, st₀, t, T', L, h0, X', hL, e1, e2, ⟨⟨u, hv, hp, hb⟩, hF⟩, st⟩ | ⟨q, st₀, t, T', L, E, ce, h0, X', hL, e1, e2, ⟨u, hp, hb, hF⟩, hce, hcv, hcl, st⟩
  · cases hv
    obtain ⟨k1, k2, k3⟩ := vx_keep h0 e1 hS hA hf hL hF
    obtain ⟨t2, a1, b1⟩ := kk u t T'.heap (locs ++ L) e1.symm (by rw [← e2]; exact X'.warmed.alike) hp hb k1 k2 k3 T' rfl X'
    exact ⟨t2, st t2 a1, b1⟩
  · obtain ⟨k1, k2, k3⟩ := vx_keep h0 e1 hS hAX hf hL hF
    obtain ⟨t2, a1, b1⟩ := kx E ce q u t T'.heap (locs ++ L) e1.symm (by rw [← e2]; exact X'.warmed.alike) hp hb k1 k2 k3 (by rw [e1]; exact hce) hcv hcl T' rfl X'
    exact ⟨t2, st.trans a1, b1⟩
/-- caught by the row x of this method's table; the rows ahead don't take it -/
theorem vx_catch {own name : String} {E : String} {ce : Cell} {q : Addr} (hown : s.vm.findClass own = some m.cls) (pre : List ExceptionTableEntry) (x : ExceptionTableEntry) (suf : List ExceptionTableEntry) (hsplit : c.exceptionTable.toList = pre ++ x :: suf)
    (hpass : ∀ z ∈ pre, covers z pc = false ∨ (z.catchType ≠ 0 ∧ ∃ nm : String, (Cond.classLink own z.catchType nm).before args s = true ∧ va_Nc E nm s)) (hx : covers x pc = true) (h0 : x.catchType ≠ 0)
    (hlink : (Cond.classLink own x.catchType name).before args s = true) (hcast : (Cond.castable E name).before args s = true) (hcell : H[q]? = some ce) (hv : ce.vm = .none) (hcl : s.vm.findClass E = some ce.cls)
    (kk : W p l e R s m args below meth c H locs cells slots Q (F0 m x.handlerPc ls [.ref q])) : vx_W p l e R s m args below meth c H locs cells slots Q (F0 m pc ls rest) q := by
  intro T hT X
  have hpl : e.platform.magicAccessors = ({} : Platform).magicAccessors := by rw [X.admits.platform]
  obtain ⟨c3, c4, hc3, hc4, hasg⟩ := Cond.castable_spec hcast
  cases Option.some.inj (hc3.symm.trans hcl)
  obtain ⟨c5, hc5, hcl5⟩ := Cond.classLink_spec hown hlink e.platform hpl
  cases Option.some.inj (hc4.symm.trans hc5)
  obtain ⟨vm', X', st⟩ := zc_caught X q (g := F0 m pc ls rest) rfl (by rw [hT]; exact hcell) (by rw [hv]; rfl) (by obtain ⟨k9, h9, -⟩ := Vm.findClass_spec hcl; exact ⟨k9, h9⟩) pre x suf hsplit
    (fun z hz => by
      rcases hpass z hz with h | ⟨hz0, nm, hl1, hn1⟩
      · exact Or.inl h
      · obtain ⟨c6, hc6, hcl6⟩ := Cond.classLink_spec hown hl1 e.platform hpl
        obtain ⟨a8, b8, h1, h2, h3⟩ := hn1
        cases Option.some.inj (h1.symm.trans hcl)
        cases Option.some.inj (h2.symm.trans hc6)
        exact Or.inr ⟨hz0, _, hcl6, h3⟩) hx h0 hcl5 hasg
  obtain ⟨t, a1, b1⟩ := kk (T.setVm vm') hT X'
  exact ⟨t, st.trans a1, b1⟩
end Rows
section Ends
variable {p : Program} {l : Launch} {e : Env} {R : Room} {s : State} {m : MethodId} {args : Array Value} {below : List Frame} {meth : Method} {c : Code} {H : Heap} {locs : List Loc} {cells slots : Nat} {Q : State → Prop}
variable {mc ms : Nat} {free : Addr → Prop} {A0 A1 : Nat → Prop} {H0 : Heap} {a : Array Value} {ls : Array Slot} {st0 rest : List Value}
variable {Qc : Array Value → State → Outcome → State → Prop} {XC : String → State → State → Prop}
/-- what a body that may throw owes at its end -/
def vx_MQ (below : List Frame) (Qc : Array Value → State → Outcome → State → Prop) (XC : String → State → State → Prop) (a : Array Value) (s : State) (mc ms : Nat) (free : Addr → Prop) : State → Prop := fun t =>
  ∃ o, t.status = .running ∧ Ended t below o ∧ vx_Q Qc XC mc ms free a s o t
theorem vx_ret {g : JFrame} {mc ms : Nat} (k : W p l e R s m args below meth c H locs cells slots (MQ below Qc args s mc ms free) g) : W p l e R s m args below meth c H locs cells slots (vx_MQ below Qc XC args s mc ms free) g := by
  intro T hT X
  obtain ⟨t, a1, o, b1, b2, b3, b4⟩ := k T hT X
  exact ⟨t, a1, o, b1, b2, Or.inl ⟨b3, b4⟩⟩
/-- not caught here: it goes on to the caller -/
theorem vx_widen {g : JFrame} {q : Addr} {k n : Nat} (h1 : cells ≤ k) (h2 : slots ≤ n) (kk : vx_W p l e R s m args below meth c H locs k n Q g q) : vx_W p l e R s m args below meth c H locs cells slots Q g q := fun T hT X => kk T hT (stand_widen X h1 h2)
theorem vx_out {pc : Nat} {E : String} {ce : Cell} {q : Addr} {mc ms : Nat} (hout : ∀ x ∈ c.exceptionTable.toList, covers x pc = false) (hlocks : meth.locks = false) (hcell : H[q]? = some ce) (hv : ce.vm = .none) (hcl : s.vm.findClass E = some ce.cls)
    (hx : ∀ t : State, t.heap = H → s.vm.Alike t.vm → XC E s t) (hf : ∀ z ∈ locs, free z.base) (hc : cells ≤ mc) (hs : slots ≤ ms) :
    vx_W p l e R s m args below meth c H locs cells slots (vx_MQ below Qc XC args s mc ms free) (F0 m pc ls rest) q := by
  intro T hT X
  obtain ⟨st1, hrun, hend, hW, hsm⟩ := X.leaveThrown q (g := F0 m pc ls rest) rfl rfl rfl hout hlocks
  have hcell9 : (T.setFrames (.throwing q :: below)).heap[q]? = some ce := by
    show T.heap[q]? = some ce
    rw [hT]; exact hcell
  exact ⟨_, st1, .threw q, hrun, hend, Or.inr ⟨q, rfl, E, ce, locs, hx _ hT hW.alike, hcell9, hv, hcl, hW, hsm.mono hc hs, hf⟩⟩
theorem vx_frame {U : State} {k n : Nat} (h : s.sameButNew ({ U with vm := s.vm } : State) locs k n) : s.heap.size ≤ U.heap.size ∧ ∀ q : Nat, q < s.heap.size → (∀ z ∈ locs, z.base ≠ q) → U.heap[q]? = s.heap[q]? := by
  obtain ⟨-, h2, -, -, -, h6⟩ := h
  refine ⟨h2, fun q hq hz => ?_⟩
  obtain ⟨c9, e1, e2, e3, e4⟩ := h6 q _ (Array.getElem?_eq_getElem hq)
  have hs : c9.slots = (s.heap[q]).slots := Array.ext_getElem? fun i => e4 i fun hm => hz _ hm rfl
  have h9 : c9 = s.heap[q] := by
    rw [hs] at e2
    exact e2
  have e5 : U.heap[q]? = some c9 := e1
  rw [e5, h9, Array.getElem?_eq_getElem hq]
/-- the words of a throw but the four that speak of the heap -/
def vx_no (w : Cond) : Bool := decide (w ≠ .isRef (.static Bundle.tN "UNASSIGNED_STACK" Bundle.steD)) && decide (w ≠ .isRef (.static Bundle.tN "SUPPRESSED_SENTINEL" Bundle.listD)) && decide (w ≠ .laysStatic Bundle.tN "UNASSIGNED_STACK" Bundle.steD) && decide (w ≠ .laysStatic Bundle.tN "SUPPRESSED_SENTINEL" Bundle.listD)
def vx_at0 (own : String) (ic : Nat) (X : String) (names : List String) : List Cond := (Bundle.ownAtoms0 own ic X names).filter vx_no
def vx_atS (own : String) (ic : Nat) (X : String) (names : List String) : List Cond := (Bundle.ownAtoms own ic X names).filter vx_no
/-- a word that the tables alone decide, or a good one -/
def vx_ot (w : Cond) : Bool := w.onTables || goodWord w
theorem vx_ot_at {args a' : Array Value} {s U : State} {w : Cond} (hW : s.WarmedH U.vm) (hvm : s.vm = U.vm) (hg : vx_ot w = true) (h : w.before args s = true) : w.before a' U = true := by
  simp only [vx_ot, Bool.or_eq_true] at hg
  rcases hg with hg | hg
  · exact va_tabs hg hvm h
  · exact word_at hW (good_of_word hg) h
/-- a list's words: the good ones out of the method's own list, the others by premises of their own -/
theorem vx_hat {args : Array Value} {s : State} {L B : List Cond} (h1 : ∀ w ∈ L.filter goodWord, w.before args s = true) (h2 : ∀ w ∈ L.filter (fun w => !goodWord w), w ∈ B) (h3 : ∀ w ∈ B, w.before args s = true) : ∀ w ∈ L, w.before args s = true := by
  intro w hw
  by_cases g : goodWord w = true
  · exact h1 w (List.mem_filter.mpr ⟨hw, g⟩)
  · refine h3 w (h2 w (List.mem_filter.mpr ⟨hw, ?_⟩))
    show (!goodWord w) = true
    cases hgw : goodWord w
    · rfl
    · exact absurd hgw g
theorem vx_c {args : Array Value} {s : State} {w : Cond} {B : List Cond} (h : w.before args s = true) (t : ∀ w ∈ B, w.before args s = true) : ∀ w' ∈ w :: B, w'.before args s = true := fun w' h' => (List.mem_cons.mp h').elim (fun e => by rw [e]; exact h) (t w')
theorem vx_n {args : Array Value} {s : State} : ∀ w ∈ ([] : List Cond), w.before args s = true := fun _ h => nomatch h
theorem vx_own {args : Array Value} {s : State} {L : List Cond} (h1 : ∀ w ∈ L.filter vx_no, w.before args s = true)
    (hU : (Cond.isRef (.static Bundle.tN "UNASSIGNED_STACK" Bundle.steD)).before args s = true) (hN : (Cond.isRef (.static Bundle.tN "SUPPRESSED_SENTINEL" Bundle.listD)).before args s = true)
    (lU : (Cond.laysStatic Bundle.tN "UNASSIGNED_STACK" Bundle.steD).before args s = true) (lN : (Cond.laysStatic Bundle.tN "SUPPRESSED_SENTINEL" Bundle.listD).before args s = true) : ∀ w ∈ L, w.before args s = true := by
  intro w hw
  by_cases e1 : w = .isRef (.static Bundle.tN "UNASSIGNED_STACK" Bundle.steD)
  · rw [e1]; exact hU
  · by_cases e2 : w = .isRef (.static Bundle.tN "SUPPRESSED_SENTINEL" Bundle.listD)
    · rw [e2]; exact hN
    · by_cases e3 : w = .laysStatic Bundle.tN "UNASSIGNED_STACK" Bundle.steD
      · rw [e3]; exact lU
      · by_cases e4 : w = .laysStatic Bundle.tN "SUPPRESSED_SENTINEL" Bundle.listD
        · rw [e4]; exact lN
        · exact h1 w (List.mem_filter.mpr ⟨hw, by unfold vx_no; rw [decide_eq_true e1, decide_eq_true e2, decide_eq_true e3, decide_eq_true e4]; rfl⟩)
/-- where a static field lies, its class's statics cell in H -/
def vx_L (C n d : String) (A : Nat → Prop) (U : State) (H : Heap) : Prop := ∃ (c : ClassId) (k : Class) (i : Nat) (f : Field) (a : Nat) (cell : Cell), U.vm.findClass C = some c ∧ U.fieldFound? C n d = some (c, k, i, f) ∧ f.isStatic = true ∧ k.statics = some a ∧ H[a]? = some cell ∧ cell.vm.isStatics = true ∧ cell.cls = c ∧ f.slot < cell.slots.size ∧ k.staticTypes[f.slot]? = some f.type ∧ ¬ A a
theorem vx_L.moved {C n d : String} {A : Nat → Prop} {u U : State} {H : Heap} (hvm : u.vm.Alike U.vm) (h : vx_L C n d A u H) : vx_L C n d A U H := by
  obtain ⟨c, k, i, f, a, cell, h1, h2, h3, h4, h5, h6, h7, h8, h9, h10⟩ := h
  obtain ⟨k', hi', he⟩ := State.fieldFound?_setVm hvm h2
  exact ⟨c, k', i, f, a, cell, by rw [hvm.findClass]; exact h1, hi', h3, by rw [he]; exact h4, h5, h6, h7, h8, by rw [he]; exact h9, h10⟩
theorem vx_L.kept {C n d : String} {A : Nat → Prop} {U : State} {H H1 : Heap} (h : vx_L C n d A U H) (hq : ∀ a : Nat, a < H.size → ¬ A a → H1[a]? = H[a]?) : vx_L C n d A U H1 := by
  obtain ⟨c, k, i, f, a, cell, h1, h2, h3, h4, h5, h6, h7, h8, h9, h10⟩ := h
  exact ⟨c, k, i, f, a, cell, h1, h2, h3, h4, by rw [hq a (Array.getElem?_eq_some_iff.mp h5).1 h10]; exact h5, h6, h7, h8, h9, h10⟩
theorem vx_L.narrow {C n d : String} {A B : Nat → Prop} {U : State} {H : Heap} (h : vx_L C n d A U H) (hAB : ∀ q, B q → A q) : vx_L C n d B U H := by
  obtain ⟨c, k, i, f, a, cell, h1, h2, h3, h4, h5, h6, h7, h8, h9, h10⟩ := h
  exact ⟨c, k, i, f, a, cell, h1, h2, h3, h4, h5, h6, h7, h8, h9, fun z => h10 (hAB _ z)⟩
theorem vx_L.word {C n d : String} {A : Nat → Prop} {s : State} {args : Array Value} (h : vx_L C n d A s s.heap) : (Cond.laysStatic C n d).before args s = true := by
  obtain ⟨c, k, i, f, a, cell, h1, h2, h3, h4, h5, h6, h7, h8, h9, -⟩ := h
  show (Cond.laysStatic C n d).holds args s none s [] = true
  exact Cond.laysStatic_of h1 h2 h3 h4 h5 h6 h7 h8 h9
/-- .. and what it holds: null or some reference -/
def vx_Zq (C n d : String) (A : Nat → Prop) (U : State) (H : Heap) : Prop := va_Zq C n d A U H ∧ vx_L C n d A U H
theorem vx_Zq.moved {C n d : String} {A : Nat → Prop} {u U : State} {H : Heap} (hvm : u.vm.Alike U.vm) (h : vx_Zq C n d A u H) : vx_Zq C n d A U H := ⟨va_Zq.moved hvm h.1, vx_L.moved hvm h.2⟩
theorem vx_Zq.kept {C n d : String} {A : Nat → Prop} {U : State} {H H1 : Heap} (h : vx_Zq C n d A U H) (hq : ∀ a : Nat, a < H.size → ¬ A a → H1[a]? = H[a]?) : vx_Zq C n d A U H1 := ⟨va_Zq.kept h.1 hq, vx_L.kept h.2 hq⟩
theorem vx_Zq.narrow {C n d : String} {A B : Nat → Prop} {U : State} {H : Heap} (h : vx_Zq C n d A U H) (hAB : ∀ q, B q → A q) : vx_Zq C n d B U H := ⟨va_Zq.narrow h.1 hAB, vx_L.narrow h.2 hAB⟩
theorem vx_Zqof {args : Array Value} {s : State} {C n d : String} {A : Nat → Prop} (hl : (Cond.laysStatic C n d).before args s = true) (hini : (Cond.initialized C).before args s = true) (h : (Cond.isRef (.static C n d)).before args s = true) (hA : ∀ a : Nat, a < s.heap.size → ¬ A a) : vx_Zq C n d A s s.heap := by
  refine ⟨va_Zqof hl hini h hA, ?_⟩
  obtain ⟨c, k, i, f, a, cell, h1, h2, h3, h4, h5, h6, h7, h8, h9⟩ := Cond.laysStatic_spec hl
  exact ⟨c, k, i, f, a, cell, h1, h2, h3, h4, h5, h6, h7, h8, h9, hA a (Array.getElem?_eq_some_iff.mp h5).1⟩
theorem vx_isRef {C n d : String} {v : Value} {A : Nat → Prop} {s : State} {args : Array Value} (h : va_Z C n d v A s s.heap) (hv : v.isRef = true) : (Cond.isRef (.static C n d)).before args s = true := by
  obtain ⟨cf, kf, fi, f, a, cell, h1, h2, h3, h4, h5, h6, h7, -⟩ := h
  have he : (Term.static C n d).eval args s none [] s = some v := by
    simp [Term.eval, State.fieldNamed?, h1, h2, h4, h5, h6, h7]
  simp only [Cond.before, Cond.holds, Cond.value, he]
  cases v <;> simp_all [Value.isRef]
theorem vx_isRefq {C n d : String} {A : Nat → Prop} {s : State} {args : Array Value} (h : va_Zq C n d A s s.heap) : (Cond.isRef (.static C n d)).before args s = true := by
  rcases h with h | ⟨t, h⟩
  · exact vx_isRef h rfl
  · exact vx_isRef h rfl
/-- the same frame, seen from here: as if the method were called anew in this heap -/
theorem vx_rebase {T : State} (X : Stand p l e R s m args below meth c T locs cells slots) {R' : Room} (hf : R'.frames ≤ R.frames) (hl : R'.locals ≤ R.locals) (hc : cells + R'.cells ≤ R.cells) (hs : slots + R'.slots ≤ R.slots) :
    Stand p l e R' ((T.setVm s.vm).setFrames (.invoking m args :: below)) m args below meth c T [] 0 0 := by
  have htop : (T.setVm s.vm).topJava?.isSome := X.here.top
  have hF : ((T.setVm s.vm).setFrames (.invoking m args :: below)).frames = .invoking m args :: below := State.frames_setFrames _ (State.cur_lt_of_top htop)
  obtain ⟨g₀, hg0⟩ := Option.isSome_iff_exists.mp htop
  obtain ⟨r, hr⟩ := State.topJava?_eq_some.mp hg0
  have hl9 : e.platform.stackLimits (T.setVm s.vm).me = e.platform.stackLimits s.me := X.limits
  have hb9 : (T.setVm s.vm).me.stackBytes = s.me.stackBytes := X.bytes
  refine ⟨X.admits, X.cas, X.clock, hF, ?_, X.hears, X.method, X.code, X.here, X.tail, X.warmed, ?_, ?_, ?_⟩
  · have h := X.room
    have hU : ((T.setVm s.vm).setFrames (.invoking m args :: below)).localsInUse = s.localsInUse := by
      rw [State.localsInUse_invoking hF (meth := meth) (c := c) X.method X.code, State.localsInUse_invoking X.frames X.method X.code]
    simp only [State.hasRoom, Bool.and_eq_true, decide_eq_true_eq] at h ⊢
    obtain ⟨⟨⟨⟨h1, h2, h3, h4, h5, h6⟩, h7⟩, h8⟩, h9⟩ := h
    rw [X.frames, List.length_cons] at h2 h3
    have q1 := X.heapSize
    have q2 := X.used
    simp only [hF, hU, List.length_cons, State.stackLimits_setFrames, State.stackBytes_setFrames, hl9, hb9]
    refine ⟨⟨⟨⟨by omega, by omega, by omega, by omega, by omega, h6⟩, ?_⟩, ?_⟩, X.book⟩
    · show T.heap.size + R'.cells ≤ e.platform.maxCells
      omega
    · show T.slotsUsed + R'.slots ≤ e.platform.maxSlots
      omega
  · rw [State.stackLimits_setFrames]; rfl
  · rw [State.stackBytes_setFrames]; rfl
  · refine ⟨?_, Nat.le_refl _, Nat.le_refl _, ?_, ?_, fun a c9 h9 => ⟨c9, h9, rfl, rfl, fun _ _ => rfl⟩⟩
    · obtain ⟨t, ht, -⟩ := State.frames_cons hr
      show T.setVm s.vm = { ((T.setVm s.vm).setFrames (.invoking m args :: below)).setFrames (T.setVm s.vm).frames with heap := T.heap, slotsUsed := T.slotsUsed }
      rw [State.setFrames_setFrames, State.setFrames_self ht]
      rfl
    · show T.slotsUsed = T.slotsUsed + ((T.heap.toList.drop T.heap.size).map (·.slots.size)).sum
      rw [List.drop_eq_nil_of_le (Nat.le_of_eq Array.length_toList)]
      rfl
    · show ((T.heap.toList.drop T.heap.size).map (·.slots.size)).sum ≤ 0
      rw [List.drop_eq_nil_of_le (Nat.le_of_eq Array.length_toList)]
      exact Nat.le_refl _
/-- 'throw new E()': new; dup; invokespecial; athrow -/
theorem vx_throw0 {cc : ByteArray} {pc : Nat} (hexec : p.tables.exec = Jvm.exec) (hb : c.code = cc) (hl : l.stackTraces = false) {own cls : String} {names : List String} {ik ic mc ms : Nat} {A : Nat → Prop}
    (hown : s.vm.findClass own = some m.cls) (hcls : Bundle.fit cls = true) (hnames : ∀ n ∈ names, Bundle.fit n = true)
    (hk : (Cond.classLink own ik cls).before args s = true) (hini : (Cond.initialized cls).before args s = true) (hat : ∀ w ∈ vx_at0 own ic cls names, w.before args s = true)
    (hgood : ∀ w ∈ Cond.classLink own ik cls :: Cond.initialized cls :: vx_at0 own ic cls names, vx_ot w = true)
    (hU : vx_Zq Bundle.tN "UNASSIGNED_STACK" Bundle.steD A s s.heap) (hN : vx_Zq Bundle.tN "SUPPRESSED_SENTINEL" Bundle.listD A s s.heap) (hS : va_S A s.heap H locs) (hsize : ls.size = c.maxLocals)
    (d0 : decode cc pc = .ok (.new ik, 3)) (d3 : decode cc (pc + 3) = .ok (.dup, 1)) (d4 : decode cc (pc + 4) = .ok (.invokespecial ic, 3)) (d7 : decode cc (pc + 7) = .ok (.athrow, 1))
    (hout : ∀ x ∈ c.exceptionTable.toList, covers x (pc + 7) = false)
    (hRframes : names.length + 3 < R.frames) (hRlocals : (rest.map fun v => v.category).sum + (13 * (names.length + 1) + 42) ≤ R.locals) (hRcells : cells + 1 ≤ R.cells) (hRslots : slots + 6 ≤ R.slots) (hlocks : meth.locks = false)
    (hx : ∀ t : State, s.vm.Alike t.vm → H.size ≤ t.heap.size → (∀ q : Nat, q < H.size → t.heap[q]? = H[q]?) → XC cls s t)
    (hf : ∀ z ∈ locs, free z.base) (hc : cells + 1 ≤ mc) (hs : slots + 6 ≤ ms) :
    W p l e R s m args below meth c H locs cells slots (vx_MQ below Qc XC args s mc ms free) (F0 m pc ls rest) := by
  intro T hT X
  have htr : e.platform.stackTraces = false := (show e.platform.stackTraces = l.stackTraces by rw [X.admits.platform]).trans hl
  have Y := vx_rebase X (R' := { frames := R.frames, locals := R.locals, cells := 1, slots := 6 }) (Nat.le_refl _) (Nat.le_refl _) hRcells hRslots
  obtain ⟨s', hA⟩ : ∃ z, z = (T.setVm s.vm).setFrames (.invoking m args :: below) := ⟨_, rfl⟩
  rw [← hA] at Y
  have hvm : s'.vm = s.vm := by rw [hA]; rfl
  have hhp : s'.heap = H := by rw [hA]; exact hT
  have hW0 : s.WarmedH s'.vm := by rw [hvm]; exact State.WarmedH.refl s
  have hat' : ∀ w ∈ vx_at0 own ic cls names, w.before args s' = true := fun w hw => vx_ot_at hW0 hvm.symm (hgood w (List.mem_cons_of_mem _ (List.mem_cons_of_mem _ hw))) (hat w hw)
  have hk' : (Cond.classLink own ik cls).before args s' = true := vx_ot_at hW0 hvm.symm (hgood _ List.mem_cons_self) hk
  have hini' : (Cond.initialized cls).before args s' = true := vx_ot_at hW0 hvm.symm (hgood _ (List.mem_cons_of_mem _ List.mem_cons_self)) hini
  have hU' : vx_Zq Bundle.tN "UNASSIGNED_STACK" Bundle.steD A s' s'.heap := by rw [hhp]; exact vx_Zq.moved hW0.alike (hU.kept hS.2.1)
  have hN' : vx_Zq Bundle.tN "SUPPRESSED_SENTINEL" Bundle.listD A s' s'.heap := by rw [hhp]; exact vx_Zq.moved hW0.alike (hN.kept hS.2.1)
  have h : ∀ w ∈ Bundle.ownAtoms0 own ic cls names, w.before args s' = true := vx_own hat' (vx_isRefq hU'.1) (vx_isRefq hN'.1) hU'.2.word hN'.2.word
  have hown' : s'.vm.findClass own = some m.cls := by rw [hvm]; exact hown
  have hins : (Cond.instantiable cls 6).before args s' = true := h _ (by simp [Bundle.ownAtoms0])
  obtain ⟨vm₁, cX, kX, hfX, hkX, -, -, X₁, st1⟩ := Y.newCold hexec (own := own) (C := cls) (index := ik) (n := 6) hown' hk' hins hini'
    (g := F0 m pc ls rest) rfl (by rw [hb]; exact d0) (Nat.le_refl _) (Nat.le_refl _)
  generalize hT1 : (T.setVm vm₁).pushCell { cls := cX, slots := kX.instanceTypes.map defaultValue, vm := .none } = T1 at X₁ st1
  have hcat : (Value.ref T.heap.size).category = 1 := rfl
  have hcellA : T1.heap[T.heap.size]? = some (freshCell cX kX) := by rw [← hT1]; exact State.heap_pushCell_size _ _
  have d3' : decode c.code (pc + 3) = .ok (.dup, 1) := by rw [hb]; exact d3
  obtain ⟨U, hsteps, hrun, hend, hW, hsame, ce, hce, hO⟩ := X₁.ctorThrow0 hexec htr (own := own) (cls := cls) (names := names) (ic := ic) hown' hcls hnames h (fun x hx => nomatch hx) hfX hkX hcellA (by rw [hhp, hT]; exact Nat.le_refl _)
    (g := { method := m, pc := pc + 4, locals := ls, stack := .ref T.heap.size :: .ref T.heap.size :: rest, locked := none }) rfl hsize rfl rfl (rest := rest) rfl
    (by rw [hb]; exact d4) (by rw [hb]; exact d7) hout hRframes (by simp only [List.map_cons, List.sum_cons, hcat]; omega) hlocks
  obtain ⟨f1, f2⟩ := vx_frame hsame
  rw [hhp] at f1 f2
  have hWs : s.WarmedH U.vm := State.WarmedH.trans hW0 hW
  have hcl : s.vm.findClass cls = some ce.cls := by
    have h9 := hO.cls
    rw [hvm] at h9
    exact h9
  have hall : s.sameButNew ({ U with vm := s.vm } : State) locs mc ms := by
    subst hA
    obtain ⟨e1, e2⟩ := hsame
    rw [State.setFrames_setFrames] at e1
    have h2 : (T.setVm s.vm).sameButNew ({ U with vm := s.vm } : State) [] (0 + 1) (0 + 6) := ⟨e1, e2⟩
    have h3 := X.same.trans h2
    rw [List.append_nil] at h3
    exact h3.mono hc hs
  refine ⟨U, ?_, .threw T.heap.size, hrun, hend, Or.inr ⟨T.heap.size, rfl, cls, ce, locs, hx U hWs.alike f1 (fun q hq => f2 q hq (fun z hz => nomatch hz)), hce, hO.vm, hcl, hWs, hall, hf⟩⟩
  refine st1 _ ?_
  show Steps p.tables e below (T1.setTop { method := m, pc := pc + 3, locals := ls, stack := .ref T.heap.size :: rest, locked := none }) _
  jvm_step X₁.here [X₁.here.top, hexec, d3', Value.category]
  exact hsteps
/-- 'throw new E("text")': new; dup; ldc; invokespecial; athrow -/
theorem vx_throwS {cc : ByteArray} {pc : Nat} (hexec : p.tables.exec = Jvm.exec) (hb : c.code = cc) (hl : l.stackTraces = false) {own cls text : String} {names : List String} {ik is ic mc ms sa : Nat} {A : Nat → Prop}
    (hown : s.vm.findClass own = some m.cls) (hcls : Bundle.fit cls = true) (hnames : ∀ n ∈ names, Bundle.fit n = true)
    (hk : (Cond.classLink own ik cls).before args s = true) (hini : (Cond.initialized cls).before args s = true) (hstr : vk_R own is text sa s) (hat : ∀ w ∈ vx_atS own ic cls names, w.before args s = true)
    (hgood : ∀ w ∈ Cond.classLink own ik cls :: Cond.initialized cls :: vx_atS own ic cls names, vx_ot w = true)
    (hU : vx_Zq Bundle.tN "UNASSIGNED_STACK" Bundle.steD A s s.heap) (hN : vx_Zq Bundle.tN "SUPPRESSED_SENTINEL" Bundle.listD A s s.heap) (hS : va_S A s.heap H locs) (hsize : ls.size = c.maxLocals)
    (d0 : decode cc pc = .ok (.new ik, 3)) (d3 : decode cc (pc + 3) = .ok (.dup, 1)) (d4 : decode cc (pc + 4) = .ok (.ldc is, 2)) (d6 : decode cc (pc + 6) = .ok (.invokespecial ic, 3)) (d9 : decode cc (pc + 9) = .ok (.athrow, 1))
    (hout : ∀ x ∈ c.exceptionTable.toList, covers x (pc + 9) = false)
    (hRframes : names.length + 3 < R.frames) (hRlocals : (rest.map fun v => v.category).sum + (13 * (names.length + 1) + 43) ≤ R.locals) (hRcells : cells + 1 ≤ R.cells) (hRslots : slots + 6 ≤ R.slots) (hlocks : meth.locks = false)
    (hx : ∀ t : State, s.vm.Alike t.vm → H.size ≤ t.heap.size → (∀ q : Nat, q < H.size → t.heap[q]? = H[q]?) → XC cls s t)
    (hf : ∀ z ∈ locs, free z.base) (hc : cells + 1 ≤ mc) (hs : slots + 6 ≤ ms) :
    W p l e R s m args below meth c H locs cells slots (vx_MQ below Qc XC args s mc ms free) (F0 m pc ls rest) := by
  intro T hT X
  have htr : e.platform.stackTraces = false := (show e.platform.stackTraces = l.stackTraces by rw [X.admits.platform]).trans hl
  have Y := vx_rebase X (R' := { frames := R.frames, locals := R.locals, cells := 1, slots := 6 }) (Nat.le_refl _) (Nat.le_refl _) hRcells hRslots
  obtain ⟨s', hA⟩ : ∃ z, z = (T.setVm s.vm).setFrames (.invoking m args :: below) := ⟨_, rfl⟩
  rw [← hA] at Y
  have hvm : s'.vm = s.vm := by rw [hA]; rfl
  have hhp : s'.heap = H := by rw [hA]; exact hT
  have hW0 : s.WarmedH s'.vm := by rw [hvm]; exact State.WarmedH.refl s
  have hat' : ∀ w ∈ vx_atS own ic cls names, w.before args s' = true := fun w hw => vx_ot_at hW0 hvm.symm (hgood w (List.mem_cons_of_mem _ (List.mem_cons_of_mem _ hw))) (hat w hw)
  have hk' : (Cond.classLink own ik cls).before args s' = true := vx_ot_at hW0 hvm.symm (hgood _ List.mem_cons_self) hk
  have hini' : (Cond.initialized cls).before args s' = true := vx_ot_at hW0 hvm.symm (hgood _ (List.mem_cons_of_mem _ List.mem_cons_self)) hini
  have hU' : vx_Zq Bundle.tN "UNASSIGNED_STACK" Bundle.steD A s' s'.heap := by rw [hhp]; exact vx_Zq.moved hW0.alike (hU.kept hS.2.1)
  have hN' : vx_Zq Bundle.tN "SUPPRESSED_SENTINEL" Bundle.listD A s' s'.heap := by rw [hhp]; exact vx_Zq.moved hW0.alike (hN.kept hS.2.1)
  have h : ∀ w ∈ Bundle.ownAtoms own ic cls names, w.before args s' = true := vx_own hat' (vx_isRefq hU'.1) (vx_isRefq hN'.1) hU'.2.word hN'.2.word
  have hown' : s'.vm.findClass own = some m.cls := by rw [hvm]; exact hown
  have hins : (Cond.instantiable cls 6).before args s' = true := h _ (by simp [Bundle.ownAtoms])
  obtain ⟨vm₁, cX, kX, hfX, hkX, -, -, X₁, st1⟩ := Y.newCold hexec (own := own) (C := cls) (index := ik) (n := 6) hown' hk' hins hini'
    (g := F0 m pc ls rest) rfl (by rw [hb]; exact d0) (Nat.le_refl _) (Nat.le_refl _)
  generalize hT1 : (T.setVm vm₁).pushCell { cls := cX, slots := kX.instanceTypes.map defaultValue, vm := .none } = T1 at X₁ st1
  have hcat : (Value.ref T.heap.size).category = 1 := rfl
  have hcellA : T1.heap[T.heap.size]? = some (freshCell cX kX) := by rw [← hT1]; exact State.heap_pushCell_size _ _
  have d3' : decode c.code (pc + 3) = .ok (.dup, 1) := by rw [hb]; exact d3
  have d4' : decode c.code (pc + 4) = .ok (.ldc is, 2) := by rw [hb]; exact d4
  have hstr' : vk_R own is text sa s' := vk_R.warm hW0 hstr
  obtain ⟨U, hsteps, hrun, hend, hW, hsame, ce, hce, hO⟩ := X₁.ctorThrowS hexec htr (own := own) (cls := cls) (names := names) (ic := ic) hown' hcls hnames h (fun x hx => nomatch hx) hfX hkX hcellA (by rw [hhp, hT]; exact Nat.le_refl _) (msg := .ref sa) rfl
    (g := { method := m, pc := pc + 6, locals := ls, stack := .ref sa :: .ref T.heap.size :: .ref T.heap.size :: rest, locked := none }) rfl hsize rfl rfl (rest := rest) rfl
    (by rw [hb]; exact d6) (by rw [hb]; exact d9) hout hRframes (by simp only [List.map_cons, List.sum_cons, hcat]; omega) hlocks
  obtain ⟨f1, f2⟩ := vx_frame hsame
  rw [hhp] at f1 f2
  have hWs : s.WarmedH U.vm := State.WarmedH.trans hW0 hW
  have hcl : s.vm.findClass cls = some ce.cls := by
    have h9 := hO.cls
    rw [hvm] at h9
    exact h9
  have hall : s.sameButNew ({ U with vm := s.vm } : State) locs mc ms := by
    subst hA
    obtain ⟨e1, e2⟩ := hsame
    rw [State.setFrames_setFrames] at e1
    have h2 : (T.setVm s.vm).sameButNew ({ U with vm := s.vm } : State) [] (0 + 1) (0 + 6) := ⟨e1, e2⟩
    have h3 := X.same.trans h2
    rw [List.append_nil] at h3
    exact h3.mono hc hs
  refine ⟨U, ?_, .threw T.heap.size, hrun, hend, Or.inr ⟨T.heap.size, rfl, cls, ce, locs, hx U hWs.alike f1 (fun q hq => f2 q hq (fun z hz => nomatch hz)), hce, hO.vm, hcl, hWs, hall, hf⟩⟩
  refine st1 _ ?_
  show Steps p.tables e below (T1.setTop { method := m, pc := pc + 3, locals := ls, stack := .ref T.heap.size :: rest, locked := none }) _
  jvm_step X₁.here [X₁.here.top, hexec, d3', Value.category]
  exact X₁.ldcString hexec (own := own) (text := text) (index := is) (a := sa) hown' hstr'.1 hstr'.2
    (g := { method := m, pc := pc + 4, locals := ls, stack := .ref T.heap.size :: .ref T.heap.size :: rest, locked := none }) rfl d4' _ hsteps
/-- 'throw new E("text")', the text by a wide index -/
theorem vx_throwSW {cc : ByteArray} {pc : Nat} (hexec : p.tables.exec = Jvm.exec) (hb : c.code = cc) (hl : l.stackTraces = false) {own cls text : String} {names : List String} {ik is ic mc ms sa : Nat} {A : Nat → Prop}
    (hown : s.vm.findClass own = some m.cls) (hcls : Bundle.fit cls = true) (hnames : ∀ n ∈ names, Bundle.fit n = true)
    (hk : (Cond.classLink own ik cls).before args s = true) (hini : (Cond.initialized cls).before args s = true) (hstr : vk_R own is text sa s) (hat : ∀ w ∈ vx_atS own ic cls names, w.before args s = true)
    (hgood : ∀ w ∈ Cond.classLink own ik cls :: Cond.initialized cls :: vx_atS own ic cls names, vx_ot w = true)
    (hU : vx_Zq Bundle.tN "UNASSIGNED_STACK" Bundle.steD A s s.heap) (hN : vx_Zq Bundle.tN "SUPPRESSED_SENTINEL" Bundle.listD A s s.heap) (hS : va_S A s.heap H locs) (hsize : ls.size = c.maxLocals)
    (d0 : decode cc pc = .ok (.new ik, 3)) (d3 : decode cc (pc + 3) = .ok (.dup, 1)) (d4 : decode cc (pc + 4) = .ok (.ldc_w is, 3)) (d7 : decode cc (pc + 7) = .ok (.invokespecial ic, 3)) (d10 : decode cc (pc + 10) = .ok (.athrow, 1))
    (hout : ∀ x ∈ c.exceptionTable.toList, covers x (pc + 10) = false)
    (hRframes : names.length + 3 < R.frames) (hRlocals : (rest.map fun v => v.category).sum + (13 * (names.length + 1) + 43) ≤ R.locals) (hRcells : cells + 1 ≤ R.cells) (hRslots : slots + 6 ≤ R.slots) (hlocks : meth.locks = false)
    (hx : ∀ t : State, s.vm.Alike t.vm → H.size ≤ t.heap.size → (∀ q : Nat, q < H.size → t.heap[q]? = H[q]?) → XC cls s t)
    (hf : ∀ z ∈ locs, free z.base) (hc : cells + 1 ≤ mc) (hs : slots + 6 ≤ ms) :
    W p l e R s m args below meth c H locs cells slots (vx_MQ below Qc XC args s mc ms free) (F0 m pc ls rest) := by
  intro T hT X
  have htr : e.platform.stackTraces = false := (show e.platform.stackTraces = l.stackTraces by rw [X.admits.platform]).trans hl
  have Y := vx_rebase X (R' := { frames := R.frames, locals := R.locals, cells := 1, slots := 6 }) (Nat.le_refl _) (Nat.le_refl _) hRcells hRslots
  obtain ⟨s', hA⟩ : ∃ z, z = (T.setVm s.vm).setFrames (.invoking m args :: below) := ⟨_, rfl⟩
  rw [← hA] at Y
  have hvm : s'.vm = s.vm := by rw [hA]; rfl
  have hhp : s'.heap = H := by rw [hA]; exact hT
  have hW0 : s.WarmedH s'.vm := by rw [hvm]; exact State.WarmedH.refl s
  have hat' : ∀ w ∈ vx_atS own ic cls names, w.before args s' = true := fun w hw => vx_ot_at hW0 hvm.symm (hgood w (List.mem_cons_of_mem _ (List.mem_cons_of_mem _ hw))) (hat w hw)
  have hk' : (Cond.classLink own ik cls).before args s' = true := vx_ot_at hW0 hvm.symm (hgood _ List.mem_cons_self) hk
  have hini' : (Cond.initialized cls).before args s' = true := vx_ot_at hW0 hvm.symm (hgood _ (List.mem_cons_of_mem _ List.mem_cons_self)) hini
  have hU' : vx_Zq Bundle.tN "UNASSIGNED_STACK" Bundle.steD A s' s'.heap := by rw [hhp]; exact vx_Zq.moved hW0.alike (hU.kept hS.2.1)
  have hN' : vx_Zq Bundle.tN "SUPPRESSED_SENTINEL" Bundle.listD A s' s'.heap := by rw [hhp]; exact vx_Zq.moved hW0.alike (hN.kept hS.2.1)
  have h : ∀ w ∈ Bundle.ownAtoms own ic cls names, w.before args s' = true := vx_own hat' (vx_isRefq hU'.1) (vx_isRefq hN'.1) hU'.2.word hN'.2.word
  have hown' : s'.vm.findClass own = some m.cls := by rw [hvm]; exact hown
  have hins : (Cond.instantiable cls 6).before args s' = true := h _ (by simp [Bundle.ownAtoms])
  obtain ⟨vm₁, cX, kX, hfX, hkX, -, -, X₁, st1⟩ := Y.newCold hexec (own := own) (C := cls) (index := ik) (n := 6) hown' hk' hins hini'
    (g := F0 m pc ls rest) rfl (by rw [hb]; exact d0) (Nat.le_refl _) (Nat.le_refl _)
  generalize hT1 : (T.setVm vm₁).pushCell { cls := cX, slots := kX.instanceTypes.map defaultValue, vm := .none } = T1 at X₁ st1
  have hcat : (Value.ref T.heap.size).category = 1 := rfl
  have hcellA : T1.heap[T.heap.size]? = some (freshCell cX kX) := by rw [← hT1]; exact State.heap_pushCell_size _ _
  have d3' : decode c.code (pc + 3) = .ok (.dup, 1) := by rw [hb]; exact d3
  have d4' : decode c.code (pc + 4) = .ok (.ldc_w is, 3) := by rw [hb]; exact d4
  have hstr' : vk_R own is text sa s' := vk_R.warm hW0 hstr
  obtain ⟨U, hsteps, hrun, hend, hW, hsame, ce, hce, hO⟩ := X₁.ctorThrowS hexec htr (own := own) (cls := cls) (names := names) (ic := ic) hown' hcls hnames h (fun x hx => nomatch hx) hfX hkX hcellA (by rw [hhp, hT]; exact Nat.le_refl _) (msg := .ref sa) rfl
    (g := { method := m, pc := pc + 7, locals := ls, stack := .ref sa :: .ref T.heap.size :: .ref T.heap.size :: rest, locked := none }) rfl hsize rfl rfl (rest := rest) rfl
    (by rw [hb]; exact d7) (by rw [hb]; exact d10) hout hRframes (by simp only [List.map_cons, List.sum_cons, hcat]; omega) hlocks
  obtain ⟨f1, f2⟩ := vx_frame hsame
  rw [hhp] at f1 f2
  have hWs : s.WarmedH U.vm := State.WarmedH.trans hW0 hW
  have hcl : s.vm.findClass cls = some ce.cls := by
    have h9 := hO.cls
    rw [hvm] at h9
    exact h9
  have hall : s.sameButNew ({ U with vm := s.vm } : State) locs mc ms := by
    subst hA
    obtain ⟨e1, e2⟩ := hsame
    rw [State.setFrames_setFrames] at e1
    have h2 : (T.setVm s.vm).sameButNew ({ U with vm := s.vm } : State) [] (0 + 1) (0 + 6) := ⟨e1, e2⟩
    have h3 := X.same.trans h2
    rw [List.append_nil] at h3
    exact h3.mono hc hs
  refine ⟨U, ?_, .threw T.heap.size, hrun, hend, Or.inr ⟨T.heap.size, rfl, cls, ce, locs, hx U hWs.alike f1 (fun q hq => f2 q hq (fun z hz => nomatch hz)), hce, hO.vm, hcl, hWs, hall, hf⟩⟩
  refine st1 _ ?_
  show Steps p.tables e below (T1.setTop { method := m, pc := pc + 3, locals := ls, stack := .ref T.heap.size :: rest, locked := none }) _
  jvm_step X₁.here [X₁.here.top, hexec, d3', Value.category]
  exact X₁.ldcStringW hexec (own := own) (text := text) (index := is) (a := sa) hown' hstr'.1 hstr'.2
    (g := { method := m, pc := pc + 4, locals := ls, stack := .ref T.heap.size :: .ref T.heap.size :: rest, locked := none }) rfl d4' _ hsteps
end Ends
section Bodies
variable {l : Launch}
theorem vx_ofW {y : MethodName} {ws ws' : List Cond} {rm : Room} {Pc : Array Value → State → Prop} {Qc : Array Value → State → Outcome → State → Prop} {XC : String → State → State → Prop} {mc ms : Nat} {free : Addr → Prop} {cc : ByteArray} {maxL : Nat} {ret : Option FieldType}
    (hy : plainName y.cls = true) (hw : ws = Cond.code y cc maxL ret :: ws')
    (body : ∀ p e s m args below meth c s₁, BodyLoose p l y (headSpec ws rm) cc maxL ret e s m args below meth c s₁ → c.maxLocals = maxL → (∀ x ∈ c.exceptionTable.toList, False) → Pc args s →
      W p l e (headSpec ws rm).room s m args below meth c s.heap [] 0 0 (vx_MQ below Qc XC args s mc ms free) (entryFrame m args maxL)) : vx_Met l y ws rm Pc Qc XC mc ms free := by
  refine MetFree.of_bodyS (code := cc) (maxLocals := maxL) (ret := ret) hy ?_ ?_
  · intro args s m h hn
    obtain ⟨meth, c, h1, h2, h3, h4, h5, h6, -, -⟩ := Cond.code_spec hn (atoms_spec (ws := ws) h _ (by rw [hw]; exact List.mem_cons_self))
    exact ⟨meth, c, h1, h2, h3, h4, h5, h6⟩
  · intro p e s m args below meth c s₁ B hml hP _
    have hh0 : s₁.heap = s.heap := by rw [B.state]; rfl
    have ht : ∀ x ∈ c.exceptionTable.toList, False := by
      obtain ⟨meth9, c9, h1, h2, -, -, -, -, h7, -⟩ := Cond.code_spec B.named (atoms_spec (ws := ws) B.pre _ (by rw [hw]; exact List.mem_cons_self))
      cases Option.some.inj (h1.symm.trans B.method)
      cases Option.some.inj (h2.symm.trans (Stand.of_body B).code)
      intro x hx
      rw [Array.isEmpty_iff.mp h7] at hx
      cases hx
    obtain ⟨t, a1, o, b1, b2, b3⟩ := body p e s m args below meth c s₁ B hml ht hP s₁ hh0 (Stand.of_body B)
    exact ⟨t, o, a1, b1, b2, b3⟩
/-- the table of a body with handlers -/
theorem vx_table {p : Program} {x y : MethodName} {S : Spec} {cc bytes : ByteArray} {maxL maxL' : Nat} {ret ret' : Option FieldType} {e : Env} {s s₁ : State} {m : MethodId} {args : Array Value} {below : List Frame} {meth : Method} {c : Code} {hh : List (Nat × Nat × Nat × Nat)}
    (B : BodyLoose p l y S cc maxL ret e s m args below meth c s₁) (h : (Cond.codeWith y bytes maxL' ret' hh).before args s = true) : c.exceptionTable.toList = tableOf hh := by
  obtain ⟨m9, meth9, c9, hn9, h1, h2, -, -, h6, -⟩ := Cond.codeWith_spec h
  cases Option.some.inj (hn9.symm.trans B.named)
  cases Option.some.inj (h1.symm.trans B.method)
  cases Option.some.inj (h2.symm.trans (Stand.of_body B).code)
  rw [← h6, table_eq]
end Bodies
end VXA
/-! ===== END ===== -/
/-! ===== BEGIN a static call of a method with an exception table ===== -/
section VXS
variable {p : Program} {l : Launch} {e : Env} {R : Room} {s : State} {m : MethodId} {args : Array Value} {below : List Frame} {meth : Method} {c : Code} {T : State} {H : Heap} {locs : List Loc} {cells slots : Nat}
abbrev vx_CSW (R : Room) (s : State) (args : Array Value) (own : String) (index : Nat) (y : MethodName) (bytes : ByteArray) (maxL : Nat) (ret : Option FieldType) (hh : List (Nat × Nat × Nat × Nat)) (ws : List Cond) (rm : Room) (mc ms n : Nat) : Prop :=
  (rm.cells = mc ∧ rm.slots = ms ∧ rm.frames + 1 ≤ R.frames ∧ 8 + (maxL + 11) + rm.locals ≤ R.locals ∧ (∀ w ∈ ws, ∀ (a' : Array Value) (U : State), s.WarmedH U.vm → w.before a' U = true) ∧ Cond.codeWith y bytes maxL ret hh ∈ ws) ∧
  (Cond.codeWith y bytes maxL ret hh).before args s = true ∧ (Cond.initialized y.cls).before args s = true ∧ (y.cls ≠ "java/lang/invoke/MethodHandle" ∧ y.cls ≠ "java/lang/invoke/VarHandle") ∧
  (∀ sig, parseMethodDescriptor y.desc = some sig → n = sig.parameters.length) ∧ (Cond.methodLink own index y).before args s = true ∧ (Cond.static y).before args s = true
theorem vx_cwSW {own : String} {index maxL mc ms : Nat} {y : MethodName} {bytes : ByteArray} {ret : Option FieldType} {hh : List (Nat × Nat × Nat × Nat)} {Ts ws ws' : List Cond} {rm : Room} (n : Nat) (ht : ∀ w ∈ Ts, w.before args s = true) (hT : GoodIn Ts (va_wsS own index y ws)) (hw : ws = Cond.codeWith y bytes maxL ret hh :: ws') (hrc : rm.cells = mc) (hrs : rm.slots = ms)
    (hd : y.cls ≠ "java/lang/invoke/MethodHandle" ∧ y.cls ≠ "java/lang/invoke/VarHandle" ∧ (parseMethodDescriptor y.desc).map (fun d => d.parameters.length) = some n) (hR : rm.frames + 1 ≤ R.frames ∧ 8 + (maxL + 11) + rm.locals ≤ R.locals) :
    vx_CSW R s args own index y bytes maxL ret hh ws rm mc ms n := by
  have ok : ∀ w ∈ va_wsS own index y ws, w.before args s = true := fun w h => ht w (hT w h).1
  have hG : GoodIn Ts ws := fun w h => hT w (by unfold va_wsS; exact List.mem_append_right _ h)
  have hc : Cond.codeWith y bytes maxL ret hh ∈ ws := by rw [hw]; exact List.mem_cons_self
  refine ⟨⟨hrc, hrs, hR.1, hR.2, pay_in ht hG, hc⟩, ht _ (hG _ hc).1, ok _ (by simp [va_wsS]), ⟨hd.1, hd.2.1⟩, fun sig h => ?_, ok _ (by simp [va_wsS]), ok _ (by simp [va_wsS])⟩
  have h2 := hd.2.2
  rw [h] at h2
  exact (Option.some.inj h2).symm
theorem vx_callSW (X : Stand p l e R s m args below meth c T locs cells slots) (hexec : p.tables.exec = Jvm.exec) {own : String} {index : Nat} {y : MethodName} {bytes : ByteArray} {maxL : Nat} {ret : Option FieldType} {hh : List (Nat × Nat × Nat × Nat)}
    (hown : s.vm.findClass own = some m.cls) (hlink : (Cond.methodLink own index y).before args s = true) (hstat : (Cond.static y).before args s = true) (hinit : (Cond.initialized y.cls).before args s = true)
    (hcode : (Cond.codeWith y bytes maxL ret hh).before args s = true) (hy : y.cls ≠ "java/lang/invoke/MethodHandle" ∧ y.cls ≠ "java/lang/invoke/VarHandle")
    {W9 : Nat} {Pre : Pt → Array Value → Prop} {Post : Pt → Array Value → Option Value → Pt → Prop} (hK : Back l R p e below s args y 3 W9 Pre Post)
    {g : JFrame} (hg : g.method = m) (hsize : g.locals.size = c.maxLocals) {argsL rest : List Value} (hlen : ∀ sig, parseMethodDescriptor y.desc = some sig → argsL.length = sig.parameters.length)
    (hstack : g.stack = argsL.reverse ++ rest) (hW : 2 * g.monitorRoom + (rest.map fun v => v.category).sum ≤ W9) (hdg : decode c.code g.pc = .ok (.invokestatic index, 3))
    (hpre : ∀ vm₁, s.WarmedH vm₁ → Pre ⟨T.setVm vm₁, locs, cells, slots⟩ argsL.toArray) :
    ∃ (v : Option Value) (vm₁ : Vm) (B : Pt), s.WarmedH vm₁ ∧ Stand p l e R s m args below meth c B.U B.locs B.cells B.slots ∧ Post ⟨T.setVm vm₁, locs, cells, slots⟩ argsL.toArray v B ∧
      ∀ target, Steps p.tables e below (B.U.setTop { g with pc := g.pc + 3, stack := v.toList ++ rest }) target → Steps p.tables e below (T.setTop g) target := by
  obtain ⟨mk, methM, cM, hnamed, hmethM, -, -, -, -, -, -, hsigM⟩ := Cond.codeWith_spec hcode
  have hstatic : methM.isStatic = true := Cond.static_spec hnamed hmethM hstat
  obtain ⟨kP, hkP, -⟩ := className_of_methodNamed hnamed
  have hinitP : kP.init = .initialized := Cond.initialized_spec (findClass_of_methodNamed hnamed) hkP hinit
  obtain ⟨vm₁, X₁, hstep₁⟩ := X.invokestatic hexec hown hlink hnamed hmethM hstatic hkP hinitP hy (g := g) hg (argsL := argsL) (rest := rest) (hlen _ hsigM) hstack hdg
  obtain ⟨v, B, X', hpost, hsteps⟩ := hK m meth c ⟨T.setVm vm₁, locs, cells, slots⟩ { g with stack := rest } (.invokestatic index) mk argsL.toArray X₁ hg hsize hdg hW (X₁.named hnamed) (hpre vm₁ X₁.warmed)
  exact ⟨v, vm₁, B, X₁.warmed, X', hpost, fun target h => hstep₁ _ fun acts => by rw [doInvoke_state]; exact hsteps.trans h⟩
theorem vx_runSW {y : MethodName} {bytes cc : ByteArray} {maxL nL mc ms n index : Nat} {ret : Option FieldType} {hh : List (Nat × Nat × Nat × Nat)} {ws : List Cond} {rm : Room} {Pc : Array Value → State → Prop} {Qc : Array Value → State → Outcome → State → Prop} {free : Addr → Prop} {Ts : List Cond} {own : String} {As rest : List Value} {g : JFrame}
    (S : CallFix p m c cc nL s args Ts own) (hM : Met l y ws rm Pc Qc mc ms free) (cw : vx_CSW R s args own index y bytes maxL ret hh ws rm mc ms n) (hp : PreS s H Pc As)
    (hg : g.method = m) (hn : As.length = n) (hsize : g.locals.size = nL) (hstack : g.stack = As.reverse ++ rest) (hW : 2 * g.monitorRoom + (rest.map fun v => v.category).sum ≤ 8) (hdg : decode cc g.pc = .ok (.invokestatic index, 3)) (hf : cells + mc ≤ R.cells ∧ slots + ms ≤ R.slots) :
    va_Run p l e R s m args below meth c H locs cells slots mc ms g rest (Qc As.toArray) (free) := by
  obtain ⟨⟨hrc, hrs, hfr, hlo, hws, hcw⟩, hcode, hini, hy, hlen, hl, hstt⟩ := cw
  have hK : Back l R p e below s args y 3 8 (PreOf R mc ms Pc) (PostOf Qc mc ms free) := va_backW (hh := hh) (bytes := bytes) (maxL := maxL) (ret := ret) hM hp.1 hrc hrs hfr hlo hws hcw (fun a' U hW => word_at hW (Or.inl (by first | rfl | simp [Cond.onTables, Cond.keeps, Cond.steady])) hini)
  obtain ⟨hx, hb, hml, ho, -⟩ := S
  intro T hT X
  obtain ⟨v, vm₁, ⟨U', l2, c2, s2⟩, hW₁, X', ⟨g', mk, t, L, e1, e2, hq, h1, hL, h2, h3⟩, st⟩ := vx_callSW X hx (hh := hh) (bytes := bytes) (maxL := maxL) (ret := ret) ho hl hstt hini hcode hy hK hg (hsize.trans hml.symm) (argsL := As) (rest := rest) (fun sig h => hn.trans (hlen sig h)) hstack hW (by rw [hb]; exact hdg)
    (fun vm₁ hW₁ => ⟨hf.1, hf.2, hp.2 (T.setVm vm₁) hT hW₁⟩)
  dsimp only [Pt.U, Pt.locs, Pt.cells, Pt.slots] at X' e1 e2 h1 h2 h3 st
  subst h1; subst h2; subst h3
  exact ⟨v, (T.setVm vm₁).calling g' mk As.toArray, t, U', L, hT, X', hL, e1, e2, hq, st⟩
/-- a thing of a world lies in the heap -/
theorem vx_lt {D : va_G} {cl : List vw_C} {ws : va_W} {H1 : Heap} (h : va_P D cl ws H1) {k : Nat} {q : Nat × va_E} (hk : ws[k]? = some q) : q.1 < H1.size := (h k q hk).lt
end VXS
/-! ===== END ===== -/
/-! ===== BEGIN methods with a table of their own: called by a name, returning or throwing ===== -/
section VXH
/-! vx_backW, vx_callVX, vx_callSX, vx_callVW, vx_runVW, vx_runVX, vx_runSX, vx_ofWH follow the same proofs as their sisters above (Free/Laws.lean, Shelf42/LK1.lean); vx_outP calls Shelf42/NT130.lean (outThrough). -/
section
variable {l : Launch} {R : Room} {p : Program} {e : Env} {below : List Frame} {s : State} {sargs : Array Value} {y : MethodName} {len W9 : Nat}
theorem vx_backW {ws : List Cond} {rm : Room} {Pc : Array Value → State → Prop} {Qc : Array Value → State → Outcome → State → Prop} {XC : String → State → State → Prop} {mc ms : Nat} {free : Addr → Prop} {bytes : ByteArray} {maxL : Nat} {ret : Option FieldType} {hh : List (Nat × Nat × Nat × Nat)}
    (hM : vx_Met l y ws rm Pc Qc XC mc ms free) (hblind : FrameBlind Pc) (hrc : rm.cells = mc) (hrs : rm.slots = ms)
    (hframes : rm.frames + 1 ≤ R.frames) (hlocals : W9 + (maxL + 11) + rm.locals ≤ R.locals)
    (hws : ∀ w ∈ ws, ∀ a' U, s.WarmedH U.vm → w.before a' U = true) (hcode : Cond.codeWith y bytes maxL ret hh ∈ ws) (hinit : ∀ a' U, s.WarmedH U.vm → (Cond.initialized y.cls).before a' U = true) :
    vx_Back l R p e below s sargs y len W9 (PreOf R mc ms Pc) (PostOf Qc mc ms free) (vx_Post XC mc ms free) := by
  intro m meth c A g ig mk a X hg hsize hdg hW hn hp
  have h1 : (headSpec ws rm).pre.before a A.U = true := atoms_intro fun w hw => hws w hw _ _ X.warmed
  have h2 : (Cond.codeWith y bytes maxL ret hh).before a A.U = true := hws _ hcode _ _ X.warmed
  have h3 : (Cond.initialized y.cls).before a A.U = true := hinit _ _ X.warmed
  have h4 : A.cells + (headSpec ws rm).room.cells ≤ R.cells := by rw [show (headSpec ws rm).room.cells = mc from hrc]; exact hp.1
  have h5 : A.slots + (headSpec ws rm).room.slots ≤ R.slots := by rw [show (headSpec ws rm).room.slots = ms from hrs]; exact hp.2.1
  have hPc : Pc a (A.U.calling g mk a) := hblind _ _ _ _ hp.2.2
  obtain ⟨U, Ls, c0, s0⟩ := A
  dsimp only [Pt.U, Pt.locs, Pt.cells, Pt.slots] at h1 h2 h3 h4 h5 X hn hPc ⊢
  obtain ⟨m9, methY, cY, hn9, hmY, hcY, -, hlY, -⟩ := Cond.codeWith_spec h2
  cases Option.some.inj (hn9.symm.trans hn)
  obtain ⟨kY, hkY, -⟩ := className_of_methodNamed hn
  have hinitY : kY.init = .initialized := Cond.initialized_spec (findClass_of_methodNamed hn) hkY h3
  have h : At U g.method c below := by rw [hg]; exact X.here
  have hlocals9 : W9 + (maxL + 11) + (headSpec ws rm).room.locals ≤ R.locals := hlocals
  have happ : (headSpec ws rm).appliesLoose y e.platform (U.calling g mk a) = true :=
    Spec.appliesLoose_calling (g := g) h hdg hn hkY hinitY
      (X.room_calling (g := g) (R' := (headSpec ws rm).room) hsize hmY hcY hframes (by rw [hlY]; omega) h4 h5) h1
  obtain ⟨mid, hmid⟩ := h.above
  have hfr : (U.setTop g).frames = (.java g :: mid) ++ below := by rw [State.frames_setTop' g h.top, hmid]; rfl
  obtain ⟨o, s₂, hsteps, -, hend, hq⟩ := Steps.callFree hM p X.admits X.cas X.clock (acts := []) hfr happ hPc trivial
  have hq' : vx_Q Qc XC mc ms free a (U.calling g mk a) o s₂ := hq
  rw [State.frames_setTop' g h.top] at hend
  obtain ⟨g₀, hg0⟩ := Option.isSome_iff_exists.mp h.top
  obtain ⟨r, hr⟩ := State.topJava?_eq_some.mp hg0
  have hr' : (({ U with heap := s₂.heap, slotsUsed := s₂.slotsUsed } : State).setVm s₂.vm).frames = .java g₀ :: r := hr
  rcases hq' with ⟨hqc, L, hfe, hL⟩ | ⟨q, rfl, E, ce, L, hx, hce, hcv, hcl, hW₂, hsm, hL⟩
  · obtain ⟨⟨v, rfl⟩, hW₂, e2, q2, q3, q4, q5, q6⟩ := id hfe
    have e3 : s₂ = ({ (U.calling g mk a).setFrames s₂.frames with heap := s₂.heap, slotsUsed := s₂.slotsUsed } : State).setVm s₂.vm := by
      have : s₂ = ({ s₂ with vm := (U.calling g mk a).vm } : State).setVm s₂.vm := rfl
      rw [e2] at this
      exact this
    obtain ⟨c₂, i₂, len₂, hc₂, hd₂, hf₂⟩ := hend
    have hW' : U.WarmedH s₂.vm := hW₂
    have hcc : c₂ = c := by
      have h1 : s₂.code? g.method = U.code? g.method := by
        rw [State.code?_eq, State.code?_eq, hW'.alike.method?]
      exact Option.some.inj (hc₂.symm.trans (h1.trans h.code))
    subst hcc
    have hlen : len₂ = len := by rw [hdg] at hd₂; cases hd₂; rfl
    subst hlen
    have hs₂ : s₂ = (({ U with heap := s₂.heap, slotsUsed := s₂.slotsUsed } : State).setVm s₂.vm).setTop { g with pc := g.pc + len₂, stack := v.toList ++ g.stack } := by
      refine e3.trans ?_
      rw [hf₂, State.calling_eq h.top, State.setFrames_setFrames, State.setTop_of_frames _ hr', hr]
      rfl
    have hsame : U.sameButNew ({ U with heap := s₂.heap, slotsUsed := s₂.slotsUsed } : State) L mc ms := by
      refine ⟨?_, q2, q3, q4, q5, q6⟩
      obtain ⟨t, ht, -⟩ := State.frames_cons hr
      show ({ U with heap := s₂.heap, slotsUsed := s₂.slotsUsed } : State) = { U.setFrames U.frames with heap := s₂.heap, slotsUsed := s₂.slotsUsed }
      rw [State.setFrames_self ht]
    subst hg
    refine Or.inl ⟨v, ⟨(({ U with heap := s₂.heap, slotsUsed := s₂.slotsUsed } : State).setVm s₂.vm), Ls ++ L, c0 + mc, s0 + ms⟩,
      ⟨X.admits, X.cas, X.clock, X.frames, X.room, X.hears, X.method, X.code, (X.here.setHeapUsed s₂.heap s₂.slotsUsed).setVm hW'.alike, X.tail, State.WarmedH.trans X.warmed hW', X.limits, X.bytes, X.same.trans (hsame.setVm s.vm)⟩,
      ⟨g, mk, s₂, L, rfl, rfl, hqc, rfl, hL, rfl, rfl⟩, ?_⟩
    show Steps p.tables e below _ ((({ U with heap := s₂.heap, slotsUsed := s₂.slotsUsed } : State).setVm s₂.vm).setTop { g with pc := g.pc + len₂, stack := v.toList ++ g.stack })
    rw [← hs₂]
    exact hsteps
  · obtain ⟨e2, q2, q3, q4, q5, q6⟩ := id hsm
    have e3 : s₂ = ({ (U.calling g mk a).setFrames s₂.frames with heap := s₂.heap, slotsUsed := s₂.slotsUsed } : State).setVm s₂.vm := by
      have : s₂ = ({ s₂ with vm := (U.calling g mk a).vm } : State).setVm s₂.vm := rfl
      rw [e2] at this
      exact this
    have hf₂ : s₂.frames = .throwing q :: .java g :: U.frames.tail := hend
    have hW' : U.WarmedH s₂.vm := hW₂
    have hs₂ : s₂ = ((({ U with heap := s₂.heap, slotsUsed := s₂.slotsUsed } : State).setVm s₂.vm).setTop g).pushFrame (.throwing q) := by
      refine e3.trans ?_
      rw [hf₂, State.calling_eq h.top, State.setFrames_setFrames, State.pushFrame, State.frames_setTop _ hr', State.setTop_of_frames _ hr', State.setFrames_setFrames, hr]
      rfl
    have hsame : U.sameButNew ({ U with heap := s₂.heap, slotsUsed := s₂.slotsUsed } : State) L mc ms := by
      refine ⟨?_, q2, q3, q4, q5, q6⟩
      obtain ⟨t, ht, -⟩ := State.frames_cons hr
      show ({ U with heap := s₂.heap, slotsUsed := s₂.slotsUsed } : State) = { U.setFrames U.frames with heap := s₂.heap, slotsUsed := s₂.slotsUsed }
      rw [State.setFrames_self ht]
    subst hg
    refine Or.inr ⟨q, ⟨(({ U with heap := s₂.heap, slotsUsed := s₂.slotsUsed } : State).setVm s₂.vm), Ls ++ L, c0 + mc, s0 + ms⟩,
      ⟨X.admits, X.cas, X.clock, X.frames, X.room, X.hears, X.method, X.code, (X.here.setHeapUsed s₂.heap s₂.slotsUsed).setVm hW'.alike, X.tail, State.WarmedH.trans X.warmed hW', X.limits, X.bytes, X.same.trans (hsame.setVm s.vm)⟩,
      ⟨g, mk, s₂, L, E, ce, rfl, rfl, hx, hce, hcv, hcl, rfl, hL, rfl, rfl⟩, ?_⟩
    show Steps p.tables e below _ (((({ U with heap := s₂.heap, slotsUsed := s₂.slotsUsed } : State).setVm s₂.vm).setTop g).pushFrame (.throwing q))
    rw [← hs₂]
    exact hsteps
end
variable {p : Program} {l : Launch} {e : Env} {R : Room} {s : State} {m : MethodId} {args : Array Value} {below : List Frame} {meth : Method} {c : Code} {T : State} {H : Heap} {locs : List Loc} {cells slots : Nat}
theorem vx_callVX (X : Stand p l e R s m args below meth c T locs cells slots) (hexec : p.tables.exec = Jvm.exec) {own C : String} {index : Nat} {y : MethodName} {bytes : ByteArray} {maxL : Nat} {ret : Option FieldType} {hh : List (Nat × Nat × Nat × Nat)}
    (hown : s.vm.findClass own = some m.cls) (hlink : (Cond.methodLink own index y).before args s = true) (hinst : (Cond.instanceMethod y).before args s = true) (hsel : (Cond.selects C y y).before args s = true)
    (hcode : (Cond.codeWith y bytes maxL ret hh).before args s = true) (hy : y.cls ≠ "java/lang/invoke/MethodHandle" ∧ y.cls ≠ "java/lang/invoke/VarHandle")
    {W9 : Nat} {Pre : Pt → Array Value → Prop} {Post : Pt → Array Value → Option Value → Pt → Prop} {PostX : Pt → Array Value → Addr → Pt → Prop} (hK : vx_Back l R p e below s args y 3 W9 Pre Post PostX)
    {b : Addr} {cellB : Cell} (hcell : T.heap[b]? = some cellB) (hobj : cellB.vm.isStatics = false) (hcls : s.vm.findClass C = some cellB.cls)
    {g : JFrame} (hg : g.method = m) (hsize : g.locals.size = c.maxLocals) {argsL rest : List Value} (hlen : ∀ sig, parseMethodDescriptor y.desc = some sig → argsL.length = sig.parameters.length)
    (hstack : g.stack = argsL.reverse ++ .ref b :: rest) (hW : 2 * g.monitorRoom + (rest.map fun v => v.category).sum ≤ W9) (hdg : decode c.code g.pc = .ok (.invokevirtual index, 3))
    (hpre : ∀ vm₁, s.WarmedH vm₁ → Pre ⟨T.setVm vm₁, locs, cells, slots⟩ (Value.ref b :: argsL).toArray) :
    (∃ (v : Option Value) (vm₁ : Vm) (B : Pt), s.WarmedH vm₁ ∧ Stand p l e R s m args below meth c B.U B.locs B.cells B.slots ∧ Post ⟨T.setVm vm₁, locs, cells, slots⟩ (Value.ref b :: argsL).toArray v B ∧
      ∀ target, Steps p.tables e below (B.U.setTop { g with pc := g.pc + 3, stack := v.toList ++ rest }) target → Steps p.tables e below (T.setTop g) target) ∨
    (∃ (q : Addr) (vm₁ : Vm) (B : Pt), s.WarmedH vm₁ ∧ Stand p l e R s m args below meth c B.U B.locs B.cells B.slots ∧ PostX ⟨T.setVm vm₁, locs, cells, slots⟩ (Value.ref b :: argsL).toArray q B ∧
      Steps p.tables e below (T.setTop g) ((B.U.setTop { g with stack := rest }).pushFrame (.throwing q))) := by
  obtain ⟨mk, methM, hnamed, hmethM, hstM, habM⟩ := Cond.instanceMethod_spec hinst
  obtain ⟨m8, methM', cM, hn8, hmethM', -, -, -, -, -, -, hsigM⟩ := Cond.codeWith_spec hcode
  cases Option.some.inj (hn8.symm.trans hnamed)
  cases hmethM.symm.trans hmethM'
  obtain ⟨c2, r2, m2, q1, q2, q3, q4, kP, hkP, hkPi⟩ := Cond.selects_spec hsel
  cases hcls.symm.trans q1
  cases (State.methodFound?_of_named hnamed hy).symm.trans q2
  cases hnamed.symm.trans q3
  have hselP : selectMethod e.platform s.vm cellB.cls mk = .method mk := by rw [Launch.admits_selectMethod X.admits]; exact q4
  obtain ⟨vm₁, X₁, hstep₁⟩ := X.invokevirtual hexec hown hlink hnamed hmethM hstM hkP hkPi hy (a := b) (cell := cellB) hcell
    (fun z h => by rw [h] at hobj; cases hobj) hselP hmethM habM hkP hkPi (g := g) hg (argsL := argsL) (rest := rest) (hlen _ hsigM) hstack hdg
  rcases hK m meth c ⟨T.setVm vm₁, locs, cells, slots⟩ { g with stack := rest } (.invokevirtual index) mk (Value.ref b :: argsL).toArray X₁ hg hsize hdg hW (X₁.named hnamed) (hpre vm₁ X₁.warmed) with ⟨v, B, X', hpost, hsteps⟩ | ⟨q, B, X', hpost, hsteps⟩
  · exact Or.inl ⟨v, vm₁, B, X₁.warmed, X', hpost, fun target h => hstep₁ _ fun acts => by rw [doInvoke_state]; exact hsteps.trans h⟩
  · exact Or.inr ⟨q, vm₁, B, X₁.warmed, X', hpost, hstep₁ _ fun acts => by rw [doInvoke_state]; exact hsteps⟩
theorem vx_callSX (X : Stand p l e R s m args below meth c T locs cells slots) (hexec : p.tables.exec = Jvm.exec) {own : String} {index : Nat} {y : MethodName} {bytes : ByteArray} {maxL : Nat} {ret : Option FieldType} {hh : List (Nat × Nat × Nat × Nat)}
    (hown : s.vm.findClass own = some m.cls) (hlink : (Cond.methodLink own index y).before args s = true) (hstat : (Cond.static y).before args s = true) (hinit : (Cond.initialized y.cls).before args s = true)
    (hcode : (Cond.codeWith y bytes maxL ret hh).before args s = true) (hy : y.cls ≠ "java/lang/invoke/MethodHandle" ∧ y.cls ≠ "java/lang/invoke/VarHandle")
    {W9 : Nat} {Pre : Pt → Array Value → Prop} {Post : Pt → Array Value → Option Value → Pt → Prop} {PostX : Pt → Array Value → Addr → Pt → Prop} (hK : vx_Back l R p e below s args y 3 W9 Pre Post PostX)
    {g : JFrame} (hg : g.method = m) (hsize : g.locals.size = c.maxLocals) {argsL rest : List Value} (hlen : ∀ sig, parseMethodDescriptor y.desc = some sig → argsL.length = sig.parameters.length)
    (hstack : g.stack = argsL.reverse ++ rest) (hW : 2 * g.monitorRoom + (rest.map fun v => v.category).sum ≤ W9) (hdg : decode c.code g.pc = .ok (.invokestatic index, 3))
    (hpre : ∀ vm₁, s.WarmedH vm₁ → Pre ⟨T.setVm vm₁, locs, cells, slots⟩ argsL.toArray) :
    (∃ (v : Option Value) (vm₁ : Vm) (B : Pt), s.WarmedH vm₁ ∧ Stand p l e R s m args below meth c B.U B.locs B.cells B.slots ∧ Post ⟨T.setVm vm₁, locs, cells, slots⟩ argsL.toArray v B ∧
      ∀ target, Steps p.tables e below (B.U.setTop { g with pc := g.pc + 3, stack := v.toList ++ rest }) target → Steps p.tables e below (T.setTop g) target) ∨
    (∃ (q : Addr) (vm₁ : Vm) (B : Pt), s.WarmedH vm₁ ∧ Stand p l e R s m args below meth c B.U B.locs B.cells B.slots ∧ PostX ⟨T.setVm vm₁, locs, cells, slots⟩ argsL.toArray q B ∧
      Steps p.tables e below (T.setTop g) ((B.U.setTop { g with stack := rest }).pushFrame (.throwing q))) := by
  obtain ⟨mk, methM, cM, hnamed, hmethM, -, -, -, -, -, -, hsigM⟩ := Cond.codeWith_spec hcode
  have hstatic : methM.isStatic = true := Cond.static_spec hnamed hmethM hstat
  obtain ⟨kP, hkP, -⟩ := className_of_methodNamed hnamed
  have hinitP : kP.init = .initialized := Cond.initialized_spec (findClass_of_methodNamed hnamed) hkP hinit
  obtain ⟨vm₁, X₁, hstep₁⟩ := X.invokestatic hexec hown hlink hnamed hmethM hstatic hkP hinitP hy (g := g) hg (argsL := argsL) (rest := rest) (hlen _ hsigM) hstack hdg
  rcases hK m meth c ⟨T.setVm vm₁, locs, cells, slots⟩ { g with stack := rest } (.invokestatic index) mk argsL.toArray X₁ hg hsize hdg hW (X₁.named hnamed) (hpre vm₁ X₁.warmed) with ⟨v, B, X', hpost, hsteps⟩ | ⟨q, B, X', hpost, hsteps⟩
  · exact Or.inl ⟨v, vm₁, B, X₁.warmed, X', hpost, fun target h => hstep₁ _ fun acts => by rw [doInvoke_state]; exact hsteps.trans h⟩
  · exact Or.inr ⟨q, vm₁, B, X₁.warmed, X', hpost, hstep₁ _ fun acts => by rw [doInvoke_state]; exact hsteps⟩
theorem vx_callVW (X : Stand p l e R s m args below meth c T locs cells slots) (hexec : p.tables.exec = Jvm.exec) {own C : String} {index : Nat} {y : MethodName} {bytes : ByteArray} {maxL : Nat} {ret : Option FieldType} {hh : List (Nat × Nat × Nat × Nat)}
    (hown : s.vm.findClass own = some m.cls) (hlink : (Cond.methodLink own index y).before args s = true) (hinst : (Cond.instanceMethod y).before args s = true) (hsel : (Cond.selects C y y).before args s = true)
    (hcode : (Cond.codeWith y bytes maxL ret hh).before args s = true) (hy : y.cls ≠ "java/lang/invoke/MethodHandle" ∧ y.cls ≠ "java/lang/invoke/VarHandle")
    {W9 : Nat} {Pre : Pt → Array Value → Prop} {Post : Pt → Array Value → Option Value → Pt → Prop} (hK : Back l R p e below s args y 3 W9 Pre Post)
    {b : Addr} {cellB : Cell} (hcell : T.heap[b]? = some cellB) (hobj : cellB.vm.isStatics = false) (hcls : s.vm.findClass C = some cellB.cls)
    {g : JFrame} (hg : g.method = m) (hsize : g.locals.size = c.maxLocals) {argsL rest : List Value} (hlen : ∀ sig, parseMethodDescriptor y.desc = some sig → argsL.length = sig.parameters.length)
    (hstack : g.stack = argsL.reverse ++ .ref b :: rest) (hW : 2 * g.monitorRoom + (rest.map fun v => v.category).sum ≤ W9) (hdg : decode c.code g.pc = .ok (.invokevirtual index, 3))
    (hpre : ∀ vm₁, s.WarmedH vm₁ → Pre ⟨T.setVm vm₁, locs, cells, slots⟩ (Value.ref b :: argsL).toArray) :
    ∃ (v : Option Value) (vm₁ : Vm) (B : Pt), s.WarmedH vm₁ ∧ Stand p l e R s m args below meth c B.U B.locs B.cells B.slots ∧ Post ⟨T.setVm vm₁, locs, cells, slots⟩ (Value.ref b :: argsL).toArray v B ∧
      ∀ target, Steps p.tables e below (B.U.setTop { g with pc := g.pc + 3, stack := v.toList ++ rest }) target → Steps p.tables e below (T.setTop g) target := by
  obtain ⟨mk, methM, hnamed, hmethM, hstM, habM⟩ := Cond.instanceMethod_spec hinst
  obtain ⟨m8, methM', cM, hn8, hmethM', -, -, -, -, -, -, hsigM⟩ := Cond.codeWith_spec hcode
  cases Option.some.inj (hn8.symm.trans hnamed)
  cases hmethM.symm.trans hmethM'
  obtain ⟨c2, r2, m2, q1, q2, q3, q4, kP, hkP, hkPi⟩ := Cond.selects_spec hsel
  cases hcls.symm.trans q1
  cases (State.methodFound?_of_named hnamed hy).symm.trans q2
  cases hnamed.symm.trans q3
  have hselP : selectMethod e.platform s.vm cellB.cls mk = .method mk := by rw [Launch.admits_selectMethod X.admits]; exact q4
  obtain ⟨vm₁, X₁, hstep₁⟩ := X.invokevirtual hexec hown hlink hnamed hmethM hstM hkP hkPi hy (a := b) (cell := cellB) hcell
    (fun z h => by rw [h] at hobj; cases hobj) hselP hmethM habM hkP hkPi (g := g) hg (argsL := argsL) (rest := rest) (hlen _ hsigM) hstack hdg
  obtain ⟨v, B, X', hpost, hsteps⟩ := hK m meth c ⟨T.setVm vm₁, locs, cells, slots⟩ { g with stack := rest } (.invokevirtual index) mk (Value.ref b :: argsL).toArray X₁ hg hsize hdg hW (X₁.named hnamed) (hpre vm₁ X₁.warmed)
  exact ⟨v, vm₁, B, X₁.warmed, X', hpost, fun target h => hstep₁ _ fun acts => by rw [doInvoke_state]; exact hsteps.trans h⟩
abbrev vx_CVW (R : Room) (s : State) (args : Array Value) (own C : String) (index : Nat) (y : MethodName) (bytes : ByteArray) (maxL : Nat) (ret : Option FieldType) (hh : List (Nat × Nat × Nat × Nat)) (ws : List Cond) (rm : Room) (mc ms n : Nat) : Prop :=
  (rm.cells = mc ∧ rm.slots = ms ∧ rm.frames + 1 ≤ R.frames ∧ 8 + (maxL + 11) + rm.locals ≤ R.locals ∧ (∀ w ∈ ws, ∀ (a' : Array Value) (U : State), s.WarmedH U.vm → w.before a' U = true) ∧ Cond.codeWith y bytes maxL ret hh ∈ ws) ∧
  (Cond.codeWith y bytes maxL ret hh).before args s = true ∧ (Cond.initialized y.cls).before args s = true ∧ (y.cls ≠ "java/lang/invoke/MethodHandle" ∧ y.cls ≠ "java/lang/invoke/VarHandle") ∧
  (∀ sig, parseMethodDescriptor y.desc = some sig → n = sig.parameters.length) ∧ (Cond.methodLink own index y).before args s = true ∧ (Cond.instanceMethod y).before args s = true ∧ (Cond.selects C y y).before args s = true
theorem vx_cwVW {own C : String} {index maxL mc ms : Nat} {y : MethodName} {bytes : ByteArray} {ret : Option FieldType} {hh : List (Nat × Nat × Nat × Nat)} {Ts ws ws' : List Cond} {rm : Room} (n : Nat) (ht : ∀ w ∈ Ts, w.before args s = true) (hT : GoodIn Ts (wsV own index C y ws)) (hw : ws = Cond.codeWith y bytes maxL ret hh :: ws') (hrc : rm.cells = mc) (hrs : rm.slots = ms)
    (hd : y.cls = C ∧ y.cls ≠ "java/lang/invoke/MethodHandle" ∧ y.cls ≠ "java/lang/invoke/VarHandle" ∧ (parseMethodDescriptor y.desc).map (fun d => d.parameters.length) = some n) (hR : rm.frames + 1 ≤ R.frames ∧ 8 + (maxL + 11) + rm.locals ≤ R.locals) :
    vx_CVW R s args own C index y bytes maxL ret hh ws rm mc ms n := by
  obtain ⟨hC, hd⟩ := hd
  subst hC
  have ok : ∀ w ∈ wsV own index y.cls y ws, w.before args s = true := fun w h => ht w (hT w h).1
  have hG : GoodIn Ts ws := fun w h => hT w (by unfold wsV; exact List.mem_append_right _ h)
  have hc : Cond.codeWith y bytes maxL ret hh ∈ ws := by rw [hw]; exact List.mem_cons_self
  refine ⟨⟨hrc, hrs, hR.1, hR.2, pay_in ht hG, hc⟩, ht _ (hG _ hc).1, ok _ (by simp [wsV]), ⟨hd.1, hd.2.1⟩, fun sig h => ?_, ok _ (by simp [wsV]), ok _ (by simp [wsV]), ok _ (by simp [wsV])⟩
  have h2 := hd.2.2
  rw [h] at h2
  exact (Option.some.inj h2).symm
theorem vx_runVW {y : MethodName} {bytes cc : ByteArray} {maxL nL mc ms n index : Nat} {ret : Option FieldType} {hh : List (Nat × Nat × Nat × Nat)} {ws : List Cond} {rm : Room} {Pc : Array Value → State → Prop} {Qc : Array Value → State → Outcome → State → Prop} {free : Addr → Prop} {Ts : List Cond} {own C : String} {b : Addr} {As rest : List Value} {g : JFrame}
    (S : CallFix p m c cc nL s args Ts own) (hM : Met l y ws rm Pc Qc mc ms free) (cw : vx_CVW R s args own C index y bytes maxL ret hh ws rm mc ms n) (hp : PreV s H C b Pc As)
    (hg : g.method = m) (hn : As.length = n) (hsize : g.locals.size = nL) (hstack : g.stack = As.reverse ++ .ref b :: rest) (hW : 2 * g.monitorRoom + (rest.map fun v => v.category).sum ≤ 8) (hdg : decode cc g.pc = .ok (.invokevirtual index, 3)) (hf : cells + mc ≤ R.cells ∧ slots + ms ≤ R.slots) :
    va_Run p l e R s m args below meth c H locs cells slots mc ms g rest (Qc (Value.ref b :: As).toArray) free := by
  obtain ⟨⟨hrc, hrs, hfr, hlo, hws, hcw⟩, hcode, hini, hy, hlen, hl, hin, hse⟩ := cw
  have hK : Back l R p e below s args y 3 8 (PreOf R mc ms Pc) (PostOf Qc mc ms free) := va_backW (hh := hh) (bytes := bytes) (maxL := maxL) (ret := ret) hM hp.1 hrc hrs hfr hlo hws hcw (fun a' U hW => word_at hW (Or.inl (by first | rfl | simp [Cond.onTables, Cond.keeps, Cond.steady])) hini)
  obtain ⟨hx, hb, hml, ho, -⟩ := S
  obtain ⟨-, ⟨cellB, hcB, hoB, hclB⟩, hPc⟩ := hp
  intro T hT X
  obtain ⟨v, vm₁, ⟨U', l2, c2, s2⟩, hW₁, X', ⟨g', mk, t, L, e1, e2, hq, h1, hL, h2, h3⟩, st⟩ := vx_callVW X hx (C := C) (hh := hh) (bytes := bytes) (maxL := maxL) (ret := ret) ho hl hin hse hcode hy hK (by rw [hT]; exact hcB) hoB hclB hg (hsize.trans hml.symm) (argsL := As) (rest := rest) (fun sig h => hn.trans (hlen sig h)) hstack hW (by rw [hb]; exact hdg)
    (fun vm₁ hW₁ => ⟨hf.1, hf.2, hPc (T.setVm vm₁) hT hW₁⟩)
  dsimp only [Pt.U, Pt.locs, Pt.cells, Pt.slots] at X' e1 e2 h1 h2 h3 st
  subst h1; subst h2; subst h3
  exact ⟨v, (T.setVm vm₁).calling g' mk (Value.ref b :: As).toArray, t, U', L, hT, X', hL, e1, e2, hq, st⟩
section
variable {y : MethodName} {bytes cc : ByteArray} {maxL nL mc ms n index : Nat} {ret : Option FieldType} {ws : List Cond} {rm : Room} {Pc : Array Value → State → Prop} {Qc : Array Value → State → Outcome → State → Prop} {XC : String → State → State → Prop} {free : Addr → Prop} {Ts : List Cond} {own C : String} {b : Addr} {As rest : List Value} {g : JFrame}
theorem vx_runVX {hh : List (Nat × Nat × Nat × Nat)} (S : CallFix p m c cc nL s args Ts own) (hM : vx_Met l y ws rm Pc Qc XC mc ms free) (cw : vx_CVW R s args own C index y bytes maxL ret hh ws rm mc ms n) (hp : PreV s H C b Pc As)
    (hg : g.method = m) (hn : As.length = n) (hsize : g.locals.size = nL) (hstack : g.stack = As.reverse ++ .ref b :: rest) (hW : 2 * g.monitorRoom + (rest.map fun v => v.category).sum ≤ 8) (hdg : decode cc g.pc = .ok (.invokevirtual index, 3)) (hf : cells + mc ≤ R.cells ∧ slots + ms ≤ R.slots) :
    vx_Run p l e R s m args below meth c H locs cells slots mc ms g rest (Qc (Value.ref b :: As).toArray) XC free := by
  obtain ⟨⟨hrc, hrs, hfr, hlo, hws, hcw⟩, hcode, hini, hy, hlen, hl, hin, hse⟩ := cw
  have hK : vx_Back l R p e below s args y 3 8 (PreOf R mc ms Pc) (PostOf Qc mc ms free) (vx_Post XC mc ms free) := vx_backW (hh := hh) (bytes := bytes) (maxL := maxL) (ret := ret) hM hp.1 hrc hrs hfr hlo hws hcw (fun a' U hW => word_at hW (Or.inl (by first | rfl | simp [Cond.onTables, Cond.keeps, Cond.steady])) hini)
  obtain ⟨hx, hb, hml, ho, -⟩ := S
  obtain ⟨-, ⟨cellB, hcB, hoB, hclB⟩, hPc⟩ := hp
  intro T hT X
  rcases vx_callVX X hx (C := C) (hh := hh) (bytes := bytes) (maxL := maxL) (ret := ret) ho hl hin hse hcode hy hK (by rw [hT]; exact hcB) hoB hclB hg (hsize.trans hml.symm) (argsL := As) (rest := rest) (fun sig h => hn.trans (hlen sig h)) hstack hW (by rw [hb]; exact hdg)
    (fun vm₁ hW₁ => ⟨hf.1, hf.2, hPc (T.setVm vm₁) hT hW₁⟩) with ⟨v, vm₁, ⟨U', l2, c2, s2⟩, hW₁, X', ⟨g', mk, t, L, e1, e2, hq, h1, hL, h2, h3⟩, st⟩ | ⟨q, vm₁, ⟨U', l2, c2, s2⟩, hW₁, X', ⟨g', mk, t, L, E, ce, e1, e2, hq, hce, hcv, hcl, h1, hL, h2, h3⟩, st⟩
  · dsimp only [Pt.U, Pt.locs, Pt.cells, Pt.slots] at X' e1 e2 h1 h2 h3 st
    subst h1; subst h2; subst h3
    exact Or.inl ⟨v, (T.setVm vm₁).calling g' mk (Value.ref b :: As).toArray, t, U', L, hT, X', hL, e1, e2, hq, st⟩
  · dsimp only [Pt.U, Pt.locs, Pt.cells, Pt.slots] at X' e1 e2 h1 h2 h3 st hcl
    subst h1; subst h2; subst h3
    exact Or.inr ⟨q, (T.setVm vm₁).calling g' mk (Value.ref b :: As).toArray, t, U', L, E, ce, hT, X', hL, e1, e2, hq, hce, hcv, vx_cls hW₁ hcl, st⟩
theorem vx_runSX {hh : List (Nat × Nat × Nat × Nat)} (S : CallFix p m c cc nL s args Ts own) (hM : vx_Met l y ws rm Pc Qc XC mc ms free) (cw : vx_CSW R s args own index y bytes maxL ret hh ws rm mc ms n) (hp : PreS s H Pc As)
    (hg : g.method = m) (hn : As.length = n) (hsize : g.locals.size = nL) (hstack : g.stack = As.reverse ++ rest) (hW : 2 * g.monitorRoom + (rest.map fun v => v.category).sum ≤ 8) (hdg : decode cc g.pc = .ok (.invokestatic index, 3)) (hf : cells + mc ≤ R.cells ∧ slots + ms ≤ R.slots) :
    vx_Run p l e R s m args below meth c H locs cells slots mc ms g rest (Qc As.toArray) XC free := by
  obtain ⟨⟨hrc, hrs, hfr, hlo, hws, hcw⟩, hcode, hini, hy, hlen, hl, hstt⟩ := cw
  have hK : vx_Back l R p e below s args y 3 8 (PreOf R mc ms Pc) (PostOf Qc mc ms free) (vx_Post XC mc ms free) := vx_backW (hh := hh) (bytes := bytes) (maxL := maxL) (ret := ret) hM hp.1 hrc hrs hfr hlo hws hcw (fun a' U hW => word_at hW (Or.inl (by first | rfl | simp [Cond.onTables, Cond.keeps, Cond.steady])) hini)
  obtain ⟨hx, hb, hml, ho, -⟩ := S
  intro T hT X
  rcases vx_callSX X hx (hh := hh) (bytes := bytes) (maxL := maxL) (ret := ret) ho hl hstt hini hcode hy hK hg (hsize.trans hml.symm) (argsL := As) (rest := rest) (fun sig h => hn.trans (hlen sig h)) hstack hW (by rw [hb]; exact hdg)
    (fun vm₁ hW₁ => ⟨hf.1, hf.2, hp.2 (T.setVm vm₁) hT hW₁⟩) with ⟨v, vm₁, ⟨U', l2, c2, s2⟩, hW₁, X', ⟨g', mk, t, L, e1, e2, hq, h1, hL, h2, h3⟩, st⟩ | ⟨q, vm₁, ⟨U', l2, c2, s2⟩, hW₁, X', ⟨g', mk, t, L, E, ce, e1, e2, hq, hce, hcv, hcl, h1, hL, h2, h3⟩, st⟩
  · dsimp only [Pt.U, Pt.locs, Pt.cells, Pt.slots] at X' e1 e2 h1 h2 h3 st
    subst h1; subst h2; subst h3
    exact Or.inl ⟨v, (T.setVm vm₁).calling g' mk As.toArray, t, U', L, hT, X', hL, e1, e2, hq, st⟩
  · dsimp only [Pt.U, Pt.locs, Pt.cells, Pt.slots] at X' e1 e2 h1 h2 h3 st hcl
    subst h1; subst h2; subst h3
    exact Or.inr ⟨q, (T.setVm vm₁).calling g' mk As.toArray, t, U', L, E, ce, hT, X', hL, e1, e2, hq, hce, hcv, vx_cls hW₁ hcl, st⟩
end
end VXH
theorem vx_ofWH {l : Launch} {y : MethodName} {ws ws' : List Cond} {rm : Room} {Pc : Array Value → State → Prop} {Qc : Array Value → State → Outcome → State → Prop} {XC : String → State → State → Prop} {mc ms : Nat} {free : Addr → Prop} {cc : ByteArray} {maxL : Nat} {ret : Option FieldType} {hh : List (Nat × Nat × Nat × Nat)}
    (hy : plainName y.cls = true) (hw : ws = Cond.codeWith y cc maxL ret hh :: ws')
    (body : ∀ p e s m args below meth c s₁, BodyLoose p l y (headSpec ws rm) cc maxL ret e s m args below meth c s₁ → c.maxLocals = maxL → Pc args s →
      W p l e (headSpec ws rm).room s m args below meth c s.heap [] 0 0 (vx_MQ below Qc XC args s mc ms free) (entryFrame m args maxL)) : vx_Met l y ws rm Pc Qc XC mc ms free := by
  refine MetFree.of_bodyS (code := cc) (maxLocals := maxL) (ret := ret) hy ?_ ?_
  · intro args s m h hn
    obtain ⟨m9, meth, c, hn9, h1, h2, h3, h4, -, h5, h6, -⟩ := Cond.codeWith_spec (atoms_spec (ws := ws) h _ (by rw [hw]; exact List.mem_cons_self))
    cases hn.symm.trans hn9
    exact ⟨meth, c, h1, h2, h3, h4, h5, h6⟩
  · intro p e s m args below meth c s₁ B hml hP _
    have hh0 : s₁.heap = s.heap := by rw [B.state]; rfl
    obtain ⟨t, a1, o, b1, b2, b3⟩ := body p e s m args below meth c s₁ B hml hP s₁ hh0 (Stand.of_body B)
    exact ⟨t, o, a1, b1, b2, b3⟩
/-! ===== END ===== -/
end
section
/-! NoSuchElementException's constructor links its super's by entry 13 of its pool (the throws' text above speaks of entry 7): its words by hand -/
def zNN : String := "java/util/NoSuchElementException"
def zRT : String := "java/lang/RuntimeException"
def zAtN0 : List Cond := Bundle.throwableAtoms ++ Bundle.throwableSAtoms ++ Bundle.passSAtoms zNN zRT 13 prog_18_method_4_code ++ Bundle.chainSAtoms zRT ["java/lang/Exception"] ++
  [.methodLink "LiftRows2" 89 (Bundle.initS zNN), .instantiable zNN 6, .castable zNN zNN, .selects zNN Bundle.tFill0 Bundle.tFill0, .selects zNN Bundle.tFill Bundle.tFill,
   .lays zNN Bundle.tN "cause" "Ljava/lang/Throwable;", .lays zNN Bundle.tN "stackTrace" Bundle.steD, .lays zNN Bundle.tN "suppressedExceptions" Bundle.listD, .lays zNN Bundle.tN "detailMessage" "Ljava/lang/String;",
   .isRef (.static Bundle.tN "UNASSIGNED_STACK" Bundle.steD), .isRef (.static Bundle.tN "SUPPRESSED_SENTINEL" Bundle.listD),
   .fieldLink Bundle.tN 198 Bundle.tN "backtrace" "Ljava/lang/Object;", .lays Bundle.tN Bundle.tN "backtrace" "Ljava/lang/Object;", .lays zNN Bundle.tN "backtrace" "Ljava/lang/Object;"]
def zAtN : List Cond := zAtN0.filter vx_no
/-! ===== BEGIN printed: names, fields, word lists, decode rows ===== -/
def RX0 : String := "LiftRows2$Calls"
def TX0 : u_T := fun k => match k with
  | 0 => ("LiftRows2$Calls", "from", "[I", true)
  | 1 => ("LiftRows2$Calls", "to", "[I", true)
  | 2 => ("LiftRows2$Calls", "rank", "[I", true)
  | 3 => ("LiftRows2$Calls", "load", "[I", true)
  | 4 => ("LiftRows2$Calls", "state", "[I", true)
  | 5 => ("LiftRows2$Calls", "by", "[I", true)
  | 6 => ("LiftRows2$Calls", "cameAt", "[I", true)
  | 7 => ("LiftRows2$Calls", "boardedAt", "[I", true)
  | 8 => ("LiftRows2$Calls", "servedAt", "[I", true)
  | _ => ("LiftRows2$Calls", "size", "I", false)
def tyX0 : Nat → FieldType := fun k => match k with
  | 0 => .array .int
  | 1 => .array .int
  | 2 => .array .int
  | 3 => .array .int
  | 4 => .array .int
  | 5 => .array .int
  | 6 => .array .int
  | 7 => .array .int
  | 8 => .array .int
  | _ => .int
abbrev wsX00 : List Cond := u_ws RX0 TX0 10
theorem nmX0 : ∀ a, a < 10 → ∀ b, b < 10 → a ≠ b → (TX0 a).2.1 ≠ (TX0 b).2.1 := by decide +kernel
theorem tyX0_ok : ∀ k, k < 10 → parseFieldDescriptor (TX0 k).2.2.1 = some (tyX0 k) := by decide +kernel
abbrev cX0_init : ByteArray := prog_2_method_1_code
def yX0_init : MethodName := ⟨RX0, "<init>", "()V"⟩
abbrev cX0_add : ByteArray := prog_2_method_2_code
def yX0_add : MethodName := ⟨RX0, "add", "(IIIII)I"⟩
abbrev cX0_is : ByteArray := prog_2_method_3_code
def yX0_is : MethodName := ⟨RX0, "is", "(III)Z"⟩
abbrev cX0_getsOut : ByteArray := prog_2_method_4_code
def yX0_getsOut : MethodName := ⟨RX0, "getsOut", "(III)Z"⟩
abbrev cX0_fitsIn : ByteArray := prog_2_method_5_code
def yX0_fitsIn : MethodName := ⟨RX0, "fitsIn", "(IIII)Z"⟩
abbrev cX0_number : ByteArray := prog_2_method_6_code
def yX0_number : MethodName := ⟨RX0, "number", "(II)I"⟩
abbrev cX0_setOf : ByteArray := prog_2_method_7_code
def yX0_setOf : MethodName := ⟨RX0, "setOf", "(II)I"⟩
abbrev cX0_setFrom : ByteArray := prog_2_method_8_code
def yX0_setFrom : MethodName := ⟨RX0, "setFrom", "(I)I"⟩
abbrev cX0_setTo : ByteArray := prog_2_method_9_code
def yX0_setTo : MethodName := ⟨RX0, "setTo", "(I)I"⟩
abbrev cX0_loadAboard : ByteArray := prog_2_method_10_code
def yX0_loadAboard : MethodName := ⟨RX0, "loadAboard", "(I)I"⟩
abbrev cX0_loadStaying : ByteArray := prog_2_method_11_code
def yX0_loadStaying : MethodName := ⟨RX0, "loadStaying", "(II)I"⟩
abbrev cX0_numberWaiting : ByteArray := prog_2_method_12_code
def yX0_numberWaiting : MethodName := ⟨RX0, "numberWaiting", "()I"⟩
abbrev cX0_levelsWithWaiting : ByteArray := prog_2_method_13_code
def yX0_levelsWithWaiting : MethodName := ⟨RX0, "levelsWithWaiting", "()I"⟩
abbrev cX0_hasWork : ByteArray := prog_2_method_14_code
def yX0_hasWork : MethodName := ⟨RX0, "hasWork", "(III)Z"⟩
abbrev cX0_nearestStop : ByteArray := prog_2_method_15_code
def yX0_nearestStop : MethodName := ⟨RX0, "nearestStop", "(IIII)I"⟩
def RX1 : String := "LiftRows2$Events"
def TX1 : u_T := fun k => match k with
  | 0 => ("LiftRows2$Events", "second", "[I", true)
  | 1 => ("LiftRows2$Events", "lift", "[I", true)
  | 2 => ("LiftRows2$Events", "call", "[I", true)
  | 3 => ("LiftRows2$Events", "kind", "[I", true)
  | _ => ("LiftRows2$Events", "size", "I", false)
def tyX1 : Nat → FieldType := fun k => match k with
  | 0 => .array .int
  | 1 => .array .int
  | 2 => .array .int
  | 3 => .array .int
  | _ => .int
abbrev wsX10 : List Cond := u_ws RX1 TX1 5
theorem nmX1 : ∀ a, a < 5 → ∀ b, b < 5 → a ≠ b → (TX1 a).2.1 ≠ (TX1 b).2.1 := by decide +kernel
theorem tyX1_ok : ∀ k, k < 5 → parseFieldDescriptor (TX1 k).2.2.1 = some (tyX1 k) := by decide +kernel
abbrev cX1_init : ByteArray := prog_3_method_1_code
def yX1_init : MethodName := ⟨RX1, "<init>", "()V"⟩
abbrev cX1_add : ByteArray := prog_3_method_2_code
def yX1_add : MethodName := ⟨RX1, "add", "(IIII)V"⟩
def RX2 : String := "LiftRows2$Lifts"
def TX2 : u_T := fun k => match k with
  | 0 => ("LiftRows2$Lifts", "at", "[I", true)
  | 1 => ("LiftRows2$Lifts", "capacity", "[I", true)
  | 2 => ("LiftRows2$Lifts", "direction", "[I", true)
  | 3 => ("LiftRows2$Lifts", "openFor", "[I", true)
  | 4 => ("LiftRows2$Lifts", "isStuck", "[Z", true)
  | 5 => ("LiftRows2$Lifts", "isReserved", "[Z", true)
  | 6 => ("LiftRows2$Lifts", "isKept", "[Z", true)
  | 7 => ("LiftRows2$Lifts", "size", "I", false)
  | _ => ("LiftRows2$Lifts", "gone", "I", false)
def tyX2 : Nat → FieldType := fun k => match k with
  | 0 => .array .int
  | 1 => .array .int
  | 2 => .array .int
  | 3 => .array .int
  | 4 => .array .boolean
  | 5 => .array .boolean
  | 6 => .array .boolean
  | 7 => .int
  | _ => .int
abbrev wsX20 : List Cond := u_ws RX2 TX2 9
theorem nmX2 : ∀ a, a < 9 → ∀ b, b < 9 → a ≠ b → (TX2 a).2.1 ≠ (TX2 b).2.1 := by decide +kernel
theorem tyX2_ok : ∀ k, k < 9 → parseFieldDescriptor (TX2 k).2.2.1 = some (tyX2 k) := by decide +kernel
abbrev cX2_init : ByteArray := prog_4_method_1_code
def yX2_init : MethodName := ⟨RX2, "<init>", "()V"⟩
abbrev cX2_add : ByteArray := prog_4_method_2_code
def yX2_add : MethodName := ⟨RX2, "add", "(II)I"⟩
abbrev cX2_mayGet : ByteArray := prog_4_method_3_code
def yX2_mayGet : MethodName := ⟨RX2, "mayGet", "(II)Z"⟩
abbrev cX2_passOpenSecond : ByteArray := prog_4_method_4_code
def yX2_passOpenSecond : MethodName := ⟨RX2, "passOpenSecond", "(I)V"⟩
abbrev cX2_go : ByteArray := prog_4_method_5_code
def yX2_go : MethodName := ⟨RX2, "go", "(IZZ)V"⟩
def RX3 : String := "LiftRows2"
def TX3 : u_T := fun k => match k with
  | 0 => ("LiftRows2", "levels", "I", true)
  | 1 => ("LiftRows2", "lifts", "LLiftRows2$Lifts;", true)
  | 2 => ("LiftRows2", "calls", "LLiftRows2$Calls;", true)
  | 3 => ("LiftRows2", "events", "LLiftRows2$Events;", true)
  | _ => ("LiftRows2", "time", "I", false)
def tyX3 : Nat → FieldType := fun k => match k with
  | 0 => .int
  | 1 => .object "LiftRows2$Lifts"
  | 2 => .object "LiftRows2$Calls"
  | 3 => .object "LiftRows2$Events"
  | _ => .int
abbrev wsX30 : List Cond := u_ws RX3 TX3 5
theorem nmX3 : ∀ a, a < 5 → ∀ b, b < 5 → a ≠ b → (TX3 a).2.1 ≠ (TX3 b).2.1 := by decide +kernel
theorem tyX3_ok : ∀ k, k < 5 → parseFieldDescriptor (TX3 k).2.2.1 = some (tyX3 k) := by decide +kernel
abbrev cX3_init : ByteArray := prog_1_method_1_code
def yX3_init : MethodName := ⟨RX3, "<init>", "(I)V"⟩
abbrev cX3_lift : ByteArray := prog_1_method_2_code
def yX3_lift : MethodName := ⟨RX3, "lift", "(II)I"⟩
abbrev cX3_call : ByteArray := prog_1_method_3_code
def yX3_call : MethodName := ⟨RX3, "call", "(IIII)I"⟩
abbrev cX3_step : ByteArray := prog_1_method_4_code
def yX3_step : MethodName := ⟨RX3, "step", "(I)I"⟩
abbrev cX3_event : ByteArray := prog_1_method_5_code
def yX3_event : MethodName := ⟨RX3, "event", "(II)I"⟩
abbrev cX3_level : ByteArray := prog_1_method_6_code
def yX3_level : MethodName := ⟨RX3, "level", "(I)I"⟩
abbrev cX3_told : ByteArray := prog_1_method_7_code
def yX3_told : MethodName := ⟨RX3, "told", "(II)I"⟩
abbrev cX3_door : ByteArray := prog_1_method_8_code
def yX3_door : MethodName := ⟨RX3, "door", "(IZ)V"⟩
abbrev cX3_stuck : ByteArray := prog_1_method_9_code
def yX3_stuck : MethodName := ⟨RX3, "stuck", "(IZ)I"⟩
abbrev cX3_reserved : ByteArray := prog_1_method_10_code
def yX3_reserved : MethodName := ⟨RX3, "reserved", "(IZ)I"⟩
abbrev cX3_freed : ByteArray := prog_1_method_11_code
def yX3_freed : MethodName := ⟨RX3, "freed", "()I"⟩
abbrev cX3_served : ByteArray := prog_1_method_12_code
def yX3_served : MethodName := ⟨RX3, "served", "(I)I"⟩
abbrev cX3_waits : ByteArray := prog_1_method_13_code
def yX3_waits : MethodName := ⟨RX3, "waits", "(I)I"⟩
abbrev cX3_least : ByteArray := prog_1_method_14_code
def yX3_least : MethodName := ⟨RX3, "least", "(I)I"⟩
abbrev cX3_joins : ByteArray := prog_1_method_15_code
def yX3_joins : MethodName := ⟨RX3, "joins", "(II)Z"⟩
abbrev cX3_known : ByteArray := prog_1_method_16_code
def yX3_known : MethodName := ⟨RX3, "known", "(II)I"⟩
abbrev cX3_count : ByteArray := prog_1_method_17_code
def yX3_count : MethodName := ⟨RX3, "count", "(I)I"⟩
abbrev cX3_refuseOutside : ByteArray := prog_1_method_18_code
def yX3_refuseOutside : MethodName := ⟨RX3, "refuseOutside", "(III)V"⟩
abbrev cX3_refuseUnchanged : ByteArray := prog_1_method_19_code
def yX3_refuseUnchanged : MethodName := ⟨RX3, "refuseUnchanged", "(ZZ)V"⟩
abbrev cX3_refuseNoLift : ByteArray := prog_1_method_20_code
def yX3_refuseNoLift : MethodName := ⟨RX3, "refuseNoLift", "(I)V"⟩
abbrev cX3_refuseNoCall : ByteArray := prog_1_method_21_code
def yX3_refuseNoCall : MethodName := ⟨RX3, "refuseNoCall", "(I)V"⟩
abbrev cX3_asNumber : ByteArray := prog_1_method_22_code
def yX3_asNumber : MethodName := ⟨RX3, "asNumber", "(Z)I"⟩
abbrev cX3_nearestLift : ByteArray := prog_1_method_23_code
def yX3_nearestLift : MethodName := ⟨RX3, "nearestLift", "(II)I"⟩
abbrev cX3_giveAnew : ByteArray := prog_1_method_24_code
def yX3_giveAnew : MethodName := ⟨RX3, "giveAnew", "(I)I"⟩
abbrev cX3_passSecond : ByteArray := prog_1_method_25_code
def yX3_passSecond : MethodName := ⟨RX3, "passSecond", "()V"⟩
abbrev cX3_doOneThing : ByteArray := prog_1_method_26_code
def yX3_doOneThing : MethodName := ⟨RX3, "doOneThing", "(I)V"⟩
abbrev cX3_opensHere : ByteArray := prog_1_method_27_code
def yX3_opensHere : MethodName := ⟨RX3, "opensHere", "(I)Z"⟩
abbrev cX3_letOut : ByteArray := prog_1_method_28_code
def yX3_letOut : MethodName := ⟨RX3, "letOut", "(I)V"⟩
abbrev cX3_letIn : ByteArray := prog_1_method_29_code
def yX3_letIn : MethodName := ⟨RX3, "letIn", "(I)V"⟩
abbrev cX3_leastWay : ByteArray := prog_1_method_30_code
def yX3_leastWay : MethodName := ⟨RX3, "leastWay", "(LLiftRows2$Calls;IIII)I"⟩
def RX4 : String := "LiftRows2Model"
def TX4 : u_T := fun k => match k with
  | 0 => ("LiftRows2Model", "code", "I", false)
  | 1 => ("LiftRows2Model", "levels", "I", true)
  | 2 => ("LiftRows2Model", "time", "I", false)
  | 3 => ("LiftRows2Model", "gone", "I", false)
  | 4 => ("LiftRows2Model", "lifts", "I", false)
  | 5 => ("LiftRows2Model", "at", "[I", true)
  | 6 => ("LiftRows2Model", "capacity", "[I", true)
  | 7 => ("LiftRows2Model", "direction", "[I", true)
  | 8 => ("LiftRows2Model", "open", "[I", true)
  | 9 => ("LiftRows2Model", "kept", "[Z", true)
  | 10 => ("LiftRows2Model", "stuck", "[Z", true)
  | 11 => ("LiftRows2Model", "reserved", "[Z", true)
  | 12 => ("LiftRows2Model", "calls", "I", false)
  | 13 => ("LiftRows2Model", "from", "[I", true)
  | 14 => ("LiftRows2Model", "to", "[I", true)
  | 15 => ("LiftRows2Model", "rank", "[I", true)
  | 16 => ("LiftRows2Model", "load", "[I", true)
  | 17 => ("LiftRows2Model", "state", "[I", true)
  | 18 => ("LiftRows2Model", "liftOf", "[I", true)
  | 19 => ("LiftRows2Model", "came", "[I", true)
  | 20 => ("LiftRows2Model", "boarded", "[I", true)
  | 21 => ("LiftRows2Model", "servedAt", "[I", true)
  | 22 => ("LiftRows2Model", "events", "I", false)
  | 23 => ("LiftRows2Model", "eventTime", "[I", true)
  | 24 => ("LiftRows2Model", "eventCall", "[I", true)
  | 25 => ("LiftRows2Model", "eventKind", "[I", true)
  | 26 => ("LiftRows2Model", "ways", "[I", true)
  | _ => ("LiftRows2Model", "about", "[I", true)
def tyX4 : Nat → FieldType := fun k => match k with
  | 0 => .int
  | 1 => .int
  | 2 => .int
  | 3 => .int
  | 4 => .int
  | 5 => .array .int
  | 6 => .array .int
  | 7 => .array .int
  | 8 => .array .int
  | 9 => .array .boolean
  | 10 => .array .boolean
  | 11 => .array .boolean
  | 12 => .int
  | 13 => .array .int
  | 14 => .array .int
  | 15 => .array .int
  | 16 => .array .int
  | 17 => .array .int
  | 18 => .array .int
  | 19 => .array .int
  | 20 => .array .int
  | 21 => .array .int
  | 22 => .int
  | 23 => .array .int
  | 24 => .array .int
  | 25 => .array .int
  | 26 => .array .int
  | _ => .array .int
abbrev wsX40 : List Cond := u_ws RX4 TX4 28
theorem nmX4 : ∀ a, a < 28 → ∀ b, b < 28 → a ≠ b → (TX4 a).2.1 ≠ (TX4 b).2.1 := by decide +kernel
theorem tyX4_ok : ∀ k, k < 28 → parseFieldDescriptor (TX4 k).2.2.1 = some (tyX4 k) := by decide +kernel
abbrev cX4_init : ByteArray := prog_6_method_1_code
def yX4_init : MethodName := ⟨RX4, "<init>", "(I)V"⟩
abbrev cX4_thrown : ByteArray := prog_6_method_2_code
def yX4_thrown : MethodName := ⟨RX4, "thrown", "()I"⟩
abbrev cX4_in : ByteArray := prog_6_method_3_code
def yX4_in : MethodName := ⟨RX4, "in", "(III)Z"⟩
abbrev cX4_isLevel : ByteArray := prog_6_method_4_code
def yX4_isLevel : MethodName := ⟨RX4, "isLevel", "(I)Z"⟩
abbrev cX4_isLift : ByteArray := prog_6_method_5_code
def yX4_isLift : MethodName := ⟨RX4, "isLift", "(I)Z"⟩
abbrev cX4_isCall : ByteArray := prog_6_method_6_code
def yX4_isCall : MethodName := ⟨RX4, "isCall", "(I)Z"⟩
abbrev cX4_far : ByteArray := prog_6_method_7_code
def yX4_far : MethodName := ⟨RX4, "far", "(II)I"⟩
abbrev cX4_lift : ByteArray := prog_6_method_8_code
def yX4_lift : MethodName := ⟨RX4, "lift", "(II)I"⟩
abbrev cX4_nearest : ByteArray := prog_6_method_9_code
def yX4_nearest : MethodName := ⟨RX4, "nearest", "(I)I"⟩
abbrev cX4_call : ByteArray := prog_6_method_10_code
def yX4_call : MethodName := ⟨RX4, "call", "(IIII)I"⟩
abbrev cX4_is : ByteArray := prog_6_method_11_code
def yX4_is : MethodName := ⟨RX4, "is", "(III)Z"⟩
abbrev cX4_aboard : ByteArray := prog_6_method_12_code
def yX4_aboard : MethodName := ⟨RX4, "aboard", "(I)I"⟩
abbrev cX4_tell : ByteArray := prog_6_method_13_code
def yX4_tell : MethodName := ⟨RX4, "tell", "(II)V"⟩
abbrev cX4_stops : ByteArray := prog_6_method_14_code
def yX4_stops : MethodName := ⟨RX4, "stops", "(I)Z"⟩
abbrev cX4_exchange : ByteArray := prog_6_method_15_code
def yX4_exchange : MethodName := ⟨RX4, "exchange", "(I)V"⟩
abbrev cX4_hasWork : ByteArray := prog_6_method_16_code
def yX4_hasWork : MethodName := ⟨RX4, "hasWork", "(II)Z"⟩
abbrev cX4_second : ByteArray := prog_6_method_17_code
def yX4_second : MethodName := ⟨RX4, "second", "(I)V"⟩
abbrev cX4_step : ByteArray := prog_6_method_18_code
def yX4_step : MethodName := ⟨RX4, "step", "(I)I"⟩
abbrev cX4_event : ByteArray := prog_6_method_19_code
def yX4_event : MethodName := ⟨RX4, "event", "(II)I"⟩
abbrev cX4_level : ByteArray := prog_6_method_20_code
def yX4_level : MethodName := ⟨RX4, "level", "(I)I"⟩
abbrev cX4_many : ByteArray := prog_6_method_21_code
def yX4_many : MethodName := ⟨RX4, "many", "(II)I"⟩
abbrev cX4_told : ByteArray := prog_6_method_22_code
def yX4_told : MethodName := ⟨RX4, "told", "(II)I"⟩
abbrev cX4_door : ByteArray := prog_6_method_23_code
def yX4_door : MethodName := ⟨RX4, "door", "(IZ)V"⟩
abbrev cX4_stuck : ByteArray := prog_6_method_24_code
def yX4_stuck : MethodName := ⟨RX4, "stuck", "(IZ)I"⟩
abbrev cX4_reserved : ByteArray := prog_6_method_25_code
def yX4_reserved : MethodName := ⟨RX4, "reserved", "(IZ)I"⟩
abbrev cX4_freed : ByteArray := prog_6_method_26_code
def yX4_freed : MethodName := ⟨RX4, "freed", "()I"⟩
abbrev cX4_served : ByteArray := prog_6_method_27_code
def yX4_served : MethodName := ⟨RX4, "served", "(I)I"⟩
abbrev cX4_waits : ByteArray := prog_6_method_28_code
def yX4_waits : MethodName := ⟨RX4, "waits", "(I)I"⟩
abbrev cX4_lower : ByteArray := prog_6_method_29_code
def yX4_lower : MethodName := ⟨RX4, "lower", "(III)V"⟩
abbrev cX4_least : ByteArray := prog_6_method_30_code
def yX4_least : MethodName := ⟨RX4, "least", "(I)I"⟩
abbrev cX4_goOn : ByteArray := prog_6_method_31_code
def yX4_goOn : MethodName := ⟨RX4, "goOn", "(III)V"⟩
abbrev cX4_joins : ByteArray := prog_6_method_32_code
def yX4_joins : MethodName := ⟨RX4, "joins", "(II)Z"⟩
abbrev cX4_known : ByteArray := prog_6_method_33_code
def yX4_known : MethodName := ⟨RX4, "known", "(II)I"⟩
abbrev cX4_count : ByteArray := prog_6_method_34_code
def yX4_count : MethodName := ⟨RX4, "count", "(I)I"⟩
def RJx00060 : String := "java/lang/ArrayIndexOutOfBoundsException"
def TJx00060 : u_T := fun k => match k with
  | 0 => ("java/lang/Throwable", "cause", "Ljava/lang/Throwable;", false)
  | 1 => ("java/lang/Throwable", "stackTrace", "[Ljava/lang/StackTraceElement;", false)
  | 2 => ("java/lang/Throwable", "suppressedExceptions", "Ljava/util/List;", false)
  | 3 => ("java/lang/Throwable", "detailMessage", "Ljava/lang/String;", false)
  | 4 => ("java/lang/Throwable", "backtrace", "Ljava/lang/Object;", false)
  | _ => ("java/lang/Throwable", "depth", "I", false)
def tyJx00060 : Nat → FieldType := fun k => match k with
  | 0 => .object "java/lang/Throwable"
  | 1 => .array (.object "java/lang/StackTraceElement")
  | 2 => .object "java/util/List"
  | 3 => .object "java/lang/String"
  | 4 => .object "java/lang/Object"
  | _ => .int
abbrev wsJx000600 : List Cond := u_ws RJx00060 TJx00060 6
theorem nmJx00060 : ∀ a, a < 6 → ∀ b, b < 6 → a ≠ b → (TJx00060 a).2.1 ≠ (TJx00060 b).2.1 := by decide +kernel
theorem tyJx00060_ok : ∀ k, k < 6 → parseFieldDescriptor (TJx00060 k).2.2.1 = some (tyJx00060 k) := by decide +kernel
abbrev cJx00060_init_a7421 : ByteArray := prog_7_method_2_code
def yJx00060_init_a7421 : MethodName := ⟨RJx00060, "<init>", "(Ljava/lang/String;)V"⟩
def RJ6 : String := "java/lang/Integer"
def TJ6 : u_T := fun k => match k with
  | _ => ("", "", "", false)
def tyJ6 : Nat → FieldType := fun k => match k with
  | _ => .int
abbrev wsJ60 : List Cond := u_ws RJ6 TJ6 0
theorem nmJ6 : ∀ a, a < 0 → ∀ b, b < 0 → a ≠ b → (TJ6 a).2.1 ≠ (TJ6 b).2.1 := by decide +kernel
theorem tyJ6_ok : ∀ k, k < 0 → parseFieldDescriptor (TJ6 k).2.2.1 = some (tyJ6 k) := by decide +kernel
abbrev cJ6_bitCount_0f7a4 : ByteArray := prog_12_method_49_code
def yJ6_bitCount_0f7a4 : MethodName := ⟨RJ6, "bitCount", "(I)I"⟩
def RJ9 : String := "java/lang/Math"
def TJ9 : u_T := fun k => match k with
  | _ => ("", "", "", false)
def tyJ9 : Nat → FieldType := fun k => match k with
  | _ => .int
abbrev wsJ90 : List Cond := u_ws RJ9 TJ9 0
theorem nmJ9 : ∀ a, a < 0 → ∀ b, b < 0 → a ≠ b → (TJ9 a).2.1 ≠ (TJ9 b).2.1 := by decide +kernel
theorem tyJ9_ok : ∀ k, k < 0 → parseFieldDescriptor (TJ9 k).2.2.1 = some (tyJ9 k) := by decide +kernel
abbrev cJ9_abs_0f7a4 : ByteArray := prog_13_method_59_code
def yJ9_abs_0f7a4 : MethodName := ⟨RJ9, "abs", "(I)I"⟩
abbrev cJ9_max_7cf53 : ByteArray := prog_13_method_65_code
def yJ9_max_7cf53 : MethodName := ⟨RJ9, "max", "(II)I"⟩
abbrev cJ9_min_7cf53 : ByteArray := prog_13_method_69_code
def yJ9_min_7cf53 : MethodName := ⟨RJ9, "min", "(II)I"⟩
def RJ0 : String := "java/lang/String"
def TJ0 : u_T := fun k => match k with
  | _ => ("", "", "", false)
def tyJ0 : Nat → FieldType := fun k => match k with
  | _ => .int
abbrev wsJ00 : List Cond := u_ws RJ0 TJ0 0
theorem nmJ0 : ∀ a, a < 0 → ∀ b, b < 0 → a ≠ b → (TJ0 a).2.1 ≠ (TJ0 b).2.1 := by decide +kernel
theorem tyJ0_ok : ∀ k, k < 0 → parseFieldDescriptor (TJ0 k).2.2.1 = some (tyJ0 k) := by decide +kernel
def RL : String := "LiftRows2Law"
abbrev cL_cell : ByteArray := method_2_code
def yL_cell : MethodName := ⟨RL, "cell", "([II)I"⟩
abbrev cL_lift : ByteArray := method_3_code
def yL_lift : MethodName := ⟨RL, "lift", "(LLiftRows2;II[J)I"⟩
abbrev cL_call : ByteArray := method_4_code
def yL_call : MethodName := ⟨RL, "call", "(LLiftRows2;IIII[J)I"⟩
abbrev cL_step : ByteArray := method_5_code
def yL_step : MethodName := ⟨RL, "step", "(LLiftRows2;I[J)I"⟩
abbrev cL_event : ByteArray := method_6_code
def yL_event : MethodName := ⟨RL, "event", "(LLiftRows2;II[J)I"⟩
abbrev cL_level : ByteArray := method_7_code
def yL_level : MethodName := ⟨RL, "level", "(LLiftRows2;I[J)I"⟩
abbrev cL_told : ByteArray := method_8_code
def yL_told : MethodName := ⟨RL, "told", "(LLiftRows2;II[J)I"⟩
abbrev cL_door : ByteArray := method_9_code
def yL_door : MethodName := ⟨RL, "door", "(LLiftRows2;IZ)I"⟩
abbrev cL_stuck : ByteArray := method_10_code
def yL_stuck : MethodName := ⟨RL, "stuck", "(LLiftRows2;IZ[J)I"⟩
abbrev cL_reserved : ByteArray := method_11_code
def yL_reserved : MethodName := ⟨RL, "reserved", "(LLiftRows2;IZ[J)I"⟩
abbrev cL_served : ByteArray := method_12_code
def yL_served : MethodName := ⟨RL, "served", "(LLiftRows2;I[J)I"⟩
abbrev cL_waits : ByteArray := method_13_code
def yL_waits : MethodName := ⟨RL, "waits", "(LLiftRows2;I[J)I"⟩
abbrev cL_least : ByteArray := method_14_code
def yL_least : MethodName := ⟨RL, "least", "(LLiftRows2;I[J)I"⟩
abbrev cL_joins : ByteArray := method_15_code
def yL_joins : MethodName := ⟨RL, "joins", "(LLiftRows2;II[J)I"⟩
abbrev cL_known : ByteArray := method_16_code
def yL_known : MethodName := ⟨RL, "known", "(LLiftRows2;II[J)I"⟩
abbrev cL_law : ByteArray := code
def yL_law : MethodName := ⟨RL, "law", "([I)Z"⟩
def wsX0_init : List Cond := .code yX0_init cX0_init 1 none :: ([.methodLink RX0 3 objectInit, .instanceMethod objectInit, .code objectInit ⟨#[0xb1]⟩ 1 none, .arrayClass .int, .fieldLink RX0 9 "LiftRows2$Calls" "from" "[I", .fieldLink RX0 15 "LiftRows2$Calls" "to" "[I", .fieldLink RX0 18 "LiftRows2$Calls" "rank" "[I", .fieldLink RX0 21 "LiftRows2$Calls" "load" "[I", .fieldLink RX0 24 "LiftRows2$Calls" "state" "[I", .fieldLink RX0 27 "LiftRows2$Calls" "by" "[I", .fieldLink RX0 30 "LiftRows2$Calls" "cameAt" "[I", .fieldLink RX0 33 "LiftRows2$Calls" "boardedAt" "[I", .fieldLink RX0 36 "LiftRows2$Calls" "servedAt" "[I", .fieldLink RX0 39 "LiftRows2$Calls" "size" "I"] ++ wsX00)
def wsX0_add : List Cond := .code yX0_add cX0_add 7 (some .int) :: ([.fieldLink RX0 39 "LiftRows2$Calls" "size" "I", .fieldLink RX0 9 "LiftRows2$Calls" "from" "[I", .fieldLink RX0 15 "LiftRows2$Calls" "to" "[I", .fieldLink RX0 18 "LiftRows2$Calls" "rank" "[I", .fieldLink RX0 21 "LiftRows2$Calls" "load" "[I", .fieldLink RX0 24 "LiftRows2$Calls" "state" "[I", .fieldLink RX0 27 "LiftRows2$Calls" "by" "[I", .fieldLink RX0 30 "LiftRows2$Calls" "cameAt" "[I", .fieldLink RX0 33 "LiftRows2$Calls" "boardedAt" "[I", .fieldLink RX0 36 "LiftRows2$Calls" "servedAt" "[I"] ++ wsX00)
def wsX0_is : List Cond := .code yX0_is cX0_is 4 (some .boolean) :: ([.fieldLink RX0 24 "LiftRows2$Calls" "state" "[I", .fieldLink RX0 27 "LiftRows2$Calls" "by" "[I"] ++ wsX00)
def wsX0_getsOut : List Cond := .code yX0_getsOut cX0_getsOut 4 (some .boolean) :: ([.fieldLink RX0 15 "LiftRows2$Calls" "to" "[I", .methodLink RX0 43 yX0_is, .instanceMethod yX0_is, .selects RX0 yX0_is yX0_is, .initialized RX0, .code yX0_is cX0_is 4 (some .boolean), .fieldLink RX0 24 "LiftRows2$Calls" "state" "[I", .fieldLink RX0 27 "LiftRows2$Calls" "by" "[I"] ++ wsX00)
def wsX0_fitsIn : List Cond := .code yX0_fitsIn cX0_fitsIn 5 (some .boolean) :: ([.fieldLink RX0 9 "LiftRows2$Calls" "from" "[I", .fieldLink RX0 21 "LiftRows2$Calls" "load" "[I", .methodLink RX0 43 yX0_is, .instanceMethod yX0_is, .selects RX0 yX0_is yX0_is, .initialized RX0, .code yX0_is cX0_is 4 (some .boolean), .fieldLink RX0 24 "LiftRows2$Calls" "state" "[I", .fieldLink RX0 27 "LiftRows2$Calls" "by" "[I"] ++ wsX00)
def wsX0_setOf : List Cond := .code yX0_setOf cX0_setOf 5 (some .int) :: ([.fieldLink RX0 39 "LiftRows2$Calls" "size" "I", .methodLink RX0 43 yX0_is, .instanceMethod yX0_is, .selects RX0 yX0_is yX0_is, .initialized RX0, .code yX0_is cX0_is 4 (some .boolean), .fieldLink RX0 24 "LiftRows2$Calls" "state" "[I", .fieldLink RX0 27 "LiftRows2$Calls" "by" "[I"] ++ wsX00)
def wsJ6_bitCount_0f7a4 : List Cond := .code yJ6_bitCount_0f7a4 cJ6_bitCount_0f7a4 1 (some .int) :: ([.constant RJ6 265 (1431655765), .constant RJ6 266 (858993459), .constant RJ6 267 (252645135)])
def wsX0_number : List Cond := .code yX0_number cX0_number 3 (some .int) :: ([.methodLink RX0 47 yX0_setOf, .instanceMethod yX0_setOf, .selects RX0 yX0_setOf yX0_setOf, .initialized RX0, .code yX0_setOf cX0_setOf 5 (some .int), .fieldLink RX0 39 "LiftRows2$Calls" "size" "I", .methodLink RX0 43 yX0_is, .instanceMethod yX0_is, .selects RX0 yX0_is yX0_is, .code yX0_is cX0_is 4 (some .boolean), .fieldLink RX0 24 "LiftRows2$Calls" "state" "[I", .fieldLink RX0 27 "LiftRows2$Calls" "by" "[I", .methodLink RX0 51 yJ6_bitCount_0f7a4, .static yJ6_bitCount_0f7a4, .initialized RJ6, .code yJ6_bitCount_0f7a4 cJ6_bitCount_0f7a4 1 (some .int), .constant RJ6 265 (1431655765), .constant RJ6 266 (858993459), .constant RJ6 267 (252645135)] ++ wsX00)
def wsX0_setFrom : List Cond := .code yX0_setFrom cX0_setFrom 4 (some .int) :: ([.fieldLink RX0 39 "LiftRows2$Calls" "size" "I", .fieldLink RX0 9 "LiftRows2$Calls" "from" "[I"] ++ wsX00)
def wsX0_setTo : List Cond := .code yX0_setTo cX0_setTo 4 (some .int) :: ([.fieldLink RX0 39 "LiftRows2$Calls" "size" "I", .fieldLink RX0 15 "LiftRows2$Calls" "to" "[I"] ++ wsX00)
def wsX0_loadStaying : List Cond := .code yX0_loadStaying cX0_loadStaying 5 (some .int) :: ([.fieldLink RX0 39 "LiftRows2$Calls" "size" "I", .fieldLink RX0 15 "LiftRows2$Calls" "to" "[I", .fieldLink RX0 21 "LiftRows2$Calls" "load" "[I", .methodLink RX0 43 yX0_is, .instanceMethod yX0_is, .selects RX0 yX0_is yX0_is, .initialized RX0, .code yX0_is cX0_is 4 (some .boolean), .fieldLink RX0 24 "LiftRows2$Calls" "state" "[I", .fieldLink RX0 27 "LiftRows2$Calls" "by" "[I"] ++ wsX00)
def wsX0_loadAboard : List Cond := .code yX0_loadAboard cX0_loadAboard 2 (some .int) :: ([.methodLink RX0 57 yX0_loadStaying, .instanceMethod yX0_loadStaying, .selects RX0 yX0_loadStaying yX0_loadStaying, .initialized RX0, .code yX0_loadStaying cX0_loadStaying 5 (some .int), .fieldLink RX0 39 "LiftRows2$Calls" "size" "I", .fieldLink RX0 15 "LiftRows2$Calls" "to" "[I", .fieldLink RX0 21 "LiftRows2$Calls" "load" "[I", .methodLink RX0 43 yX0_is, .instanceMethod yX0_is, .selects RX0 yX0_is yX0_is, .code yX0_is cX0_is 4 (some .boolean), .fieldLink RX0 24 "LiftRows2$Calls" "state" "[I", .fieldLink RX0 27 "LiftRows2$Calls" "by" "[I"] ++ wsX00)
def wsX3_asNumber : List Cond := .code yX3_asNumber cX3_asNumber 1 (some .int) :: ([])
def wsX0_numberWaiting : List Cond := .code yX0_numberWaiting cX0_numberWaiting 3 (some .int) :: ([.fieldLink RX0 39 "LiftRows2$Calls" "size" "I", .fieldLink RX0 24 "LiftRows2$Calls" "state" "[I", .static yX3_asNumber, .initialized RX3, .code yX3_asNumber cX3_asNumber 1 (some .int)] ++ wsX00)
def wsX0_levelsWithWaiting : List Cond := .code yX0_levelsWithWaiting cX0_levelsWithWaiting 3 (some .int) :: ([.fieldLink RX0 39 "LiftRows2$Calls" "size" "I", .fieldLink RX0 24 "LiftRows2$Calls" "state" "[I", .fieldLink RX0 9 "LiftRows2$Calls" "from" "[I"] ++ wsX00)
def wsX0_nearestStop : List Cond := .code yX0_nearestStop cX0_nearestStop 12 (some .int) :: ([.fieldLink RX0 39 "LiftRows2$Calls" "size" "I", .fieldLink RX0 9 "LiftRows2$Calls" "from" "[I", .fieldLink RX0 15 "LiftRows2$Calls" "to" "[I"] ++ wsX00)
def wsX0_hasWork : List Cond := .code yX0_hasWork cX0_hasWork 4 (some .boolean) :: ([.methodLink RX0 47 yX0_setOf, .instanceMethod yX0_setOf, .selects RX0 yX0_setOf yX0_setOf, .initialized RX0, .code yX0_setOf cX0_setOf 5 (some .int), .fieldLink RX0 39 "LiftRows2$Calls" "size" "I", .methodLink RX0 43 yX0_is, .instanceMethod yX0_is, .selects RX0 yX0_is yX0_is, .code yX0_is cX0_is 4 (some .boolean), .fieldLink RX0 24 "LiftRows2$Calls" "state" "[I", .fieldLink RX0 27 "LiftRows2$Calls" "by" "[I", .methodLink RX0 64 yX0_nearestStop, .instanceMethod yX0_nearestStop, .selects RX0 yX0_nearestStop yX0_nearestStop, .code yX0_nearestStop cX0_nearestStop 12 (some .int), .fieldLink RX0 9 "LiftRows2$Calls" "from" "[I", .fieldLink RX0 15 "LiftRows2$Calls" "to" "[I"] ++ wsX00)
def wsX1_init : List Cond := .code yX1_init cX1_init 1 none :: ([.methodLink RX1 3 objectInit, .instanceMethod objectInit, .code objectInit ⟨#[0xb1]⟩ 1 none, .arrayClass .int, .fieldLink RX1 9 "LiftRows2$Events" "second" "[I", .fieldLink RX1 15 "LiftRows2$Events" "lift" "[I", .fieldLink RX1 18 "LiftRows2$Events" "call" "[I", .fieldLink RX1 21 "LiftRows2$Events" "kind" "[I", .fieldLink RX1 24 "LiftRows2$Events" "size" "I"] ++ wsX10)
def wsX1_add : List Cond := .code yX1_add cX1_add 5 none :: ([.fieldLink RX1 24 "LiftRows2$Events" "size" "I", .fieldLink RX1 9 "LiftRows2$Events" "second" "[I", .fieldLink RX1 15 "LiftRows2$Events" "lift" "[I", .fieldLink RX1 18 "LiftRows2$Events" "call" "[I", .fieldLink RX1 21 "LiftRows2$Events" "kind" "[I"] ++ wsX10)
def wsX2_init : List Cond := .code yX2_init cX2_init 1 none :: ([.methodLink RX2 3 objectInit, .instanceMethod objectInit, .code objectInit ⟨#[0xb1]⟩ 1 none, .arrayClass .int, .fieldLink RX2 9 "LiftRows2$Lifts" "at" "[I", .fieldLink RX2 15 "LiftRows2$Lifts" "capacity" "[I", .fieldLink RX2 18 "LiftRows2$Lifts" "direction" "[I", .fieldLink RX2 21 "LiftRows2$Lifts" "openFor" "[I", .arrayClass .boolean, .fieldLink RX2 24 "LiftRows2$Lifts" "isStuck" "[Z", .fieldLink RX2 28 "LiftRows2$Lifts" "isReserved" "[Z", .fieldLink RX2 31 "LiftRows2$Lifts" "isKept" "[Z", .fieldLink RX2 34 "LiftRows2$Lifts" "size" "I", .fieldLink RX2 38 "LiftRows2$Lifts" "gone" "I"] ++ wsX20)
def wsX2_add : List Cond := .code yX2_add cX2_add 4 (some .int) :: ([.fieldLink RX2 34 "LiftRows2$Lifts" "size" "I", .fieldLink RX2 9 "LiftRows2$Lifts" "at" "[I", .fieldLink RX2 15 "LiftRows2$Lifts" "capacity" "[I"] ++ wsX20)
def wsX2_mayGet : List Cond := .code yX2_mayGet cX2_mayGet 3 (some .boolean) :: ([.fieldLink RX2 24 "LiftRows2$Lifts" "isStuck" "[Z", .fieldLink RX2 28 "LiftRows2$Lifts" "isReserved" "[Z", .fieldLink RX2 15 "LiftRows2$Lifts" "capacity" "[I"] ++ wsX20)
def wsX2_passOpenSecond : List Cond := .code yX2_passOpenSecond cX2_passOpenSecond 3 none :: ([.fieldLink RX2 31 "LiftRows2$Lifts" "isKept" "[Z", .fieldLink RX2 21 "LiftRows2$Lifts" "openFor" "[I", .methodLink RX2 41 Lib.Math.max.name, .static Lib.Math.max.name, .initialized "java/lang/Math", .code Lib.Math.max.name Lib.Math.max.code 2 (some .int)] ++ wsX20)
def wsX2_go : List Cond := .code yX2_go cX2_go 5 none :: ([.fieldLink RX2 18 "LiftRows2$Lifts" "direction" "[I", .fieldLink RX2 9 "LiftRows2$Lifts" "at" "[I", .fieldLink RX2 38 "LiftRows2$Lifts" "gone" "I", .methodLink RX2 47 Lib.Math.abs.name, .static Lib.Math.abs.name, .initialized "java/lang/Math", .code Lib.Math.abs.name Lib.Math.abs.code 1 (some .int)] ++ wsX20)
def wsX3_init_r1 : List Cond := [Cond.methodLink RX3 3 objectInit, Cond.instanceMethod objectInit, Cond.code objectInit ⟨#[0xb1]⟩ 1 none, Cond.methodLink RX3 9 Lib.Math.min.name, Cond.static Lib.Math.min.name, Cond.initialized "java/lang/Math", Cond.code Lib.Math.min.name Lib.Math.min.code 2 (some .int), Cond.methodLink RX3 15 Lib.Math.max.name, Cond.static Lib.Math.max.name, Cond.code Lib.Math.max.name Lib.Math.max.code 2 (some .int), Cond.fieldLink RX3 18 "LiftRows2" "levels" "I", Cond.classLink RX3 22 RX2, Cond.instantiable RX2 9, Cond.initialized RX2, Cond.fieldLink RX3 25 "LiftRows2" "lifts" "LLiftRows2$Lifts;", Cond.classLink RX3 29 RX0, Cond.instantiable RX0 10, Cond.initialized RX0, Cond.fieldLink RX3 32 "LiftRows2" "calls" "LLiftRows2$Calls;", Cond.classLink RX3 36 RX1, Cond.instantiable RX1 5, Cond.initialized RX1, Cond.fieldLink RX3 39 "LiftRows2" "events" "LLiftRows2$Events;", Cond.fieldLink RX3 43 "LiftRows2" "time" "I"]
def wsX3_init_r2 : List Cond := [Cond.instanceMethod yX2_init, Cond.code yX2_init cX2_init 1 none, Cond.methodLink RX2 3 objectInit, Cond.arrayClass .int, Cond.fieldLink RX2 9 "LiftRows2$Lifts" "at" "[I", Cond.fieldLink RX2 15 "LiftRows2$Lifts" "capacity" "[I", Cond.fieldLink RX2 18 "LiftRows2$Lifts" "direction" "[I", Cond.fieldLink RX2 21 "LiftRows2$Lifts" "openFor" "[I", Cond.arrayClass .boolean, Cond.fieldLink RX2 24 "LiftRows2$Lifts" "isStuck" "[Z", Cond.fieldLink RX2 28 "LiftRows2$Lifts" "isReserved" "[Z", Cond.fieldLink RX2 31 "LiftRows2$Lifts" "isKept" "[Z", Cond.fieldLink RX2 34 "LiftRows2$Lifts" "size" "I", Cond.fieldLink RX2 38 "LiftRows2$Lifts" "gone" "I", Cond.instanceMethod yX0_init, Cond.code yX0_init cX0_init 1 none, Cond.methodLink RX0 3 objectInit, Cond.fieldLink RX0 9 "LiftRows2$Calls" "from" "[I", Cond.fieldLink RX0 15 "LiftRows2$Calls" "to" "[I", Cond.fieldLink RX0 18 "LiftRows2$Calls" "rank" "[I", Cond.fieldLink RX0 21 "LiftRows2$Calls" "load" "[I", Cond.fieldLink RX0 24 "LiftRows2$Calls" "state" "[I", Cond.fieldLink RX0 27 "LiftRows2$Calls" "by" "[I", Cond.fieldLink RX0 30 "LiftRows2$Calls" "cameAt" "[I"]
def wsX3_init_r3 : List Cond := [Cond.fieldLink RX0 33 "LiftRows2$Calls" "boardedAt" "[I", Cond.fieldLink RX0 36 "LiftRows2$Calls" "servedAt" "[I", Cond.fieldLink RX0 39 "LiftRows2$Calls" "size" "I", Cond.instanceMethod yX1_init, Cond.code yX1_init cX1_init 1 none, Cond.methodLink RX1 3 objectInit, Cond.fieldLink RX1 9 "LiftRows2$Events" "second" "[I", Cond.fieldLink RX1 15 "LiftRows2$Events" "lift" "[I", Cond.fieldLink RX1 18 "LiftRows2$Events" "call" "[I", Cond.fieldLink RX1 21 "LiftRows2$Events" "kind" "[I", Cond.fieldLink RX1 24 "LiftRows2$Events" "size" "I"]
def wsX3_init : List Cond := .code yX3_init cX3_init 2 none :: ((wsX3_init_r1 ++ (wsX3_init_r2 ++ wsX3_init_r3)) ++ wsX30 ++ wsX20 ++ wsX00 ++ wsX10)
def wsX3_refuseOutside : List Cond := .code yX3_refuseOutside cX3_refuseOutside 3 none :: ([.classLink RX3 63 "java/lang/IllegalArgumentException", .initialized "java/lang/IllegalArgumentException"] ++ (vx_atS RX3 67 "java/lang/IllegalArgumentException" ["java/lang/RuntimeException", "java/lang/Exception"]).filter goodWord)
def wsX3_lift : List Cond := .code yX3_lift cX3_lift 3 (some .int) :: ([.classLink RX3 53 "java/lang/UnsupportedOperationException", .initialized "java/lang/UnsupportedOperationException", .fieldLink RX3 18 "LiftRows2" "levels" "I", .fieldLink RX3 25 "LiftRows2" "lifts" "LLiftRows2$Lifts;", .methodLink RX3 46 yX3_refuseOutside, .static yX3_refuseOutside, .initialized RX3, .code yX3_refuseOutside cX3_refuseOutside 3 none, .classLink RX3 63 "java/lang/IllegalArgumentException", .initialized "java/lang/IllegalArgumentException", .instanceMethod yX2_add, .initialized RX2, .selects RX2 yX2_add yX2_add, .code yX2_add cX2_add 4 (some .int), .fieldLink RX2 34 "LiftRows2$Lifts" "size" "I", .fieldLink RX2 9 "LiftRows2$Lifts" "at" "[I", .fieldLink RX2 15 "LiftRows2$Lifts" "capacity" "[I"] ++ wsX30 ++ wsX20 ++ (vx_atS RX3 57 "java/lang/UnsupportedOperationException" ["java/lang/RuntimeException", "java/lang/Exception"]).filter goodWord ++ (vx_atS RX3 67 "java/lang/IllegalArgumentException" ["java/lang/RuntimeException", "java/lang/Exception"]).filter goodWord)
def wsX3_nearestLift : List Cond := .code yX3_nearestLift cX3_nearestLift 7 (some .int) :: ([.fieldLink RX3 25 "LiftRows2" "lifts" "LLiftRows2$Lifts;", .methodLink RX3 212 Lib.Math.abs.name, .static Lib.Math.abs.name, .initialized "java/lang/Math", .code Lib.Math.abs.name Lib.Math.abs.code 1 (some .int), .instanceMethod yX2_mayGet, .initialized RX2, .selects RX2 yX2_mayGet yX2_mayGet, .code yX2_mayGet cX2_mayGet 3 (some .boolean), .fieldLink RX2 24 "LiftRows2$Lifts" "isStuck" "[Z", .fieldLink RX2 28 "LiftRows2$Lifts" "isReserved" "[Z", .fieldLink RX2 15 "LiftRows2$Lifts" "capacity" "[I"] ++ wsX30 ++ wsX20)
def wsX3_call_r1 : List Cond := [Cond.classLink RX3 63 "java/lang/IllegalArgumentException", Cond.initialized "java/lang/IllegalArgumentException", Cond.classLink RX3 53 "java/lang/UnsupportedOperationException", Cond.initialized "java/lang/UnsupportedOperationException", Cond.fieldLink RX3 18 "LiftRows2" "levels" "I", Cond.fieldLink RX3 32 "LiftRows2" "calls" "LLiftRows2$Calls;", Cond.fieldLink RX3 43 "LiftRows2" "time" "I", Cond.methodLink RX3 46 yX3_refuseOutside, Cond.static yX3_refuseOutside, Cond.initialized RX3, Cond.code yX3_refuseOutside cX3_refuseOutside 3 none, Cond.instanceMethod yX0_add, Cond.initialized RX0, Cond.selects RX0 yX0_add yX0_add, Cond.code yX0_add cX0_add 7 (some .int), Cond.fieldLink RX0 39 "LiftRows2$Calls" "size" "I", Cond.fieldLink RX0 9 "LiftRows2$Calls" "from" "[I", Cond.fieldLink RX0 15 "LiftRows2$Calls" "to" "[I", Cond.fieldLink RX0 18 "LiftRows2$Calls" "rank" "[I", Cond.fieldLink RX0 21 "LiftRows2$Calls" "load" "[I", Cond.fieldLink RX0 24 "LiftRows2$Calls" "state" "[I", Cond.fieldLink RX0 27 "LiftRows2$Calls" "by" "[I", Cond.fieldLink RX0 30 "LiftRows2$Calls" "cameAt" "[I", Cond.fieldLink RX0 33 "LiftRows2$Calls" "boardedAt" "[I"]
def wsX3_call_r2 : List Cond := [Cond.fieldLink RX0 36 "LiftRows2$Calls" "servedAt" "[I", Cond.methodLink RX3 78 yX3_nearestLift, Cond.instanceMethod yX3_nearestLift, Cond.selects RX3 yX3_nearestLift yX3_nearestLift, Cond.code yX3_nearestLift cX3_nearestLift 7 (some .int), Cond.fieldLink RX3 25 "LiftRows2" "lifts" "LLiftRows2$Lifts;", Cond.methodLink RX3 212 Lib.Math.abs.name, Cond.static Lib.Math.abs.name, Cond.initialized "java/lang/Math", Cond.code Lib.Math.abs.name Lib.Math.abs.code 1 (some .int), Cond.instanceMethod yX2_mayGet, Cond.initialized RX2, Cond.selects RX2 yX2_mayGet yX2_mayGet, Cond.code yX2_mayGet cX2_mayGet 3 (some .boolean), Cond.fieldLink RX2 24 "LiftRows2$Lifts" "isStuck" "[Z", Cond.fieldLink RX2 28 "LiftRows2$Lifts" "isReserved" "[Z", Cond.fieldLink RX2 15 "LiftRows2$Lifts" "capacity" "[I"]
def wsX3_call : List Cond := .code yX3_call cX3_call 6 (some .int) :: ((wsX3_call_r1 ++ wsX3_call_r2) ++ wsX30 ++ wsX00 ++ wsX20 ++ (vx_atS RX3 67 "java/lang/IllegalArgumentException" ["java/lang/RuntimeException", "java/lang/Exception"]).filter goodWord ++ (vx_atS RX3 57 "java/lang/UnsupportedOperationException" ["java/lang/RuntimeException", "java/lang/Exception"]).filter goodWord)
def wsX3_opensHere : List Cond := .code yX3_opensHere cX3_opensHere 5 (some .boolean) :: ([.fieldLink RX3 25 "LiftRows2" "lifts" "LLiftRows2$Lifts;", .fieldLink RX3 32 "LiftRows2" "calls" "LLiftRows2$Calls;", .instanceMethod yX0_loadStaying, .initialized RX0, .selects RX0 yX0_loadStaying yX0_loadStaying, .code yX0_loadStaying cX0_loadStaying 5 (some .int), .fieldLink RX0 39 "LiftRows2$Calls" "size" "I", .fieldLink RX0 15 "LiftRows2$Calls" "to" "[I", .fieldLink RX0 21 "LiftRows2$Calls" "load" "[I", .methodLink RX0 43 yX0_is, .instanceMethod yX0_is, .selects RX0 yX0_is yX0_is, .code yX0_is cX0_is 4 (some .boolean), .fieldLink RX0 24 "LiftRows2$Calls" "state" "[I", .fieldLink RX0 27 "LiftRows2$Calls" "by" "[I", .instanceMethod yX0_getsOut, .selects RX0 yX0_getsOut yX0_getsOut, .code yX0_getsOut cX0_getsOut 4 (some .boolean), .instanceMethod yX0_fitsIn, .selects RX0 yX0_fitsIn yX0_fitsIn, .code yX0_fitsIn cX0_fitsIn 5 (some .boolean), .fieldLink RX0 9 "LiftRows2$Calls" "from" "[I"] ++ wsX30 ++ wsX20 ++ wsX00)
def wsX3_letOut : List Cond := .code yX3_letOut cX3_letOut 3 none :: ([.fieldLink RX3 32 "LiftRows2" "calls" "LLiftRows2$Calls;", .fieldLink RX3 25 "LiftRows2" "lifts" "LLiftRows2$Lifts;", .fieldLink RX3 43 "LiftRows2" "time" "I", .fieldLink RX3 39 "LiftRows2" "events" "LLiftRows2$Events;", .instanceMethod yX0_getsOut, .initialized RX0, .selects RX0 yX0_getsOut yX0_getsOut, .code yX0_getsOut cX0_getsOut 4 (some .boolean), .fieldLink RX0 15 "LiftRows2$Calls" "to" "[I", .methodLink RX0 43 yX0_is, .instanceMethod yX0_is, .selects RX0 yX0_is yX0_is, .code yX0_is cX0_is 4 (some .boolean), .fieldLink RX0 24 "LiftRows2$Calls" "state" "[I", .fieldLink RX0 27 "LiftRows2$Calls" "by" "[I", .instanceMethod yX1_add, .initialized RX1, .selects RX1 yX1_add yX1_add, .code yX1_add cX1_add 5 none, .fieldLink RX1 24 "LiftRows2$Events" "size" "I", .fieldLink RX1 9 "LiftRows2$Events" "second" "[I", .fieldLink RX1 15 "LiftRows2$Events" "lift" "[I", .fieldLink RX1 18 "LiftRows2$Events" "call" "[I", .fieldLink RX1 21 "LiftRows2$Events" "kind" "[I"] ++ wsX30 ++ wsX00 ++ wsX20 ++ wsX10)
def wsX3_letIn_r1 : List Cond := [Cond.fieldLink RX3 25 "LiftRows2" "lifts" "LLiftRows2$Lifts;", Cond.fieldLink RX3 32 "LiftRows2" "calls" "LLiftRows2$Calls;", Cond.fieldLink RX3 43 "LiftRows2" "time" "I", Cond.fieldLink RX3 39 "LiftRows2" "events" "LLiftRows2$Events;", Cond.instanceMethod yX0_loadAboard, Cond.initialized RX0, Cond.selects RX0 yX0_loadAboard yX0_loadAboard, Cond.code yX0_loadAboard cX0_loadAboard 2 (some .int), Cond.methodLink RX0 57 yX0_loadStaying, Cond.instanceMethod yX0_loadStaying, Cond.selects RX0 yX0_loadStaying yX0_loadStaying, Cond.code yX0_loadStaying cX0_loadStaying 5 (some .int), Cond.fieldLink RX0 39 "LiftRows2$Calls" "size" "I", Cond.fieldLink RX0 15 "LiftRows2$Calls" "to" "[I", Cond.fieldLink RX0 21 "LiftRows2$Calls" "load" "[I", Cond.methodLink RX0 43 yX0_is, Cond.instanceMethod yX0_is, Cond.selects RX0 yX0_is yX0_is, Cond.code yX0_is cX0_is 4 (some .boolean), Cond.fieldLink RX0 24 "LiftRows2$Calls" "state" "[I", Cond.fieldLink RX0 27 "LiftRows2$Calls" "by" "[I", Cond.instanceMethod yX0_fitsIn, Cond.selects RX0 yX0_fitsIn yX0_fitsIn, Cond.code yX0_fitsIn cX0_fitsIn 5 (some .boolean)]
def wsX3_letIn_r2 : List Cond := [Cond.fieldLink RX0 9 "LiftRows2$Calls" "from" "[I", Cond.instanceMethod yX1_add, Cond.initialized RX1, Cond.selects RX1 yX1_add yX1_add, Cond.code yX1_add cX1_add 5 none, Cond.fieldLink RX1 24 "LiftRows2$Events" "size" "I", Cond.fieldLink RX1 9 "LiftRows2$Events" "second" "[I", Cond.fieldLink RX1 15 "LiftRows2$Events" "lift" "[I", Cond.fieldLink RX1 18 "LiftRows2$Events" "call" "[I", Cond.fieldLink RX1 21 "LiftRows2$Events" "kind" "[I"]
def wsX3_letIn : List Cond := .code yX3_letIn cX3_letIn 5 none :: ((wsX3_letIn_r1 ++ wsX3_letIn_r2) ++ wsX30 ++ wsX20 ++ wsX00 ++ wsX10)
def wsX3_doOneThing_r1 : List Cond := [Cond.fieldLink RX3 25 "LiftRows2" "lifts" "LLiftRows2$Lifts;", Cond.fieldLink RX3 32 "LiftRows2" "calls" "LLiftRows2$Calls;", Cond.instanceMethod yX2_passOpenSecond, Cond.initialized RX2, Cond.selects RX2 yX2_passOpenSecond yX2_passOpenSecond, Cond.code yX2_passOpenSecond cX2_passOpenSecond 3 none, Cond.fieldLink RX2 31 "LiftRows2$Lifts" "isKept" "[Z", Cond.fieldLink RX2 21 "LiftRows2$Lifts" "openFor" "[I", Cond.methodLink RX2 41 Lib.Math.max.name, Cond.static Lib.Math.max.name, Cond.initialized "java/lang/Math", Cond.code Lib.Math.max.name Lib.Math.max.code 2 (some .int), Cond.methodLink RX3 229 yX3_opensHere, Cond.instanceMethod yX3_opensHere, Cond.selects RX3 yX3_opensHere yX3_opensHere, Cond.initialized RX3, Cond.code yX3_opensHere cX3_opensHere 5 (some .boolean), Cond.instanceMethod yX0_loadStaying, Cond.initialized RX0, Cond.selects RX0 yX0_loadStaying yX0_loadStaying, Cond.code yX0_loadStaying cX0_loadStaying 5 (some .int), Cond.fieldLink RX0 39 "LiftRows2$Calls" "size" "I", Cond.fieldLink RX0 15 "LiftRows2$Calls" "to" "[I", Cond.fieldLink RX0 21 "LiftRows2$Calls" "load" "[I"]
def wsX3_doOneThing_r2 : List Cond := [Cond.methodLink RX0 43 yX0_is, Cond.instanceMethod yX0_is, Cond.selects RX0 yX0_is yX0_is, Cond.code yX0_is cX0_is 4 (some .boolean), Cond.fieldLink RX0 24 "LiftRows2$Calls" "state" "[I", Cond.fieldLink RX0 27 "LiftRows2$Calls" "by" "[I", Cond.instanceMethod yX0_getsOut, Cond.selects RX0 yX0_getsOut yX0_getsOut, Cond.code yX0_getsOut cX0_getsOut 4 (some .boolean), Cond.instanceMethod yX0_fitsIn, Cond.selects RX0 yX0_fitsIn yX0_fitsIn, Cond.code yX0_fitsIn cX0_fitsIn 5 (some .boolean), Cond.fieldLink RX0 9 "LiftRows2$Calls" "from" "[I", Cond.methodLink RX3 233 yX3_letOut, Cond.instanceMethod yX3_letOut, Cond.selects RX3 yX3_letOut yX3_letOut, Cond.code yX3_letOut cX3_letOut 3 none, Cond.fieldLink RX3 43 "LiftRows2" "time" "I", Cond.fieldLink RX3 39 "LiftRows2" "events" "LLiftRows2$Events;", Cond.instanceMethod yX1_add, Cond.initialized RX1, Cond.selects RX1 yX1_add yX1_add, Cond.code yX1_add cX1_add 5 none, Cond.fieldLink RX1 24 "LiftRows2$Events" "size" "I"]
def wsX3_doOneThing_r3 : List Cond := [Cond.fieldLink RX1 9 "LiftRows2$Events" "second" "[I", Cond.fieldLink RX1 15 "LiftRows2$Events" "lift" "[I", Cond.fieldLink RX1 18 "LiftRows2$Events" "call" "[I", Cond.fieldLink RX1 21 "LiftRows2$Events" "kind" "[I", Cond.methodLink RX3 236 yX3_letIn, Cond.instanceMethod yX3_letIn, Cond.selects RX3 yX3_letIn yX3_letIn, Cond.code yX3_letIn cX3_letIn 5 none, Cond.instanceMethod yX0_loadAboard, Cond.selects RX0 yX0_loadAboard yX0_loadAboard, Cond.code yX0_loadAboard cX0_loadAboard 2 (some .int), Cond.methodLink RX0 57 yX0_loadStaying, Cond.instanceMethod yX0_hasWork, Cond.selects RX0 yX0_hasWork yX0_hasWork, Cond.code yX0_hasWork cX0_hasWork 4 (some .boolean), Cond.methodLink RX0 47 yX0_setOf, Cond.instanceMethod yX0_setOf, Cond.selects RX0 yX0_setOf yX0_setOf, Cond.code yX0_setOf cX0_setOf 5 (some .int), Cond.methodLink RX0 64 yX0_nearestStop, Cond.instanceMethod yX0_nearestStop, Cond.selects RX0 yX0_nearestStop yX0_nearestStop, Cond.code yX0_nearestStop cX0_nearestStop 12 (some .int), Cond.instanceMethod yX2_go]
def wsX3_doOneThing_r4 : List Cond := [Cond.selects RX2 yX2_go yX2_go, Cond.code yX2_go cX2_go 5 none, Cond.fieldLink RX2 18 "LiftRows2$Lifts" "direction" "[I", Cond.fieldLink RX2 9 "LiftRows2$Lifts" "at" "[I", Cond.fieldLink RX2 38 "LiftRows2$Lifts" "gone" "I", Cond.methodLink RX2 47 Lib.Math.abs.name, Cond.static Lib.Math.abs.name, Cond.code Lib.Math.abs.name Lib.Math.abs.code 1 (some .int)]
def wsX3_doOneThing : List Cond := .code yX3_doOneThing cX3_doOneThing 4 none :: ((wsX3_doOneThing_r1 ++ (wsX3_doOneThing_r2 ++ (wsX3_doOneThing_r3 ++ wsX3_doOneThing_r4))) ++ wsX30 ++ wsX20 ++ wsX00 ++ wsX10)
def wsX3_passSecond_r1 : List Cond := [Cond.fieldLink RX3 43 "LiftRows2" "time" "I", Cond.fieldLink RX3 25 "LiftRows2" "lifts" "LLiftRows2$Lifts;", Cond.methodLink RX3 223 yX3_doOneThing, Cond.instanceMethod yX3_doOneThing, Cond.selects RX3 yX3_doOneThing yX3_doOneThing, Cond.initialized RX3, Cond.code yX3_doOneThing cX3_doOneThing 4 none, Cond.fieldLink RX3 32 "LiftRows2" "calls" "LLiftRows2$Calls;", Cond.instanceMethod yX2_passOpenSecond, Cond.initialized RX2, Cond.selects RX2 yX2_passOpenSecond yX2_passOpenSecond, Cond.code yX2_passOpenSecond cX2_passOpenSecond 3 none, Cond.fieldLink RX2 31 "LiftRows2$Lifts" "isKept" "[Z", Cond.fieldLink RX2 21 "LiftRows2$Lifts" "openFor" "[I", Cond.methodLink RX2 41 Lib.Math.max.name, Cond.static Lib.Math.max.name, Cond.initialized "java/lang/Math", Cond.code Lib.Math.max.name Lib.Math.max.code 2 (some .int), Cond.methodLink RX3 229 yX3_opensHere, Cond.instanceMethod yX3_opensHere, Cond.selects RX3 yX3_opensHere yX3_opensHere, Cond.code yX3_opensHere cX3_opensHere 5 (some .boolean), Cond.instanceMethod yX0_loadStaying, Cond.initialized RX0]
def wsX3_passSecond_r2 : List Cond := [Cond.selects RX0 yX0_loadStaying yX0_loadStaying, Cond.code yX0_loadStaying cX0_loadStaying 5 (some .int), Cond.fieldLink RX0 39 "LiftRows2$Calls" "size" "I", Cond.fieldLink RX0 15 "LiftRows2$Calls" "to" "[I", Cond.fieldLink RX0 21 "LiftRows2$Calls" "load" "[I", Cond.methodLink RX0 43 yX0_is, Cond.instanceMethod yX0_is, Cond.selects RX0 yX0_is yX0_is, Cond.code yX0_is cX0_is 4 (some .boolean), Cond.fieldLink RX0 24 "LiftRows2$Calls" "state" "[I", Cond.fieldLink RX0 27 "LiftRows2$Calls" "by" "[I", Cond.instanceMethod yX0_getsOut, Cond.selects RX0 yX0_getsOut yX0_getsOut, Cond.code yX0_getsOut cX0_getsOut 4 (some .boolean), Cond.instanceMethod yX0_fitsIn, Cond.selects RX0 yX0_fitsIn yX0_fitsIn, Cond.code yX0_fitsIn cX0_fitsIn 5 (some .boolean), Cond.fieldLink RX0 9 "LiftRows2$Calls" "from" "[I", Cond.methodLink RX3 233 yX3_letOut, Cond.instanceMethod yX3_letOut, Cond.selects RX3 yX3_letOut yX3_letOut, Cond.code yX3_letOut cX3_letOut 3 none, Cond.fieldLink RX3 39 "LiftRows2" "events" "LLiftRows2$Events;", Cond.instanceMethod yX1_add]
def wsX3_passSecond_r3 : List Cond := [Cond.initialized RX1, Cond.selects RX1 yX1_add yX1_add, Cond.code yX1_add cX1_add 5 none, Cond.fieldLink RX1 24 "LiftRows2$Events" "size" "I", Cond.fieldLink RX1 9 "LiftRows2$Events" "second" "[I", Cond.fieldLink RX1 15 "LiftRows2$Events" "lift" "[I", Cond.fieldLink RX1 18 "LiftRows2$Events" "call" "[I", Cond.fieldLink RX1 21 "LiftRows2$Events" "kind" "[I", Cond.methodLink RX3 236 yX3_letIn, Cond.instanceMethod yX3_letIn, Cond.selects RX3 yX3_letIn yX3_letIn, Cond.code yX3_letIn cX3_letIn 5 none, Cond.instanceMethod yX0_loadAboard, Cond.selects RX0 yX0_loadAboard yX0_loadAboard, Cond.code yX0_loadAboard cX0_loadAboard 2 (some .int), Cond.methodLink RX0 57 yX0_loadStaying, Cond.instanceMethod yX0_hasWork, Cond.selects RX0 yX0_hasWork yX0_hasWork, Cond.code yX0_hasWork cX0_hasWork 4 (some .boolean), Cond.methodLink RX0 47 yX0_setOf, Cond.instanceMethod yX0_setOf, Cond.selects RX0 yX0_setOf yX0_setOf, Cond.code yX0_setOf cX0_setOf 5 (some .int), Cond.methodLink RX0 64 yX0_nearestStop]
def wsX3_passSecond_r4 : List Cond := [Cond.instanceMethod yX0_nearestStop, Cond.selects RX0 yX0_nearestStop yX0_nearestStop, Cond.code yX0_nearestStop cX0_nearestStop 12 (some .int), Cond.instanceMethod yX2_go, Cond.selects RX2 yX2_go yX2_go, Cond.code yX2_go cX2_go 5 none, Cond.fieldLink RX2 18 "LiftRows2$Lifts" "direction" "[I", Cond.fieldLink RX2 9 "LiftRows2$Lifts" "at" "[I", Cond.fieldLink RX2 38 "LiftRows2$Lifts" "gone" "I", Cond.methodLink RX2 47 Lib.Math.abs.name, Cond.static Lib.Math.abs.name, Cond.code Lib.Math.abs.name Lib.Math.abs.code 1 (some .int)]
def wsX3_passSecond : List Cond := .code yX3_passSecond cX3_passSecond 2 none :: ((wsX3_passSecond_r1 ++ (wsX3_passSecond_r2 ++ (wsX3_passSecond_r3 ++ wsX3_passSecond_r4))) ++ wsX30 ++ wsX20 ++ wsX00 ++ wsX10)
def wsX3_step_r1 : List Cond := [Cond.fieldLink RX3 39 "LiftRows2" "events" "LLiftRows2$Events;", Cond.methodLink RX3 46 yX3_refuseOutside, Cond.static yX3_refuseOutside, Cond.initialized RX3, Cond.code yX3_refuseOutside cX3_refuseOutside 3 none, Cond.classLink RX3 63 "java/lang/IllegalArgumentException", Cond.initialized "java/lang/IllegalArgumentException", Cond.methodLink RX3 82 yX3_passSecond, Cond.instanceMethod yX3_passSecond, Cond.selects RX3 yX3_passSecond yX3_passSecond, Cond.code yX3_passSecond cX3_passSecond 2 none, Cond.fieldLink RX3 43 "LiftRows2" "time" "I", Cond.fieldLink RX3 25 "LiftRows2" "lifts" "LLiftRows2$Lifts;", Cond.methodLink RX3 223 yX3_doOneThing, Cond.instanceMethod yX3_doOneThing, Cond.selects RX3 yX3_doOneThing yX3_doOneThing, Cond.code yX3_doOneThing cX3_doOneThing 4 none, Cond.fieldLink RX3 32 "LiftRows2" "calls" "LLiftRows2$Calls;", Cond.instanceMethod yX2_passOpenSecond, Cond.initialized RX2, Cond.selects RX2 yX2_passOpenSecond yX2_passOpenSecond, Cond.code yX2_passOpenSecond cX2_passOpenSecond 3 none, Cond.fieldLink RX2 31 "LiftRows2$Lifts" "isKept" "[Z", Cond.fieldLink RX2 21 "LiftRows2$Lifts" "openFor" "[I"]
def wsX3_step_r2 : List Cond := [Cond.methodLink RX2 41 Lib.Math.max.name, Cond.static Lib.Math.max.name, Cond.initialized "java/lang/Math", Cond.code Lib.Math.max.name Lib.Math.max.code 2 (some .int), Cond.methodLink RX3 229 yX3_opensHere, Cond.instanceMethod yX3_opensHere, Cond.selects RX3 yX3_opensHere yX3_opensHere, Cond.code yX3_opensHere cX3_opensHere 5 (some .boolean), Cond.instanceMethod yX0_loadStaying, Cond.initialized RX0, Cond.selects RX0 yX0_loadStaying yX0_loadStaying, Cond.code yX0_loadStaying cX0_loadStaying 5 (some .int), Cond.fieldLink RX0 39 "LiftRows2$Calls" "size" "I", Cond.fieldLink RX0 15 "LiftRows2$Calls" "to" "[I", Cond.fieldLink RX0 21 "LiftRows2$Calls" "load" "[I", Cond.methodLink RX0 43 yX0_is, Cond.instanceMethod yX0_is, Cond.selects RX0 yX0_is yX0_is, Cond.code yX0_is cX0_is 4 (some .boolean), Cond.fieldLink RX0 24 "LiftRows2$Calls" "state" "[I", Cond.fieldLink RX0 27 "LiftRows2$Calls" "by" "[I", Cond.instanceMethod yX0_getsOut, Cond.selects RX0 yX0_getsOut yX0_getsOut, Cond.code yX0_getsOut cX0_getsOut 4 (some .boolean)]
def wsX3_step_r3 : List Cond := [Cond.instanceMethod yX0_fitsIn, Cond.selects RX0 yX0_fitsIn yX0_fitsIn, Cond.code yX0_fitsIn cX0_fitsIn 5 (some .boolean), Cond.fieldLink RX0 9 "LiftRows2$Calls" "from" "[I", Cond.methodLink RX3 233 yX3_letOut, Cond.instanceMethod yX3_letOut, Cond.selects RX3 yX3_letOut yX3_letOut, Cond.code yX3_letOut cX3_letOut 3 none, Cond.instanceMethod yX1_add, Cond.initialized RX1, Cond.selects RX1 yX1_add yX1_add, Cond.code yX1_add cX1_add 5 none, Cond.fieldLink RX1 24 "LiftRows2$Events" "size" "I", Cond.fieldLink RX1 9 "LiftRows2$Events" "second" "[I", Cond.fieldLink RX1 15 "LiftRows2$Events" "lift" "[I", Cond.fieldLink RX1 18 "LiftRows2$Events" "call" "[I", Cond.fieldLink RX1 21 "LiftRows2$Events" "kind" "[I", Cond.methodLink RX3 236 yX3_letIn, Cond.instanceMethod yX3_letIn, Cond.selects RX3 yX3_letIn yX3_letIn, Cond.code yX3_letIn cX3_letIn 5 none, Cond.instanceMethod yX0_loadAboard, Cond.selects RX0 yX0_loadAboard yX0_loadAboard, Cond.code yX0_loadAboard cX0_loadAboard 2 (some .int)]
def wsX3_step_r4 : List Cond := [Cond.methodLink RX0 57 yX0_loadStaying, Cond.instanceMethod yX0_hasWork, Cond.selects RX0 yX0_hasWork yX0_hasWork, Cond.code yX0_hasWork cX0_hasWork 4 (some .boolean), Cond.methodLink RX0 47 yX0_setOf, Cond.instanceMethod yX0_setOf, Cond.selects RX0 yX0_setOf yX0_setOf, Cond.code yX0_setOf cX0_setOf 5 (some .int), Cond.methodLink RX0 64 yX0_nearestStop, Cond.instanceMethod yX0_nearestStop, Cond.selects RX0 yX0_nearestStop yX0_nearestStop, Cond.code yX0_nearestStop cX0_nearestStop 12 (some .int), Cond.instanceMethod yX2_go, Cond.selects RX2 yX2_go yX2_go, Cond.code yX2_go cX2_go 5 none, Cond.fieldLink RX2 18 "LiftRows2$Lifts" "direction" "[I", Cond.fieldLink RX2 9 "LiftRows2$Lifts" "at" "[I", Cond.fieldLink RX2 38 "LiftRows2$Lifts" "gone" "I", Cond.methodLink RX2 47 Lib.Math.abs.name, Cond.static Lib.Math.abs.name, Cond.code Lib.Math.abs.name Lib.Math.abs.code 1 (some .int)]
def wsX3_step : List Cond := .code yX3_step cX3_step 4 (some .int) :: ((wsX3_step_r1 ++ (wsX3_step_r2 ++ (wsX3_step_r3 ++ wsX3_step_r4))) ++ wsX30 ++ wsX10 ++ wsX20 ++ wsX00 ++ (vx_atS RX3 67 "java/lang/IllegalArgumentException" ["java/lang/RuntimeException", "java/lang/Exception"]).filter goodWord)
def wsX3_event : List Cond := .code yX3_event cX3_event 3 (some .int) :: ([.classLink RX3 85 "java/util/NoSuchElementException", .initialized "java/util/NoSuchElementException", .fieldLink RX3 39 "LiftRows2" "events" "LLiftRows2$Events;", .methodLink RX3 46 yX3_refuseOutside, .static yX3_refuseOutside, .initialized RX3, .code yX3_refuseOutside cX3_refuseOutside 3 none, .classLink RX3 63 "java/lang/IllegalArgumentException", .initialized "java/lang/IllegalArgumentException"] ++ wsX30 ++ wsX10 ++ zAtN.filter goodWord ++ (vx_atS RX3 67 "java/lang/IllegalArgumentException" ["java/lang/RuntimeException", "java/lang/Exception"]).filter goodWord)
def wsX3_refuseNoLift : List Cond := .code yX3_refuseNoLift cX3_refuseNoLift 2 none :: ([.classLink RX3 85 "java/util/NoSuchElementException", .initialized "java/util/NoSuchElementException", .fieldLink RX3 25 "LiftRows2" "lifts" "LLiftRows2$Lifts;"] ++ wsX30 ++ wsX20 ++ zAtN.filter goodWord)
def wsX3_level : List Cond := .code yX3_level cX3_level 2 (some .int) :: ([.classLink RX3 102 RJx00060, .instantiable RJx00060 6, .initialized RJx00060, .fieldLink RX3 25 "LiftRows2" "lifts" "LLiftRows2$Lifts;", .methodLink RX3 107 yX3_refuseNoLift, .instanceMethod yX3_refuseNoLift, .selects RX3 yX3_refuseNoLift yX3_refuseNoLift, .initialized RX3, .code yX3_refuseNoLift cX3_refuseNoLift 2 none, .classLink RX3 85 "java/util/NoSuchElementException", .initialized "java/util/NoSuchElementException"] ++ wsJx000600 ++ wsX30 ++ wsX20 ++ zAtN.filter goodWord)
def wsX3_told_r1 : List Cond := [Cond.fieldLink RX3 32 "LiftRows2" "calls" "LLiftRows2$Calls;", Cond.fieldLink RX3 25 "LiftRows2" "lifts" "LLiftRows2$Lifts;", Cond.methodLink RX3 107 yX3_refuseNoLift, Cond.instanceMethod yX3_refuseNoLift, Cond.selects RX3 yX3_refuseNoLift yX3_refuseNoLift, Cond.initialized RX3, Cond.code yX3_refuseNoLift cX3_refuseNoLift 2 none, Cond.classLink RX3 85 "java/util/NoSuchElementException", Cond.initialized "java/util/NoSuchElementException", Cond.methodLink RX3 46 yX3_refuseOutside, Cond.static yX3_refuseOutside, Cond.code yX3_refuseOutside cX3_refuseOutside 3 none, Cond.classLink RX3 63 "java/lang/IllegalArgumentException", Cond.initialized "java/lang/IllegalArgumentException", Cond.instanceMethod yX0_loadAboard, Cond.initialized RX0, Cond.selects RX0 yX0_loadAboard yX0_loadAboard, Cond.code yX0_loadAboard cX0_loadAboard 2 (some .int), Cond.methodLink RX0 57 yX0_loadStaying, Cond.instanceMethod yX0_loadStaying, Cond.selects RX0 yX0_loadStaying yX0_loadStaying, Cond.code yX0_loadStaying cX0_loadStaying 5 (some .int), Cond.fieldLink RX0 39 "LiftRows2$Calls" "size" "I", Cond.fieldLink RX0 15 "LiftRows2$Calls" "to" "[I"]
def wsX3_told_r2 : List Cond := [Cond.fieldLink RX0 21 "LiftRows2$Calls" "load" "[I", Cond.methodLink RX0 43 yX0_is, Cond.instanceMethod yX0_is, Cond.selects RX0 yX0_is yX0_is, Cond.code yX0_is cX0_is 4 (some .boolean), Cond.fieldLink RX0 24 "LiftRows2$Calls" "state" "[I", Cond.fieldLink RX0 27 "LiftRows2$Calls" "by" "[I", Cond.instanceMethod yX0_number, Cond.selects RX0 yX0_number yX0_number, Cond.code yX0_number cX0_number 3 (some .int), Cond.methodLink RX0 47 yX0_setOf, Cond.instanceMethod yX0_setOf, Cond.selects RX0 yX0_setOf yX0_setOf, Cond.code yX0_setOf cX0_setOf 5 (some .int), Cond.methodLink RX0 51 yJ6_bitCount_0f7a4, Cond.static yJ6_bitCount_0f7a4, Cond.initialized RJ6, Cond.code yJ6_bitCount_0f7a4 cJ6_bitCount_0f7a4 1 (some .int), Cond.constant RJ6 265 (1431655765), Cond.constant RJ6 266 (858993459), Cond.constant RJ6 267 (252645135), Cond.methodLink RX3 131 yX3_asNumber, Cond.static yX3_asNumber, Cond.code yX3_asNumber cX3_asNumber 1 (some .int)]
def wsX3_told : List Cond := .code yX3_told cX3_told 3 (some .int) :: ((wsX3_told_r1 ++ wsX3_told_r2) ++ wsX30 ++ wsX20 ++ wsX00 ++ zAtN.filter goodWord ++ (vx_atS RX3 67 "java/lang/IllegalArgumentException" ["java/lang/RuntimeException", "java/lang/Exception"]).filter goodWord)
def wsX3_refuseUnchanged : List Cond := .code yX3_refuseUnchanged cX3_refuseUnchanged 2 none :: ([.classLink RX3 145 "java/lang/IllegalStateException", .initialized "java/lang/IllegalStateException"] ++ (vx_atS RX3 149 "java/lang/IllegalStateException" ["java/lang/RuntimeException", "java/lang/Exception"]).filter goodWord)
def wsX3_door : List Cond := .code yX3_door cX3_door 3 none :: ([.classLink RX3 145 "java/lang/IllegalStateException", .initialized "java/lang/IllegalStateException", .fieldLink RX3 25 "LiftRows2" "lifts" "LLiftRows2$Lifts;", .methodLink RX3 107 yX3_refuseNoLift, .instanceMethod yX3_refuseNoLift, .selects RX3 yX3_refuseNoLift yX3_refuseNoLift, .initialized RX3, .code yX3_refuseNoLift cX3_refuseNoLift 2 none, .classLink RX3 85 "java/util/NoSuchElementException", .initialized "java/util/NoSuchElementException", .methodLink RX3 141 yX3_refuseUnchanged, .static yX3_refuseUnchanged, .code yX3_refuseUnchanged cX3_refuseUnchanged 2 none] ++ wsX30 ++ wsX20 ++ (vx_atS RX3 149 "java/lang/IllegalStateException" ["java/lang/RuntimeException", "java/lang/Exception"]).filter goodWord ++ zAtN.filter goodWord)
def wsX3_giveAnew_r1 : List Cond := [Cond.fieldLink RX3 32 "LiftRows2" "calls" "LLiftRows2$Calls;", Cond.instanceMethod yX0_is, Cond.initialized RX0, Cond.selects RX0 yX0_is yX0_is, Cond.code yX0_is cX0_is 4 (some .boolean), Cond.fieldLink RX0 24 "LiftRows2$Calls" "state" "[I", Cond.fieldLink RX0 27 "LiftRows2$Calls" "by" "[I", Cond.methodLink RX3 78 yX3_nearestLift, Cond.instanceMethod yX3_nearestLift, Cond.selects RX3 yX3_nearestLift yX3_nearestLift, Cond.initialized RX3, Cond.code yX3_nearestLift cX3_nearestLift 7 (some .int), Cond.fieldLink RX3 25 "LiftRows2" "lifts" "LLiftRows2$Lifts;", Cond.methodLink RX3 212 Lib.Math.abs.name, Cond.static Lib.Math.abs.name, Cond.initialized "java/lang/Math", Cond.code Lib.Math.abs.name Lib.Math.abs.code 1 (some .int), Cond.instanceMethod yX2_mayGet, Cond.initialized RX2, Cond.selects RX2 yX2_mayGet yX2_mayGet, Cond.code yX2_mayGet cX2_mayGet 3 (some .boolean), Cond.fieldLink RX2 24 "LiftRows2$Lifts" "isStuck" "[Z", Cond.fieldLink RX2 28 "LiftRows2$Lifts" "isReserved" "[Z", Cond.fieldLink RX2 15 "LiftRows2$Lifts" "capacity" "[I"]
def wsX3_giveAnew_r2 : List Cond := [Cond.methodLink RX3 131 yX3_asNumber, Cond.static yX3_asNumber, Cond.code yX3_asNumber cX3_asNumber 1 (some .int)]
def wsX3_giveAnew : List Cond := .code yX3_giveAnew cX3_giveAnew 4 (some .int) :: ((wsX3_giveAnew_r1 ++ wsX3_giveAnew_r2) ++ wsX30 ++ wsX00 ++ wsX20)
def wsX3_stuck_r1 : List Cond := [Cond.fieldLink RX3 25 "LiftRows2" "lifts" "LLiftRows2$Lifts;", Cond.fieldLink RX3 32 "LiftRows2" "calls" "LLiftRows2$Calls;", Cond.methodLink RX3 107 yX3_refuseNoLift, Cond.instanceMethod yX3_refuseNoLift, Cond.selects RX3 yX3_refuseNoLift yX3_refuseNoLift, Cond.initialized RX3, Cond.code yX3_refuseNoLift cX3_refuseNoLift 2 none, Cond.classLink RX3 85 "java/util/NoSuchElementException", Cond.initialized "java/util/NoSuchElementException", Cond.methodLink RX3 141 yX3_refuseUnchanged, Cond.static yX3_refuseUnchanged, Cond.code yX3_refuseUnchanged cX3_refuseUnchanged 2 none, Cond.classLink RX3 145 "java/lang/IllegalStateException", Cond.initialized "java/lang/IllegalStateException", Cond.methodLink RX3 150 yX3_giveAnew, Cond.instanceMethod yX3_giveAnew, Cond.selects RX3 yX3_giveAnew yX3_giveAnew, Cond.code yX3_giveAnew cX3_giveAnew 4 (some .int), Cond.instanceMethod yX0_is, Cond.initialized RX0, Cond.selects RX0 yX0_is yX0_is, Cond.code yX0_is cX0_is 4 (some .boolean), Cond.fieldLink RX0 24 "LiftRows2$Calls" "state" "[I", Cond.fieldLink RX0 27 "LiftRows2$Calls" "by" "[I"]
def wsX3_stuck_r2 : List Cond := [Cond.methodLink RX3 78 yX3_nearestLift, Cond.instanceMethod yX3_nearestLift, Cond.selects RX3 yX3_nearestLift yX3_nearestLift, Cond.code yX3_nearestLift cX3_nearestLift 7 (some .int), Cond.methodLink RX3 212 Lib.Math.abs.name, Cond.static Lib.Math.abs.name, Cond.initialized "java/lang/Math", Cond.code Lib.Math.abs.name Lib.Math.abs.code 1 (some .int), Cond.instanceMethod yX2_mayGet, Cond.initialized RX2, Cond.selects RX2 yX2_mayGet yX2_mayGet, Cond.code yX2_mayGet cX2_mayGet 3 (some .boolean), Cond.fieldLink RX2 24 "LiftRows2$Lifts" "isStuck" "[Z", Cond.fieldLink RX2 28 "LiftRows2$Lifts" "isReserved" "[Z", Cond.fieldLink RX2 15 "LiftRows2$Lifts" "capacity" "[I", Cond.methodLink RX3 131 yX3_asNumber, Cond.static yX3_asNumber, Cond.code yX3_asNumber cX3_asNumber 1 (some .int), Cond.instanceMethod yX0_number, Cond.selects RX0 yX0_number yX0_number, Cond.code yX0_number cX0_number 3 (some .int), Cond.methodLink RX0 47 yX0_setOf, Cond.instanceMethod yX0_setOf, Cond.selects RX0 yX0_setOf yX0_setOf]
def wsX3_stuck_r3 : List Cond := [Cond.code yX0_setOf cX0_setOf 5 (some .int), Cond.fieldLink RX0 39 "LiftRows2$Calls" "size" "I", Cond.methodLink RX0 43 yX0_is, Cond.methodLink RX0 51 yJ6_bitCount_0f7a4, Cond.static yJ6_bitCount_0f7a4, Cond.initialized RJ6, Cond.code yJ6_bitCount_0f7a4 cJ6_bitCount_0f7a4 1 (some .int), Cond.constant RJ6 265 (1431655765), Cond.constant RJ6 266 (858993459), Cond.constant RJ6 267 (252645135)]
def wsX3_stuck : List Cond := .code yX3_stuck cX3_stuck 3 (some .int) :: ((wsX3_stuck_r1 ++ (wsX3_stuck_r2 ++ wsX3_stuck_r3)) ++ wsX30 ++ wsX20 ++ wsX00 ++ zAtN.filter goodWord ++ (vx_atS RX3 149 "java/lang/IllegalStateException" ["java/lang/RuntimeException", "java/lang/Exception"]).filter goodWord)
def wsX3_reserved_r1 : List Cond := [Cond.fieldLink RX3 25 "LiftRows2" "lifts" "LLiftRows2$Lifts;", Cond.fieldLink RX3 32 "LiftRows2" "calls" "LLiftRows2$Calls;", Cond.methodLink RX3 107 yX3_refuseNoLift, Cond.instanceMethod yX3_refuseNoLift, Cond.selects RX3 yX3_refuseNoLift yX3_refuseNoLift, Cond.initialized RX3, Cond.code yX3_refuseNoLift cX3_refuseNoLift 2 none, Cond.classLink RX3 85 "java/util/NoSuchElementException", Cond.initialized "java/util/NoSuchElementException", Cond.methodLink RX3 141 yX3_refuseUnchanged, Cond.static yX3_refuseUnchanged, Cond.code yX3_refuseUnchanged cX3_refuseUnchanged 2 none, Cond.classLink RX3 145 "java/lang/IllegalStateException", Cond.initialized "java/lang/IllegalStateException", Cond.instanceMethod yX0_number, Cond.initialized RX0, Cond.selects RX0 yX0_number yX0_number, Cond.code yX0_number cX0_number 3 (some .int), Cond.methodLink RX0 47 yX0_setOf, Cond.instanceMethod yX0_setOf, Cond.selects RX0 yX0_setOf yX0_setOf, Cond.code yX0_setOf cX0_setOf 5 (some .int), Cond.fieldLink RX0 39 "LiftRows2$Calls" "size" "I", Cond.methodLink RX0 43 yX0_is]
def wsX3_reserved_r2 : List Cond := [Cond.instanceMethod yX0_is, Cond.selects RX0 yX0_is yX0_is, Cond.code yX0_is cX0_is 4 (some .boolean), Cond.fieldLink RX0 24 "LiftRows2$Calls" "state" "[I", Cond.fieldLink RX0 27 "LiftRows2$Calls" "by" "[I", Cond.methodLink RX0 51 yJ6_bitCount_0f7a4, Cond.static yJ6_bitCount_0f7a4, Cond.initialized RJ6, Cond.code yJ6_bitCount_0f7a4 cJ6_bitCount_0f7a4 1 (some .int), Cond.constant RJ6 265 (1431655765), Cond.constant RJ6 266 (858993459), Cond.constant RJ6 267 (252645135)]
def wsX3_reserved : List Cond := .code yX3_reserved cX3_reserved 3 (some .int) :: ((wsX3_reserved_r1 ++ wsX3_reserved_r2) ++ wsX30 ++ wsX20 ++ wsX00 ++ zAtN.filter goodWord ++ (vx_atS RX3 149 "java/lang/IllegalStateException" ["java/lang/RuntimeException", "java/lang/Exception"]).filter goodWord)
def wsX3_freed_r1 : List Cond := [Cond.methodLink RX3 150 yX3_giveAnew, Cond.instanceMethod yX3_giveAnew, Cond.selects RX3 yX3_giveAnew yX3_giveAnew, Cond.initialized RX3, Cond.code yX3_giveAnew cX3_giveAnew 4 (some .int), Cond.fieldLink RX3 32 "LiftRows2" "calls" "LLiftRows2$Calls;", Cond.instanceMethod yX0_is, Cond.initialized RX0, Cond.selects RX0 yX0_is yX0_is, Cond.code yX0_is cX0_is 4 (some .boolean), Cond.fieldLink RX0 24 "LiftRows2$Calls" "state" "[I", Cond.fieldLink RX0 27 "LiftRows2$Calls" "by" "[I", Cond.methodLink RX3 78 yX3_nearestLift, Cond.instanceMethod yX3_nearestLift, Cond.selects RX3 yX3_nearestLift yX3_nearestLift, Cond.code yX3_nearestLift cX3_nearestLift 7 (some .int), Cond.fieldLink RX3 25 "LiftRows2" "lifts" "LLiftRows2$Lifts;", Cond.methodLink RX3 212 Lib.Math.abs.name, Cond.static Lib.Math.abs.name, Cond.initialized "java/lang/Math", Cond.code Lib.Math.abs.name Lib.Math.abs.code 1 (some .int), Cond.instanceMethod yX2_mayGet, Cond.initialized RX2, Cond.selects RX2 yX2_mayGet yX2_mayGet]
def wsX3_freed_r2 : List Cond := [Cond.code yX2_mayGet cX2_mayGet 3 (some .boolean), Cond.fieldLink RX2 24 "LiftRows2$Lifts" "isStuck" "[Z", Cond.fieldLink RX2 28 "LiftRows2$Lifts" "isReserved" "[Z", Cond.fieldLink RX2 15 "LiftRows2$Lifts" "capacity" "[I", Cond.methodLink RX3 131 yX3_asNumber, Cond.static yX3_asNumber, Cond.code yX3_asNumber cX3_asNumber 1 (some .int)]
def wsX3_freed : List Cond := .code yX3_freed cX3_freed 1 (some .int) :: ((wsX3_freed_r1 ++ wsX3_freed_r2) ++ wsX30 ++ wsX00 ++ wsX20)
def wsX3_refuseNoCall : List Cond := .code yX3_refuseNoCall cX3_refuseNoCall 2 none :: ([.classLink RX3 85 "java/util/NoSuchElementException", .initialized "java/util/NoSuchElementException", .fieldLink RX3 32 "LiftRows2" "calls" "LLiftRows2$Calls;"] ++ wsX30 ++ wsX00 ++ zAtN.filter goodWord)
def wsX3_served : List Cond := .code yX3_served cX3_served 2 (some .int) :: ([.fieldLink RX3 32 "LiftRows2" "calls" "LLiftRows2$Calls;", .methodLink RX3 153 yX3_refuseNoCall, .instanceMethod yX3_refuseNoCall, .selects RX3 yX3_refuseNoCall yX3_refuseNoCall, .initialized RX3, .code yX3_refuseNoCall cX3_refuseNoCall 2 none, .classLink RX3 85 "java/util/NoSuchElementException", .initialized "java/util/NoSuchElementException"] ++ wsX30 ++ wsX00 ++ zAtN.filter goodWord)
def wsX3_waits : List Cond := .code yX3_waits cX3_waits 3 (some .int) :: ([.fieldLink RX3 32 "LiftRows2" "calls" "LLiftRows2$Calls;", .fieldLink RX3 43 "LiftRows2" "time" "I", .methodLink RX3 153 yX3_refuseNoCall, .instanceMethod yX3_refuseNoCall, .selects RX3 yX3_refuseNoCall yX3_refuseNoCall, .initialized RX3, .code yX3_refuseNoCall cX3_refuseNoCall 2 none, .classLink RX3 85 "java/util/NoSuchElementException", .initialized "java/util/NoSuchElementException"] ++ wsX30 ++ wsX00 ++ zAtN.filter goodWord)
def wsX3_leastWay : List Cond := .code yX3_leastWay cX3_leastWay 12 (some .int) :: ([.constant RX3 272 (2147483647), .methodLink RX3 9 Lib.Math.min.name, .static Lib.Math.min.name, .initialized "java/lang/Math", .code Lib.Math.min.name Lib.Math.min.code 2 (some .int), .instanceMethod yX0_setFrom, .initialized RX0, .selects RX0 yX0_setFrom yX0_setFrom, .code yX0_setFrom cX0_setFrom 4 (some .int), .fieldLink RX0 39 "LiftRows2$Calls" "size" "I", .fieldLink RX0 9 "LiftRows2$Calls" "from" "[I", .instanceMethod yX0_setTo, .selects RX0 yX0_setTo yX0_setTo, .code yX0_setTo cX0_setTo 4 (some .int), .fieldLink RX0 15 "LiftRows2$Calls" "to" "[I", .instanceMethod yX0_nearestStop, .selects RX0 yX0_nearestStop yX0_nearestStop, .code yX0_nearestStop cX0_nearestStop 12 (some .int), .methodLink RX3 176 yX3_leastWay, .static yX3_leastWay, .initialized RX3] ++ wsX00)
def wsX3_least_r1 : List Cond := [Cond.fieldLink RX3 32 "LiftRows2" "calls" "LLiftRows2$Calls;", Cond.fieldLink RX3 25 "LiftRows2" "lifts" "LLiftRows2$Lifts;", Cond.methodLink RX3 107 yX3_refuseNoLift, Cond.instanceMethod yX3_refuseNoLift, Cond.selects RX3 yX3_refuseNoLift yX3_refuseNoLift, Cond.initialized RX3, Cond.code yX3_refuseNoLift cX3_refuseNoLift 2 none, Cond.classLink RX3 85 "java/util/NoSuchElementException", Cond.initialized "java/util/NoSuchElementException", Cond.instanceMethod yX0_setOf, Cond.initialized RX0, Cond.selects RX0 yX0_setOf yX0_setOf, Cond.code yX0_setOf cX0_setOf 5 (some .int), Cond.fieldLink RX0 39 "LiftRows2$Calls" "size" "I", Cond.methodLink RX0 43 yX0_is, Cond.instanceMethod yX0_is, Cond.selects RX0 yX0_is yX0_is, Cond.code yX0_is cX0_is 4 (some .boolean), Cond.fieldLink RX0 24 "LiftRows2$Calls" "state" "[I", Cond.fieldLink RX0 27 "LiftRows2$Calls" "by" "[I", Cond.methodLink RX3 171 yJ6_bitCount_0f7a4, Cond.static yJ6_bitCount_0f7a4, Cond.initialized RJ6, Cond.code yJ6_bitCount_0f7a4 cJ6_bitCount_0f7a4 1 (some .int)]
def wsX3_least_r2 : List Cond := [Cond.constant RJ6 265 (1431655765), Cond.constant RJ6 266 (858993459), Cond.constant RJ6 267 (252645135), Cond.methodLink RX3 176 yX3_leastWay, Cond.static yX3_leastWay, Cond.code yX3_leastWay cX3_leastWay 12 (some .int), Cond.constant RX3 272 (2147483647), Cond.methodLink RX3 9 Lib.Math.min.name, Cond.static Lib.Math.min.name, Cond.initialized "java/lang/Math", Cond.code Lib.Math.min.name Lib.Math.min.code 2 (some .int), Cond.instanceMethod yX0_setFrom, Cond.selects RX0 yX0_setFrom yX0_setFrom, Cond.code yX0_setFrom cX0_setFrom 4 (some .int), Cond.fieldLink RX0 9 "LiftRows2$Calls" "from" "[I", Cond.instanceMethod yX0_setTo, Cond.selects RX0 yX0_setTo yX0_setTo, Cond.code yX0_setTo cX0_setTo 4 (some .int), Cond.fieldLink RX0 15 "LiftRows2$Calls" "to" "[I", Cond.instanceMethod yX0_nearestStop, Cond.selects RX0 yX0_nearestStop yX0_nearestStop, Cond.code yX0_nearestStop cX0_nearestStop 12 (some .int)]
def wsX3_least : List Cond := .code yX3_least cX3_least 4 (some .int) :: ((wsX3_least_r1 ++ wsX3_least_r2) ++ wsX30 ++ wsX20 ++ wsX00 ++ zAtN.filter goodWord)
def wsX3_joins : List Cond := .code yX3_joins cX3_joins 3 (some .boolean) :: ([.classLink RX3 145 "java/lang/IllegalStateException", .initialized "java/lang/IllegalStateException", .fieldLink RX3 32 "LiftRows2" "calls" "LLiftRows2$Calls;", .methodLink RX3 153 yX3_refuseNoCall, .instanceMethod yX3_refuseNoCall, .selects RX3 yX3_refuseNoCall yX3_refuseNoCall, .initialized RX3, .code yX3_refuseNoCall cX3_refuseNoCall 2 none, .classLink RX3 85 "java/util/NoSuchElementException", .initialized "java/util/NoSuchElementException"] ++ wsX30 ++ wsX00 ++ (vx_atS RX3 149 "java/lang/IllegalStateException" ["java/lang/RuntimeException", "java/lang/Exception"]).filter goodWord ++ zAtN.filter goodWord)
def wsX3_known : List Cond := .code yX3_known cX3_known 3 (some .int) :: ([.fieldLink RX3 32 "LiftRows2" "calls" "LLiftRows2$Calls;", .methodLink RX3 153 yX3_refuseNoCall, .instanceMethod yX3_refuseNoCall, .selects RX3 yX3_refuseNoCall yX3_refuseNoCall, .initialized RX3, .code yX3_refuseNoCall cX3_refuseNoCall 2 none, .classLink RX3 85 "java/util/NoSuchElementException", .initialized "java/util/NoSuchElementException", .methodLink RX3 46 yX3_refuseOutside, .static yX3_refuseOutside, .code yX3_refuseOutside cX3_refuseOutside 3 none, .classLink RX3 63 "java/lang/IllegalArgumentException", .initialized "java/lang/IllegalArgumentException"] ++ wsX30 ++ wsX00 ++ zAtN.filter goodWord ++ (vx_atS RX3 67 "java/lang/IllegalArgumentException" ["java/lang/RuntimeException", "java/lang/Exception"]).filter goodWord)
def wsX3_count_r1 : List Cond := [Cond.fieldLink RX3 18 "LiftRows2" "levels" "I", Cond.fieldLink RX3 25 "LiftRows2" "lifts" "LLiftRows2$Lifts;", Cond.fieldLink RX3 32 "LiftRows2" "calls" "LLiftRows2$Calls;", Cond.fieldLink RX3 39 "LiftRows2" "events" "LLiftRows2$Events;", Cond.fieldLink RX3 43 "LiftRows2" "time" "I", Cond.instanceMethod yX0_numberWaiting, Cond.initialized RX0, Cond.selects RX0 yX0_numberWaiting yX0_numberWaiting, Cond.code yX0_numberWaiting cX0_numberWaiting 3 (some .int), Cond.fieldLink RX0 39 "LiftRows2$Calls" "size" "I", Cond.fieldLink RX0 24 "LiftRows2$Calls" "state" "[I", Cond.static yX3_asNumber, Cond.initialized RX3, Cond.code yX3_asNumber cX3_asNumber 1 (some .int), Cond.instanceMethod yX0_number, Cond.selects RX0 yX0_number yX0_number, Cond.code yX0_number cX0_number 3 (some .int), Cond.methodLink RX0 47 yX0_setOf, Cond.instanceMethod yX0_setOf, Cond.selects RX0 yX0_setOf yX0_setOf, Cond.code yX0_setOf cX0_setOf 5 (some .int), Cond.methodLink RX0 43 yX0_is, Cond.instanceMethod yX0_is, Cond.selects RX0 yX0_is yX0_is]
def wsX3_count_r2 : List Cond := [Cond.code yX0_is cX0_is 4 (some .boolean), Cond.fieldLink RX0 27 "LiftRows2$Calls" "by" "[I", Cond.methodLink RX0 51 yJ6_bitCount_0f7a4, Cond.static yJ6_bitCount_0f7a4, Cond.initialized RJ6, Cond.code yJ6_bitCount_0f7a4 cJ6_bitCount_0f7a4 1 (some .int), Cond.constant RJ6 265 (1431655765), Cond.constant RJ6 266 (858993459), Cond.constant RJ6 267 (252645135), Cond.instanceMethod yX0_levelsWithWaiting, Cond.selects RX0 yX0_levelsWithWaiting yX0_levelsWithWaiting, Cond.code yX0_levelsWithWaiting cX0_levelsWithWaiting 3 (some .int), Cond.fieldLink RX0 9 "LiftRows2$Calls" "from" "[I"]
def wsX3_count : List Cond := .code yX3_count cX3_count 2 (some .int) :: ((wsX3_count_r1 ++ wsX3_count_r2) ++ wsX30 ++ wsX20 ++ wsX00 ++ wsX10)
def wsX4_init_r1 : List Cond := [Cond.methodLink RX4 1 objectInit, Cond.instanceMethod objectInit, Cond.code objectInit ⟨#[0xb1]⟩ 1 none, Cond.arrayClass .int, Cond.fieldLink RX4 7 "LiftRows2Model" "at" "[I", Cond.fieldLink RX4 13 "LiftRows2Model" "capacity" "[I", Cond.fieldLink RX4 16 "LiftRows2Model" "direction" "[I", Cond.fieldLink RX4 19 "LiftRows2Model" "open" "[I", Cond.arrayClass .boolean, Cond.fieldLink RX4 22 "LiftRows2Model" "kept" "[Z", Cond.fieldLink RX4 26 "LiftRows2Model" "stuck" "[Z", Cond.fieldLink RX4 29 "LiftRows2Model" "reserved" "[Z", Cond.fieldLink RX4 32 "LiftRows2Model" "from" "[I", Cond.fieldLink RX4 35 "LiftRows2Model" "to" "[I", Cond.fieldLink RX4 38 "LiftRows2Model" "rank" "[I", Cond.fieldLink RX4 41 "LiftRows2Model" "load" "[I", Cond.fieldLink RX4 44 "LiftRows2Model" "state" "[I", Cond.fieldLink RX4 47 "LiftRows2Model" "liftOf" "[I", Cond.fieldLink RX4 50 "LiftRows2Model" "came" "[I", Cond.fieldLink RX4 53 "LiftRows2Model" "boarded" "[I", Cond.fieldLink RX4 56 "LiftRows2Model" "servedAt" "[I", Cond.fieldLink RX4 59 "LiftRows2Model" "eventTime" "[I", Cond.fieldLink RX4 62 "LiftRows2Model" "eventCall" "[I", Cond.fieldLink RX4 65 "LiftRows2Model" "eventKind" "[I"]
def wsX4_init_r2 : List Cond := [Cond.fieldLink RX4 68 "LiftRows2Model" "ways" "[I", Cond.fieldLink RX4 71 "LiftRows2Model" "about" "[I", Cond.fieldLink RX4 74 "LiftRows2Model" "levels" "I"]
def wsX4_init : List Cond := .code yX4_init cX4_init 2 none :: ((wsX4_init_r1 ++ wsX4_init_r2) ++ wsX40)
def wsX4_thrown : List Cond := .code yX4_thrown cX4_thrown 1 (some .int) :: ([.fieldLink RX4 78 "LiftRows2Model" "code" "I"] ++ wsX40)
def wsX4_in : List Cond := .code yX4_in cX4_in 3 (some .boolean) :: ([])
def wsX4_isLevel : List Cond := .code yX4_isLevel cX4_isLevel 2 (some .boolean) :: ([.fieldLink RX4 74 "LiftRows2Model" "levels" "I", .methodLink RX4 81 yX4_in, .static yX4_in, .initialized RX4, .code yX4_in cX4_in 3 (some .boolean)] ++ wsX40)
def wsX4_isLift : List Cond := .code yX4_isLift cX4_isLift 2 (some .boolean) :: ([.fieldLink RX4 85 "LiftRows2Model" "lifts" "I", .methodLink RX4 81 yX4_in, .static yX4_in, .initialized RX4, .code yX4_in cX4_in 3 (some .boolean)] ++ wsX40)
def wsX4_isCall : List Cond := .code yX4_isCall cX4_isCall 2 (some .boolean) :: ([.fieldLink RX4 88 "LiftRows2Model" "calls" "I", .methodLink RX4 81 yX4_in, .static yX4_in, .initialized RX4, .code yX4_in cX4_in 3 (some .boolean)] ++ wsX40)
def wsX4_far : List Cond := .code yX4_far cX4_far 2 (some .int) :: ([])
def wsX4_lift : List Cond := .code yX4_lift cX4_lift 3 (some .int) :: ([.fieldLink RX4 85 "LiftRows2Model" "lifts" "I", .fieldLink RX4 78 "LiftRows2Model" "code" "I", .fieldLink RX4 7 "LiftRows2Model" "at" "[I", .fieldLink RX4 13 "LiftRows2Model" "capacity" "[I", .methodLink RX4 91 yX4_isLevel, .instanceMethod yX4_isLevel, .selects RX4 yX4_isLevel yX4_isLevel, .initialized RX4, .code yX4_isLevel cX4_isLevel 2 (some .boolean), .fieldLink RX4 74 "LiftRows2Model" "levels" "I", .methodLink RX4 81 yX4_in, .static yX4_in, .code yX4_in cX4_in 3 (some .boolean)] ++ wsX40)
def wsX4_nearest : List Cond := .code yX4_nearest cX4_nearest 4 (some .int) :: ([.fieldLink RX4 85 "LiftRows2Model" "lifts" "I", .fieldLink RX4 26 "LiftRows2Model" "stuck" "[Z", .fieldLink RX4 29 "LiftRows2Model" "reserved" "[Z", .fieldLink RX4 13 "LiftRows2Model" "capacity" "[I", .fieldLink RX4 41 "LiftRows2Model" "load" "[I", .fieldLink RX4 7 "LiftRows2Model" "at" "[I", .fieldLink RX4 32 "LiftRows2Model" "from" "[I", .methodLink RX4 95 yX4_far, .static yX4_far, .initialized RX4, .code yX4_far cX4_far 2 (some .int)] ++ wsX40)
def wsX4_call_r1 : List Cond := [Cond.fieldLink RX4 88 "LiftRows2Model" "calls" "I", Cond.fieldLink RX4 78 "LiftRows2Model" "code" "I", Cond.fieldLink RX4 32 "LiftRows2Model" "from" "[I", Cond.fieldLink RX4 35 "LiftRows2Model" "to" "[I", Cond.fieldLink RX4 38 "LiftRows2Model" "rank" "[I", Cond.fieldLink RX4 41 "LiftRows2Model" "load" "[I", Cond.fieldLink RX4 50 "LiftRows2Model" "came" "[I", Cond.fieldLink RX4 99 "LiftRows2Model" "time" "I", Cond.fieldLink RX4 53 "LiftRows2Model" "boarded" "[I", Cond.fieldLink RX4 56 "LiftRows2Model" "servedAt" "[I", Cond.fieldLink RX4 47 "LiftRows2Model" "liftOf" "[I", Cond.methodLink RX4 91 yX4_isLevel, Cond.instanceMethod yX4_isLevel, Cond.selects RX4 yX4_isLevel yX4_isLevel, Cond.initialized RX4, Cond.code yX4_isLevel cX4_isLevel 2 (some .boolean), Cond.fieldLink RX4 74 "LiftRows2Model" "levels" "I", Cond.methodLink RX4 81 yX4_in, Cond.static yX4_in, Cond.code yX4_in cX4_in 3 (some .boolean), Cond.methodLink RX4 102 yX4_nearest, Cond.instanceMethod yX4_nearest, Cond.selects RX4 yX4_nearest yX4_nearest, Cond.code yX4_nearest cX4_nearest 4 (some .int)]
def wsX4_call_r2 : List Cond := [Cond.fieldLink RX4 85 "LiftRows2Model" "lifts" "I", Cond.fieldLink RX4 26 "LiftRows2Model" "stuck" "[Z", Cond.fieldLink RX4 29 "LiftRows2Model" "reserved" "[Z", Cond.fieldLink RX4 13 "LiftRows2Model" "capacity" "[I", Cond.fieldLink RX4 7 "LiftRows2Model" "at" "[I", Cond.methodLink RX4 95 yX4_far, Cond.static yX4_far, Cond.code yX4_far cX4_far 2 (some .int)]
def wsX4_call : List Cond := .code yX4_call cX4_call 6 (some .int) :: ((wsX4_call_r1 ++ wsX4_call_r2) ++ wsX40)
def wsX4_is : List Cond := .code yX4_is cX4_is 4 (some .boolean) :: ([.fieldLink RX4 47 "LiftRows2Model" "liftOf" "[I", .fieldLink RX4 44 "LiftRows2Model" "state" "[I"] ++ wsX40)
def wsX4_aboard : List Cond := .code yX4_aboard cX4_aboard 4 (some .int) :: ([.fieldLink RX4 88 "LiftRows2Model" "calls" "I", .fieldLink RX4 41 "LiftRows2Model" "load" "[I", .methodLink RX4 106 yX4_is, .instanceMethod yX4_is, .selects RX4 yX4_is yX4_is, .initialized RX4, .code yX4_is cX4_is 4 (some .boolean), .fieldLink RX4 47 "LiftRows2Model" "liftOf" "[I", .fieldLink RX4 44 "LiftRows2Model" "state" "[I"] ++ wsX40)
def wsX4_tell : List Cond := .code yX4_tell cX4_tell 3 none :: ([.fieldLink RX4 59 "LiftRows2Model" "eventTime" "[I", .fieldLink RX4 109 "LiftRows2Model" "events" "I", .fieldLink RX4 99 "LiftRows2Model" "time" "I", .fieldLink RX4 62 "LiftRows2Model" "eventCall" "[I", .fieldLink RX4 65 "LiftRows2Model" "eventKind" "[I"] ++ wsX40)
def wsX4_stops : List Cond := .code yX4_stops cX4_stops 4 (some .boolean) :: ([.fieldLink RX4 88 "LiftRows2Model" "calls" "I", .fieldLink RX4 35 "LiftRows2Model" "to" "[I", .fieldLink RX4 7 "LiftRows2Model" "at" "[I", .fieldLink RX4 41 "LiftRows2Model" "load" "[I", .fieldLink RX4 32 "LiftRows2Model" "from" "[I", .fieldLink RX4 13 "LiftRows2Model" "capacity" "[I", .methodLink RX4 106 yX4_is, .instanceMethod yX4_is, .selects RX4 yX4_is yX4_is, .initialized RX4, .code yX4_is cX4_is 4 (some .boolean), .fieldLink RX4 47 "LiftRows2Model" "liftOf" "[I", .fieldLink RX4 44 "LiftRows2Model" "state" "[I"] ++ wsX40)
def wsX4_exchange_r1 : List Cond := [Cond.fieldLink RX4 88 "LiftRows2Model" "calls" "I", Cond.fieldLink RX4 35 "LiftRows2Model" "to" "[I", Cond.fieldLink RX4 7 "LiftRows2Model" "at" "[I", Cond.fieldLink RX4 44 "LiftRows2Model" "state" "[I", Cond.fieldLink RX4 56 "LiftRows2Model" "servedAt" "[I", Cond.fieldLink RX4 99 "LiftRows2Model" "time" "I", Cond.fieldLink RX4 32 "LiftRows2Model" "from" "[I", Cond.fieldLink RX4 38 "LiftRows2Model" "rank" "[I", Cond.fieldLink RX4 41 "LiftRows2Model" "load" "[I", Cond.fieldLink RX4 13 "LiftRows2Model" "capacity" "[I", Cond.fieldLink RX4 53 "LiftRows2Model" "boarded" "[I", Cond.fieldLink RX4 19 "LiftRows2Model" "open" "[I", Cond.methodLink RX4 106 yX4_is, Cond.instanceMethod yX4_is, Cond.selects RX4 yX4_is yX4_is, Cond.initialized RX4, Cond.code yX4_is cX4_is 4 (some .boolean), Cond.fieldLink RX4 47 "LiftRows2Model" "liftOf" "[I", Cond.methodLink RX4 112 yX4_tell, Cond.instanceMethod yX4_tell, Cond.selects RX4 yX4_tell yX4_tell, Cond.code yX4_tell cX4_tell 3 none, Cond.fieldLink RX4 59 "LiftRows2Model" "eventTime" "[I", Cond.fieldLink RX4 109 "LiftRows2Model" "events" "I"]
def wsX4_exchange_r2 : List Cond := [Cond.fieldLink RX4 62 "LiftRows2Model" "eventCall" "[I", Cond.fieldLink RX4 65 "LiftRows2Model" "eventKind" "[I", Cond.methodLink RX4 116 yX4_aboard, Cond.instanceMethod yX4_aboard, Cond.selects RX4 yX4_aboard yX4_aboard, Cond.code yX4_aboard cX4_aboard 4 (some .int)]
def wsX4_exchange : List Cond := .code yX4_exchange cX4_exchange 4 none :: ((wsX4_exchange_r1 ++ wsX4_exchange_r2) ++ wsX40)
def wsX4_hasWork : List Cond := .code yX4_hasWork cX4_hasWork 5 (some .boolean) :: ([.fieldLink RX4 88 "LiftRows2Model" "calls" "I", .fieldLink RX4 35 "LiftRows2Model" "to" "[I", .fieldLink RX4 32 "LiftRows2Model" "from" "[I", .fieldLink RX4 7 "LiftRows2Model" "at" "[I", .methodLink RX4 106 yX4_is, .instanceMethod yX4_is, .selects RX4 yX4_is yX4_is, .initialized RX4, .code yX4_is cX4_is 4 (some .boolean), .fieldLink RX4 47 "LiftRows2Model" "liftOf" "[I", .fieldLink RX4 44 "LiftRows2Model" "state" "[I"] ++ wsX40)
def wsX4_second_r1 : List Cond := [Cond.fieldLink RX4 19 "LiftRows2Model" "open" "[I", Cond.fieldLink RX4 22 "LiftRows2Model" "kept" "[Z", Cond.fieldLink RX4 16 "LiftRows2Model" "direction" "[I", Cond.fieldLink RX4 7 "LiftRows2Model" "at" "[I", Cond.fieldLink RX4 130 "LiftRows2Model" "gone" "I", Cond.methodLink RX4 119 yX4_stops, Cond.instanceMethod yX4_stops, Cond.selects RX4 yX4_stops yX4_stops, Cond.initialized RX4, Cond.code yX4_stops cX4_stops 4 (some .boolean), Cond.fieldLink RX4 88 "LiftRows2Model" "calls" "I", Cond.fieldLink RX4 35 "LiftRows2Model" "to" "[I", Cond.fieldLink RX4 41 "LiftRows2Model" "load" "[I", Cond.fieldLink RX4 32 "LiftRows2Model" "from" "[I", Cond.fieldLink RX4 13 "LiftRows2Model" "capacity" "[I", Cond.methodLink RX4 106 yX4_is, Cond.instanceMethod yX4_is, Cond.selects RX4 yX4_is yX4_is, Cond.code yX4_is cX4_is 4 (some .boolean), Cond.fieldLink RX4 47 "LiftRows2Model" "liftOf" "[I", Cond.fieldLink RX4 44 "LiftRows2Model" "state" "[I", Cond.methodLink RX4 122 yX4_exchange, Cond.instanceMethod yX4_exchange, Cond.selects RX4 yX4_exchange yX4_exchange]
def wsX4_second_r2 : List Cond := [Cond.code yX4_exchange cX4_exchange 4 none, Cond.fieldLink RX4 56 "LiftRows2Model" "servedAt" "[I", Cond.fieldLink RX4 99 "LiftRows2Model" "time" "I", Cond.fieldLink RX4 38 "LiftRows2Model" "rank" "[I", Cond.fieldLink RX4 53 "LiftRows2Model" "boarded" "[I", Cond.methodLink RX4 112 yX4_tell, Cond.instanceMethod yX4_tell, Cond.selects RX4 yX4_tell yX4_tell, Cond.code yX4_tell cX4_tell 3 none, Cond.fieldLink RX4 59 "LiftRows2Model" "eventTime" "[I", Cond.fieldLink RX4 109 "LiftRows2Model" "events" "I", Cond.fieldLink RX4 62 "LiftRows2Model" "eventCall" "[I", Cond.fieldLink RX4 65 "LiftRows2Model" "eventKind" "[I", Cond.methodLink RX4 116 yX4_aboard, Cond.instanceMethod yX4_aboard, Cond.selects RX4 yX4_aboard yX4_aboard, Cond.code yX4_aboard cX4_aboard 4 (some .int), Cond.methodLink RX4 126 yX4_hasWork, Cond.instanceMethod yX4_hasWork, Cond.selects RX4 yX4_hasWork yX4_hasWork, Cond.code yX4_hasWork cX4_hasWork 5 (some .boolean)]
def wsX4_second : List Cond := .code yX4_second cX4_second 4 none :: ((wsX4_second_r1 ++ wsX4_second_r2) ++ wsX40)
def wsX4_step_r1 : List Cond := [Cond.fieldLink RX4 78 "LiftRows2Model" "code" "I", Cond.fieldLink RX4 109 "LiftRows2Model" "events" "I", Cond.fieldLink RX4 99 "LiftRows2Model" "time" "I", Cond.fieldLink RX4 85 "LiftRows2Model" "lifts" "I", Cond.fieldLink RX4 26 "LiftRows2Model" "stuck" "[Z", Cond.methodLink RX4 81 yX4_in, Cond.static yX4_in, Cond.initialized RX4, Cond.code yX4_in cX4_in 3 (some .boolean), Cond.methodLink RX4 133 yX4_second, Cond.instanceMethod yX4_second, Cond.selects RX4 yX4_second yX4_second, Cond.code yX4_second cX4_second 4 none, Cond.fieldLink RX4 19 "LiftRows2Model" "open" "[I", Cond.fieldLink RX4 22 "LiftRows2Model" "kept" "[Z", Cond.fieldLink RX4 16 "LiftRows2Model" "direction" "[I", Cond.fieldLink RX4 7 "LiftRows2Model" "at" "[I", Cond.fieldLink RX4 130 "LiftRows2Model" "gone" "I", Cond.methodLink RX4 119 yX4_stops, Cond.instanceMethod yX4_stops, Cond.selects RX4 yX4_stops yX4_stops, Cond.code yX4_stops cX4_stops 4 (some .boolean), Cond.fieldLink RX4 88 "LiftRows2Model" "calls" "I", Cond.fieldLink RX4 35 "LiftRows2Model" "to" "[I"]
def wsX4_step_r2 : List Cond := [Cond.fieldLink RX4 41 "LiftRows2Model" "load" "[I", Cond.fieldLink RX4 32 "LiftRows2Model" "from" "[I", Cond.fieldLink RX4 13 "LiftRows2Model" "capacity" "[I", Cond.methodLink RX4 106 yX4_is, Cond.instanceMethod yX4_is, Cond.selects RX4 yX4_is yX4_is, Cond.code yX4_is cX4_is 4 (some .boolean), Cond.fieldLink RX4 47 "LiftRows2Model" "liftOf" "[I", Cond.fieldLink RX4 44 "LiftRows2Model" "state" "[I", Cond.methodLink RX4 122 yX4_exchange, Cond.instanceMethod yX4_exchange, Cond.selects RX4 yX4_exchange yX4_exchange, Cond.code yX4_exchange cX4_exchange 4 none, Cond.fieldLink RX4 56 "LiftRows2Model" "servedAt" "[I", Cond.fieldLink RX4 38 "LiftRows2Model" "rank" "[I", Cond.fieldLink RX4 53 "LiftRows2Model" "boarded" "[I", Cond.methodLink RX4 112 yX4_tell, Cond.instanceMethod yX4_tell, Cond.selects RX4 yX4_tell yX4_tell, Cond.code yX4_tell cX4_tell 3 none, Cond.fieldLink RX4 59 "LiftRows2Model" "eventTime" "[I", Cond.fieldLink RX4 62 "LiftRows2Model" "eventCall" "[I", Cond.fieldLink RX4 65 "LiftRows2Model" "eventKind" "[I", Cond.methodLink RX4 116 yX4_aboard]
def wsX4_step_r3 : List Cond := [Cond.instanceMethod yX4_aboard, Cond.selects RX4 yX4_aboard yX4_aboard, Cond.code yX4_aboard cX4_aboard 4 (some .int), Cond.methodLink RX4 126 yX4_hasWork, Cond.instanceMethod yX4_hasWork, Cond.selects RX4 yX4_hasWork yX4_hasWork, Cond.code yX4_hasWork cX4_hasWork 5 (some .boolean)]
def wsX4_step : List Cond := .code yX4_step cX4_step 5 (some .int) :: ((wsX4_step_r1 ++ (wsX4_step_r2 ++ wsX4_step_r3)) ++ wsX40)
def wsX4_event : List Cond := .code yX4_event cX4_event 3 (some .int) :: ([.fieldLink RX4 109 "LiftRows2Model" "events" "I", .fieldLink RX4 78 "LiftRows2Model" "code" "I", .fieldLink RX4 59 "LiftRows2Model" "eventTime" "[I", .fieldLink RX4 47 "LiftRows2Model" "liftOf" "[I", .fieldLink RX4 62 "LiftRows2Model" "eventCall" "[I", .fieldLink RX4 65 "LiftRows2Model" "eventKind" "[I", .methodLink RX4 81 yX4_in, .static yX4_in, .initialized RX4, .code yX4_in cX4_in 3 (some .boolean)] ++ wsX40)
def wsX4_level : List Cond := .code yX4_level cX4_level 2 (some .int) :: ([.fieldLink RX4 85 "LiftRows2Model" "lifts" "I", .fieldLink RX4 78 "LiftRows2Model" "code" "I", .fieldLink RX4 7 "LiftRows2Model" "at" "[I", .methodLink RX4 81 yX4_in, .static yX4_in, .initialized RX4, .code yX4_in cX4_in 3 (some .boolean)] ++ wsX40)
def wsX4_many : List Cond := .code yX4_many cX4_many 5 (some .int) :: ([.fieldLink RX4 88 "LiftRows2Model" "calls" "I", .methodLink RX4 106 yX4_is, .instanceMethod yX4_is, .selects RX4 yX4_is yX4_is, .initialized RX4, .code yX4_is cX4_is 4 (some .boolean), .fieldLink RX4 47 "LiftRows2Model" "liftOf" "[I", .fieldLink RX4 44 "LiftRows2Model" "state" "[I"] ++ wsX40)
def wsX4_told_r1 : List Cond := [Cond.fieldLink RX4 78 "LiftRows2Model" "code" "I", Cond.fieldLink RX4 16 "LiftRows2Model" "direction" "[I", Cond.fieldLink RX4 19 "LiftRows2Model" "open" "[I", Cond.fieldLink RX4 26 "LiftRows2Model" "stuck" "[Z", Cond.fieldLink RX4 29 "LiftRows2Model" "reserved" "[Z", Cond.fieldLink RX4 22 "LiftRows2Model" "kept" "[Z", Cond.methodLink RX4 136 yX4_isLift, Cond.instanceMethod yX4_isLift, Cond.selects RX4 yX4_isLift yX4_isLift, Cond.initialized RX4, Cond.code yX4_isLift cX4_isLift 2 (some .boolean), Cond.fieldLink RX4 85 "LiftRows2Model" "lifts" "I", Cond.methodLink RX4 81 yX4_in, Cond.static yX4_in, Cond.code yX4_in cX4_in 3 (some .boolean), Cond.methodLink RX4 116 yX4_aboard, Cond.instanceMethod yX4_aboard, Cond.selects RX4 yX4_aboard yX4_aboard, Cond.code yX4_aboard cX4_aboard 4 (some .int), Cond.fieldLink RX4 88 "LiftRows2Model" "calls" "I", Cond.fieldLink RX4 41 "LiftRows2Model" "load" "[I", Cond.methodLink RX4 106 yX4_is, Cond.instanceMethod yX4_is, Cond.selects RX4 yX4_is yX4_is]
def wsX4_told_r2 : List Cond := [Cond.code yX4_is cX4_is 4 (some .boolean), Cond.fieldLink RX4 47 "LiftRows2Model" "liftOf" "[I", Cond.fieldLink RX4 44 "LiftRows2Model" "state" "[I", Cond.methodLink RX4 139 yX4_many, Cond.instanceMethod yX4_many, Cond.selects RX4 yX4_many yX4_many, Cond.code yX4_many cX4_many 5 (some .int)]
def wsX4_told : List Cond := .code yX4_told cX4_told 3 (some .int) :: ((wsX4_told_r1 ++ wsX4_told_r2) ++ wsX40)
def wsX4_door : List Cond := .code yX4_door cX4_door 3 none :: ([.fieldLink RX4 78 "LiftRows2Model" "code" "I", .fieldLink RX4 22 "LiftRows2Model" "kept" "[Z", .fieldLink RX4 19 "LiftRows2Model" "open" "[I", .methodLink RX4 136 yX4_isLift, .instanceMethod yX4_isLift, .selects RX4 yX4_isLift yX4_isLift, .initialized RX4, .code yX4_isLift cX4_isLift 2 (some .boolean), .fieldLink RX4 85 "LiftRows2Model" "lifts" "I", .methodLink RX4 81 yX4_in, .static yX4_in, .code yX4_in cX4_in 3 (some .boolean)] ++ wsX40)
def wsX4_stuck_r1 : List Cond := [Cond.fieldLink RX4 78 "LiftRows2Model" "code" "I", Cond.fieldLink RX4 26 "LiftRows2Model" "stuck" "[Z", Cond.fieldLink RX4 88 "LiftRows2Model" "calls" "I", Cond.fieldLink RX4 47 "LiftRows2Model" "liftOf" "[I", Cond.methodLink RX4 136 yX4_isLift, Cond.instanceMethod yX4_isLift, Cond.selects RX4 yX4_isLift yX4_isLift, Cond.initialized RX4, Cond.code yX4_isLift cX4_isLift 2 (some .boolean), Cond.fieldLink RX4 85 "LiftRows2Model" "lifts" "I", Cond.methodLink RX4 81 yX4_in, Cond.static yX4_in, Cond.code yX4_in cX4_in 3 (some .boolean), Cond.methodLink RX4 106 yX4_is, Cond.instanceMethod yX4_is, Cond.selects RX4 yX4_is yX4_is, Cond.code yX4_is cX4_is 4 (some .boolean), Cond.fieldLink RX4 44 "LiftRows2Model" "state" "[I", Cond.methodLink RX4 102 yX4_nearest, Cond.instanceMethod yX4_nearest, Cond.selects RX4 yX4_nearest yX4_nearest, Cond.code yX4_nearest cX4_nearest 4 (some .int), Cond.fieldLink RX4 29 "LiftRows2Model" "reserved" "[Z", Cond.fieldLink RX4 13 "LiftRows2Model" "capacity" "[I"]
def wsX4_stuck_r2 : List Cond := [Cond.fieldLink RX4 41 "LiftRows2Model" "load" "[I", Cond.fieldLink RX4 7 "LiftRows2Model" "at" "[I", Cond.fieldLink RX4 32 "LiftRows2Model" "from" "[I", Cond.methodLink RX4 95 yX4_far, Cond.static yX4_far, Cond.code yX4_far cX4_far 2 (some .int), Cond.methodLink RX4 139 yX4_many, Cond.instanceMethod yX4_many, Cond.selects RX4 yX4_many yX4_many, Cond.code yX4_many cX4_many 5 (some .int)]
def wsX4_stuck : List Cond := .code yX4_stuck cX4_stuck 4 (some .int) :: ((wsX4_stuck_r1 ++ wsX4_stuck_r2) ++ wsX40)
def wsX4_reserved : List Cond := .code yX4_reserved cX4_reserved 3 (some .int) :: ([.fieldLink RX4 78 "LiftRows2Model" "code" "I", .fieldLink RX4 29 "LiftRows2Model" "reserved" "[Z", .methodLink RX4 136 yX4_isLift, .instanceMethod yX4_isLift, .selects RX4 yX4_isLift yX4_isLift, .initialized RX4, .code yX4_isLift cX4_isLift 2 (some .boolean), .fieldLink RX4 85 "LiftRows2Model" "lifts" "I", .methodLink RX4 81 yX4_in, .static yX4_in, .code yX4_in cX4_in 3 (some .boolean), .methodLink RX4 139 yX4_many, .instanceMethod yX4_many, .selects RX4 yX4_many yX4_many, .code yX4_many cX4_many 5 (some .int), .fieldLink RX4 88 "LiftRows2Model" "calls" "I", .methodLink RX4 106 yX4_is, .instanceMethod yX4_is, .selects RX4 yX4_is yX4_is, .code yX4_is cX4_is 4 (some .boolean), .fieldLink RX4 47 "LiftRows2Model" "liftOf" "[I", .fieldLink RX4 44 "LiftRows2Model" "state" "[I"] ++ wsX40)
def wsX4_freed : List Cond := .code yX4_freed cX4_freed 3 (some .int) :: ([.fieldLink RX4 78 "LiftRows2Model" "code" "I", .fieldLink RX4 88 "LiftRows2Model" "calls" "I", .fieldLink RX4 47 "LiftRows2Model" "liftOf" "[I", .methodLink RX4 106 yX4_is, .instanceMethod yX4_is, .selects RX4 yX4_is yX4_is, .initialized RX4, .code yX4_is cX4_is 4 (some .boolean), .fieldLink RX4 44 "LiftRows2Model" "state" "[I", .methodLink RX4 102 yX4_nearest, .instanceMethod yX4_nearest, .selects RX4 yX4_nearest yX4_nearest, .code yX4_nearest cX4_nearest 4 (some .int), .fieldLink RX4 85 "LiftRows2Model" "lifts" "I", .fieldLink RX4 26 "LiftRows2Model" "stuck" "[Z", .fieldLink RX4 29 "LiftRows2Model" "reserved" "[Z", .fieldLink RX4 13 "LiftRows2Model" "capacity" "[I", .fieldLink RX4 41 "LiftRows2Model" "load" "[I", .fieldLink RX4 7 "LiftRows2Model" "at" "[I", .fieldLink RX4 32 "LiftRows2Model" "from" "[I", .methodLink RX4 95 yX4_far, .static yX4_far, .code yX4_far cX4_far 2 (some .int)] ++ wsX40)
def wsX4_served : List Cond := .code yX4_served cX4_served 2 (some .int) :: ([.fieldLink RX4 78 "LiftRows2Model" "code" "I", .fieldLink RX4 56 "LiftRows2Model" "servedAt" "[I", .methodLink RX4 142 yX4_isCall, .instanceMethod yX4_isCall, .selects RX4 yX4_isCall yX4_isCall, .initialized RX4, .code yX4_isCall cX4_isCall 2 (some .boolean), .fieldLink RX4 88 "LiftRows2Model" "calls" "I", .methodLink RX4 81 yX4_in, .static yX4_in, .code yX4_in cX4_in 3 (some .boolean)] ++ wsX40)
def wsX4_waits : List Cond := .code yX4_waits cX4_waits 2 (some .int) :: ([.fieldLink RX4 78 "LiftRows2Model" "code" "I", .fieldLink RX4 53 "LiftRows2Model" "boarded" "[I", .fieldLink RX4 99 "LiftRows2Model" "time" "I", .fieldLink RX4 50 "LiftRows2Model" "came" "[I", .methodLink RX4 142 yX4_isCall, .instanceMethod yX4_isCall, .selects RX4 yX4_isCall yX4_isCall, .initialized RX4, .code yX4_isCall cX4_isCall 2 (some .boolean), .fieldLink RX4 88 "LiftRows2Model" "calls" "I", .methodLink RX4 81 yX4_in, .static yX4_in, .code yX4_in cX4_in 3 (some .boolean)] ++ wsX40)
def wsX4_lower : List Cond := .code yX4_lower cX4_lower 4 none :: ([.fieldLink RX4 68 "LiftRows2Model" "ways" "[I"] ++ wsX40)
def wsX4_goOn : List Cond := .code yX4_goOn cX4_goOn 8 none :: ([.fieldLink RX4 32 "LiftRows2Model" "from" "[I", .fieldLink RX4 71 "LiftRows2Model" "about" "[I", .fieldLink RX4 35 "LiftRows2Model" "to" "[I", .fieldLink RX4 68 "LiftRows2Model" "ways" "[I", .methodLink RX4 95 yX4_far, .static yX4_far, .initialized RX4, .code yX4_far cX4_far 2 (some .int), .methodLink RX4 150 yX4_lower, .instanceMethod yX4_lower, .selects RX4 yX4_lower yX4_lower, .code yX4_lower cX4_lower 4 none] ++ wsX40)
def wsX4_least_r1 : List Cond := [Cond.fieldLink RX4 78 "LiftRows2Model" "code" "I", Cond.fieldLink RX4 88 "LiftRows2Model" "calls" "I", Cond.fieldLink RX4 71 "LiftRows2Model" "about" "[I", Cond.fieldLink RX4 44 "LiftRows2Model" "state" "[I", Cond.fieldLink RX4 68 "LiftRows2Model" "ways" "[I", Cond.constant RX4 145 (1000000), Cond.fieldLink RX4 7 "LiftRows2Model" "at" "[I", Cond.fieldLink RX4 74 "LiftRows2Model" "levels" "I", Cond.methodLink RX4 136 yX4_isLift, Cond.instanceMethod yX4_isLift, Cond.selects RX4 yX4_isLift yX4_isLift, Cond.initialized RX4, Cond.code yX4_isLift cX4_isLift 2 (some .boolean), Cond.fieldLink RX4 85 "LiftRows2Model" "lifts" "I", Cond.methodLink RX4 81 yX4_in, Cond.static yX4_in, Cond.code yX4_in cX4_in 3 (some .boolean), Cond.methodLink RX4 139 yX4_many, Cond.instanceMethod yX4_many, Cond.selects RX4 yX4_many yX4_many, Cond.code yX4_many cX4_many 5 (some .int), Cond.methodLink RX4 106 yX4_is, Cond.instanceMethod yX4_is, Cond.selects RX4 yX4_is yX4_is]
def wsX4_least_r2 : List Cond := [Cond.code yX4_is cX4_is 4 (some .boolean), Cond.fieldLink RX4 47 "LiftRows2Model" "liftOf" "[I", Cond.methodLink RX4 146 yX4_goOn, Cond.instanceMethod yX4_goOn, Cond.selects RX4 yX4_goOn yX4_goOn, Cond.code yX4_goOn cX4_goOn 8 none, Cond.fieldLink RX4 32 "LiftRows2Model" "from" "[I", Cond.fieldLink RX4 35 "LiftRows2Model" "to" "[I", Cond.methodLink RX4 95 yX4_far, Cond.static yX4_far, Cond.code yX4_far cX4_far 2 (some .int), Cond.methodLink RX4 150 yX4_lower, Cond.instanceMethod yX4_lower, Cond.selects RX4 yX4_lower yX4_lower, Cond.code yX4_lower cX4_lower 4 none]
def wsX4_least : List Cond := .code yX4_least cX4_least 8 (some .int) :: ((wsX4_least_r1 ++ wsX4_least_r2) ++ wsX40)
def wsX4_joins : List Cond := .code yX4_joins cX4_joins 3 (some .boolean) :: ([.fieldLink RX4 78 "LiftRows2Model" "code" "I", .fieldLink RX4 44 "LiftRows2Model" "state" "[I", .fieldLink RX4 32 "LiftRows2Model" "from" "[I", .fieldLink RX4 35 "LiftRows2Model" "to" "[I", .methodLink RX4 142 yX4_isCall, .instanceMethod yX4_isCall, .selects RX4 yX4_isCall yX4_isCall, .initialized RX4, .code yX4_isCall cX4_isCall 2 (some .boolean), .fieldLink RX4 88 "LiftRows2Model" "calls" "I", .methodLink RX4 81 yX4_in, .static yX4_in, .code yX4_in cX4_in 3 (some .boolean)] ++ wsX40)
def wsX4_known : List Cond := .code yX4_known cX4_known 3 (some .int) :: ([.fieldLink RX4 78 "LiftRows2Model" "code" "I", .fieldLink RX4 44 "LiftRows2Model" "state" "[I", .fieldLink RX4 47 "LiftRows2Model" "liftOf" "[I", .fieldLink RX4 32 "LiftRows2Model" "from" "[I", .fieldLink RX4 35 "LiftRows2Model" "to" "[I", .fieldLink RX4 38 "LiftRows2Model" "rank" "[I", .fieldLink RX4 41 "LiftRows2Model" "load" "[I", .methodLink RX4 142 yX4_isCall, .instanceMethod yX4_isCall, .selects RX4 yX4_isCall yX4_isCall, .initialized RX4, .code yX4_isCall cX4_isCall 2 (some .boolean), .fieldLink RX4 88 "LiftRows2Model" "calls" "I", .methodLink RX4 81 yX4_in, .static yX4_in, .code yX4_in cX4_in 3 (some .boolean)] ++ wsX40)
def wsX4_count : List Cond := .code yX4_count cX4_count 5 (some .int) :: ([.fieldLink RX4 78 "LiftRows2Model" "code" "I", .fieldLink RX4 74 "LiftRows2Model" "levels" "I", .fieldLink RX4 85 "LiftRows2Model" "lifts" "I", .fieldLink RX4 88 "LiftRows2Model" "calls" "I", .fieldLink RX4 109 "LiftRows2Model" "events" "I", .fieldLink RX4 99 "LiftRows2Model" "time" "I", .fieldLink RX4 130 "LiftRows2Model" "gone" "I", .fieldLink RX4 44 "LiftRows2Model" "state" "[I", .fieldLink RX4 47 "LiftRows2Model" "liftOf" "[I", .fieldLink RX4 32 "LiftRows2Model" "from" "[I"] ++ wsX40)
def wsJx00060_init_a7421 : List Cond := .code yJx00060_init_a7421 cJx00060_init_a7421 2 none :: ([])
def wsJ9_abs_0f7a4 : List Cond := .code yJ9_abs_0f7a4 cJ9_abs_0f7a4 1 (some .int) :: ([])
def wsJ9_max_7cf53 : List Cond := .code yJ9_max_7cf53 cJ9_max_7cf53 2 (some .int) :: ([])
def wsJ9_min_7cf53 : List Cond := .code yJ9_min_7cf53 cJ9_min_7cf53 2 (some .int) :: ([])
def wsL_cell : List Cond := .code yL_cell cL_cell 2 (some .int) :: ([])
def wsL_lift : List Cond := .codeWith yL_lift cL_lift 5 (some .int) [(0, 10, 13, 13), (0, 10, 17, 15)] :: ([.classLink RL 13 "java/lang/IllegalArgumentException", .classLink RL 15 "java/lang/UnsupportedOperationException", .methodLink RL 7 yX3_lift, .instanceMethod yX3_lift, .selects RX3 yX3_lift yX3_lift, .initialized RX3, .code yX3_lift cX3_lift 3 (some .int), .classLink RX3 53 "java/lang/UnsupportedOperationException", .initialized "java/lang/UnsupportedOperationException", .fieldLink RX3 18 "LiftRows2" "levels" "I", .fieldLink RX3 25 "LiftRows2" "lifts" "LLiftRows2$Lifts;", .methodLink RX3 46 yX3_refuseOutside, .static yX3_refuseOutside, .code yX3_refuseOutside cX3_refuseOutside 3 none, .classLink RX3 63 "java/lang/IllegalArgumentException", .initialized "java/lang/IllegalArgumentException", .instanceMethod yX2_add, .initialized RX2, .selects RX2 yX2_add yX2_add, .code yX2_add cX2_add 4 (some .int), .fieldLink RX2 34 "LiftRows2$Lifts" "size" "I", .fieldLink RX2 9 "LiftRows2$Lifts" "at" "[I", .fieldLink RX2 15 "LiftRows2$Lifts" "capacity" "[I"] ++ wsX30 ++ wsX20 ++ (vx_atS RX3 57 "java/lang/UnsupportedOperationException" ["java/lang/RuntimeException", "java/lang/Exception"]).filter goodWord ++ (vx_atS RX3 67 "java/lang/IllegalArgumentException" ["java/lang/RuntimeException", "java/lang/Exception"]).filter goodWord)
def wsL_call_r1 : List Cond := [Cond.classLink RL 13 "java/lang/IllegalArgumentException", Cond.classLink RL 15 "java/lang/UnsupportedOperationException", Cond.methodLink RL 17 yX3_call, Cond.instanceMethod yX3_call, Cond.selects RX3 yX3_call yX3_call, Cond.initialized RX3, Cond.code yX3_call cX3_call 6 (some .int), Cond.classLink RX3 63 "java/lang/IllegalArgumentException", Cond.initialized "java/lang/IllegalArgumentException", Cond.classLink RX3 53 "java/lang/UnsupportedOperationException", Cond.initialized "java/lang/UnsupportedOperationException", Cond.fieldLink RX3 18 "LiftRows2" "levels" "I", Cond.fieldLink RX3 32 "LiftRows2" "calls" "LLiftRows2$Calls;", Cond.fieldLink RX3 43 "LiftRows2" "time" "I", Cond.methodLink RX3 46 yX3_refuseOutside, Cond.static yX3_refuseOutside, Cond.code yX3_refuseOutside cX3_refuseOutside 3 none, Cond.instanceMethod yX0_add, Cond.initialized RX0, Cond.selects RX0 yX0_add yX0_add, Cond.code yX0_add cX0_add 7 (some .int), Cond.fieldLink RX0 39 "LiftRows2$Calls" "size" "I", Cond.fieldLink RX0 9 "LiftRows2$Calls" "from" "[I", Cond.fieldLink RX0 15 "LiftRows2$Calls" "to" "[I"]
def wsL_call_r2 : List Cond := [Cond.fieldLink RX0 18 "LiftRows2$Calls" "rank" "[I", Cond.fieldLink RX0 21 "LiftRows2$Calls" "load" "[I", Cond.fieldLink RX0 24 "LiftRows2$Calls" "state" "[I", Cond.fieldLink RX0 27 "LiftRows2$Calls" "by" "[I", Cond.fieldLink RX0 30 "LiftRows2$Calls" "cameAt" "[I", Cond.fieldLink RX0 33 "LiftRows2$Calls" "boardedAt" "[I", Cond.fieldLink RX0 36 "LiftRows2$Calls" "servedAt" "[I", Cond.methodLink RX3 78 yX3_nearestLift, Cond.instanceMethod yX3_nearestLift, Cond.selects RX3 yX3_nearestLift yX3_nearestLift, Cond.code yX3_nearestLift cX3_nearestLift 7 (some .int), Cond.fieldLink RX3 25 "LiftRows2" "lifts" "LLiftRows2$Lifts;", Cond.methodLink RX3 212 Lib.Math.abs.name, Cond.static Lib.Math.abs.name, Cond.initialized "java/lang/Math", Cond.code Lib.Math.abs.name Lib.Math.abs.code 1 (some .int), Cond.instanceMethod yX2_mayGet, Cond.initialized RX2, Cond.selects RX2 yX2_mayGet yX2_mayGet, Cond.code yX2_mayGet cX2_mayGet 3 (some .boolean), Cond.fieldLink RX2 24 "LiftRows2$Lifts" "isStuck" "[Z", Cond.fieldLink RX2 28 "LiftRows2$Lifts" "isReserved" "[Z", Cond.fieldLink RX2 15 "LiftRows2$Lifts" "capacity" "[I"]
def wsL_call : List Cond := .codeWith yL_call cL_call 7 (some .int) [(0, 14, 17, 13), (0, 14, 21, 15)] :: ((wsL_call_r1 ++ wsL_call_r2) ++ wsX30 ++ wsX00 ++ wsX20 ++ (vx_atS RX3 67 "java/lang/IllegalArgumentException" ["java/lang/RuntimeException", "java/lang/Exception"]).filter goodWord ++ (vx_atS RX3 57 "java/lang/UnsupportedOperationException" ["java/lang/RuntimeException", "java/lang/Exception"]).filter goodWord)
def wsL_step_r1 : List Cond := [Cond.classLink RL 13 "java/lang/IllegalArgumentException", Cond.methodLink RL 21 yX3_step, Cond.instanceMethod yX3_step, Cond.selects RX3 yX3_step yX3_step, Cond.initialized RX3, Cond.code yX3_step cX3_step 4 (some .int), Cond.fieldLink RX3 39 "LiftRows2" "events" "LLiftRows2$Events;", Cond.methodLink RX3 46 yX3_refuseOutside, Cond.static yX3_refuseOutside, Cond.code yX3_refuseOutside cX3_refuseOutside 3 none, Cond.classLink RX3 63 "java/lang/IllegalArgumentException", Cond.initialized "java/lang/IllegalArgumentException", Cond.methodLink RX3 82 yX3_passSecond, Cond.instanceMethod yX3_passSecond, Cond.selects RX3 yX3_passSecond yX3_passSecond, Cond.code yX3_passSecond cX3_passSecond 2 none, Cond.fieldLink RX3 43 "LiftRows2" "time" "I", Cond.fieldLink RX3 25 "LiftRows2" "lifts" "LLiftRows2$Lifts;", Cond.methodLink RX3 223 yX3_doOneThing, Cond.instanceMethod yX3_doOneThing, Cond.selects RX3 yX3_doOneThing yX3_doOneThing, Cond.code yX3_doOneThing cX3_doOneThing 4 none, Cond.fieldLink RX3 32 "LiftRows2" "calls" "LLiftRows2$Calls;", Cond.instanceMethod yX2_passOpenSecond]
def wsL_step_r2 : List Cond := [Cond.initialized RX2, Cond.selects RX2 yX2_passOpenSecond yX2_passOpenSecond, Cond.code yX2_passOpenSecond cX2_passOpenSecond 3 none, Cond.fieldLink RX2 31 "LiftRows2$Lifts" "isKept" "[Z", Cond.fieldLink RX2 21 "LiftRows2$Lifts" "openFor" "[I", Cond.methodLink RX2 41 Lib.Math.max.name, Cond.static Lib.Math.max.name, Cond.initialized "java/lang/Math", Cond.code Lib.Math.max.name Lib.Math.max.code 2 (some .int), Cond.methodLink RX3 229 yX3_opensHere, Cond.instanceMethod yX3_opensHere, Cond.selects RX3 yX3_opensHere yX3_opensHere, Cond.code yX3_opensHere cX3_opensHere 5 (some .boolean), Cond.instanceMethod yX0_loadStaying, Cond.initialized RX0, Cond.selects RX0 yX0_loadStaying yX0_loadStaying, Cond.code yX0_loadStaying cX0_loadStaying 5 (some .int), Cond.fieldLink RX0 39 "LiftRows2$Calls" "size" "I", Cond.fieldLink RX0 15 "LiftRows2$Calls" "to" "[I", Cond.fieldLink RX0 21 "LiftRows2$Calls" "load" "[I", Cond.methodLink RX0 43 yX0_is, Cond.instanceMethod yX0_is, Cond.selects RX0 yX0_is yX0_is, Cond.code yX0_is cX0_is 4 (some .boolean)]
def wsL_step_r3 : List Cond := [Cond.fieldLink RX0 24 "LiftRows2$Calls" "state" "[I", Cond.fieldLink RX0 27 "LiftRows2$Calls" "by" "[I", Cond.instanceMethod yX0_getsOut, Cond.selects RX0 yX0_getsOut yX0_getsOut, Cond.code yX0_getsOut cX0_getsOut 4 (some .boolean), Cond.instanceMethod yX0_fitsIn, Cond.selects RX0 yX0_fitsIn yX0_fitsIn, Cond.code yX0_fitsIn cX0_fitsIn 5 (some .boolean), Cond.fieldLink RX0 9 "LiftRows2$Calls" "from" "[I", Cond.methodLink RX3 233 yX3_letOut, Cond.instanceMethod yX3_letOut, Cond.selects RX3 yX3_letOut yX3_letOut, Cond.code yX3_letOut cX3_letOut 3 none, Cond.instanceMethod yX1_add, Cond.initialized RX1, Cond.selects RX1 yX1_add yX1_add, Cond.code yX1_add cX1_add 5 none, Cond.fieldLink RX1 24 "LiftRows2$Events" "size" "I", Cond.fieldLink RX1 9 "LiftRows2$Events" "second" "[I", Cond.fieldLink RX1 15 "LiftRows2$Events" "lift" "[I", Cond.fieldLink RX1 18 "LiftRows2$Events" "call" "[I", Cond.fieldLink RX1 21 "LiftRows2$Events" "kind" "[I", Cond.methodLink RX3 236 yX3_letIn, Cond.instanceMethod yX3_letIn]
def wsL_step_r4 : List Cond := [Cond.selects RX3 yX3_letIn yX3_letIn, Cond.code yX3_letIn cX3_letIn 5 none, Cond.instanceMethod yX0_loadAboard, Cond.selects RX0 yX0_loadAboard yX0_loadAboard, Cond.code yX0_loadAboard cX0_loadAboard 2 (some .int), Cond.methodLink RX0 57 yX0_loadStaying, Cond.instanceMethod yX0_hasWork, Cond.selects RX0 yX0_hasWork yX0_hasWork, Cond.code yX0_hasWork cX0_hasWork 4 (some .boolean), Cond.methodLink RX0 47 yX0_setOf, Cond.instanceMethod yX0_setOf, Cond.selects RX0 yX0_setOf yX0_setOf, Cond.code yX0_setOf cX0_setOf 5 (some .int), Cond.methodLink RX0 64 yX0_nearestStop, Cond.instanceMethod yX0_nearestStop, Cond.selects RX0 yX0_nearestStop yX0_nearestStop, Cond.code yX0_nearestStop cX0_nearestStop 12 (some .int), Cond.instanceMethod yX2_go, Cond.selects RX2 yX2_go yX2_go, Cond.code yX2_go cX2_go 5 none, Cond.fieldLink RX2 18 "LiftRows2$Lifts" "direction" "[I", Cond.fieldLink RX2 9 "LiftRows2$Lifts" "at" "[I", Cond.fieldLink RX2 38 "LiftRows2$Lifts" "gone" "I", Cond.methodLink RX2 47 Lib.Math.abs.name]
def wsL_step_r5 : List Cond := [Cond.static Lib.Math.abs.name, Cond.code Lib.Math.abs.name Lib.Math.abs.code 1 (some .int)]
def wsL_step : List Cond := .codeWith yL_step cL_step 4 (some .int) [(0, 9, 12, 13)] :: ((wsL_step_r1 ++ (wsL_step_r2 ++ (wsL_step_r3 ++ (wsL_step_r4 ++ wsL_step_r5)))) ++ wsX30 ++ wsX10 ++ wsX20 ++ wsX00 ++ (vx_atS RX3 67 "java/lang/IllegalArgumentException" ["java/lang/RuntimeException", "java/lang/Exception"]).filter goodWord)
def wsL_event : List Cond := .codeWith yL_event cL_event 5 (some .int) [(0, 10, 13, 28), (0, 10, 17, 13)] :: ([.classLink RL 28 "java/util/NoSuchElementException", .classLink RL 13 "java/lang/IllegalArgumentException", .methodLink RL 25 yX3_event, .instanceMethod yX3_event, .selects RX3 yX3_event yX3_event, .initialized RX3, .code yX3_event cX3_event 3 (some .int), .classLink RX3 85 "java/util/NoSuchElementException", .initialized "java/util/NoSuchElementException", .fieldLink RX3 39 "LiftRows2" "events" "LLiftRows2$Events;", .methodLink RX3 46 yX3_refuseOutside, .static yX3_refuseOutside, .code yX3_refuseOutside cX3_refuseOutside 3 none, .classLink RX3 63 "java/lang/IllegalArgumentException", .initialized "java/lang/IllegalArgumentException"] ++ wsX30 ++ wsX10 ++ zAtN.filter goodWord ++ (vx_atS RX3 67 "java/lang/IllegalArgumentException" ["java/lang/RuntimeException", "java/lang/Exception"]).filter goodWord)
def wsL_level : List Cond := .codeWith yL_level cL_level 4 (some .int) [(0, 9, 12, 28), (0, 9, 15, 33)] :: ([.classLink RL 28 "java/util/NoSuchElementException", .methodLink RL 30 yX3_level, .instanceMethod yX3_level, .selects RX3 yX3_level yX3_level, .initialized RX3, .code yX3_level cX3_level 2 (some .int), .classLink RX3 102 RJx00060, .instantiable RJx00060 6, .initialized RJx00060, .fieldLink RX3 25 "LiftRows2" "lifts" "LLiftRows2$Lifts;", .methodLink RX3 107 yX3_refuseNoLift, .instanceMethod yX3_refuseNoLift, .selects RX3 yX3_refuseNoLift yX3_refuseNoLift, .code yX3_refuseNoLift cX3_refuseNoLift 2 none, .classLink RX3 85 "java/util/NoSuchElementException", .initialized "java/util/NoSuchElementException"] ++ wsJx000600 ++ wsX30 ++ wsX20 ++ zAtN.filter goodWord)
def wsL_told_r1 : List Cond := [Cond.classLink RL 28 "java/util/NoSuchElementException", Cond.classLink RL 13 "java/lang/IllegalArgumentException", Cond.methodLink RL 35 yX3_told, Cond.instanceMethod yX3_told, Cond.selects RX3 yX3_told yX3_told, Cond.initialized RX3, Cond.code yX3_told cX3_told 3 (some .int), Cond.fieldLink RX3 32 "LiftRows2" "calls" "LLiftRows2$Calls;", Cond.fieldLink RX3 25 "LiftRows2" "lifts" "LLiftRows2$Lifts;", Cond.methodLink RX3 107 yX3_refuseNoLift, Cond.instanceMethod yX3_refuseNoLift, Cond.selects RX3 yX3_refuseNoLift yX3_refuseNoLift, Cond.code yX3_refuseNoLift cX3_refuseNoLift 2 none, Cond.classLink RX3 85 "java/util/NoSuchElementException", Cond.initialized "java/util/NoSuchElementException", Cond.methodLink RX3 46 yX3_refuseOutside, Cond.static yX3_refuseOutside, Cond.code yX3_refuseOutside cX3_refuseOutside 3 none, Cond.classLink RX3 63 "java/lang/IllegalArgumentException", Cond.initialized "java/lang/IllegalArgumentException", Cond.instanceMethod yX0_loadAboard, Cond.initialized RX0, Cond.selects RX0 yX0_loadAboard yX0_loadAboard, Cond.code yX0_loadAboard cX0_loadAboard 2 (some .int)]
def wsL_told_r2 : List Cond := [Cond.methodLink RX0 57 yX0_loadStaying, Cond.instanceMethod yX0_loadStaying, Cond.selects RX0 yX0_loadStaying yX0_loadStaying, Cond.code yX0_loadStaying cX0_loadStaying 5 (some .int), Cond.fieldLink RX0 39 "LiftRows2$Calls" "size" "I", Cond.fieldLink RX0 15 "LiftRows2$Calls" "to" "[I", Cond.fieldLink RX0 21 "LiftRows2$Calls" "load" "[I", Cond.methodLink RX0 43 yX0_is, Cond.instanceMethod yX0_is, Cond.selects RX0 yX0_is yX0_is, Cond.code yX0_is cX0_is 4 (some .boolean), Cond.fieldLink RX0 24 "LiftRows2$Calls" "state" "[I", Cond.fieldLink RX0 27 "LiftRows2$Calls" "by" "[I", Cond.instanceMethod yX0_number, Cond.selects RX0 yX0_number yX0_number, Cond.code yX0_number cX0_number 3 (some .int), Cond.methodLink RX0 47 yX0_setOf, Cond.instanceMethod yX0_setOf, Cond.selects RX0 yX0_setOf yX0_setOf, Cond.code yX0_setOf cX0_setOf 5 (some .int), Cond.methodLink RX0 51 yJ6_bitCount_0f7a4, Cond.static yJ6_bitCount_0f7a4, Cond.initialized RJ6, Cond.code yJ6_bitCount_0f7a4 cJ6_bitCount_0f7a4 1 (some .int)]
def wsL_told_r3 : List Cond := [Cond.constant RJ6 265 (1431655765), Cond.constant RJ6 266 (858993459), Cond.constant RJ6 267 (252645135), Cond.methodLink RX3 131 yX3_asNumber, Cond.static yX3_asNumber, Cond.code yX3_asNumber cX3_asNumber 1 (some .int)]
def wsL_told : List Cond := .codeWith yL_told cL_told 5 (some .int) [(0, 10, 13, 28), (0, 10, 17, 13)] :: ((wsL_told_r1 ++ (wsL_told_r2 ++ wsL_told_r3)) ++ wsX30 ++ wsX20 ++ wsX00 ++ zAtN.filter goodWord ++ (vx_atS RX3 67 "java/lang/IllegalArgumentException" ["java/lang/RuntimeException", "java/lang/Exception"]).filter goodWord)
def wsL_door : List Cond := .codeWith yL_door cL_door 4 (some .int) [(0, 6, 9, 28), (0, 6, 12, 42)] :: ([.classLink RL 28 "java/util/NoSuchElementException", .classLink RL 42 "java/lang/IllegalStateException", .methodLink RL 38 yX3_door, .instanceMethod yX3_door, .selects RX3 yX3_door yX3_door, .initialized RX3, .code yX3_door cX3_door 3 none, .classLink RX3 145 "java/lang/IllegalStateException", .initialized "java/lang/IllegalStateException", .fieldLink RX3 25 "LiftRows2" "lifts" "LLiftRows2$Lifts;", .methodLink RX3 107 yX3_refuseNoLift, .instanceMethod yX3_refuseNoLift, .selects RX3 yX3_refuseNoLift yX3_refuseNoLift, .code yX3_refuseNoLift cX3_refuseNoLift 2 none, .classLink RX3 85 "java/util/NoSuchElementException", .initialized "java/util/NoSuchElementException", .methodLink RX3 141 yX3_refuseUnchanged, .static yX3_refuseUnchanged, .code yX3_refuseUnchanged cX3_refuseUnchanged 2 none] ++ wsX30 ++ wsX20 ++ (vx_atS RX3 149 "java/lang/IllegalStateException" ["java/lang/RuntimeException", "java/lang/Exception"]).filter goodWord ++ zAtN.filter goodWord)
def wsL_stuck_r1 : List Cond := [Cond.classLink RL 28 "java/util/NoSuchElementException", Cond.classLink RL 42 "java/lang/IllegalStateException", Cond.methodLink RL 44 yX3_stuck, Cond.instanceMethod yX3_stuck, Cond.selects RX3 yX3_stuck yX3_stuck, Cond.initialized RX3, Cond.code yX3_stuck cX3_stuck 3 (some .int), Cond.fieldLink RX3 25 "LiftRows2" "lifts" "LLiftRows2$Lifts;", Cond.fieldLink RX3 32 "LiftRows2" "calls" "LLiftRows2$Calls;", Cond.methodLink RX3 107 yX3_refuseNoLift, Cond.instanceMethod yX3_refuseNoLift, Cond.selects RX3 yX3_refuseNoLift yX3_refuseNoLift, Cond.code yX3_refuseNoLift cX3_refuseNoLift 2 none, Cond.classLink RX3 85 "java/util/NoSuchElementException", Cond.initialized "java/util/NoSuchElementException", Cond.methodLink RX3 141 yX3_refuseUnchanged, Cond.static yX3_refuseUnchanged, Cond.code yX3_refuseUnchanged cX3_refuseUnchanged 2 none, Cond.classLink RX3 145 "java/lang/IllegalStateException", Cond.initialized "java/lang/IllegalStateException", Cond.methodLink RX3 150 yX3_giveAnew, Cond.instanceMethod yX3_giveAnew, Cond.selects RX3 yX3_giveAnew yX3_giveAnew, Cond.code yX3_giveAnew cX3_giveAnew 4 (some .int)]
def wsL_stuck_r2 : List Cond := [Cond.instanceMethod yX0_is, Cond.initialized RX0, Cond.selects RX0 yX0_is yX0_is, Cond.code yX0_is cX0_is 4 (some .boolean), Cond.fieldLink RX0 24 "LiftRows2$Calls" "state" "[I", Cond.fieldLink RX0 27 "LiftRows2$Calls" "by" "[I", Cond.methodLink RX3 78 yX3_nearestLift, Cond.instanceMethod yX3_nearestLift, Cond.selects RX3 yX3_nearestLift yX3_nearestLift, Cond.code yX3_nearestLift cX3_nearestLift 7 (some .int), Cond.methodLink RX3 212 Lib.Math.abs.name, Cond.static Lib.Math.abs.name, Cond.initialized "java/lang/Math", Cond.code Lib.Math.abs.name Lib.Math.abs.code 1 (some .int), Cond.instanceMethod yX2_mayGet, Cond.initialized RX2, Cond.selects RX2 yX2_mayGet yX2_mayGet, Cond.code yX2_mayGet cX2_mayGet 3 (some .boolean), Cond.fieldLink RX2 24 "LiftRows2$Lifts" "isStuck" "[Z", Cond.fieldLink RX2 28 "LiftRows2$Lifts" "isReserved" "[Z", Cond.fieldLink RX2 15 "LiftRows2$Lifts" "capacity" "[I", Cond.methodLink RX3 131 yX3_asNumber, Cond.static yX3_asNumber, Cond.code yX3_asNumber cX3_asNumber 1 (some .int)]
def wsL_stuck_r3 : List Cond := [Cond.instanceMethod yX0_number, Cond.selects RX0 yX0_number yX0_number, Cond.code yX0_number cX0_number 3 (some .int), Cond.methodLink RX0 47 yX0_setOf, Cond.instanceMethod yX0_setOf, Cond.selects RX0 yX0_setOf yX0_setOf, Cond.code yX0_setOf cX0_setOf 5 (some .int), Cond.fieldLink RX0 39 "LiftRows2$Calls" "size" "I", Cond.methodLink RX0 43 yX0_is, Cond.methodLink RX0 51 yJ6_bitCount_0f7a4, Cond.static yJ6_bitCount_0f7a4, Cond.initialized RJ6, Cond.code yJ6_bitCount_0f7a4 cJ6_bitCount_0f7a4 1 (some .int), Cond.constant RJ6 265 (1431655765), Cond.constant RJ6 266 (858993459), Cond.constant RJ6 267 (252645135)]
def wsL_stuck : List Cond := .codeWith yL_stuck cL_stuck 5 (some .int) [(0, 10, 13, 28), (0, 10, 17, 42)] :: ((wsL_stuck_r1 ++ (wsL_stuck_r2 ++ wsL_stuck_r3)) ++ wsX30 ++ wsX20 ++ wsX00 ++ zAtN.filter goodWord ++ (vx_atS RX3 149 "java/lang/IllegalStateException" ["java/lang/RuntimeException", "java/lang/Exception"]).filter goodWord)
def wsL_reserved_r1 : List Cond := [Cond.classLink RL 28 "java/util/NoSuchElementException", Cond.classLink RL 42 "java/lang/IllegalStateException", Cond.methodLink RL 48 yX3_reserved, Cond.instanceMethod yX3_reserved, Cond.selects RX3 yX3_reserved yX3_reserved, Cond.initialized RX3, Cond.code yX3_reserved cX3_reserved 3 (some .int), Cond.fieldLink RX3 25 "LiftRows2" "lifts" "LLiftRows2$Lifts;", Cond.fieldLink RX3 32 "LiftRows2" "calls" "LLiftRows2$Calls;", Cond.methodLink RX3 107 yX3_refuseNoLift, Cond.instanceMethod yX3_refuseNoLift, Cond.selects RX3 yX3_refuseNoLift yX3_refuseNoLift, Cond.code yX3_refuseNoLift cX3_refuseNoLift 2 none, Cond.classLink RX3 85 "java/util/NoSuchElementException", Cond.initialized "java/util/NoSuchElementException", Cond.methodLink RX3 141 yX3_refuseUnchanged, Cond.static yX3_refuseUnchanged, Cond.code yX3_refuseUnchanged cX3_refuseUnchanged 2 none, Cond.classLink RX3 145 "java/lang/IllegalStateException", Cond.initialized "java/lang/IllegalStateException", Cond.instanceMethod yX0_number, Cond.initialized RX0, Cond.selects RX0 yX0_number yX0_number, Cond.code yX0_number cX0_number 3 (some .int)]
def wsL_reserved_r2 : List Cond := [Cond.methodLink RX0 47 yX0_setOf, Cond.instanceMethod yX0_setOf, Cond.selects RX0 yX0_setOf yX0_setOf, Cond.code yX0_setOf cX0_setOf 5 (some .int), Cond.fieldLink RX0 39 "LiftRows2$Calls" "size" "I", Cond.methodLink RX0 43 yX0_is, Cond.instanceMethod yX0_is, Cond.selects RX0 yX0_is yX0_is, Cond.code yX0_is cX0_is 4 (some .boolean), Cond.fieldLink RX0 24 "LiftRows2$Calls" "state" "[I", Cond.fieldLink RX0 27 "LiftRows2$Calls" "by" "[I", Cond.methodLink RX0 51 yJ6_bitCount_0f7a4, Cond.static yJ6_bitCount_0f7a4, Cond.initialized RJ6, Cond.code yJ6_bitCount_0f7a4 cJ6_bitCount_0f7a4 1 (some .int), Cond.constant RJ6 265 (1431655765), Cond.constant RJ6 266 (858993459), Cond.constant RJ6 267 (252645135)]
def wsL_reserved : List Cond := .codeWith yL_reserved cL_reserved 5 (some .int) [(0, 10, 13, 28), (0, 10, 17, 42)] :: ((wsL_reserved_r1 ++ wsL_reserved_r2) ++ wsX30 ++ wsX20 ++ wsX00 ++ zAtN.filter goodWord ++ (vx_atS RX3 149 "java/lang/IllegalStateException" ["java/lang/RuntimeException", "java/lang/Exception"]).filter goodWord)
def wsL_served : List Cond := .codeWith yL_served cL_served 4 (some .int) [(0, 9, 12, 28)] :: ([.classLink RL 28 "java/util/NoSuchElementException", .methodLink RL 51 yX3_served, .instanceMethod yX3_served, .selects RX3 yX3_served yX3_served, .initialized RX3, .code yX3_served cX3_served 2 (some .int), .fieldLink RX3 32 "LiftRows2" "calls" "LLiftRows2$Calls;", .methodLink RX3 153 yX3_refuseNoCall, .instanceMethod yX3_refuseNoCall, .selects RX3 yX3_refuseNoCall yX3_refuseNoCall, .code yX3_refuseNoCall cX3_refuseNoCall 2 none, .classLink RX3 85 "java/util/NoSuchElementException", .initialized "java/util/NoSuchElementException"] ++ wsX30 ++ wsX00 ++ zAtN.filter goodWord)
def wsL_waits : List Cond := .codeWith yL_waits cL_waits 4 (some .int) [(0, 9, 12, 28)] :: ([.classLink RL 28 "java/util/NoSuchElementException", .methodLink RL 54 yX3_waits, .instanceMethod yX3_waits, .selects RX3 yX3_waits yX3_waits, .initialized RX3, .code yX3_waits cX3_waits 3 (some .int), .fieldLink RX3 32 "LiftRows2" "calls" "LLiftRows2$Calls;", .fieldLink RX3 43 "LiftRows2" "time" "I", .methodLink RX3 153 yX3_refuseNoCall, .instanceMethod yX3_refuseNoCall, .selects RX3 yX3_refuseNoCall yX3_refuseNoCall, .code yX3_refuseNoCall cX3_refuseNoCall 2 none, .classLink RX3 85 "java/util/NoSuchElementException", .initialized "java/util/NoSuchElementException"] ++ wsX30 ++ wsX00 ++ zAtN.filter goodWord)
def wsL_least_r1 : List Cond := [Cond.classLink RL 28 "java/util/NoSuchElementException", Cond.methodLink RL 57 yX3_least, Cond.instanceMethod yX3_least, Cond.selects RX3 yX3_least yX3_least, Cond.initialized RX3, Cond.code yX3_least cX3_least 4 (some .int), Cond.fieldLink RX3 32 "LiftRows2" "calls" "LLiftRows2$Calls;", Cond.fieldLink RX3 25 "LiftRows2" "lifts" "LLiftRows2$Lifts;", Cond.methodLink RX3 107 yX3_refuseNoLift, Cond.instanceMethod yX3_refuseNoLift, Cond.selects RX3 yX3_refuseNoLift yX3_refuseNoLift, Cond.code yX3_refuseNoLift cX3_refuseNoLift 2 none, Cond.classLink RX3 85 "java/util/NoSuchElementException", Cond.initialized "java/util/NoSuchElementException", Cond.instanceMethod yX0_setOf, Cond.initialized RX0, Cond.selects RX0 yX0_setOf yX0_setOf, Cond.code yX0_setOf cX0_setOf 5 (some .int), Cond.fieldLink RX0 39 "LiftRows2$Calls" "size" "I", Cond.methodLink RX0 43 yX0_is, Cond.instanceMethod yX0_is, Cond.selects RX0 yX0_is yX0_is, Cond.code yX0_is cX0_is 4 (some .boolean), Cond.fieldLink RX0 24 "LiftRows2$Calls" "state" "[I"]
def wsL_least_r2 : List Cond := [Cond.fieldLink RX0 27 "LiftRows2$Calls" "by" "[I", Cond.methodLink RX3 171 yJ6_bitCount_0f7a4, Cond.static yJ6_bitCount_0f7a4, Cond.initialized RJ6, Cond.code yJ6_bitCount_0f7a4 cJ6_bitCount_0f7a4 1 (some .int), Cond.constant RJ6 265 (1431655765), Cond.constant RJ6 266 (858993459), Cond.constant RJ6 267 (252645135), Cond.methodLink RX3 176 yX3_leastWay, Cond.static yX3_leastWay, Cond.code yX3_leastWay cX3_leastWay 12 (some .int), Cond.constant RX3 272 (2147483647), Cond.methodLink RX3 9 Lib.Math.min.name, Cond.static Lib.Math.min.name, Cond.initialized "java/lang/Math", Cond.code Lib.Math.min.name Lib.Math.min.code 2 (some .int), Cond.instanceMethod yX0_setFrom, Cond.selects RX0 yX0_setFrom yX0_setFrom, Cond.code yX0_setFrom cX0_setFrom 4 (some .int), Cond.fieldLink RX0 9 "LiftRows2$Calls" "from" "[I", Cond.instanceMethod yX0_setTo, Cond.selects RX0 yX0_setTo yX0_setTo, Cond.code yX0_setTo cX0_setTo 4 (some .int), Cond.fieldLink RX0 15 "LiftRows2$Calls" "to" "[I"]
def wsL_least_r3 : List Cond := [Cond.instanceMethod yX0_nearestStop, Cond.selects RX0 yX0_nearestStop yX0_nearestStop, Cond.code yX0_nearestStop cX0_nearestStop 12 (some .int)]
def wsL_least : List Cond := .codeWith yL_least cL_least 4 (some .int) [(0, 9, 12, 28)] :: ((wsL_least_r1 ++ (wsL_least_r2 ++ wsL_least_r3)) ++ wsX30 ++ wsX20 ++ wsX00 ++ zAtN.filter goodWord)
def wsL_joins : List Cond := .codeWith yL_joins cL_joins 5 (some .int) [(0, 17, 20, 28), (0, 17, 24, 42)] :: ([.classLink RL 28 "java/util/NoSuchElementException", .classLink RL 42 "java/lang/IllegalStateException", .methodLink RL 60 yX3_joins, .instanceMethod yX3_joins, .selects RX3 yX3_joins yX3_joins, .initialized RX3, .code yX3_joins cX3_joins 3 (some .boolean), .classLink RX3 145 "java/lang/IllegalStateException", .initialized "java/lang/IllegalStateException", .fieldLink RX3 32 "LiftRows2" "calls" "LLiftRows2$Calls;", .methodLink RX3 153 yX3_refuseNoCall, .instanceMethod yX3_refuseNoCall, .selects RX3 yX3_refuseNoCall yX3_refuseNoCall, .code yX3_refuseNoCall cX3_refuseNoCall 2 none, .classLink RX3 85 "java/util/NoSuchElementException", .initialized "java/util/NoSuchElementException"] ++ wsX30 ++ wsX00 ++ (vx_atS RX3 149 "java/lang/IllegalStateException" ["java/lang/RuntimeException", "java/lang/Exception"]).filter goodWord ++ zAtN.filter goodWord)
def wsL_known : List Cond := .codeWith yL_known cL_known 5 (some .int) [(0, 10, 13, 28), (0, 10, 17, 13)] :: ([.classLink RL 28 "java/util/NoSuchElementException", .classLink RL 13 "java/lang/IllegalArgumentException", .methodLink RL 64 yX3_known, .instanceMethod yX3_known, .selects RX3 yX3_known yX3_known, .initialized RX3, .code yX3_known cX3_known 3 (some .int), .fieldLink RX3 32 "LiftRows2" "calls" "LLiftRows2$Calls;", .methodLink RX3 153 yX3_refuseNoCall, .instanceMethod yX3_refuseNoCall, .selects RX3 yX3_refuseNoCall yX3_refuseNoCall, .code yX3_refuseNoCall cX3_refuseNoCall 2 none, .classLink RX3 85 "java/util/NoSuchElementException", .initialized "java/util/NoSuchElementException", .methodLink RX3 46 yX3_refuseOutside, .static yX3_refuseOutside, .code yX3_refuseOutside cX3_refuseOutside 3 none, .classLink RX3 63 "java/lang/IllegalArgumentException", .initialized "java/lang/IllegalArgumentException"] ++ wsX30 ++ wsX00 ++ zAtN.filter goodWord ++ (vx_atS RX3 67 "java/lang/IllegalArgumentException" ["java/lang/RuntimeException", "java/lang/Exception"]).filter goodWord)
def wsL_law0_r1 : List Cond := [Cond.classLink RL 8 RX3, Cond.instantiable RX3 5, Cond.initialized RX3, Cond.classLink RL 76 RX4, Cond.instantiable RX4 28, Cond.initialized RX4, Cond.arrayClass .long, Cond.methodLink RL 67 yL_cell, Cond.static yL_cell, Cond.initialized RL, Cond.code yL_cell cL_cell 2 (some .int), Cond.methodLink RL 73 yX3_init, Cond.instanceMethod yX3_init, Cond.code yX3_init cX3_init 2 none, Cond.methodLink RX3 3 objectInit, Cond.instanceMethod objectInit, Cond.code objectInit ⟨#[0xb1]⟩ 1 none, Cond.methodLink RX3 9 Lib.Math.min.name, Cond.static Lib.Math.min.name, Cond.initialized "java/lang/Math", Cond.code Lib.Math.min.name Lib.Math.min.code 2 (some .int), Cond.methodLink RX3 15 Lib.Math.max.name, Cond.static Lib.Math.max.name, Cond.code Lib.Math.max.name Lib.Math.max.code 2 (some .int)]
def wsL_law0_r2 : List Cond := [Cond.fieldLink RX3 18 "LiftRows2" "levels" "I", Cond.classLink RX3 22 RX2, Cond.instantiable RX2 9, Cond.initialized RX2, Cond.fieldLink RX3 25 "LiftRows2" "lifts" "LLiftRows2$Lifts;", Cond.classLink RX3 29 RX0, Cond.instantiable RX0 10, Cond.initialized RX0, Cond.fieldLink RX3 32 "LiftRows2" "calls" "LLiftRows2$Calls;", Cond.classLink RX3 36 RX1, Cond.instantiable RX1 5, Cond.initialized RX1, Cond.fieldLink RX3 39 "LiftRows2" "events" "LLiftRows2$Events;", Cond.fieldLink RX3 43 "LiftRows2" "time" "I", Cond.instanceMethod yX2_init, Cond.code yX2_init cX2_init 1 none, Cond.methodLink RX2 3 objectInit, Cond.arrayClass .int, Cond.fieldLink RX2 9 "LiftRows2$Lifts" "at" "[I", Cond.fieldLink RX2 15 "LiftRows2$Lifts" "capacity" "[I", Cond.fieldLink RX2 18 "LiftRows2$Lifts" "direction" "[I", Cond.fieldLink RX2 21 "LiftRows2$Lifts" "openFor" "[I", Cond.arrayClass .boolean, Cond.fieldLink RX2 24 "LiftRows2$Lifts" "isStuck" "[Z"]
def wsL_law0_r3 : List Cond := [Cond.fieldLink RX2 28 "LiftRows2$Lifts" "isReserved" "[Z", Cond.fieldLink RX2 31 "LiftRows2$Lifts" "isKept" "[Z", Cond.fieldLink RX2 34 "LiftRows2$Lifts" "size" "I", Cond.fieldLink RX2 38 "LiftRows2$Lifts" "gone" "I", Cond.instanceMethod yX0_init, Cond.code yX0_init cX0_init 1 none, Cond.methodLink RX0 3 objectInit, Cond.fieldLink RX0 9 "LiftRows2$Calls" "from" "[I", Cond.fieldLink RX0 15 "LiftRows2$Calls" "to" "[I", Cond.fieldLink RX0 18 "LiftRows2$Calls" "rank" "[I", Cond.fieldLink RX0 21 "LiftRows2$Calls" "load" "[I", Cond.fieldLink RX0 24 "LiftRows2$Calls" "state" "[I", Cond.fieldLink RX0 27 "LiftRows2$Calls" "by" "[I", Cond.fieldLink RX0 30 "LiftRows2$Calls" "cameAt" "[I", Cond.fieldLink RX0 33 "LiftRows2$Calls" "boardedAt" "[I", Cond.fieldLink RX0 36 "LiftRows2$Calls" "servedAt" "[I", Cond.fieldLink RX0 39 "LiftRows2$Calls" "size" "I", Cond.instanceMethod yX1_init, Cond.code yX1_init cX1_init 1 none, Cond.methodLink RX1 3 objectInit, Cond.fieldLink RX1 9 "LiftRows2$Events" "second" "[I", Cond.fieldLink RX1 15 "LiftRows2$Events" "lift" "[I", Cond.fieldLink RX1 18 "LiftRows2$Events" "call" "[I", Cond.fieldLink RX1 21 "LiftRows2$Events" "kind" "[I"]
def wsL_law0_r4 : List Cond := [Cond.fieldLink RX1 24 "LiftRows2$Events" "size" "I", Cond.methodLink RL 78 yX4_init, Cond.instanceMethod yX4_init, Cond.code yX4_init cX4_init 2 none, Cond.methodLink RX4 1 objectInit, Cond.fieldLink RX4 7 "LiftRows2Model" "at" "[I", Cond.fieldLink RX4 13 "LiftRows2Model" "capacity" "[I", Cond.fieldLink RX4 16 "LiftRows2Model" "direction" "[I", Cond.fieldLink RX4 19 "LiftRows2Model" "open" "[I", Cond.fieldLink RX4 22 "LiftRows2Model" "kept" "[Z", Cond.fieldLink RX4 26 "LiftRows2Model" "stuck" "[Z", Cond.fieldLink RX4 29 "LiftRows2Model" "reserved" "[Z", Cond.fieldLink RX4 32 "LiftRows2Model" "from" "[I", Cond.fieldLink RX4 35 "LiftRows2Model" "to" "[I", Cond.fieldLink RX4 38 "LiftRows2Model" "rank" "[I", Cond.fieldLink RX4 41 "LiftRows2Model" "load" "[I", Cond.fieldLink RX4 44 "LiftRows2Model" "state" "[I", Cond.fieldLink RX4 47 "LiftRows2Model" "liftOf" "[I", Cond.fieldLink RX4 50 "LiftRows2Model" "came" "[I", Cond.fieldLink RX4 53 "LiftRows2Model" "boarded" "[I", Cond.fieldLink RX4 56 "LiftRows2Model" "servedAt" "[I", Cond.fieldLink RX4 59 "LiftRows2Model" "eventTime" "[I", Cond.fieldLink RX4 62 "LiftRows2Model" "eventCall" "[I", Cond.fieldLink RX4 65 "LiftRows2Model" "eventKind" "[I"]
def wsL_law0_r5 : List Cond := [Cond.fieldLink RX4 68 "LiftRows2Model" "ways" "[I", Cond.fieldLink RX4 71 "LiftRows2Model" "about" "[I", Cond.fieldLink RX4 74 "LiftRows2Model" "levels" "I", Cond.methodLink RL 79 yL_lift, Cond.static yL_lift, Cond.codeWith yL_lift cL_lift 5 (some .int) [(0, 10, 13, 13), (0, 10, 17, 15)], Cond.classLink RL 13 "java/lang/IllegalArgumentException", Cond.classLink RL 15 "java/lang/UnsupportedOperationException", Cond.methodLink RL 7 yX3_lift, Cond.instanceMethod yX3_lift, Cond.selects RX3 yX3_lift yX3_lift, Cond.code yX3_lift cX3_lift 3 (some .int), Cond.classLink RX3 53 "java/lang/UnsupportedOperationException", Cond.initialized "java/lang/UnsupportedOperationException", Cond.methodLink RX3 46 yX3_refuseOutside, Cond.static yX3_refuseOutside, Cond.code yX3_refuseOutside cX3_refuseOutside 3 none, Cond.classLink RX3 63 "java/lang/IllegalArgumentException", Cond.initialized "java/lang/IllegalArgumentException", Cond.instanceMethod yX2_add, Cond.selects RX2 yX2_add yX2_add, Cond.code yX2_add cX2_add 4 (some .int), Cond.methodLink RL 82 yX4_lift, Cond.instanceMethod yX4_lift]
def wsL_law0_r6 : List Cond := [Cond.selects RX4 yX4_lift yX4_lift, Cond.code yX4_lift cX4_lift 3 (some .int), Cond.fieldLink RX4 85 "LiftRows2Model" "lifts" "I", Cond.fieldLink RX4 78 "LiftRows2Model" "code" "I", Cond.methodLink RX4 91 yX4_isLevel, Cond.instanceMethod yX4_isLevel, Cond.selects RX4 yX4_isLevel yX4_isLevel, Cond.code yX4_isLevel cX4_isLevel 2 (some .boolean), Cond.methodLink RX4 81 yX4_in, Cond.static yX4_in, Cond.code yX4_in cX4_in 3 (some .boolean), Cond.methodLink RL 83 yX4_thrown, Cond.instanceMethod yX4_thrown, Cond.selects RX4 yX4_thrown yX4_thrown, Cond.code yX4_thrown cX4_thrown 1 (some .int), Cond.methodLink RL 87 yL_call, Cond.static yL_call, Cond.codeWith yL_call cL_call 7 (some .int) [(0, 14, 17, 13), (0, 14, 21, 15)], Cond.methodLink RL 17 yX3_call, Cond.instanceMethod yX3_call, Cond.selects RX3 yX3_call yX3_call, Cond.code yX3_call cX3_call 6 (some .int), Cond.instanceMethod yX0_add, Cond.selects RX0 yX0_add yX0_add]
def wsL_law0_r7 : List Cond := [Cond.code yX0_add cX0_add 7 (some .int), Cond.methodLink RX3 78 yX3_nearestLift, Cond.instanceMethod yX3_nearestLift, Cond.selects RX3 yX3_nearestLift yX3_nearestLift, Cond.code yX3_nearestLift cX3_nearestLift 7 (some .int), Cond.methodLink RX3 212 Lib.Math.abs.name, Cond.static Lib.Math.abs.name, Cond.code Lib.Math.abs.name Lib.Math.abs.code 1 (some .int), Cond.instanceMethod yX2_mayGet, Cond.selects RX2 yX2_mayGet yX2_mayGet, Cond.code yX2_mayGet cX2_mayGet 3 (some .boolean), Cond.methodLink RL 90 yX4_call, Cond.instanceMethod yX4_call, Cond.selects RX4 yX4_call yX4_call, Cond.code yX4_call cX4_call 6 (some .int), Cond.fieldLink RX4 88 "LiftRows2Model" "calls" "I", Cond.fieldLink RX4 99 "LiftRows2Model" "time" "I", Cond.methodLink RX4 102 yX4_nearest, Cond.instanceMethod yX4_nearest, Cond.selects RX4 yX4_nearest yX4_nearest, Cond.code yX4_nearest cX4_nearest 4 (some .int), Cond.methodLink RX4 95 yX4_far, Cond.static yX4_far, Cond.code yX4_far cX4_far 2 (some .int)]
def wsL_law0_r8 : List Cond := [Cond.methodLink RL 91 yL_step, Cond.static yL_step, Cond.codeWith yL_step cL_step 4 (some .int) [(0, 9, 12, 13)], Cond.methodLink RL 21 yX3_step, Cond.instanceMethod yX3_step, Cond.selects RX3 yX3_step yX3_step, Cond.code yX3_step cX3_step 4 (some .int), Cond.methodLink RX3 82 yX3_passSecond, Cond.instanceMethod yX3_passSecond, Cond.selects RX3 yX3_passSecond yX3_passSecond, Cond.code yX3_passSecond cX3_passSecond 2 none, Cond.methodLink RX3 223 yX3_doOneThing, Cond.instanceMethod yX3_doOneThing, Cond.selects RX3 yX3_doOneThing yX3_doOneThing, Cond.code yX3_doOneThing cX3_doOneThing 4 none, Cond.instanceMethod yX2_passOpenSecond, Cond.selects RX2 yX2_passOpenSecond yX2_passOpenSecond, Cond.code yX2_passOpenSecond cX2_passOpenSecond 3 none, Cond.methodLink RX2 41 Lib.Math.max.name, Cond.methodLink RX3 229 yX3_opensHere, Cond.instanceMethod yX3_opensHere, Cond.selects RX3 yX3_opensHere yX3_opensHere, Cond.code yX3_opensHere cX3_opensHere 5 (some .boolean), Cond.instanceMethod yX0_loadStaying]
def wsL_law0_r9 : List Cond := [Cond.selects RX0 yX0_loadStaying yX0_loadStaying, Cond.code yX0_loadStaying cX0_loadStaying 5 (some .int), Cond.methodLink RX0 43 yX0_is, Cond.instanceMethod yX0_is, Cond.selects RX0 yX0_is yX0_is, Cond.code yX0_is cX0_is 4 (some .boolean), Cond.instanceMethod yX0_getsOut, Cond.selects RX0 yX0_getsOut yX0_getsOut, Cond.code yX0_getsOut cX0_getsOut 4 (some .boolean), Cond.instanceMethod yX0_fitsIn, Cond.selects RX0 yX0_fitsIn yX0_fitsIn, Cond.code yX0_fitsIn cX0_fitsIn 5 (some .boolean), Cond.methodLink RX3 233 yX3_letOut, Cond.instanceMethod yX3_letOut, Cond.selects RX3 yX3_letOut yX3_letOut, Cond.code yX3_letOut cX3_letOut 3 none, Cond.instanceMethod yX1_add, Cond.selects RX1 yX1_add yX1_add, Cond.code yX1_add cX1_add 5 none, Cond.methodLink RX3 236 yX3_letIn, Cond.instanceMethod yX3_letIn, Cond.selects RX3 yX3_letIn yX3_letIn, Cond.code yX3_letIn cX3_letIn 5 none, Cond.instanceMethod yX0_loadAboard]
def wsL_law0_r10 : List Cond := [Cond.selects RX0 yX0_loadAboard yX0_loadAboard, Cond.code yX0_loadAboard cX0_loadAboard 2 (some .int), Cond.methodLink RX0 57 yX0_loadStaying, Cond.instanceMethod yX0_hasWork, Cond.selects RX0 yX0_hasWork yX0_hasWork, Cond.code yX0_hasWork cX0_hasWork 4 (some .boolean), Cond.methodLink RX0 47 yX0_setOf, Cond.instanceMethod yX0_setOf, Cond.selects RX0 yX0_setOf yX0_setOf, Cond.code yX0_setOf cX0_setOf 5 (some .int), Cond.methodLink RX0 64 yX0_nearestStop, Cond.instanceMethod yX0_nearestStop, Cond.selects RX0 yX0_nearestStop yX0_nearestStop, Cond.code yX0_nearestStop cX0_nearestStop 12 (some .int), Cond.instanceMethod yX2_go, Cond.selects RX2 yX2_go yX2_go, Cond.code yX2_go cX2_go 5 none, Cond.methodLink RX2 47 Lib.Math.abs.name, Cond.methodLink RL 94 yX4_step, Cond.instanceMethod yX4_step, Cond.selects RX4 yX4_step yX4_step, Cond.code yX4_step cX4_step 5 (some .int), Cond.fieldLink RX4 109 "LiftRows2Model" "events" "I", Cond.methodLink RX4 133 yX4_second]
def wsL_law0_r11 : List Cond := [Cond.instanceMethod yX4_second, Cond.selects RX4 yX4_second yX4_second, Cond.code yX4_second cX4_second 4 none, Cond.fieldLink RX4 130 "LiftRows2Model" "gone" "I", Cond.methodLink RX4 119 yX4_stops, Cond.instanceMethod yX4_stops, Cond.selects RX4 yX4_stops yX4_stops, Cond.code yX4_stops cX4_stops 4 (some .boolean), Cond.methodLink RX4 106 yX4_is, Cond.instanceMethod yX4_is, Cond.selects RX4 yX4_is yX4_is, Cond.code yX4_is cX4_is 4 (some .boolean), Cond.methodLink RX4 122 yX4_exchange, Cond.instanceMethod yX4_exchange, Cond.selects RX4 yX4_exchange yX4_exchange, Cond.code yX4_exchange cX4_exchange 4 none, Cond.methodLink RX4 112 yX4_tell, Cond.instanceMethod yX4_tell, Cond.selects RX4 yX4_tell yX4_tell, Cond.code yX4_tell cX4_tell 3 none, Cond.methodLink RX4 116 yX4_aboard, Cond.instanceMethod yX4_aboard, Cond.selects RX4 yX4_aboard yX4_aboard, Cond.code yX4_aboard cX4_aboard 4 (some .int)]
def wsL_law0_r12 : List Cond := [Cond.methodLink RX4 126 yX4_hasWork, Cond.instanceMethod yX4_hasWork, Cond.selects RX4 yX4_hasWork yX4_hasWork, Cond.code yX4_hasWork cX4_hasWork 5 (some .boolean), Cond.methodLink RL 95 yL_event, Cond.static yL_event, Cond.codeWith yL_event cL_event 5 (some .int) [(0, 10, 13, 28), (0, 10, 17, 13)], Cond.classLink RL 28 "java/util/NoSuchElementException", Cond.methodLink RL 25 yX3_event, Cond.instanceMethod yX3_event, Cond.selects RX3 yX3_event yX3_event, Cond.code yX3_event cX3_event 3 (some .int), Cond.classLink RX3 85 "java/util/NoSuchElementException", Cond.initialized "java/util/NoSuchElementException", Cond.methodLink RL 97 yX4_event, Cond.instanceMethod yX4_event, Cond.selects RX4 yX4_event yX4_event, Cond.code yX4_event cX4_event 3 (some .int), Cond.methodLink RL 98 yL_level, Cond.static yL_level, Cond.codeWith yL_level cL_level 4 (some .int) [(0, 9, 12, 28), (0, 9, 15, 33)], Cond.methodLink RL 30 yX3_level, Cond.instanceMethod yX3_level, Cond.selects RX3 yX3_level yX3_level]
def wsL_law0_r13 : List Cond := [Cond.code yX3_level cX3_level 2 (some .int), Cond.classLink RX3 102 RJx00060, Cond.instantiable RJx00060 6, Cond.initialized RJx00060, Cond.methodLink RX3 107 yX3_refuseNoLift, Cond.instanceMethod yX3_refuseNoLift, Cond.selects RX3 yX3_refuseNoLift yX3_refuseNoLift, Cond.code yX3_refuseNoLift cX3_refuseNoLift 2 none, Cond.methodLink RL 100 yX4_level, Cond.instanceMethod yX4_level, Cond.selects RX4 yX4_level yX4_level, Cond.code yX4_level cX4_level 2 (some .int), Cond.methodLink RL 101 yL_told, Cond.static yL_told, Cond.codeWith yL_told cL_told 5 (some .int) [(0, 10, 13, 28), (0, 10, 17, 13)], Cond.methodLink RL 35 yX3_told, Cond.instanceMethod yX3_told, Cond.selects RX3 yX3_told yX3_told, Cond.code yX3_told cX3_told 3 (some .int), Cond.instanceMethod yX0_number, Cond.selects RX0 yX0_number yX0_number, Cond.code yX0_number cX0_number 3 (some .int), Cond.methodLink RX0 51 yJ6_bitCount_0f7a4, Cond.static yJ6_bitCount_0f7a4]
def wsL_law0_r14 : List Cond := [Cond.initialized RJ6, Cond.code yJ6_bitCount_0f7a4 cJ6_bitCount_0f7a4 1 (some .int), Cond.constant RJ6 265 (1431655765), Cond.constant RJ6 266 (858993459), Cond.constant RJ6 267 (252645135), Cond.methodLink RX3 131 yX3_asNumber, Cond.static yX3_asNumber, Cond.code yX3_asNumber cX3_asNumber 1 (some .int), Cond.methodLink RL 103 yX4_told, Cond.instanceMethod yX4_told, Cond.selects RX4 yX4_told yX4_told, Cond.code yX4_told cX4_told 3 (some .int), Cond.methodLink RX4 136 yX4_isLift, Cond.instanceMethod yX4_isLift, Cond.selects RX4 yX4_isLift yX4_isLift, Cond.code yX4_isLift cX4_isLift 2 (some .boolean), Cond.methodLink RX4 139 yX4_many, Cond.instanceMethod yX4_many, Cond.selects RX4 yX4_many yX4_many, Cond.code yX4_many cX4_many 5 (some .int), Cond.methodLink RL 104 yL_door, Cond.static yL_door, Cond.codeWith yL_door cL_door 4 (some .int) [(0, 6, 9, 28), (0, 6, 12, 42)], Cond.classLink RL 42 "java/lang/IllegalStateException"]
def wsL_law0_r15 : List Cond := [Cond.methodLink RL 38 yX3_door, Cond.instanceMethod yX3_door, Cond.selects RX3 yX3_door yX3_door, Cond.code yX3_door cX3_door 3 none, Cond.classLink RX3 145 "java/lang/IllegalStateException", Cond.initialized "java/lang/IllegalStateException", Cond.methodLink RX3 141 yX3_refuseUnchanged, Cond.static yX3_refuseUnchanged, Cond.code yX3_refuseUnchanged cX3_refuseUnchanged 2 none, Cond.methodLink RL 107 yX4_door, Cond.instanceMethod yX4_door, Cond.selects RX4 yX4_door yX4_door, Cond.code yX4_door cX4_door 3 none, Cond.methodLink RL 108 yL_stuck, Cond.static yL_stuck, Cond.codeWith yL_stuck cL_stuck 5 (some .int) [(0, 10, 13, 28), (0, 10, 17, 42)], Cond.methodLink RL 44 yX3_stuck, Cond.instanceMethod yX3_stuck, Cond.selects RX3 yX3_stuck yX3_stuck, Cond.code yX3_stuck cX3_stuck 3 (some .int), Cond.methodLink RX3 150 yX3_giveAnew, Cond.instanceMethod yX3_giveAnew, Cond.selects RX3 yX3_giveAnew yX3_giveAnew, Cond.code yX3_giveAnew cX3_giveAnew 4 (some .int)]
def wsL_law0_r16 : List Cond := [Cond.methodLink RL 111 yX4_stuck, Cond.instanceMethod yX4_stuck, Cond.selects RX4 yX4_stuck yX4_stuck, Cond.code yX4_stuck cX4_stuck 4 (some .int), Cond.methodLink RL 112 yL_reserved, Cond.static yL_reserved, Cond.codeWith yL_reserved cL_reserved 5 (some .int) [(0, 10, 13, 28), (0, 10, 17, 42)], Cond.methodLink RL 48 yX3_reserved, Cond.instanceMethod yX3_reserved, Cond.selects RX3 yX3_reserved yX3_reserved, Cond.code yX3_reserved cX3_reserved 3 (some .int), Cond.methodLink RL 114 yX4_reserved, Cond.instanceMethod yX4_reserved, Cond.selects RX4 yX4_reserved yX4_reserved, Cond.code yX4_reserved cX4_reserved 3 (some .int), Cond.methodLink RL 115 yX3_freed, Cond.instanceMethod yX3_freed, Cond.selects RX3 yX3_freed yX3_freed, Cond.code yX3_freed cX3_freed 1 (some .int), Cond.methodLink RL 118 yX4_freed, Cond.instanceMethod yX4_freed, Cond.selects RX4 yX4_freed yX4_freed, Cond.code yX4_freed cX4_freed 3 (some .int), Cond.methodLink RL 119 yL_served]
def wsL_law0_r17 : List Cond := [Cond.static yL_served, Cond.codeWith yL_served cL_served 4 (some .int) [(0, 9, 12, 28)], Cond.methodLink RL 51 yX3_served, Cond.instanceMethod yX3_served, Cond.selects RX3 yX3_served yX3_served, Cond.code yX3_served cX3_served 2 (some .int), Cond.methodLink RX3 153 yX3_refuseNoCall, Cond.instanceMethod yX3_refuseNoCall, Cond.selects RX3 yX3_refuseNoCall yX3_refuseNoCall, Cond.code yX3_refuseNoCall cX3_refuseNoCall 2 none, Cond.methodLink RL 121 yX4_served, Cond.instanceMethod yX4_served, Cond.selects RX4 yX4_served yX4_served, Cond.code yX4_served cX4_served 2 (some .int), Cond.methodLink RX4 142 yX4_isCall, Cond.instanceMethod yX4_isCall, Cond.selects RX4 yX4_isCall yX4_isCall, Cond.code yX4_isCall cX4_isCall 2 (some .boolean), Cond.methodLink RL 122 yL_waits, Cond.static yL_waits, Cond.codeWith yL_waits cL_waits 4 (some .int) [(0, 9, 12, 28)], Cond.methodLink RL 54 yX3_waits, Cond.instanceMethod yX3_waits, Cond.selects RX3 yX3_waits yX3_waits]
def wsL_law0_r18 : List Cond := [Cond.code yX3_waits cX3_waits 3 (some .int), Cond.methodLink RL 124 yX4_waits, Cond.instanceMethod yX4_waits, Cond.selects RX4 yX4_waits yX4_waits, Cond.code yX4_waits cX4_waits 2 (some .int), Cond.methodLink RL 125 yL_least, Cond.static yL_least, Cond.codeWith yL_least cL_least 4 (some .int) [(0, 9, 12, 28)], Cond.methodLink RL 57 yX3_least, Cond.instanceMethod yX3_least, Cond.selects RX3 yX3_least yX3_least, Cond.code yX3_least cX3_least 4 (some .int), Cond.methodLink RX3 171 yJ6_bitCount_0f7a4, Cond.methodLink RX3 176 yX3_leastWay, Cond.static yX3_leastWay, Cond.code yX3_leastWay cX3_leastWay 12 (some .int), Cond.constant RX3 272 (2147483647), Cond.instanceMethod yX0_setFrom, Cond.selects RX0 yX0_setFrom yX0_setFrom, Cond.code yX0_setFrom cX0_setFrom 4 (some .int), Cond.instanceMethod yX0_setTo, Cond.selects RX0 yX0_setTo yX0_setTo, Cond.code yX0_setTo cX0_setTo 4 (some .int), Cond.methodLink RL 127 yX4_least]
def wsL_law0_r19 : List Cond := [Cond.instanceMethod yX4_least, Cond.selects RX4 yX4_least yX4_least, Cond.code yX4_least cX4_least 8 (some .int), Cond.constant RX4 145 (1000000), Cond.methodLink RX4 146 yX4_goOn, Cond.instanceMethod yX4_goOn, Cond.selects RX4 yX4_goOn yX4_goOn, Cond.code yX4_goOn cX4_goOn 8 none, Cond.methodLink RX4 150 yX4_lower, Cond.instanceMethod yX4_lower, Cond.selects RX4 yX4_lower yX4_lower, Cond.code yX4_lower cX4_lower 4 none, Cond.methodLink RL 128 yL_joins, Cond.static yL_joins, Cond.codeWith yL_joins cL_joins 5 (some .int) [(0, 17, 20, 28), (0, 17, 24, 42)], Cond.methodLink RL 60 yX3_joins, Cond.instanceMethod yX3_joins, Cond.selects RX3 yX3_joins yX3_joins, Cond.code yX3_joins cX3_joins 3 (some .boolean), Cond.methodLink RL 130 yX4_joins, Cond.instanceMethod yX4_joins, Cond.selects RX4 yX4_joins yX4_joins, Cond.code yX4_joins cX4_joins 3 (some .boolean), Cond.methodLink RL 131 yL_known]
def wsL_law0_r20 : List Cond := [Cond.static yL_known, Cond.codeWith yL_known cL_known 5 (some .int) [(0, 10, 13, 28), (0, 10, 17, 13)], Cond.methodLink RL 64 yX3_known, Cond.instanceMethod yX3_known, Cond.selects RX3 yX3_known yX3_known, Cond.code yX3_known cX3_known 3 (some .int), Cond.methodLink RL 133 yX4_known, Cond.instanceMethod yX4_known, Cond.selects RX4 yX4_known yX4_known, Cond.code yX4_known cX4_known 3 (some .int), Cond.methodLink RL 134 yX3_count, Cond.instanceMethod yX3_count, Cond.selects RX3 yX3_count yX3_count, Cond.code yX3_count cX3_count 2 (some .int), Cond.instanceMethod yX0_numberWaiting, Cond.selects RX0 yX0_numberWaiting yX0_numberWaiting, Cond.code yX0_numberWaiting cX0_numberWaiting 3 (some .int), Cond.instanceMethod yX0_levelsWithWaiting, Cond.selects RX0 yX0_levelsWithWaiting yX0_levelsWithWaiting, Cond.code yX0_levelsWithWaiting cX0_levelsWithWaiting 3 (some .int), Cond.methodLink RL 137 yX4_count, Cond.instanceMethod yX4_count, Cond.selects RX4 yX4_count yX4_count, Cond.code yX4_count cX4_count 5 (some .int)]
def wsL_law0 : List Cond := (wsL_law0_r1 ++ (wsL_law0_r2 ++ (wsL_law0_r3 ++ (wsL_law0_r4 ++ (wsL_law0_r5 ++ (wsL_law0_r6 ++ (wsL_law0_r7 ++ (wsL_law0_r8 ++ (wsL_law0_r9 ++ (wsL_law0_r10 ++ (wsL_law0_r11 ++ (wsL_law0_r12 ++ (wsL_law0_r13 ++ (wsL_law0_r14 ++ (wsL_law0_r15 ++ (wsL_law0_r16 ++ (wsL_law0_r17 ++ (wsL_law0_r18 ++ (wsL_law0_r19 ++ wsL_law0_r20))))))))))))))))))) ++ wsX30 ++ wsX40 ++ wsX20 ++ wsX00 ++ wsX10 ++ wsJx000600 ++ ([] : List Cond)
def wsL_law : List Cond := wsL_law0 ++ (vx_atS RX3 57 "java/lang/UnsupportedOperationException" ["java/lang/RuntimeException", "java/lang/Exception"]).filter goodWord ++ (vx_atS RX3 67 "java/lang/IllegalArgumentException" ["java/lang/RuntimeException", "java/lang/Exception"]).filter goodWord ++ zAtN.filter goodWord ++ (vx_atS RX3 149 "java/lang/IllegalStateException" ["java/lang/RuntimeException", "java/lang/Exception"]).filter goodWord
abbrev vwCl : List vw_C := [(RJx00060, TJx00060, 6), (RX0, TX0, 10), (RX1, TX1, 5), (RX2, TX2, 9), (RX3, TX3, 5), (RX4, TX4, 28)]
end
section
theorem dX0_init_0 : decode cX0_init 0 = .ok (.aload_n 0, 1) := by decide +kernel
theorem dX0_init_1 : decode cX0_init 1 = .ok (.invokespecial 3, 3) := by decide +kernel
theorem dX0_init_4 : decode cX0_init 4 = .ok (.aload_n 0, 1) := by decide +kernel
theorem dX0_init_5 : decode cX0_init 5 = .ok (.bipush 24, 2) := by decide +kernel
theorem dX0_init_7 : decode cX0_init 7 = .ok (.newarray .int, 2) := by decide +kernel
theorem dX0_init_9 : decode cX0_init 9 = .ok (.putfield 9, 3) := by decide +kernel
theorem dX0_init_12 : decode cX0_init 12 = .ok (.aload_n 0, 1) := by decide +kernel
theorem dX0_init_13 : decode cX0_init 13 = .ok (.bipush 24, 2) := by decide +kernel
theorem dX0_init_15 : decode cX0_init 15 = .ok (.newarray .int, 2) := by decide +kernel
theorem dX0_init_17 : decode cX0_init 17 = .ok (.putfield 15, 3) := by decide +kernel
theorem dX0_init_20 : decode cX0_init 20 = .ok (.aload_n 0, 1) := by decide +kernel
theorem dX0_init_21 : decode cX0_init 21 = .ok (.bipush 24, 2) := by decide +kernel
theorem dX0_init_23 : decode cX0_init 23 = .ok (.newarray .int, 2) := by decide +kernel
theorem dX0_init_25 : decode cX0_init 25 = .ok (.putfield 18, 3) := by decide +kernel
theorem dX0_init_28 : decode cX0_init 28 = .ok (.aload_n 0, 1) := by decide +kernel
theorem dX0_init_29 : decode cX0_init 29 = .ok (.bipush 24, 2) := by decide +kernel
theorem dX0_init_31 : decode cX0_init 31 = .ok (.newarray .int, 2) := by decide +kernel
theorem dX0_init_33 : decode cX0_init 33 = .ok (.putfield 21, 3) := by decide +kernel
theorem dX0_init_36 : decode cX0_init 36 = .ok (.aload_n 0, 1) := by decide +kernel
theorem dX0_init_37 : decode cX0_init 37 = .ok (.bipush 24, 2) := by decide +kernel
theorem dX0_init_39 : decode cX0_init 39 = .ok (.newarray .int, 2) := by decide +kernel
theorem dX0_init_41 : decode cX0_init 41 = .ok (.putfield 24, 3) := by decide +kernel
theorem dX0_init_44 : decode cX0_init 44 = .ok (.aload_n 0, 1) := by decide +kernel
theorem dX0_init_45 : decode cX0_init 45 = .ok (.bipush 24, 2) := by decide +kernel
theorem dX0_init_47 : decode cX0_init 47 = .ok (.newarray .int, 2) := by decide +kernel
theorem dX0_init_49 : decode cX0_init 49 = .ok (.putfield 27, 3) := by decide +kernel
theorem dX0_init_52 : decode cX0_init 52 = .ok (.aload_n 0, 1) := by decide +kernel
theorem dX0_init_53 : decode cX0_init 53 = .ok (.bipush 24, 2) := by decide +kernel
theorem dX0_init_55 : decode cX0_init 55 = .ok (.newarray .int, 2) := by decide +kernel
theorem dX0_init_57 : decode cX0_init 57 = .ok (.putfield 30, 3) := by decide +kernel
theorem dX0_init_60 : decode cX0_init 60 = .ok (.aload_n 0, 1) := by decide +kernel
theorem dX0_init_61 : decode cX0_init 61 = .ok (.bipush 24, 2) := by decide +kernel
theorem dX0_init_63 : decode cX0_init 63 = .ok (.newarray .int, 2) := by decide +kernel
theorem dX0_init_65 : decode cX0_init 65 = .ok (.putfield 33, 3) := by decide +kernel
theorem dX0_init_68 : decode cX0_init 68 = .ok (.aload_n 0, 1) := by decide +kernel
theorem dX0_init_69 : decode cX0_init 69 = .ok (.bipush 24, 2) := by decide +kernel
theorem dX0_init_71 : decode cX0_init 71 = .ok (.newarray .int, 2) := by decide +kernel
theorem dX0_init_73 : decode cX0_init 73 = .ok (.putfield 36, 3) := by decide +kernel
theorem dX0_init_76 : decode cX0_init 76 = .ok (.aload_n 0, 1) := by decide +kernel
theorem dX0_init_77 : decode cX0_init 77 = .ok (.iconst 0, 1) := by decide +kernel
theorem dX0_init_78 : decode cX0_init 78 = .ok (.putfield 39, 3) := by decide +kernel
theorem dX0_init_81 : decode cX0_init 81 = .ok (.return_, 1) := by decide +kernel
theorem dX0_add_0 : decode cX0_add 0 = .ok (.aload_n 0, 1) := by decide +kernel
theorem dX0_add_1 : decode cX0_add 1 = .ok (.getfield 39, 3) := by decide +kernel
theorem dX0_add_4 : decode cX0_add 4 = .ok (.istore 6, 2) := by decide +kernel
theorem dX0_add_6 : decode cX0_add 6 = .ok (.iload 6, 2) := by decide +kernel
theorem dX0_add_8 : decode cX0_add 8 = .ok (.bipush 24, 2) := by decide +kernel
theorem dX0_add_10 : decode cX0_add 10 = .ok (.if_icmp .ge 87, 3) := by decide +kernel
theorem dX0_add_13 : decode cX0_add 13 = .ok (.aload_n 0, 1) := by decide +kernel
theorem dX0_add_14 : decode cX0_add 14 = .ok (.getfield 9, 3) := by decide +kernel
theorem dX0_add_17 : decode cX0_add 17 = .ok (.iload 6, 2) := by decide +kernel
theorem dX0_add_19 : decode cX0_add 19 = .ok (.iload_n 1, 1) := by decide +kernel
theorem dX0_add_20 : decode cX0_add 20 = .ok (.iastore, 1) := by decide +kernel
theorem dX0_add_21 : decode cX0_add 21 = .ok (.aload_n 0, 1) := by decide +kernel
theorem dX0_add_22 : decode cX0_add 22 = .ok (.getfield 15, 3) := by decide +kernel
theorem dX0_add_25 : decode cX0_add 25 = .ok (.iload 6, 2) := by decide +kernel
theorem dX0_add_27 : decode cX0_add 27 = .ok (.iload_n 2, 1) := by decide +kernel
theorem dX0_add_28 : decode cX0_add 28 = .ok (.iastore, 1) := by decide +kernel
theorem dX0_add_29 : decode cX0_add 29 = .ok (.aload_n 0, 1) := by decide +kernel
theorem dX0_add_30 : decode cX0_add 30 = .ok (.getfield 18, 3) := by decide +kernel
theorem dX0_add_33 : decode cX0_add 33 = .ok (.iload 6, 2) := by decide +kernel
theorem dX0_add_35 : decode cX0_add 35 = .ok (.iload_n 3, 1) := by decide +kernel
theorem dX0_add_36 : decode cX0_add 36 = .ok (.iastore, 1) := by decide +kernel
theorem dX0_add_37 : decode cX0_add 37 = .ok (.aload_n 0, 1) := by decide +kernel
theorem dX0_add_38 : decode cX0_add 38 = .ok (.getfield 21, 3) := by decide +kernel
theorem dX0_add_41 : decode cX0_add 41 = .ok (.iload 6, 2) := by decide +kernel
theorem dX0_add_43 : decode cX0_add 43 = .ok (.iload 4, 2) := by decide +kernel
theorem dX0_add_45 : decode cX0_add 45 = .ok (.iastore, 1) := by decide +kernel
theorem dX0_add_46 : decode cX0_add 46 = .ok (.aload_n 0, 1) := by decide +kernel
theorem dX0_add_47 : decode cX0_add 47 = .ok (.getfield 24, 3) := by decide +kernel
theorem dX0_add_50 : decode cX0_add 50 = .ok (.iload 6, 2) := by decide +kernel
theorem dX0_add_52 : decode cX0_add 52 = .ok (.iconst 0, 1) := by decide +kernel
theorem dX0_add_53 : decode cX0_add 53 = .ok (.iastore, 1) := by decide +kernel
theorem dX0_add_54 : decode cX0_add 54 = .ok (.aload_n 0, 1) := by decide +kernel
theorem dX0_add_55 : decode cX0_add 55 = .ok (.getfield 27, 3) := by decide +kernel
theorem dX0_add_58 : decode cX0_add 58 = .ok (.iload 6, 2) := by decide +kernel
theorem dX0_add_60 : decode cX0_add 60 = .ok (.iconst (-1), 1) := by decide +kernel
theorem dX0_add_61 : decode cX0_add 61 = .ok (.iastore, 1) := by decide +kernel
theorem dX0_add_62 : decode cX0_add 62 = .ok (.aload_n 0, 1) := by decide +kernel
theorem dX0_add_63 : decode cX0_add 63 = .ok (.getfield 30, 3) := by decide +kernel
theorem dX0_add_66 : decode cX0_add 66 = .ok (.iload 6, 2) := by decide +kernel
theorem dX0_add_68 : decode cX0_add 68 = .ok (.iload 5, 2) := by decide +kernel
theorem dX0_add_70 : decode cX0_add 70 = .ok (.iastore, 1) := by decide +kernel
theorem dX0_add_71 : decode cX0_add 71 = .ok (.aload_n 0, 1) := by decide +kernel
theorem dX0_add_72 : decode cX0_add 72 = .ok (.getfield 33, 3) := by decide +kernel
theorem dX0_add_75 : decode cX0_add 75 = .ok (.iload 6, 2) := by decide +kernel
theorem dX0_add_77 : decode cX0_add 77 = .ok (.iconst (-1), 1) := by decide +kernel
theorem dX0_add_78 : decode cX0_add 78 = .ok (.iastore, 1) := by decide +kernel
theorem dX0_add_79 : decode cX0_add 79 = .ok (.aload_n 0, 1) := by decide +kernel
theorem dX0_add_80 : decode cX0_add 80 = .ok (.getfield 36, 3) := by decide +kernel
theorem dX0_add_83 : decode cX0_add 83 = .ok (.iload 6, 2) := by decide +kernel
theorem dX0_add_85 : decode cX0_add 85 = .ok (.iconst (-1), 1) := by decide +kernel
theorem dX0_add_86 : decode cX0_add 86 = .ok (.iastore, 1) := by decide +kernel
theorem dX0_add_87 : decode cX0_add 87 = .ok (.aload_n 0, 1) := by decide +kernel
theorem dX0_add_88 : decode cX0_add 88 = .ok (.dup, 1) := by decide +kernel
theorem dX0_add_89 : decode cX0_add 89 = .ok (.getfield 39, 3) := by decide +kernel
theorem dX0_add_92 : decode cX0_add 92 = .ok (.iconst 1, 1) := by decide +kernel
theorem dX0_add_93 : decode cX0_add 93 = .ok (.iadd, 1) := by decide +kernel
theorem dX0_add_94 : decode cX0_add 94 = .ok (.putfield 39, 3) := by decide +kernel
theorem dX0_add_97 : decode cX0_add 97 = .ok (.iload 6, 2) := by decide +kernel
theorem dX0_add_99 : decode cX0_add 99 = .ok (.ireturn, 1) := by decide +kernel
theorem dX0_is_0 : decode cX0_is 0 = .ok (.aload_n 0, 1) := by decide +kernel
theorem dX0_is_1 : decode cX0_is 1 = .ok (.getfield 24, 3) := by decide +kernel
theorem dX0_is_4 : decode cX0_is 4 = .ok (.iload_n 1, 1) := by decide +kernel
theorem dX0_is_5 : decode cX0_is 5 = .ok (.iaload, 1) := by decide +kernel
theorem dX0_is_6 : decode cX0_is 6 = .ok (.iload_n 2, 1) := by decide +kernel
theorem dX0_is_7 : decode cX0_is 7 = .ok (.if_icmp .ne 17, 3) := by decide +kernel
theorem dX0_is_10 : decode cX0_is 10 = .ok (.aload_n 0, 1) := by decide +kernel
theorem dX0_is_11 : decode cX0_is 11 = .ok (.getfield 27, 3) := by decide +kernel
theorem dX0_is_14 : decode cX0_is 14 = .ok (.iload_n 1, 1) := by decide +kernel
theorem dX0_is_15 : decode cX0_is 15 = .ok (.iaload, 1) := by decide +kernel
theorem dX0_is_16 : decode cX0_is 16 = .ok (.iload_n 3, 1) := by decide +kernel
theorem dX0_is_17 : decode cX0_is 17 = .ok (.if_icmp .ne 7, 3) := by decide +kernel
theorem dX0_is_20 : decode cX0_is 20 = .ok (.iconst 1, 1) := by decide +kernel
theorem dX0_is_21 : decode cX0_is 21 = .ok (.goto 4, 3) := by decide +kernel
theorem dX0_is_24 : decode cX0_is 24 = .ok (.iconst 0, 1) := by decide +kernel
theorem dX0_is_25 : decode cX0_is 25 = .ok (.ireturn, 1) := by decide +kernel
set_option maxRecDepth 20000 in
theorem ggX0_getsOut_X0_is : GoodIn wsX0_getsOut wsX0_is := goodIn_r _ [6, 7, 8, 9, 10, 11, 12, 13, 14, 15, 16, 17, 18] (by decide +kernel) (by decide +kernel)
set_option maxRecDepth 20000 in
theorem gX0_getsOut_X0_is : GoodIn wsX0_getsOut (wsV RX0 43 RX0 yX0_is wsX0_is) := goodIn_app (goodIn_of _ (by decide +kernel)) ggX0_getsOut_X0_is
theorem dX0_getsOut_0 : decode cX0_getsOut 0 = .ok (.aload_n 0, 1) := by decide +kernel
theorem dX0_getsOut_1 : decode cX0_getsOut 1 = .ok (.iload_n 1, 1) := by decide +kernel
theorem dX0_getsOut_2 : decode cX0_getsOut 2 = .ok (.iconst 1, 1) := by decide +kernel
theorem dX0_getsOut_3 : decode cX0_getsOut 3 = .ok (.iload_n 2, 1) := by decide +kernel
theorem dX0_getsOut_4 : decode cX0_getsOut 4 = .ok (.invokevirtual 43, 3) := by decide +kernel
theorem dX0_getsOut_7 : decode cX0_getsOut 7 = .ok (.ifCond .eq 17, 3) := by decide +kernel
theorem dX0_getsOut_10 : decode cX0_getsOut 10 = .ok (.aload_n 0, 1) := by decide +kernel
theorem dX0_getsOut_11 : decode cX0_getsOut 11 = .ok (.getfield 15, 3) := by decide +kernel
theorem dX0_getsOut_14 : decode cX0_getsOut 14 = .ok (.iload_n 1, 1) := by decide +kernel
theorem dX0_getsOut_15 : decode cX0_getsOut 15 = .ok (.iaload, 1) := by decide +kernel
theorem dX0_getsOut_16 : decode cX0_getsOut 16 = .ok (.iload_n 3, 1) := by decide +kernel
theorem dX0_getsOut_17 : decode cX0_getsOut 17 = .ok (.if_icmp .ne 7, 3) := by decide +kernel
theorem dX0_getsOut_20 : decode cX0_getsOut 20 = .ok (.iconst 1, 1) := by decide +kernel
theorem dX0_getsOut_21 : decode cX0_getsOut 21 = .ok (.goto 4, 3) := by decide +kernel
theorem dX0_getsOut_24 : decode cX0_getsOut 24 = .ok (.iconst 0, 1) := by decide +kernel
theorem dX0_getsOut_25 : decode cX0_getsOut 25 = .ok (.ireturn, 1) := by decide +kernel
set_option maxRecDepth 20000 in
theorem ggX0_fitsIn_X0_is : GoodIn wsX0_fitsIn wsX0_is := goodIn_r _ [7, 8, 9, 10, 11, 12, 13, 14, 15, 16, 17, 18, 19] (by decide +kernel) (by decide +kernel)
set_option maxRecDepth 20000 in
theorem gX0_fitsIn_X0_is : GoodIn wsX0_fitsIn (wsV RX0 43 RX0 yX0_is wsX0_is) := goodIn_app (goodIn_of _ (by decide +kernel)) ggX0_fitsIn_X0_is
theorem dX0_fitsIn_0 : decode cX0_fitsIn 0 = .ok (.aload_n 0, 1) := by decide +kernel
theorem dX0_fitsIn_1 : decode cX0_fitsIn 1 = .ok (.iload_n 1, 1) := by decide +kernel
theorem dX0_fitsIn_2 : decode cX0_fitsIn 2 = .ok (.iconst 0, 1) := by decide +kernel
theorem dX0_fitsIn_3 : decode cX0_fitsIn 3 = .ok (.iload_n 2, 1) := by decide +kernel
theorem dX0_fitsIn_4 : decode cX0_fitsIn 4 = .ok (.invokevirtual 43, 3) := by decide +kernel
theorem dX0_fitsIn_7 : decode cX0_fitsIn 7 = .ok (.ifCond .eq 28, 3) := by decide +kernel
theorem dX0_fitsIn_10 : decode cX0_fitsIn 10 = .ok (.aload_n 0, 1) := by decide +kernel
theorem dX0_fitsIn_11 : decode cX0_fitsIn 11 = .ok (.getfield 9, 3) := by decide +kernel
theorem dX0_fitsIn_14 : decode cX0_fitsIn 14 = .ok (.iload_n 1, 1) := by decide +kernel
theorem dX0_fitsIn_15 : decode cX0_fitsIn 15 = .ok (.iaload, 1) := by decide +kernel
theorem dX0_fitsIn_16 : decode cX0_fitsIn 16 = .ok (.iload_n 3, 1) := by decide +kernel
theorem dX0_fitsIn_17 : decode cX0_fitsIn 17 = .ok (.if_icmp .ne 18, 3) := by decide +kernel
theorem dX0_fitsIn_20 : decode cX0_fitsIn 20 = .ok (.aload_n 0, 1) := by decide +kernel
theorem dX0_fitsIn_21 : decode cX0_fitsIn 21 = .ok (.getfield 21, 3) := by decide +kernel
theorem dX0_fitsIn_24 : decode cX0_fitsIn 24 = .ok (.iload_n 1, 1) := by decide +kernel
theorem dX0_fitsIn_25 : decode cX0_fitsIn 25 = .ok (.iaload, 1) := by decide +kernel
theorem dX0_fitsIn_26 : decode cX0_fitsIn 26 = .ok (.iload 4, 2) := by decide +kernel
theorem dX0_fitsIn_28 : decode cX0_fitsIn 28 = .ok (.if_icmp .gt 7, 3) := by decide +kernel
theorem dX0_fitsIn_31 : decode cX0_fitsIn 31 = .ok (.iconst 1, 1) := by decide +kernel
theorem dX0_fitsIn_32 : decode cX0_fitsIn 32 = .ok (.goto 4, 3) := by decide +kernel
theorem dX0_fitsIn_35 : decode cX0_fitsIn 35 = .ok (.iconst 0, 1) := by decide +kernel
theorem dX0_fitsIn_36 : decode cX0_fitsIn 36 = .ok (.ireturn, 1) := by decide +kernel
set_option maxRecDepth 20000 in
theorem ggX0_number_X0_setOf : GoodIn wsX0_number wsX0_setOf := goodIn_r _ [5, 6, 7, 8, 9, 4, 10, 11, 12, 20, 21, 22, 23, 24, 25, 26, 27, 28, 29] (by decide +kernel) (by decide +kernel)
set_option maxRecDepth 20000 in
theorem gX0_number_X0_setOf : GoodIn wsX0_number (wsV RX0 47 RX0 yX0_setOf wsX0_setOf) := goodIn_app (goodIn_of _ (by decide +kernel)) ggX0_number_X0_setOf
set_option maxRecDepth 20000 in
theorem ggX0_number_J6_bitCount_0f7a4 : GoodIn wsX0_number wsJ6_bitCount_0f7a4 := goodIn_r _ [16, 17, 18, 19] (by decide +kernel) (by decide +kernel)
set_option maxRecDepth 20000 in
theorem gX0_number_J6_bitCount_0f7a4 : GoodIn wsX0_number (va_wsS RX0 51 yJ6_bitCount_0f7a4 wsJ6_bitCount_0f7a4) := goodIn_app (goodIn_of _ (by decide +kernel)) ggX0_number_J6_bitCount_0f7a4
theorem dX0_number_0 : decode cX0_number 0 = .ok (.aload_n 0, 1) := by decide +kernel
theorem dX0_number_1 : decode cX0_number 1 = .ok (.iload_n 1, 1) := by decide +kernel
theorem dX0_number_2 : decode cX0_number 2 = .ok (.iload_n 2, 1) := by decide +kernel
theorem dX0_number_3 : decode cX0_number 3 = .ok (.invokevirtual 47, 3) := by decide +kernel
theorem dX0_number_6 : decode cX0_number 6 = .ok (.invokestatic 51, 3) := by decide +kernel
theorem dX0_number_9 : decode cX0_number 9 = .ok (.ireturn, 1) := by decide +kernel
set_option maxRecDepth 20000 in
theorem ggX0_setOf_X0_is : GoodIn wsX0_setOf wsX0_is := goodIn_r _ [6, 7, 8, 9, 10, 11, 12, 13, 14, 15, 16, 17, 18] (by decide +kernel) (by decide +kernel)
set_option maxRecDepth 20000 in
theorem gX0_setOf_X0_is : GoodIn wsX0_setOf (wsV RX0 43 RX0 yX0_is wsX0_is) := goodIn_app (goodIn_of _ (by decide +kernel)) ggX0_setOf_X0_is
theorem dX0_setOf_0 : decode cX0_setOf 0 = .ok (.iconst 0, 1) := by decide +kernel
theorem dX0_setOf_1 : decode cX0_setOf 1 = .ok (.istore_n 3, 1) := by decide +kernel
theorem dX0_setOf_2 : decode cX0_setOf 2 = .ok (.iconst 0, 1) := by decide +kernel
theorem dX0_setOf_3 : decode cX0_setOf 3 = .ok (.istore 4, 2) := by decide +kernel
theorem dX0_setOf_5 : decode cX0_setOf 5 = .ok (.iload 4, 2) := by decide +kernel
theorem dX0_setOf_7 : decode cX0_setOf 7 = .ok (.aload_n 0, 1) := by decide +kernel
theorem dX0_setOf_8 : decode cX0_setOf 8 = .ok (.getfield 39, 3) := by decide +kernel
theorem dX0_setOf_11 : decode cX0_setOf 11 = .ok (.if_icmp .ge 27, 3) := by decide +kernel
theorem dX0_setOf_14 : decode cX0_setOf 14 = .ok (.aload_n 0, 1) := by decide +kernel
theorem dX0_setOf_15 : decode cX0_setOf 15 = .ok (.iload 4, 2) := by decide +kernel
theorem dX0_setOf_17 : decode cX0_setOf 17 = .ok (.iload_n 1, 1) := by decide +kernel
theorem dX0_setOf_18 : decode cX0_setOf 18 = .ok (.iload_n 2, 1) := by decide +kernel
theorem dX0_setOf_19 : decode cX0_setOf 19 = .ok (.invokevirtual 43, 3) := by decide +kernel
theorem dX0_setOf_22 : decode cX0_setOf 22 = .ok (.ifCond .eq 10, 3) := by decide +kernel
theorem dX0_setOf_25 : decode cX0_setOf 25 = .ok (.iload_n 3, 1) := by decide +kernel
theorem dX0_setOf_26 : decode cX0_setOf 26 = .ok (.iconst 1, 1) := by decide +kernel
theorem dX0_setOf_27 : decode cX0_setOf 27 = .ok (.iload 4, 2) := by decide +kernel
theorem dX0_setOf_29 : decode cX0_setOf 29 = .ok (.ishl, 1) := by decide +kernel
theorem dX0_setOf_30 : decode cX0_setOf 30 = .ok (.ior, 1) := by decide +kernel
theorem dX0_setOf_31 : decode cX0_setOf 31 = .ok (.istore_n 3, 1) := by decide +kernel
theorem dX0_setOf_32 : decode cX0_setOf 32 = .ok (.iinc 4 1, 3) := by decide +kernel
theorem dX0_setOf_35 : decode cX0_setOf 35 = .ok (.goto (-30), 3) := by decide +kernel
theorem dX0_setOf_38 : decode cX0_setOf 38 = .ok (.iload_n 3, 1) := by decide +kernel
theorem dX0_setOf_39 : decode cX0_setOf 39 = .ok (.ireturn, 1) := by decide +kernel
theorem dX0_setFrom_0 : decode cX0_setFrom 0 = .ok (.iconst 0, 1) := by decide +kernel
theorem dX0_setFrom_1 : decode cX0_setFrom 1 = .ok (.istore_n 2, 1) := by decide +kernel
theorem dX0_setFrom_2 : decode cX0_setFrom 2 = .ok (.iconst 0, 1) := by decide +kernel
theorem dX0_setFrom_3 : decode cX0_setFrom 3 = .ok (.istore_n 3, 1) := by decide +kernel
theorem dX0_setFrom_4 : decode cX0_setFrom 4 = .ok (.iload_n 3, 1) := by decide +kernel
theorem dX0_setFrom_5 : decode cX0_setFrom 5 = .ok (.aload_n 0, 1) := by decide +kernel
theorem dX0_setFrom_6 : decode cX0_setFrom 6 = .ok (.getfield 39, 3) := by decide +kernel
theorem dX0_setFrom_9 : decode cX0_setFrom 9 = .ok (.if_icmp .ge 25, 3) := by decide +kernel
theorem dX0_setFrom_12 : decode cX0_setFrom 12 = .ok (.aload_n 0, 1) := by decide +kernel
theorem dX0_setFrom_13 : decode cX0_setFrom 13 = .ok (.getfield 9, 3) := by decide +kernel
theorem dX0_setFrom_16 : decode cX0_setFrom 16 = .ok (.iload_n 3, 1) := by decide +kernel
theorem dX0_setFrom_17 : decode cX0_setFrom 17 = .ok (.iaload, 1) := by decide +kernel
theorem dX0_setFrom_18 : decode cX0_setFrom 18 = .ok (.iload_n 1, 1) := by decide +kernel
theorem dX0_setFrom_19 : decode cX0_setFrom 19 = .ok (.if_icmp .ne 9, 3) := by decide +kernel
theorem dX0_setFrom_22 : decode cX0_setFrom 22 = .ok (.iload_n 2, 1) := by decide +kernel
theorem dX0_setFrom_23 : decode cX0_setFrom 23 = .ok (.iconst 1, 1) := by decide +kernel
theorem dX0_setFrom_24 : decode cX0_setFrom 24 = .ok (.iload_n 3, 1) := by decide +kernel
theorem dX0_setFrom_25 : decode cX0_setFrom 25 = .ok (.ishl, 1) := by decide +kernel
theorem dX0_setFrom_26 : decode cX0_setFrom 26 = .ok (.ior, 1) := by decide +kernel
theorem dX0_setFrom_27 : decode cX0_setFrom 27 = .ok (.istore_n 2, 1) := by decide +kernel
theorem dX0_setFrom_28 : decode cX0_setFrom 28 = .ok (.iinc 3 1, 3) := by decide +kernel
theorem dX0_setFrom_31 : decode cX0_setFrom 31 = .ok (.goto (-27), 3) := by decide +kernel
theorem dX0_setFrom_34 : decode cX0_setFrom 34 = .ok (.iload_n 2, 1) := by decide +kernel
theorem dX0_setFrom_35 : decode cX0_setFrom 35 = .ok (.ireturn, 1) := by decide +kernel
theorem dX0_setTo_0 : decode cX0_setTo 0 = .ok (.iconst 0, 1) := by decide +kernel
theorem dX0_setTo_1 : decode cX0_setTo 1 = .ok (.istore_n 2, 1) := by decide +kernel
theorem dX0_setTo_2 : decode cX0_setTo 2 = .ok (.iconst 0, 1) := by decide +kernel
theorem dX0_setTo_3 : decode cX0_setTo 3 = .ok (.istore_n 3, 1) := by decide +kernel
theorem dX0_setTo_4 : decode cX0_setTo 4 = .ok (.iload_n 3, 1) := by decide +kernel
theorem dX0_setTo_5 : decode cX0_setTo 5 = .ok (.aload_n 0, 1) := by decide +kernel
theorem dX0_setTo_6 : decode cX0_setTo 6 = .ok (.getfield 39, 3) := by decide +kernel
theorem dX0_setTo_9 : decode cX0_setTo 9 = .ok (.if_icmp .ge 25, 3) := by decide +kernel
theorem dX0_setTo_12 : decode cX0_setTo 12 = .ok (.aload_n 0, 1) := by decide +kernel
theorem dX0_setTo_13 : decode cX0_setTo 13 = .ok (.getfield 15, 3) := by decide +kernel
theorem dX0_setTo_16 : decode cX0_setTo 16 = .ok (.iload_n 3, 1) := by decide +kernel
theorem dX0_setTo_17 : decode cX0_setTo 17 = .ok (.iaload, 1) := by decide +kernel
theorem dX0_setTo_18 : decode cX0_setTo 18 = .ok (.iload_n 1, 1) := by decide +kernel
theorem dX0_setTo_19 : decode cX0_setTo 19 = .ok (.if_icmp .ne 9, 3) := by decide +kernel
theorem dX0_setTo_22 : decode cX0_setTo 22 = .ok (.iload_n 2, 1) := by decide +kernel
theorem dX0_setTo_23 : decode cX0_setTo 23 = .ok (.iconst 1, 1) := by decide +kernel
theorem dX0_setTo_24 : decode cX0_setTo 24 = .ok (.iload_n 3, 1) := by decide +kernel
theorem dX0_setTo_25 : decode cX0_setTo 25 = .ok (.ishl, 1) := by decide +kernel
theorem dX0_setTo_26 : decode cX0_setTo 26 = .ok (.ior, 1) := by decide +kernel
theorem dX0_setTo_27 : decode cX0_setTo 27 = .ok (.istore_n 2, 1) := by decide +kernel
theorem dX0_setTo_28 : decode cX0_setTo 28 = .ok (.iinc 3 1, 3) := by decide +kernel
theorem dX0_setTo_31 : decode cX0_setTo 31 = .ok (.goto (-27), 3) := by decide +kernel
theorem dX0_setTo_34 : decode cX0_setTo 34 = .ok (.iload_n 2, 1) := by decide +kernel
theorem dX0_setTo_35 : decode cX0_setTo 35 = .ok (.ireturn, 1) := by decide +kernel
set_option maxRecDepth 20000 in
theorem ggX0_loadAboard_X0_loadStaying : GoodIn wsX0_loadAboard wsX0_loadStaying := goodIn_r _ [5, 6, 7, 8, 9, 10, 11, 4, 12, 13, 14, 15, 16, 17, 18, 19, 20, 21, 22, 23, 24] (by decide +kernel) (by decide +kernel)
set_option maxRecDepth 20000 in
theorem gX0_loadAboard_X0_loadStaying : GoodIn wsX0_loadAboard (wsV RX0 57 RX0 yX0_loadStaying wsX0_loadStaying) := goodIn_app (goodIn_of _ (by decide +kernel)) ggX0_loadAboard_X0_loadStaying
theorem dX0_loadAboard_0 : decode cX0_loadAboard 0 = .ok (.aload_n 0, 1) := by decide +kernel
theorem dX0_loadAboard_1 : decode cX0_loadAboard 1 = .ok (.iload_n 1, 1) := by decide +kernel
theorem dX0_loadAboard_2 : decode cX0_loadAboard 2 = .ok (.iconst (-1), 1) := by decide +kernel
theorem dX0_loadAboard_3 : decode cX0_loadAboard 3 = .ok (.invokevirtual 57, 3) := by decide +kernel
theorem dX0_loadAboard_6 : decode cX0_loadAboard 6 = .ok (.ireturn, 1) := by decide +kernel
set_option maxRecDepth 20000 in
theorem ggX0_loadStaying_X0_is : GoodIn wsX0_loadStaying wsX0_is := goodIn_r _ [8, 9, 10, 11, 12, 13, 14, 15, 16, 17, 18, 19, 20] (by decide +kernel) (by decide +kernel)
set_option maxRecDepth 20000 in
theorem gX0_loadStaying_X0_is : GoodIn wsX0_loadStaying (wsV RX0 43 RX0 yX0_is wsX0_is) := goodIn_app (goodIn_of _ (by decide +kernel)) ggX0_loadStaying_X0_is
theorem dX0_loadStaying_0 : decode cX0_loadStaying 0 = .ok (.iconst 0, 1) := by decide +kernel
theorem dX0_loadStaying_1 : decode cX0_loadStaying 1 = .ok (.istore_n 3, 1) := by decide +kernel
theorem dX0_loadStaying_2 : decode cX0_loadStaying 2 = .ok (.iconst 0, 1) := by decide +kernel
theorem dX0_loadStaying_3 : decode cX0_loadStaying 3 = .ok (.istore 4, 2) := by decide +kernel
theorem dX0_loadStaying_5 : decode cX0_loadStaying 5 = .ok (.iload 4, 2) := by decide +kernel
theorem dX0_loadStaying_7 : decode cX0_loadStaying 7 = .ok (.aload_n 0, 1) := by decide +kernel
theorem dX0_loadStaying_8 : decode cX0_loadStaying 8 = .ok (.getfield 39, 3) := by decide +kernel
theorem dX0_loadStaying_11 : decode cX0_loadStaying 11 = .ok (.if_icmp .ge 41, 3) := by decide +kernel
theorem dX0_loadStaying_14 : decode cX0_loadStaying 14 = .ok (.aload_n 0, 1) := by decide +kernel
theorem dX0_loadStaying_15 : decode cX0_loadStaying 15 = .ok (.iload 4, 2) := by decide +kernel
theorem dX0_loadStaying_17 : decode cX0_loadStaying 17 = .ok (.iconst 1, 1) := by decide +kernel
theorem dX0_loadStaying_18 : decode cX0_loadStaying 18 = .ok (.iload_n 1, 1) := by decide +kernel
theorem dX0_loadStaying_19 : decode cX0_loadStaying 19 = .ok (.invokevirtual 43, 3) := by decide +kernel
theorem dX0_loadStaying_22 : decode cX0_loadStaying 22 = .ok (.ifCond .eq 24, 3) := by decide +kernel
theorem dX0_loadStaying_25 : decode cX0_loadStaying 25 = .ok (.aload_n 0, 1) := by decide +kernel
theorem dX0_loadStaying_26 : decode cX0_loadStaying 26 = .ok (.getfield 15, 3) := by decide +kernel
theorem dX0_loadStaying_29 : decode cX0_loadStaying 29 = .ok (.iload 4, 2) := by decide +kernel
theorem dX0_loadStaying_31 : decode cX0_loadStaying 31 = .ok (.iaload, 1) := by decide +kernel
theorem dX0_loadStaying_32 : decode cX0_loadStaying 32 = .ok (.iload_n 2, 1) := by decide +kernel
theorem dX0_loadStaying_33 : decode cX0_loadStaying 33 = .ok (.if_icmp .eq 13, 3) := by decide +kernel
theorem dX0_loadStaying_36 : decode cX0_loadStaying 36 = .ok (.iload_n 3, 1) := by decide +kernel
theorem dX0_loadStaying_37 : decode cX0_loadStaying 37 = .ok (.aload_n 0, 1) := by decide +kernel
theorem dX0_loadStaying_38 : decode cX0_loadStaying 38 = .ok (.getfield 21, 3) := by decide +kernel
theorem dX0_loadStaying_41 : decode cX0_loadStaying 41 = .ok (.iload 4, 2) := by decide +kernel
theorem dX0_loadStaying_43 : decode cX0_loadStaying 43 = .ok (.iaload, 1) := by decide +kernel
theorem dX0_loadStaying_44 : decode cX0_loadStaying 44 = .ok (.iadd, 1) := by decide +kernel
theorem dX0_loadStaying_45 : decode cX0_loadStaying 45 = .ok (.istore_n 3, 1) := by decide +kernel
theorem dX0_loadStaying_46 : decode cX0_loadStaying 46 = .ok (.iinc 4 1, 3) := by decide +kernel
theorem dX0_loadStaying_49 : decode cX0_loadStaying 49 = .ok (.goto (-44), 3) := by decide +kernel
theorem dX0_loadStaying_52 : decode cX0_loadStaying 52 = .ok (.iload_n 3, 1) := by decide +kernel
theorem dX0_loadStaying_53 : decode cX0_loadStaying 53 = .ok (.ireturn, 1) := by decide +kernel
set_option maxRecDepth 20000 in
theorem ggX0_numberWaiting_X3_asNumber : GoodIn wsX0_numberWaiting wsX3_asNumber := goodIn_r _ [5] (by decide +kernel) (by decide +kernel)
set_option maxRecDepth 20000 in
theorem gX0_numberWaiting_X3_asNumber_n60 : GoodIn wsX0_numberWaiting (wsX3_asNumber) := ggX0_numberWaiting_X3_asNumber
theorem dX0_numberWaiting_0 : decode cX0_numberWaiting 0 = .ok (.iconst 0, 1) := by decide +kernel
theorem dX0_numberWaiting_1 : decode cX0_numberWaiting 1 = .ok (.istore_n 1, 1) := by decide +kernel
theorem dX0_numberWaiting_2 : decode cX0_numberWaiting 2 = .ok (.iconst 0, 1) := by decide +kernel
theorem dX0_numberWaiting_3 : decode cX0_numberWaiting 3 = .ok (.istore_n 2, 1) := by decide +kernel
theorem dX0_numberWaiting_4 : decode cX0_numberWaiting 4 = .ok (.iload_n 2, 1) := by decide +kernel
theorem dX0_numberWaiting_5 : decode cX0_numberWaiting 5 = .ok (.aload_n 0, 1) := by decide +kernel
theorem dX0_numberWaiting_6 : decode cX0_numberWaiting 6 = .ok (.getfield 39, 3) := by decide +kernel
theorem dX0_numberWaiting_9 : decode cX0_numberWaiting 9 = .ok (.if_icmp .ge 29, 3) := by decide +kernel
theorem dX0_numberWaiting_12 : decode cX0_numberWaiting 12 = .ok (.iload_n 1, 1) := by decide +kernel
theorem dX0_numberWaiting_13 : decode cX0_numberWaiting 13 = .ok (.aload_n 0, 1) := by decide +kernel
theorem dX0_numberWaiting_14 : decode cX0_numberWaiting 14 = .ok (.getfield 24, 3) := by decide +kernel
theorem dX0_numberWaiting_17 : decode cX0_numberWaiting 17 = .ok (.iload_n 2, 1) := by decide +kernel
theorem dX0_numberWaiting_18 : decode cX0_numberWaiting 18 = .ok (.iaload, 1) := by decide +kernel
theorem dX0_numberWaiting_19 : decode cX0_numberWaiting 19 = .ok (.ifCond .ne 7, 3) := by decide +kernel
theorem dX0_numberWaiting_22 : decode cX0_numberWaiting 22 = .ok (.iconst 1, 1) := by decide +kernel
theorem dX0_numberWaiting_23 : decode cX0_numberWaiting 23 = .ok (.goto 4, 3) := by decide +kernel
theorem dX0_numberWaiting_26 : decode cX0_numberWaiting 26 = .ok (.iconst 0, 1) := by decide +kernel
theorem dX0_numberWaiting_27 : decode cX0_numberWaiting 27 = .ok (.invokestatic 60, 3) := by decide +kernel
theorem dX0_numberWaiting_30 : decode cX0_numberWaiting 30 = .ok (.iadd, 1) := by decide +kernel
theorem dX0_numberWaiting_31 : decode cX0_numberWaiting 31 = .ok (.istore_n 1, 1) := by decide +kernel
theorem dX0_numberWaiting_32 : decode cX0_numberWaiting 32 = .ok (.iinc 2 1, 3) := by decide +kernel
theorem dX0_numberWaiting_35 : decode cX0_numberWaiting 35 = .ok (.goto (-31), 3) := by decide +kernel
theorem dX0_numberWaiting_38 : decode cX0_numberWaiting 38 = .ok (.iload_n 1, 1) := by decide +kernel
theorem dX0_numberWaiting_39 : decode cX0_numberWaiting 39 = .ok (.ireturn, 1) := by decide +kernel
theorem dX0_levelsWithWaiting_0 : decode cX0_levelsWithWaiting 0 = .ok (.iconst 0, 1) := by decide +kernel
theorem dX0_levelsWithWaiting_1 : decode cX0_levelsWithWaiting 1 = .ok (.istore_n 1, 1) := by decide +kernel
theorem dX0_levelsWithWaiting_2 : decode cX0_levelsWithWaiting 2 = .ok (.iconst 0, 1) := by decide +kernel
theorem dX0_levelsWithWaiting_3 : decode cX0_levelsWithWaiting 3 = .ok (.istore_n 2, 1) := by decide +kernel
theorem dX0_levelsWithWaiting_4 : decode cX0_levelsWithWaiting 4 = .ok (.iload_n 2, 1) := by decide +kernel
theorem dX0_levelsWithWaiting_5 : decode cX0_levelsWithWaiting 5 = .ok (.aload_n 0, 1) := by decide +kernel
theorem dX0_levelsWithWaiting_6 : decode cX0_levelsWithWaiting 6 = .ok (.getfield 39, 3) := by decide +kernel
theorem dX0_levelsWithWaiting_9 : decode cX0_levelsWithWaiting 9 = .ok (.if_icmp .ge 29, 3) := by decide +kernel
theorem dX0_levelsWithWaiting_12 : decode cX0_levelsWithWaiting 12 = .ok (.aload_n 0, 1) := by decide +kernel
theorem dX0_levelsWithWaiting_13 : decode cX0_levelsWithWaiting 13 = .ok (.getfield 24, 3) := by decide +kernel
theorem dX0_levelsWithWaiting_16 : decode cX0_levelsWithWaiting 16 = .ok (.iload_n 2, 1) := by decide +kernel
theorem dX0_levelsWithWaiting_17 : decode cX0_levelsWithWaiting 17 = .ok (.iaload, 1) := by decide +kernel
theorem dX0_levelsWithWaiting_18 : decode cX0_levelsWithWaiting 18 = .ok (.ifCond .ne 14, 3) := by decide +kernel
theorem dX0_levelsWithWaiting_21 : decode cX0_levelsWithWaiting 21 = .ok (.iload_n 1, 1) := by decide +kernel
theorem dX0_levelsWithWaiting_22 : decode cX0_levelsWithWaiting 22 = .ok (.iconst 1, 1) := by decide +kernel
theorem dX0_levelsWithWaiting_23 : decode cX0_levelsWithWaiting 23 = .ok (.aload_n 0, 1) := by decide +kernel
theorem dX0_levelsWithWaiting_24 : decode cX0_levelsWithWaiting 24 = .ok (.getfield 9, 3) := by decide +kernel
theorem dX0_levelsWithWaiting_27 : decode cX0_levelsWithWaiting 27 = .ok (.iload_n 2, 1) := by decide +kernel
theorem dX0_levelsWithWaiting_28 : decode cX0_levelsWithWaiting 28 = .ok (.iaload, 1) := by decide +kernel
theorem dX0_levelsWithWaiting_29 : decode cX0_levelsWithWaiting 29 = .ok (.ishl, 1) := by decide +kernel
theorem dX0_levelsWithWaiting_30 : decode cX0_levelsWithWaiting 30 = .ok (.ior, 1) := by decide +kernel
theorem dX0_levelsWithWaiting_31 : decode cX0_levelsWithWaiting 31 = .ok (.istore_n 1, 1) := by decide +kernel
theorem dX0_levelsWithWaiting_32 : decode cX0_levelsWithWaiting 32 = .ok (.iinc 2 1, 3) := by decide +kernel
theorem dX0_levelsWithWaiting_35 : decode cX0_levelsWithWaiting 35 = .ok (.goto (-31), 3) := by decide +kernel
theorem dX0_levelsWithWaiting_38 : decode cX0_levelsWithWaiting 38 = .ok (.iload_n 1, 1) := by decide +kernel
theorem dX0_levelsWithWaiting_39 : decode cX0_levelsWithWaiting 39 = .ok (.ireturn, 1) := by decide +kernel
set_option maxRecDepth 20000 in
theorem ggX0_hasWork_X0_setOf : GoodIn wsX0_hasWork wsX0_setOf := goodIn_r _ [5, 6, 7, 8, 9, 4, 10, 11, 12, 19, 20, 21, 22, 23, 24, 25, 26, 27, 28] (by decide +kernel) (by decide +kernel)
set_option maxRecDepth 20000 in
theorem gX0_hasWork_X0_setOf : GoodIn wsX0_hasWork (wsV RX0 47 RX0 yX0_setOf wsX0_setOf) := goodIn_app (goodIn_of _ (by decide +kernel)) ggX0_hasWork_X0_setOf
set_option maxRecDepth 20000 in
theorem ggX0_hasWork_X0_nearestStop : GoodIn wsX0_hasWork wsX0_nearestStop := goodIn_r _ [16, 6, 17, 18, 19, 20, 21, 22, 23, 24, 25, 26, 27, 28] (by decide +kernel) (by decide +kernel)
set_option maxRecDepth 20000 in
theorem gX0_hasWork_X0_nearestStop : GoodIn wsX0_hasWork (wsV RX0 64 RX0 yX0_nearestStop wsX0_nearestStop) := goodIn_app (goodIn_of _ (by decide +kernel)) ggX0_hasWork_X0_nearestStop
theorem dX0_hasWork_0 : decode cX0_hasWork 0 = .ok (.aload_n 0, 1) := by decide +kernel
theorem dX0_hasWork_1 : decode cX0_hasWork 1 = .ok (.iload_n 2, 1) := by decide +kernel
theorem dX0_hasWork_2 : decode cX0_hasWork 2 = .ok (.iload_n 3, 1) := by decide +kernel
theorem dX0_hasWork_3 : decode cX0_hasWork 3 = .ok (.aload_n 0, 1) := by decide +kernel
theorem dX0_hasWork_4 : decode cX0_hasWork 4 = .ok (.iconst 0, 1) := by decide +kernel
theorem dX0_hasWork_5 : decode cX0_hasWork 5 = .ok (.iload_n 1, 1) := by decide +kernel
theorem dX0_hasWork_6 : decode cX0_hasWork 6 = .ok (.invokevirtual 47, 3) := by decide +kernel
theorem dX0_hasWork_9 : decode cX0_hasWork 9 = .ok (.aload_n 0, 1) := by decide +kernel
theorem dX0_hasWork_10 : decode cX0_hasWork 10 = .ok (.iconst 1, 1) := by decide +kernel
theorem dX0_hasWork_11 : decode cX0_hasWork 11 = .ok (.iload_n 1, 1) := by decide +kernel
theorem dX0_hasWork_12 : decode cX0_hasWork 12 = .ok (.invokevirtual 47, 3) := by decide +kernel
theorem dX0_hasWork_15 : decode cX0_hasWork 15 = .ok (.invokevirtual 64, 3) := by decide +kernel
theorem dX0_hasWork_18 : decode cX0_hasWork 18 = .ok (.iconst (-1), 1) := by decide +kernel
theorem dX0_hasWork_19 : decode cX0_hasWork 19 = .ok (.if_icmp .eq 7, 3) := by decide +kernel
theorem dX0_hasWork_22 : decode cX0_hasWork 22 = .ok (.iconst 1, 1) := by decide +kernel
theorem dX0_hasWork_23 : decode cX0_hasWork 23 = .ok (.goto 4, 3) := by decide +kernel
theorem dX0_hasWork_26 : decode cX0_hasWork 26 = .ok (.iconst 0, 1) := by decide +kernel
theorem dX0_hasWork_27 : decode cX0_hasWork 27 = .ok (.ireturn, 1) := by decide +kernel
theorem dX0_nearestStop_0 : decode cX0_nearestStop 0 = .ok (.iconst (-1), 1) := by decide +kernel
theorem dX0_nearestStop_1 : decode cX0_nearestStop 1 = .ok (.istore 5, 2) := by decide +kernel
theorem dX0_nearestStop_3 : decode cX0_nearestStop 3 = .ok (.bipush 20, 2) := by decide +kernel
theorem dX0_nearestStop_5 : decode cX0_nearestStop 5 = .ok (.istore 6, 2) := by decide +kernel
theorem dX0_nearestStop_7 : decode cX0_nearestStop 7 = .ok (.iconst 0, 1) := by decide +kernel
theorem dX0_nearestStop_8 : decode cX0_nearestStop 8 = .ok (.istore 7, 2) := by decide +kernel
theorem dX0_nearestStop_10 : decode cX0_nearestStop 10 = .ok (.iload 7, 2) := by decide +kernel
theorem dX0_nearestStop_12 : decode cX0_nearestStop 12 = .ok (.aload_n 0, 1) := by decide +kernel
theorem dX0_nearestStop_13 : decode cX0_nearestStop 13 = .ok (.getfield 39, 3) := by decide +kernel
theorem dX0_nearestStop_16 : decode cX0_nearestStop 16 = .ok (.if_icmp .ge 106, 3) := by decide +kernel
theorem dX0_nearestStop_19 : decode cX0_nearestStop 19 = .ok (.iload_n 3, 1) := by decide +kernel
theorem dX0_nearestStop_20 : decode cX0_nearestStop 20 = .ok (.iload 7, 2) := by decide +kernel
theorem dX0_nearestStop_22 : decode cX0_nearestStop 22 = .ok (.ishr, 1) := by decide +kernel
theorem dX0_nearestStop_23 : decode cX0_nearestStop 23 = .ok (.iconst 1, 1) := by decide +kernel
theorem dX0_nearestStop_24 : decode cX0_nearestStop 24 = .ok (.iand, 1) := by decide +kernel
theorem dX0_nearestStop_25 : decode cX0_nearestStop 25 = .ok (.iconst 1, 1) := by decide +kernel
theorem dX0_nearestStop_26 : decode cX0_nearestStop 26 = .ok (.if_icmp .ne 7, 3) := by decide +kernel
theorem dX0_nearestStop_29 : decode cX0_nearestStop 29 = .ok (.iconst 1, 1) := by decide +kernel
theorem dX0_nearestStop_30 : decode cX0_nearestStop 30 = .ok (.goto 4, 3) := by decide +kernel
theorem dX0_nearestStop_33 : decode cX0_nearestStop 33 = .ok (.iconst 0, 1) := by decide +kernel
theorem dX0_nearestStop_34 : decode cX0_nearestStop 34 = .ok (.istore 8, 2) := by decide +kernel
theorem dX0_nearestStop_36 : decode cX0_nearestStop 36 = .ok (.iload 4, 2) := by decide +kernel
theorem dX0_nearestStop_38 : decode cX0_nearestStop 38 = .ok (.iload 7, 2) := by decide +kernel
theorem dX0_nearestStop_40 : decode cX0_nearestStop 40 = .ok (.ishr, 1) := by decide +kernel
theorem dX0_nearestStop_41 : decode cX0_nearestStop 41 = .ok (.iconst 1, 1) := by decide +kernel
theorem dX0_nearestStop_42 : decode cX0_nearestStop 42 = .ok (.iand, 1) := by decide +kernel
theorem dX0_nearestStop_43 : decode cX0_nearestStop 43 = .ok (.iconst 1, 1) := by decide +kernel
theorem dX0_nearestStop_44 : decode cX0_nearestStop 44 = .ok (.if_icmp .ne 7, 3) := by decide +kernel
theorem dX0_nearestStop_47 : decode cX0_nearestStop 47 = .ok (.iconst 1, 1) := by decide +kernel
theorem dX0_nearestStop_48 : decode cX0_nearestStop 48 = .ok (.goto 4, 3) := by decide +kernel
theorem dX0_nearestStop_51 : decode cX0_nearestStop 51 = .ok (.iconst 0, 1) := by decide +kernel
theorem dX0_nearestStop_52 : decode cX0_nearestStop 52 = .ok (.istore 9, 2) := by decide +kernel
theorem dX0_nearestStop_54 : decode cX0_nearestStop 54 = .ok (.iload 8, 2) := by decide +kernel
theorem dX0_nearestStop_56 : decode cX0_nearestStop 56 = .ok (.ifCond .eq 13, 3) := by decide +kernel
theorem dX0_nearestStop_59 : decode cX0_nearestStop 59 = .ok (.aload_n 0, 1) := by decide +kernel
theorem dX0_nearestStop_60 : decode cX0_nearestStop 60 = .ok (.getfield 9, 3) := by decide +kernel
theorem dX0_nearestStop_63 : decode cX0_nearestStop 63 = .ok (.iload 7, 2) := by decide +kernel
theorem dX0_nearestStop_65 : decode cX0_nearestStop 65 = .ok (.iaload, 1) := by decide +kernel
theorem dX0_nearestStop_66 : decode cX0_nearestStop 66 = .ok (.goto 10, 3) := by decide +kernel
theorem dX0_nearestStop_69 : decode cX0_nearestStop 69 = .ok (.aload_n 0, 1) := by decide +kernel
theorem dX0_nearestStop_70 : decode cX0_nearestStop 70 = .ok (.getfield 15, 3) := by decide +kernel
theorem dX0_nearestStop_73 : decode cX0_nearestStop 73 = .ok (.iload 7, 2) := by decide +kernel
theorem dX0_nearestStop_75 : decode cX0_nearestStop 75 = .ok (.iaload, 1) := by decide +kernel
theorem dX0_nearestStop_76 : decode cX0_nearestStop 76 = .ok (.istore 10, 2) := by decide +kernel
theorem dX0_nearestStop_78 : decode cX0_nearestStop 78 = .ok (.iload 10, 2) := by decide +kernel
theorem dX0_nearestStop_80 : decode cX0_nearestStop 80 = .ok (.iload_n 1, 1) := by decide +kernel
theorem dX0_nearestStop_81 : decode cX0_nearestStop 81 = .ok (.isub, 1) := by decide +kernel
theorem dX0_nearestStop_82 : decode cX0_nearestStop 82 = .ok (.iload_n 2, 1) := by decide +kernel
theorem dX0_nearestStop_83 : decode cX0_nearestStop 83 = .ok (.imul, 1) := by decide +kernel
theorem dX0_nearestStop_84 : decode cX0_nearestStop 84 = .ok (.istore 11, 2) := by decide +kernel
theorem dX0_nearestStop_86 : decode cX0_nearestStop 86 = .ok (.iload 8, 2) := by decide +kernel
theorem dX0_nearestStop_88 : decode cX0_nearestStop 88 = .ok (.ifCond .ne 8, 3) := by decide +kernel
theorem dX0_nearestStop_91 : decode cX0_nearestStop 91 = .ok (.iload 9, 2) := by decide +kernel
theorem dX0_nearestStop_93 : decode cX0_nearestStop 93 = .ok (.ifCond .eq 23, 3) := by decide +kernel
theorem dX0_nearestStop_96 : decode cX0_nearestStop 96 = .ok (.iload 11, 2) := by decide +kernel
theorem dX0_nearestStop_98 : decode cX0_nearestStop 98 = .ok (.ifCond .le 18, 3) := by decide +kernel
theorem dX0_nearestStop_101 : decode cX0_nearestStop 101 = .ok (.iload 11, 2) := by decide +kernel
theorem dX0_nearestStop_103 : decode cX0_nearestStop 103 = .ok (.iload 6, 2) := by decide +kernel
theorem dX0_nearestStop_105 : decode cX0_nearestStop 105 = .ok (.if_icmp .ge 11, 3) := by decide +kernel
theorem dX0_nearestStop_108 : decode cX0_nearestStop 108 = .ok (.iload 10, 2) := by decide +kernel
theorem dX0_nearestStop_110 : decode cX0_nearestStop 110 = .ok (.istore 5, 2) := by decide +kernel
theorem dX0_nearestStop_112 : decode cX0_nearestStop 112 = .ok (.iload 11, 2) := by decide +kernel
theorem dX0_nearestStop_114 : decode cX0_nearestStop 114 = .ok (.istore 6, 2) := by decide +kernel
theorem dX0_nearestStop_116 : decode cX0_nearestStop 116 = .ok (.iinc 7 1, 3) := by decide +kernel
theorem dX0_nearestStop_119 : decode cX0_nearestStop 119 = .ok (.goto (-109), 3) := by decide +kernel
theorem dX0_nearestStop_122 : decode cX0_nearestStop 122 = .ok (.iload 5, 2) := by decide +kernel
theorem dX0_nearestStop_124 : decode cX0_nearestStop 124 = .ok (.ireturn, 1) := by decide +kernel
theorem dX1_init_0 : decode cX1_init 0 = .ok (.aload_n 0, 1) := by decide +kernel
theorem dX1_init_1 : decode cX1_init 1 = .ok (.invokespecial 3, 3) := by decide +kernel
theorem dX1_init_4 : decode cX1_init 4 = .ok (.aload_n 0, 1) := by decide +kernel
theorem dX1_init_5 : decode cX1_init 5 = .ok (.bipush 48, 2) := by decide +kernel
theorem dX1_init_7 : decode cX1_init 7 = .ok (.newarray .int, 2) := by decide +kernel
theorem dX1_init_9 : decode cX1_init 9 = .ok (.putfield 9, 3) := by decide +kernel
theorem dX1_init_12 : decode cX1_init 12 = .ok (.aload_n 0, 1) := by decide +kernel
theorem dX1_init_13 : decode cX1_init 13 = .ok (.bipush 48, 2) := by decide +kernel
theorem dX1_init_15 : decode cX1_init 15 = .ok (.newarray .int, 2) := by decide +kernel
theorem dX1_init_17 : decode cX1_init 17 = .ok (.putfield 15, 3) := by decide +kernel
theorem dX1_init_20 : decode cX1_init 20 = .ok (.aload_n 0, 1) := by decide +kernel
theorem dX1_init_21 : decode cX1_init 21 = .ok (.bipush 48, 2) := by decide +kernel
theorem dX1_init_23 : decode cX1_init 23 = .ok (.newarray .int, 2) := by decide +kernel
theorem dX1_init_25 : decode cX1_init 25 = .ok (.putfield 18, 3) := by decide +kernel
theorem dX1_init_28 : decode cX1_init 28 = .ok (.aload_n 0, 1) := by decide +kernel
theorem dX1_init_29 : decode cX1_init 29 = .ok (.bipush 48, 2) := by decide +kernel
theorem dX1_init_31 : decode cX1_init 31 = .ok (.newarray .int, 2) := by decide +kernel
theorem dX1_init_33 : decode cX1_init 33 = .ok (.putfield 21, 3) := by decide +kernel
theorem dX1_init_36 : decode cX1_init 36 = .ok (.aload_n 0, 1) := by decide +kernel
theorem dX1_init_37 : decode cX1_init 37 = .ok (.iconst 0, 1) := by decide +kernel
theorem dX1_init_38 : decode cX1_init 38 = .ok (.putfield 24, 3) := by decide +kernel
theorem dX1_init_41 : decode cX1_init 41 = .ok (.return_, 1) := by decide +kernel
theorem dX1_add_0 : decode cX1_add 0 = .ok (.aload_n 0, 1) := by decide +kernel
theorem dX1_add_1 : decode cX1_add 1 = .ok (.getfield 24, 3) := by decide +kernel
theorem dX1_add_4 : decode cX1_add 4 = .ok (.bipush 48, 2) := by decide +kernel
theorem dX1_add_6 : decode cX1_add 6 = .ok (.if_icmp .ge 54, 3) := by decide +kernel
theorem dX1_add_9 : decode cX1_add 9 = .ok (.aload_n 0, 1) := by decide +kernel
theorem dX1_add_10 : decode cX1_add 10 = .ok (.getfield 9, 3) := by decide +kernel
theorem dX1_add_13 : decode cX1_add 13 = .ok (.aload_n 0, 1) := by decide +kernel
theorem dX1_add_14 : decode cX1_add 14 = .ok (.getfield 24, 3) := by decide +kernel
theorem dX1_add_17 : decode cX1_add 17 = .ok (.iload_n 1, 1) := by decide +kernel
theorem dX1_add_18 : decode cX1_add 18 = .ok (.iastore, 1) := by decide +kernel
theorem dX1_add_19 : decode cX1_add 19 = .ok (.aload_n 0, 1) := by decide +kernel
theorem dX1_add_20 : decode cX1_add 20 = .ok (.getfield 15, 3) := by decide +kernel
theorem dX1_add_23 : decode cX1_add 23 = .ok (.aload_n 0, 1) := by decide +kernel
theorem dX1_add_24 : decode cX1_add 24 = .ok (.getfield 24, 3) := by decide +kernel
theorem dX1_add_27 : decode cX1_add 27 = .ok (.iload_n 2, 1) := by decide +kernel
theorem dX1_add_28 : decode cX1_add 28 = .ok (.iastore, 1) := by decide +kernel
theorem dX1_add_29 : decode cX1_add 29 = .ok (.aload_n 0, 1) := by decide +kernel
theorem dX1_add_30 : decode cX1_add 30 = .ok (.getfield 18, 3) := by decide +kernel
theorem dX1_add_33 : decode cX1_add 33 = .ok (.aload_n 0, 1) := by decide +kernel
theorem dX1_add_34 : decode cX1_add 34 = .ok (.getfield 24, 3) := by decide +kernel
theorem dX1_add_37 : decode cX1_add 37 = .ok (.iload_n 3, 1) := by decide +kernel
theorem dX1_add_38 : decode cX1_add 38 = .ok (.iastore, 1) := by decide +kernel
theorem dX1_add_39 : decode cX1_add 39 = .ok (.aload_n 0, 1) := by decide +kernel
theorem dX1_add_40 : decode cX1_add 40 = .ok (.getfield 21, 3) := by decide +kernel
theorem dX1_add_43 : decode cX1_add 43 = .ok (.aload_n 0, 1) := by decide +kernel
theorem dX1_add_44 : decode cX1_add 44 = .ok (.getfield 24, 3) := by decide +kernel
theorem dX1_add_47 : decode cX1_add 47 = .ok (.iload 4, 2) := by decide +kernel
theorem dX1_add_49 : decode cX1_add 49 = .ok (.iastore, 1) := by decide +kernel
theorem dX1_add_50 : decode cX1_add 50 = .ok (.aload_n 0, 1) := by decide +kernel
theorem dX1_add_51 : decode cX1_add 51 = .ok (.dup, 1) := by decide +kernel
theorem dX1_add_52 : decode cX1_add 52 = .ok (.getfield 24, 3) := by decide +kernel
theorem dX1_add_55 : decode cX1_add 55 = .ok (.iconst 1, 1) := by decide +kernel
theorem dX1_add_56 : decode cX1_add 56 = .ok (.iadd, 1) := by decide +kernel
theorem dX1_add_57 : decode cX1_add 57 = .ok (.putfield 24, 3) := by decide +kernel
theorem dX1_add_60 : decode cX1_add 60 = .ok (.return_, 1) := by decide +kernel
theorem dX2_init_0 : decode cX2_init 0 = .ok (.aload_n 0, 1) := by decide +kernel
theorem dX2_init_1 : decode cX2_init 1 = .ok (.invokespecial 3, 3) := by decide +kernel
theorem dX2_init_4 : decode cX2_init 4 = .ok (.aload_n 0, 1) := by decide +kernel
theorem dX2_init_5 : decode cX2_init 5 = .ok (.iconst 4, 1) := by decide +kernel
theorem dX2_init_6 : decode cX2_init 6 = .ok (.newarray .int, 2) := by decide +kernel
theorem dX2_init_8 : decode cX2_init 8 = .ok (.putfield 9, 3) := by decide +kernel
theorem dX2_init_11 : decode cX2_init 11 = .ok (.aload_n 0, 1) := by decide +kernel
theorem dX2_init_12 : decode cX2_init 12 = .ok (.iconst 4, 1) := by decide +kernel
theorem dX2_init_13 : decode cX2_init 13 = .ok (.newarray .int, 2) := by decide +kernel
theorem dX2_init_15 : decode cX2_init 15 = .ok (.putfield 15, 3) := by decide +kernel
theorem dX2_init_18 : decode cX2_init 18 = .ok (.aload_n 0, 1) := by decide +kernel
theorem dX2_init_19 : decode cX2_init 19 = .ok (.iconst 4, 1) := by decide +kernel
theorem dX2_init_20 : decode cX2_init 20 = .ok (.newarray .int, 2) := by decide +kernel
theorem dX2_init_22 : decode cX2_init 22 = .ok (.putfield 18, 3) := by decide +kernel
theorem dX2_init_25 : decode cX2_init 25 = .ok (.aload_n 0, 1) := by decide +kernel
theorem dX2_init_26 : decode cX2_init 26 = .ok (.iconst 4, 1) := by decide +kernel
theorem dX2_init_27 : decode cX2_init 27 = .ok (.newarray .int, 2) := by decide +kernel
theorem dX2_init_29 : decode cX2_init 29 = .ok (.putfield 21, 3) := by decide +kernel
theorem dX2_init_32 : decode cX2_init 32 = .ok (.aload_n 0, 1) := by decide +kernel
theorem dX2_init_33 : decode cX2_init 33 = .ok (.iconst 4, 1) := by decide +kernel
theorem dX2_init_34 : decode cX2_init 34 = .ok (.newarray .boolean, 2) := by decide +kernel
theorem dX2_init_36 : decode cX2_init 36 = .ok (.putfield 24, 3) := by decide +kernel
theorem dX2_init_39 : decode cX2_init 39 = .ok (.aload_n 0, 1) := by decide +kernel
theorem dX2_init_40 : decode cX2_init 40 = .ok (.iconst 4, 1) := by decide +kernel
theorem dX2_init_41 : decode cX2_init 41 = .ok (.newarray .boolean, 2) := by decide +kernel
theorem dX2_init_43 : decode cX2_init 43 = .ok (.putfield 28, 3) := by decide +kernel
theorem dX2_init_46 : decode cX2_init 46 = .ok (.aload_n 0, 1) := by decide +kernel
theorem dX2_init_47 : decode cX2_init 47 = .ok (.iconst 4, 1) := by decide +kernel
theorem dX2_init_48 : decode cX2_init 48 = .ok (.newarray .boolean, 2) := by decide +kernel
theorem dX2_init_50 : decode cX2_init 50 = .ok (.putfield 31, 3) := by decide +kernel
theorem dX2_init_53 : decode cX2_init 53 = .ok (.aload_n 0, 1) := by decide +kernel
theorem dX2_init_54 : decode cX2_init 54 = .ok (.iconst 0, 1) := by decide +kernel
theorem dX2_init_55 : decode cX2_init 55 = .ok (.putfield 34, 3) := by decide +kernel
theorem dX2_init_58 : decode cX2_init 58 = .ok (.aload_n 0, 1) := by decide +kernel
theorem dX2_init_59 : decode cX2_init 59 = .ok (.iconst 0, 1) := by decide +kernel
theorem dX2_init_60 : decode cX2_init 60 = .ok (.putfield 38, 3) := by decide +kernel
theorem dX2_init_63 : decode cX2_init 63 = .ok (.return_, 1) := by decide +kernel
theorem dX2_add_0 : decode cX2_add 0 = .ok (.aload_n 0, 1) := by decide +kernel
theorem dX2_add_1 : decode cX2_add 1 = .ok (.getfield 34, 3) := by decide +kernel
theorem dX2_add_4 : decode cX2_add 4 = .ok (.istore_n 3, 1) := by decide +kernel
theorem dX2_add_5 : decode cX2_add 5 = .ok (.iload_n 3, 1) := by decide +kernel
theorem dX2_add_6 : decode cX2_add 6 = .ok (.iconst 4, 1) := by decide +kernel
theorem dX2_add_7 : decode cX2_add 7 = .ok (.if_icmp .ge 27, 3) := by decide +kernel
theorem dX2_add_10 : decode cX2_add 10 = .ok (.aload_n 0, 1) := by decide +kernel
theorem dX2_add_11 : decode cX2_add 11 = .ok (.getfield 9, 3) := by decide +kernel
theorem dX2_add_14 : decode cX2_add 14 = .ok (.iload_n 3, 1) := by decide +kernel
theorem dX2_add_15 : decode cX2_add 15 = .ok (.iload_n 1, 1) := by decide +kernel
theorem dX2_add_16 : decode cX2_add 16 = .ok (.iastore, 1) := by decide +kernel
theorem dX2_add_17 : decode cX2_add 17 = .ok (.aload_n 0, 1) := by decide +kernel
theorem dX2_add_18 : decode cX2_add 18 = .ok (.getfield 15, 3) := by decide +kernel
theorem dX2_add_21 : decode cX2_add 21 = .ok (.iload_n 3, 1) := by decide +kernel
theorem dX2_add_22 : decode cX2_add 22 = .ok (.iload_n 2, 1) := by decide +kernel
theorem dX2_add_23 : decode cX2_add 23 = .ok (.iastore, 1) := by decide +kernel
theorem dX2_add_24 : decode cX2_add 24 = .ok (.aload_n 0, 1) := by decide +kernel
theorem dX2_add_25 : decode cX2_add 25 = .ok (.dup, 1) := by decide +kernel
theorem dX2_add_26 : decode cX2_add 26 = .ok (.getfield 34, 3) := by decide +kernel
theorem dX2_add_29 : decode cX2_add 29 = .ok (.iconst 1, 1) := by decide +kernel
theorem dX2_add_30 : decode cX2_add 30 = .ok (.iadd, 1) := by decide +kernel
theorem dX2_add_31 : decode cX2_add 31 = .ok (.putfield 34, 3) := by decide +kernel
theorem dX2_add_34 : decode cX2_add 34 = .ok (.iload_n 3, 1) := by decide +kernel
theorem dX2_add_35 : decode cX2_add 35 = .ok (.ireturn, 1) := by decide +kernel
theorem dX2_mayGet_0 : decode cX2_mayGet 0 = .ok (.aload_n 0, 1) := by decide +kernel
theorem dX2_mayGet_1 : decode cX2_mayGet 1 = .ok (.getfield 24, 3) := by decide +kernel
theorem dX2_mayGet_4 : decode cX2_mayGet 4 = .ok (.iload_n 1, 1) := by decide +kernel
theorem dX2_mayGet_5 : decode cX2_mayGet 5 = .ok (.baload, 1) := by decide +kernel
theorem dX2_mayGet_6 : decode cX2_mayGet 6 = .ok (.ifCond .ne 26, 3) := by decide +kernel
theorem dX2_mayGet_9 : decode cX2_mayGet 9 = .ok (.aload_n 0, 1) := by decide +kernel
theorem dX2_mayGet_10 : decode cX2_mayGet 10 = .ok (.getfield 28, 3) := by decide +kernel
theorem dX2_mayGet_13 : decode cX2_mayGet 13 = .ok (.iload_n 1, 1) := by decide +kernel
theorem dX2_mayGet_14 : decode cX2_mayGet 14 = .ok (.baload, 1) := by decide +kernel
theorem dX2_mayGet_15 : decode cX2_mayGet 15 = .ok (.ifCond .ne 17, 3) := by decide +kernel
theorem dX2_mayGet_18 : decode cX2_mayGet 18 = .ok (.aload_n 0, 1) := by decide +kernel
theorem dX2_mayGet_19 : decode cX2_mayGet 19 = .ok (.getfield 15, 3) := by decide +kernel
theorem dX2_mayGet_22 : decode cX2_mayGet 22 = .ok (.iload_n 1, 1) := by decide +kernel
theorem dX2_mayGet_23 : decode cX2_mayGet 23 = .ok (.iaload, 1) := by decide +kernel
theorem dX2_mayGet_24 : decode cX2_mayGet 24 = .ok (.iload_n 2, 1) := by decide +kernel
theorem dX2_mayGet_25 : decode cX2_mayGet 25 = .ok (.if_icmp .lt 7, 3) := by decide +kernel
theorem dX2_mayGet_28 : decode cX2_mayGet 28 = .ok (.iconst 1, 1) := by decide +kernel
theorem dX2_mayGet_29 : decode cX2_mayGet 29 = .ok (.goto 4, 3) := by decide +kernel
theorem dX2_mayGet_32 : decode cX2_mayGet 32 = .ok (.iconst 0, 1) := by decide +kernel
theorem dX2_mayGet_33 : decode cX2_mayGet 33 = .ok (.ireturn, 1) := by decide +kernel
theorem dX2_passOpenSecond_0 : decode cX2_passOpenSecond 0 = .ok (.aload_n 0, 1) := by decide +kernel
theorem dX2_passOpenSecond_1 : decode cX2_passOpenSecond 1 = .ok (.getfield 31, 3) := by decide +kernel
theorem dX2_passOpenSecond_4 : decode cX2_passOpenSecond 4 = .ok (.iload_n 1, 1) := by decide +kernel
theorem dX2_passOpenSecond_5 : decode cX2_passOpenSecond 5 = .ok (.baload, 1) := by decide +kernel
theorem dX2_passOpenSecond_6 : decode cX2_passOpenSecond 6 = .ok (.ifCond .eq 7, 3) := by decide +kernel
theorem dX2_passOpenSecond_9 : decode cX2_passOpenSecond 9 = .ok (.iconst 1, 1) := by decide +kernel
theorem dX2_passOpenSecond_10 : decode cX2_passOpenSecond 10 = .ok (.goto 4, 3) := by decide +kernel
theorem dX2_passOpenSecond_13 : decode cX2_passOpenSecond 13 = .ok (.iconst 0, 1) := by decide +kernel
theorem dX2_passOpenSecond_14 : decode cX2_passOpenSecond 14 = .ok (.istore_n 2, 1) := by decide +kernel
theorem dX2_passOpenSecond_15 : decode cX2_passOpenSecond 15 = .ok (.aload_n 0, 1) := by decide +kernel
theorem dX2_passOpenSecond_16 : decode cX2_passOpenSecond 16 = .ok (.getfield 21, 3) := by decide +kernel
theorem dX2_passOpenSecond_19 : decode cX2_passOpenSecond 19 = .ok (.iload_n 1, 1) := by decide +kernel
theorem dX2_passOpenSecond_20 : decode cX2_passOpenSecond 20 = .ok (.iload_n 2, 1) := by decide +kernel
theorem dX2_passOpenSecond_21 : decode cX2_passOpenSecond 21 = .ok (.aload_n 0, 1) := by decide +kernel
theorem dX2_passOpenSecond_22 : decode cX2_passOpenSecond 22 = .ok (.getfield 21, 3) := by decide +kernel
theorem dX2_passOpenSecond_25 : decode cX2_passOpenSecond 25 = .ok (.iload_n 1, 1) := by decide +kernel
theorem dX2_passOpenSecond_26 : decode cX2_passOpenSecond 26 = .ok (.iaload, 1) := by decide +kernel
theorem dX2_passOpenSecond_27 : decode cX2_passOpenSecond 27 = .ok (.iconst 1, 1) := by decide +kernel
theorem dX2_passOpenSecond_28 : decode cX2_passOpenSecond 28 = .ok (.isub, 1) := by decide +kernel
theorem dX2_passOpenSecond_29 : decode cX2_passOpenSecond 29 = .ok (.invokestatic 41, 3) := by decide +kernel
theorem dX2_passOpenSecond_32 : decode cX2_passOpenSecond 32 = .ok (.iastore, 1) := by decide +kernel
theorem dX2_passOpenSecond_33 : decode cX2_passOpenSecond 33 = .ok (.return_, 1) := by decide +kernel
theorem dX2_go_0 : decode cX2_go 0 = .ok (.aload_n 0, 1) := by decide +kernel
theorem dX2_go_1 : decode cX2_go 1 = .ok (.getfield 18, 3) := by decide +kernel
theorem dX2_go_4 : decode cX2_go 4 = .ok (.iload_n 1, 1) := by decide +kernel
theorem dX2_go_5 : decode cX2_go 5 = .ok (.iaload, 1) := by decide +kernel
theorem dX2_go_6 : decode cX2_go 6 = .ok (.iconst (-1), 1) := by decide +kernel
theorem dX2_go_7 : decode cX2_go 7 = .ok (.if_icmp .ne 11, 3) := by decide +kernel
theorem dX2_go_10 : decode cX2_go 10 = .ok (.iload_n 3, 1) := by decide +kernel
theorem dX2_go_11 : decode cX2_go 11 = .ok (.ifCond .eq 7, 3) := by decide +kernel
theorem dX2_go_14 : decode cX2_go 14 = .ok (.iconst 1, 1) := by decide +kernel
theorem dX2_go_15 : decode cX2_go 15 = .ok (.goto 4, 3) := by decide +kernel
theorem dX2_go_18 : decode cX2_go 18 = .ok (.iconst 0, 1) := by decide +kernel
theorem dX2_go_19 : decode cX2_go 19 = .ok (.istore 4, 2) := by decide +kernel
theorem dX2_go_21 : decode cX2_go 21 = .ok (.iload_n 2, 1) := by decide +kernel
theorem dX2_go_22 : decode cX2_go 22 = .ok (.ifCond .eq 18, 3) := by decide +kernel
theorem dX2_go_25 : decode cX2_go 25 = .ok (.iload 4, 2) := by decide +kernel
theorem dX2_go_27 : decode cX2_go 27 = .ok (.ifCond .ne 13, 3) := by decide +kernel
theorem dX2_go_30 : decode cX2_go 30 = .ok (.aload_n 0, 1) := by decide +kernel
theorem dX2_go_31 : decode cX2_go 31 = .ok (.getfield 18, 3) := by decide +kernel
theorem dX2_go_34 : decode cX2_go 34 = .ok (.iload_n 1, 1) := by decide +kernel
theorem dX2_go_35 : decode cX2_go 35 = .ok (.iconst 1, 1) := by decide +kernel
theorem dX2_go_36 : decode cX2_go 36 = .ok (.iastore, 1) := by decide +kernel
theorem dX2_go_37 : decode cX2_go 37 = .ok (.goto 24, 3) := by decide +kernel
theorem dX2_go_40 : decode cX2_go 40 = .ok (.iload_n 3, 1) := by decide +kernel
theorem dX2_go_41 : decode cX2_go 41 = .ok (.ifCond .eq 13, 3) := by decide +kernel
theorem dX2_go_44 : decode cX2_go 44 = .ok (.aload_n 0, 1) := by decide +kernel
theorem dX2_go_45 : decode cX2_go 45 = .ok (.getfield 18, 3) := by decide +kernel
theorem dX2_go_48 : decode cX2_go 48 = .ok (.iload_n 1, 1) := by decide +kernel
theorem dX2_go_49 : decode cX2_go 49 = .ok (.iconst (-1), 1) := by decide +kernel
theorem dX2_go_50 : decode cX2_go 50 = .ok (.iastore, 1) := by decide +kernel
theorem dX2_go_51 : decode cX2_go 51 = .ok (.goto 10, 3) := by decide +kernel
theorem dX2_go_54 : decode cX2_go 54 = .ok (.aload_n 0, 1) := by decide +kernel
theorem dX2_go_55 : decode cX2_go 55 = .ok (.getfield 18, 3) := by decide +kernel
theorem dX2_go_58 : decode cX2_go 58 = .ok (.iload_n 1, 1) := by decide +kernel
theorem dX2_go_59 : decode cX2_go 59 = .ok (.iconst 0, 1) := by decide +kernel
theorem dX2_go_60 : decode cX2_go 60 = .ok (.iastore, 1) := by decide +kernel
theorem dX2_go_61 : decode cX2_go 61 = .ok (.aload_n 0, 1) := by decide +kernel
theorem dX2_go_62 : decode cX2_go 62 = .ok (.getfield 9, 3) := by decide +kernel
theorem dX2_go_65 : decode cX2_go 65 = .ok (.iload_n 1, 1) := by decide +kernel
theorem dX2_go_66 : decode cX2_go 66 = .ok (.dup2, 1) := by decide +kernel
theorem dX2_go_67 : decode cX2_go 67 = .ok (.iaload, 1) := by decide +kernel
theorem dX2_go_68 : decode cX2_go 68 = .ok (.aload_n 0, 1) := by decide +kernel
theorem dX2_go_69 : decode cX2_go 69 = .ok (.getfield 18, 3) := by decide +kernel
theorem dX2_go_72 : decode cX2_go 72 = .ok (.iload_n 1, 1) := by decide +kernel
theorem dX2_go_73 : decode cX2_go 73 = .ok (.iaload, 1) := by decide +kernel
theorem dX2_go_74 : decode cX2_go 74 = .ok (.iadd, 1) := by decide +kernel
theorem dX2_go_75 : decode cX2_go 75 = .ok (.iastore, 1) := by decide +kernel
theorem dX2_go_76 : decode cX2_go 76 = .ok (.aload_n 0, 1) := by decide +kernel
theorem dX2_go_77 : decode cX2_go 77 = .ok (.dup, 1) := by decide +kernel
theorem dX2_go_78 : decode cX2_go 78 = .ok (.getfield 38, 3) := by decide +kernel
theorem dX2_go_81 : decode cX2_go 81 = .ok (.aload_n 0, 1) := by decide +kernel
theorem dX2_go_82 : decode cX2_go 82 = .ok (.getfield 18, 3) := by decide +kernel
theorem dX2_go_85 : decode cX2_go 85 = .ok (.iload_n 1, 1) := by decide +kernel
theorem dX2_go_86 : decode cX2_go 86 = .ok (.iaload, 1) := by decide +kernel
theorem dX2_go_87 : decode cX2_go 87 = .ok (.invokestatic 47, 3) := by decide +kernel
theorem dX2_go_90 : decode cX2_go 90 = .ok (.iadd, 1) := by decide +kernel
theorem dX2_go_91 : decode cX2_go 91 = .ok (.putfield 38, 3) := by decide +kernel
theorem dX2_go_94 : decode cX2_go 94 = .ok (.return_, 1) := by decide +kernel
set_option maxRecDepth 20000 in
theorem ggX3_init_X2_init : GoodIn wsX3_init wsX2_init := goodIn_r _ [26, 27, 2, 3, 28, 29, 30, 31, 32, 33, 34, 35, 36, 37, 38, 65, 66, 67, 68, 69, 70, 71, 72, 73] (by decide +kernel) (by decide +kernel)
set_option maxRecDepth 20000 in
theorem gX3_init_X2_init_n24 : GoodIn wsX3_init (wsX2_init) := ggX3_init_X2_init
set_option maxRecDepth 20000 in
theorem ggX3_init_X0_init : GoodIn wsX3_init wsX0_init := goodIn_r _ [40, 41, 2, 3, 28, 42, 43, 44, 45, 46, 47, 48, 49, 50, 51, 74, 75, 76, 77, 78, 79, 80, 81, 82, 83] (by decide +kernel) (by decide +kernel)
set_option maxRecDepth 20000 in
theorem gX3_init_X0_init_n31 : GoodIn wsX3_init (wsX0_init) := ggX3_init_X0_init
set_option maxRecDepth 20000 in
theorem ggX3_init_X1_init : GoodIn wsX3_init wsX1_init := goodIn_r _ [53, 54, 2, 3, 28, 55, 56, 57, 58, 59, 84, 85, 86, 87, 88] (by decide +kernel) (by decide +kernel)
set_option maxRecDepth 20000 in
theorem gX3_init_X1_init_n38 : GoodIn wsX3_init (wsX1_init) := ggX3_init_X1_init
theorem dX3_init_0 : decode cX3_init 0 = .ok (.aload_n 0, 1) := by decide +kernel
theorem dX3_init_1 : decode cX3_init 1 = .ok (.invokespecial 3, 3) := by decide +kernel
theorem dX3_init_4 : decode cX3_init 4 = .ok (.aload_n 0, 1) := by decide +kernel
theorem dX3_init_5 : decode cX3_init 5 = .ok (.iconst 2, 1) := by decide +kernel
theorem dX3_init_6 : decode cX3_init 6 = .ok (.bipush 20, 2) := by decide +kernel
theorem dX3_init_8 : decode cX3_init 8 = .ok (.iload_n 1, 1) := by decide +kernel
theorem dX3_init_9 : decode cX3_init 9 = .ok (.invokestatic 9, 3) := by decide +kernel
theorem dX3_init_12 : decode cX3_init 12 = .ok (.invokestatic 15, 3) := by decide +kernel
theorem dX3_init_15 : decode cX3_init 15 = .ok (.putfield 18, 3) := by decide +kernel
theorem dX3_init_18 : decode cX3_init 18 = .ok (.aload_n 0, 1) := by decide +kernel
theorem dX3_init_19 : decode cX3_init 19 = .ok (.new 22, 3) := by decide +kernel
theorem dX3_init_22 : decode cX3_init 22 = .ok (.dup, 1) := by decide +kernel
theorem dX3_init_23 : decode cX3_init 23 = .ok (.invokespecial 24, 3) := by decide +kernel
theorem dX3_init_26 : decode cX3_init 26 = .ok (.putfield 25, 3) := by decide +kernel
theorem dX3_init_29 : decode cX3_init 29 = .ok (.aload_n 0, 1) := by decide +kernel
theorem dX3_init_30 : decode cX3_init 30 = .ok (.new 29, 3) := by decide +kernel
theorem dX3_init_33 : decode cX3_init 33 = .ok (.dup, 1) := by decide +kernel
theorem dX3_init_34 : decode cX3_init 34 = .ok (.invokespecial 31, 3) := by decide +kernel
theorem dX3_init_37 : decode cX3_init 37 = .ok (.putfield 32, 3) := by decide +kernel
theorem dX3_init_40 : decode cX3_init 40 = .ok (.aload_n 0, 1) := by decide +kernel
theorem dX3_init_41 : decode cX3_init 41 = .ok (.new 36, 3) := by decide +kernel
theorem dX3_init_44 : decode cX3_init 44 = .ok (.dup, 1) := by decide +kernel
theorem dX3_init_45 : decode cX3_init 45 = .ok (.invokespecial 38, 3) := by decide +kernel
theorem dX3_init_48 : decode cX3_init 48 = .ok (.putfield 39, 3) := by decide +kernel
theorem dX3_init_51 : decode cX3_init 51 = .ok (.aload_n 0, 1) := by decide +kernel
theorem dX3_init_52 : decode cX3_init 52 = .ok (.iconst 0, 1) := by decide +kernel
theorem dX3_init_53 : decode cX3_init 53 = .ok (.putfield 43, 3) := by decide +kernel
theorem dX3_init_56 : decode cX3_init 56 = .ok (.return_, 1) := by decide +kernel
set_option maxRecDepth 20000 in
theorem ggX3_lift_X3_refuseOutside : GoodIn wsX3_lift wsX3_refuseOutside := goodIn_ca (goodIn_r _ [8, 9, 10] (by decide +kernel) (by decide +kernel)) (goodIn_sub (fun _ h => List.mem_cons_of_mem _ (List.mem_append_right _ h)) (by decide +kernel))
set_option maxRecDepth 20000 in
theorem gX3_lift_X3_refuseOutside : GoodIn wsX3_lift (va_wsS RX3 46 yX3_refuseOutside wsX3_refuseOutside) := goodIn_app (goodIn_of _ (by decide +kernel)) ggX3_lift_X3_refuseOutside
set_option maxRecDepth 20000 in
theorem ggX3_lift_X2_add : GoodIn wsX3_lift wsX2_add := goodIn_r _ [14, 15, 16, 17, 23, 24, 25, 26, 27, 28, 29, 30, 31] (by decide +kernel) (by decide +kernel)
set_option maxRecDepth 20000 in
theorem gX3_lift_X2_add_n60 : GoodIn wsX3_lift (wsX2_add) := ggX3_lift_X2_add
theorem dX3_lift_0 : decode cX3_lift 0 = .ok (.iload_n 1, 1) := by decide +kernel
theorem dX3_lift_1 : decode cX3_lift 1 = .ok (.iconst 0, 1) := by decide +kernel
theorem dX3_lift_2 : decode cX3_lift 2 = .ok (.aload_n 0, 1) := by decide +kernel
theorem dX3_lift_3 : decode cX3_lift 3 = .ok (.getfield 18, 3) := by decide +kernel
theorem dX3_lift_6 : decode cX3_lift 6 = .ok (.iconst 1, 1) := by decide +kernel
theorem dX3_lift_7 : decode cX3_lift 7 = .ok (.isub, 1) := by decide +kernel
theorem dX3_lift_8 : decode cX3_lift 8 = .ok (.invokestatic 46, 3) := by decide +kernel
theorem dX3_lift_11 : decode cX3_lift 11 = .ok (.iload_n 2, 1) := by decide +kernel
theorem dX3_lift_12 : decode cX3_lift 12 = .ok (.iconst 1, 1) := by decide +kernel
theorem dX3_lift_13 : decode cX3_lift 13 = .ok (.bipush 50, 2) := by decide +kernel
theorem dX3_lift_15 : decode cX3_lift 15 = .ok (.invokestatic 46, 3) := by decide +kernel
theorem dX3_lift_18 : decode cX3_lift 18 = .ok (.aload_n 0, 1) := by decide +kernel
theorem dX3_lift_19 : decode cX3_lift 19 = .ok (.getfield 25, 3) := by decide +kernel
theorem dX3_lift_22 : decode cX3_lift 22 = .ok (.getfield 50, 3) := by decide +kernel
theorem dX3_lift_25 : decode cX3_lift 25 = .ok (.iconst 4, 1) := by decide +kernel
theorem dX3_lift_26 : decode cX3_lift 26 = .ok (.if_icmp .lt 13, 3) := by decide +kernel
theorem dX3_lift_29 : decode cX3_lift 29 = .ok (.new 53, 3) := by decide +kernel
theorem dX3_lift_32 : decode cX3_lift 32 = .ok (.dup, 1) := by decide +kernel
theorem dX3_lift_33 : decode cX3_lift 33 = .ok (.ldc 55, 2) := by decide +kernel
theorem dX3_lift_35 : decode cX3_lift 35 = .ok (.invokespecial 57, 3) := by decide +kernel
theorem dX3_lift_38 : decode cX3_lift 38 = .ok (.athrow, 1) := by decide +kernel
theorem dX3_lift_39 : decode cX3_lift 39 = .ok (.aload_n 0, 1) := by decide +kernel
theorem dX3_lift_40 : decode cX3_lift 40 = .ok (.getfield 25, 3) := by decide +kernel
theorem dX3_lift_43 : decode cX3_lift 43 = .ok (.iload_n 1, 1) := by decide +kernel
theorem dX3_lift_44 : decode cX3_lift 44 = .ok (.iload_n 2, 1) := by decide +kernel
theorem dX3_lift_45 : decode cX3_lift 45 = .ok (.invokevirtual 60, 3) := by decide +kernel
theorem dX3_lift_48 : decode cX3_lift 48 = .ok (.ireturn, 1) := by decide +kernel
set_option maxRecDepth 20000 in
theorem ggX3_call_X3_refuseOutside : GoodIn wsX3_call wsX3_refuseOutside := goodIn_ca (goodIn_r _ [11, 1, 2] (by decide +kernel) (by decide +kernel)) (goodIn_sub (fun _ h => List.mem_cons_of_mem _ (List.mem_append_left _ (List.mem_append_right _ h))) (by decide +kernel))
set_option maxRecDepth 20000 in
theorem gX3_call_X3_refuseOutside : GoodIn wsX3_call (va_wsS RX3 46 yX3_refuseOutside wsX3_refuseOutside) := goodIn_app (goodIn_of _ (by decide +kernel)) ggX3_call_X3_refuseOutside
set_option maxRecDepth 20000 in
theorem ggX3_call_X0_add : GoodIn wsX3_call wsX0_add := goodIn_r _ [15, 16, 17, 18, 19, 20, 21, 22, 23, 24, 25, 47, 48, 49, 50, 51, 52, 53, 54, 55, 56] (by decide +kernel) (by decide +kernel)
set_option maxRecDepth 20000 in
theorem gX3_call_X0_add_n71 : GoodIn wsX3_call (wsX0_add) := ggX3_call_X0_add
set_option maxRecDepth 20000 in
theorem ggX3_call_X3_nearestLift : GoodIn wsX3_call wsX3_nearestLift := goodIn_r _ [29, 30, 31, 32, 33, 34, 35, 36, 37, 38, 39, 40, 41, 42, 43, 44, 45, 46, 57, 58, 59, 60, 61, 62, 63, 64, 65] (by decide +kernel) (by decide +kernel)
set_option maxRecDepth 20000 in
theorem gX3_call_X3_nearestLift : GoodIn wsX3_call (wsV RX3 78 RX3 yX3_nearestLift wsX3_nearestLift) := goodIn_app (goodIn_of _ (by decide +kernel)) ggX3_call_X3_nearestLift
theorem dX3_call_0 : decode cX3_call 0 = .ok (.iload_n 1, 1) := by decide +kernel
theorem dX3_call_1 : decode cX3_call 1 = .ok (.iconst 0, 1) := by decide +kernel
theorem dX3_call_2 : decode cX3_call 2 = .ok (.aload_n 0, 1) := by decide +kernel
theorem dX3_call_3 : decode cX3_call 3 = .ok (.getfield 18, 3) := by decide +kernel
theorem dX3_call_6 : decode cX3_call 6 = .ok (.iconst 1, 1) := by decide +kernel
theorem dX3_call_7 : decode cX3_call 7 = .ok (.isub, 1) := by decide +kernel
theorem dX3_call_8 : decode cX3_call 8 = .ok (.invokestatic 46, 3) := by decide +kernel
theorem dX3_call_11 : decode cX3_call 11 = .ok (.iload_n 2, 1) := by decide +kernel
theorem dX3_call_12 : decode cX3_call 12 = .ok (.iconst 0, 1) := by decide +kernel
theorem dX3_call_13 : decode cX3_call 13 = .ok (.aload_n 0, 1) := by decide +kernel
theorem dX3_call_14 : decode cX3_call 14 = .ok (.getfield 18, 3) := by decide +kernel
theorem dX3_call_17 : decode cX3_call 17 = .ok (.iconst 1, 1) := by decide +kernel
theorem dX3_call_18 : decode cX3_call 18 = .ok (.isub, 1) := by decide +kernel
theorem dX3_call_19 : decode cX3_call 19 = .ok (.invokestatic 46, 3) := by decide +kernel
theorem dX3_call_22 : decode cX3_call 22 = .ok (.iload_n 3, 1) := by decide +kernel
theorem dX3_call_23 : decode cX3_call 23 = .ok (.iconst 1, 1) := by decide +kernel
theorem dX3_call_24 : decode cX3_call 24 = .ok (.iconst 3, 1) := by decide +kernel
theorem dX3_call_25 : decode cX3_call 25 = .ok (.invokestatic 46, 3) := by decide +kernel
theorem dX3_call_28 : decode cX3_call 28 = .ok (.iload 4, 2) := by decide +kernel
theorem dX3_call_30 : decode cX3_call 30 = .ok (.iconst 1, 1) := by decide +kernel
theorem dX3_call_31 : decode cX3_call 31 = .ok (.bipush 50, 2) := by decide +kernel
theorem dX3_call_33 : decode cX3_call 33 = .ok (.invokestatic 46, 3) := by decide +kernel
theorem dX3_call_36 : decode cX3_call 36 = .ok (.iload_n 1, 1) := by decide +kernel
theorem dX3_call_37 : decode cX3_call 37 = .ok (.iload_n 2, 1) := by decide +kernel
theorem dX3_call_38 : decode cX3_call 38 = .ok (.if_icmp .ne 13, 3) := by decide +kernel
theorem dX3_call_41 : decode cX3_call 41 = .ok (.new 63, 3) := by decide +kernel
theorem dX3_call_44 : decode cX3_call 44 = .ok (.dup, 1) := by decide +kernel
theorem dX3_call_45 : decode cX3_call 45 = .ok (.ldc 65, 2) := by decide +kernel
theorem dX3_call_47 : decode cX3_call 47 = .ok (.invokespecial 67, 3) := by decide +kernel
theorem dX3_call_50 : decode cX3_call 50 = .ok (.athrow, 1) := by decide +kernel
theorem dX3_call_51 : decode cX3_call 51 = .ok (.aload_n 0, 1) := by decide +kernel
theorem dX3_call_52 : decode cX3_call 52 = .ok (.getfield 32, 3) := by decide +kernel
theorem dX3_call_55 : decode cX3_call 55 = .ok (.getfield 68, 3) := by decide +kernel
theorem dX3_call_58 : decode cX3_call 58 = .ok (.bipush 24, 2) := by decide +kernel
theorem dX3_call_60 : decode cX3_call 60 = .ok (.if_icmp .lt 13, 3) := by decide +kernel
theorem dX3_call_63 : decode cX3_call 63 = .ok (.new 53, 3) := by decide +kernel
theorem dX3_call_66 : decode cX3_call 66 = .ok (.dup, 1) := by decide +kernel
theorem dX3_call_67 : decode cX3_call 67 = .ok (.ldc 69, 2) := by decide +kernel
theorem dX3_call_69 : decode cX3_call 69 = .ok (.invokespecial 57, 3) := by decide +kernel
theorem dX3_call_72 : decode cX3_call 72 = .ok (.athrow, 1) := by decide +kernel
theorem dX3_call_73 : decode cX3_call 73 = .ok (.aload_n 0, 1) := by decide +kernel
theorem dX3_call_74 : decode cX3_call 74 = .ok (.getfield 32, 3) := by decide +kernel
theorem dX3_call_77 : decode cX3_call 77 = .ok (.iload_n 1, 1) := by decide +kernel
theorem dX3_call_78 : decode cX3_call 78 = .ok (.iload_n 2, 1) := by decide +kernel
theorem dX3_call_79 : decode cX3_call 79 = .ok (.iload_n 3, 1) := by decide +kernel
theorem dX3_call_80 : decode cX3_call 80 = .ok (.iload 4, 2) := by decide +kernel
theorem dX3_call_82 : decode cX3_call 82 = .ok (.aload_n 0, 1) := by decide +kernel
theorem dX3_call_83 : decode cX3_call 83 = .ok (.getfield 43, 3) := by decide +kernel
theorem dX3_call_86 : decode cX3_call 86 = .ok (.invokevirtual 71, 3) := by decide +kernel
theorem dX3_call_89 : decode cX3_call 89 = .ok (.istore 5, 2) := by decide +kernel
theorem dX3_call_91 : decode cX3_call 91 = .ok (.aload_n 0, 1) := by decide +kernel
theorem dX3_call_92 : decode cX3_call 92 = .ok (.getfield 32, 3) := by decide +kernel
theorem dX3_call_95 : decode cX3_call 95 = .ok (.getfield 74, 3) := by decide +kernel
theorem dX3_call_98 : decode cX3_call 98 = .ok (.iload 5, 2) := by decide +kernel
theorem dX3_call_100 : decode cX3_call 100 = .ok (.aload_n 0, 1) := by decide +kernel
theorem dX3_call_101 : decode cX3_call 101 = .ok (.iload_n 1, 1) := by decide +kernel
theorem dX3_call_102 : decode cX3_call 102 = .ok (.iload 4, 2) := by decide +kernel
theorem dX3_call_104 : decode cX3_call 104 = .ok (.invokevirtual 78, 3) := by decide +kernel
theorem dX3_call_107 : decode cX3_call 107 = .ok (.iastore, 1) := by decide +kernel
theorem dX3_call_108 : decode cX3_call 108 = .ok (.iload 5, 2) := by decide +kernel
theorem dX3_call_110 : decode cX3_call 110 = .ok (.ireturn, 1) := by decide +kernel
set_option maxRecDepth 20000 in
theorem ggX3_step_X3_refuseOutside : GoodIn wsX3_step wsX3_refuseOutside := goodIn_ca (goodIn_r _ [5, 6, 7] (by decide +kernel) (by decide +kernel)) (goodIn_sub (fun _ h => List.mem_cons_of_mem _ (List.mem_append_right _ h)) (by decide +kernel))
set_option maxRecDepth 20000 in
theorem gX3_step_X3_refuseOutside : GoodIn wsX3_step (va_wsS RX3 46 yX3_refuseOutside wsX3_refuseOutside) := goodIn_app (goodIn_of _ (by decide +kernel)) ggX3_step_X3_refuseOutside
set_option maxRecDepth 20000 in
theorem ggX3_step_X3_passSecond : GoodIn wsX3_step wsX3_passSecond := goodIn_r _ [11, 12, 13, 14, 15, 16, 4, 17, 18, 19, 20, 21, 22, 23, 24, 25, 26, 27, 28, 29, 30, 31, 32, 33, 34, 35, 36, 37, 38, 39, 40, 41, 42, 43, 44, 45, 46, 47, 48, 49, 50, 51, 52, 53, 54, 55, 56, 1, 57, 58, 59, 60, 61, 62, 63, 64, 65, 66, 67, 68, 69, 70, 71, 72, 73, 74, 75, 76, 77, 78, 79, 80, 81, 82, 83, 84, 85, 86, 87, 88, 89, 90, 91, 92, 93, 94, 95, 96, 97, 98, 104, 105, 106, 107, 108, 109, 110, 111, 112, 113, 114, 115, 116, 117, 118, 119, 120, 121, 122, 99, 100, 101, 102, 103] (by decide +kernel) (by decide +kernel)
set_option maxRecDepth 20000 in
theorem gX3_step_X3_passSecond : GoodIn wsX3_step (wsV RX3 82 RX3 yX3_passSecond wsX3_passSecond) := goodIn_app (goodIn_of _ (by decide +kernel)) ggX3_step_X3_passSecond
theorem dX3_step_0 : decode cX3_step 0 = .ok (.iload_n 1, 1) := by decide +kernel
theorem dX3_step_1 : decode cX3_step 1 = .ok (.iconst 0, 1) := by decide +kernel
theorem dX3_step_2 : decode cX3_step 2 = .ok (.sipush 200, 3) := by decide +kernel
theorem dX3_step_5 : decode cX3_step 5 = .ok (.invokestatic 46, 3) := by decide +kernel
theorem dX3_step_8 : decode cX3_step 8 = .ok (.aload_n 0, 1) := by decide +kernel
theorem dX3_step_9 : decode cX3_step 9 = .ok (.getfield 39, 3) := by decide +kernel
theorem dX3_step_12 : decode cX3_step 12 = .ok (.getfield 81, 3) := by decide +kernel
theorem dX3_step_15 : decode cX3_step 15 = .ok (.istore_n 2, 1) := by decide +kernel
theorem dX3_step_16 : decode cX3_step 16 = .ok (.iconst 0, 1) := by decide +kernel
theorem dX3_step_17 : decode cX3_step 17 = .ok (.istore_n 3, 1) := by decide +kernel
theorem dX3_step_18 : decode cX3_step 18 = .ok (.iload_n 3, 1) := by decide +kernel
theorem dX3_step_19 : decode cX3_step 19 = .ok (.iload_n 1, 1) := by decide +kernel
theorem dX3_step_20 : decode cX3_step 20 = .ok (.if_icmp .ge 13, 3) := by decide +kernel
theorem dX3_step_23 : decode cX3_step 23 = .ok (.aload_n 0, 1) := by decide +kernel
theorem dX3_step_24 : decode cX3_step 24 = .ok (.invokevirtual 82, 3) := by decide +kernel
theorem dX3_step_27 : decode cX3_step 27 = .ok (.iinc 3 1, 3) := by decide +kernel
theorem dX3_step_30 : decode cX3_step 30 = .ok (.goto (-12), 3) := by decide +kernel
theorem dX3_step_33 : decode cX3_step 33 = .ok (.aload_n 0, 1) := by decide +kernel
theorem dX3_step_34 : decode cX3_step 34 = .ok (.getfield 39, 3) := by decide +kernel
theorem dX3_step_37 : decode cX3_step 37 = .ok (.getfield 81, 3) := by decide +kernel
theorem dX3_step_40 : decode cX3_step 40 = .ok (.iload_n 2, 1) := by decide +kernel
theorem dX3_step_41 : decode cX3_step 41 = .ok (.isub, 1) := by decide +kernel
theorem dX3_step_42 : decode cX3_step 42 = .ok (.ireturn, 1) := by decide +kernel
set_option maxRecDepth 20000 in
theorem ggX3_event_X3_refuseOutside : GoodIn wsX3_event wsX3_refuseOutside := goodIn_ca (goodIn_r _ [7, 8, 9] (by decide +kernel) (by decide +kernel)) (goodIn_sub (fun _ h => List.mem_cons_of_mem _ (List.mem_append_right _ h)) (by decide +kernel))
set_option maxRecDepth 20000 in
theorem gX3_event_X3_refuseOutside : GoodIn wsX3_event (va_wsS RX3 46 yX3_refuseOutside wsX3_refuseOutside) := goodIn_app (goodIn_of _ (by decide +kernel)) ggX3_event_X3_refuseOutside
theorem dX3_event_0 : decode cX3_event 0 = .ok (.iload_n 1, 1) := by decide +kernel
theorem dX3_event_1 : decode cX3_event 1 = .ok (.ifCond .lt 14, 3) := by decide +kernel
theorem dX3_event_4 : decode cX3_event 4 = .ok (.iload_n 1, 1) := by decide +kernel
theorem dX3_event_5 : decode cX3_event 5 = .ok (.aload_n 0, 1) := by decide +kernel
theorem dX3_event_6 : decode cX3_event 6 = .ok (.getfield 39, 3) := by decide +kernel
theorem dX3_event_9 : decode cX3_event 9 = .ok (.getfield 81, 3) := by decide +kernel
theorem dX3_event_12 : decode cX3_event 12 = .ok (.if_icmp .lt 13, 3) := by decide +kernel
theorem dX3_event_15 : decode cX3_event 15 = .ok (.new 85, 3) := by decide +kernel
theorem dX3_event_18 : decode cX3_event 18 = .ok (.dup, 1) := by decide +kernel
theorem dX3_event_19 : decode cX3_event 19 = .ok (.ldc 87, 2) := by decide +kernel
theorem dX3_event_21 : decode cX3_event 21 = .ok (.invokespecial 89, 3) := by decide +kernel
theorem dX3_event_24 : decode cX3_event 24 = .ok (.athrow, 1) := by decide +kernel
theorem dX3_event_25 : decode cX3_event 25 = .ok (.iload_n 2, 1) := by decide +kernel
theorem dX3_event_26 : decode cX3_event 26 = .ok (.iconst 0, 1) := by decide +kernel
theorem dX3_event_27 : decode cX3_event 27 = .ok (.iconst 3, 1) := by decide +kernel
theorem dX3_event_28 : decode cX3_event 28 = .ok (.invokestatic 46, 3) := by decide +kernel
theorem dX3_event_31 : decode cX3_event 31 = .ok (.iload_n 2, 1) := by decide +kernel
theorem dX3_event_32 : decode cX3_event 32 = .ok (.tableswitch 58 0 2 #[28, 38, 48], 28) := by decide +kernel
theorem dX3_event_60 : decode cX3_event 60 = .ok (.aload_n 0, 1) := by decide +kernel
theorem dX3_event_61 : decode cX3_event 61 = .ok (.getfield 39, 3) := by decide +kernel
theorem dX3_event_64 : decode cX3_event 64 = .ok (.getfield 90, 3) := by decide +kernel
theorem dX3_event_67 : decode cX3_event 67 = .ok (.iload_n 1, 1) := by decide +kernel
theorem dX3_event_68 : decode cX3_event 68 = .ok (.iaload, 1) := by decide +kernel
theorem dX3_event_69 : decode cX3_event 69 = .ok (.ireturn, 1) := by decide +kernel
theorem dX3_event_70 : decode cX3_event 70 = .ok (.aload_n 0, 1) := by decide +kernel
theorem dX3_event_71 : decode cX3_event 71 = .ok (.getfield 39, 3) := by decide +kernel
theorem dX3_event_74 : decode cX3_event 74 = .ok (.getfield 93, 3) := by decide +kernel
theorem dX3_event_77 : decode cX3_event 77 = .ok (.iload_n 1, 1) := by decide +kernel
theorem dX3_event_78 : decode cX3_event 78 = .ok (.iaload, 1) := by decide +kernel
theorem dX3_event_79 : decode cX3_event 79 = .ok (.ireturn, 1) := by decide +kernel
theorem dX3_event_80 : decode cX3_event 80 = .ok (.aload_n 0, 1) := by decide +kernel
theorem dX3_event_81 : decode cX3_event 81 = .ok (.getfield 39, 3) := by decide +kernel
theorem dX3_event_84 : decode cX3_event 84 = .ok (.getfield 96, 3) := by decide +kernel
theorem dX3_event_87 : decode cX3_event 87 = .ok (.iload_n 1, 1) := by decide +kernel
theorem dX3_event_88 : decode cX3_event 88 = .ok (.iaload, 1) := by decide +kernel
theorem dX3_event_89 : decode cX3_event 89 = .ok (.ireturn, 1) := by decide +kernel
theorem dX3_event_90 : decode cX3_event 90 = .ok (.aload_n 0, 1) := by decide +kernel
theorem dX3_event_91 : decode cX3_event 91 = .ok (.getfield 39, 3) := by decide +kernel
theorem dX3_event_94 : decode cX3_event 94 = .ok (.getfield 99, 3) := by decide +kernel
theorem dX3_event_97 : decode cX3_event 97 = .ok (.iload_n 1, 1) := by decide +kernel
theorem dX3_event_98 : decode cX3_event 98 = .ok (.iaload, 1) := by decide +kernel
theorem dX3_event_99 : decode cX3_event 99 = .ok (.ireturn, 1) := by decide +kernel
set_option maxRecDepth 20000 in
theorem ggX3_level_X3_refuseNoLift : GoodIn wsX3_level wsX3_refuseNoLift := goodIn_ca (goodIn_r _ [9, 10, 11, 4, 18, 19, 20, 21, 22, 23, 24, 25, 26, 27, 28, 29, 30, 31] (by decide +kernel) (by decide +kernel)) (goodIn_sub (fun _ h => List.mem_cons_of_mem _ (List.mem_append_right _ h)) (by decide +kernel))
set_option maxRecDepth 20000 in
theorem gX3_level_X3_refuseNoLift : GoodIn wsX3_level (wsV RX3 107 RX3 yX3_refuseNoLift wsX3_refuseNoLift) := goodIn_app (goodIn_of _ (by decide +kernel)) ggX3_level_X3_refuseNoLift
theorem dX3_level_0 : decode cX3_level 0 = .ok (.iload_n 1, 1) := by decide +kernel
theorem dX3_level_1 : decode cX3_level 1 = .ok (.ifCond .lt 8, 3) := by decide +kernel
theorem dX3_level_4 : decode cX3_level 4 = .ok (.iload_n 1, 1) := by decide +kernel
theorem dX3_level_5 : decode cX3_level 5 = .ok (.iconst 4, 1) := by decide +kernel
theorem dX3_level_6 : decode cX3_level 6 = .ok (.if_icmp .lt 13, 3) := by decide +kernel
theorem dX3_level_9 : decode cX3_level 9 = .ok (.new 102, 3) := by decide +kernel
theorem dX3_level_12 : decode cX3_level 12 = .ok (.dup, 1) := by decide +kernel
theorem dX3_level_13 : decode cX3_level 13 = .ok (.ldc 104, 2) := by decide +kernel
theorem dX3_level_15 : decode cX3_level 15 = .ok (.invokespecial 106, 3) := by decide +kernel
theorem dX3_level_18 : decode cX3_level 18 = .ok (.athrow, 1) := by decide +kernel
theorem dX3_level_19 : decode cX3_level 19 = .ok (.aload_n 0, 1) := by decide +kernel
theorem dX3_level_20 : decode cX3_level 20 = .ok (.iload_n 1, 1) := by decide +kernel
theorem dX3_level_21 : decode cX3_level 21 = .ok (.invokevirtual 107, 3) := by decide +kernel
theorem dX3_level_24 : decode cX3_level 24 = .ok (.aload_n 0, 1) := by decide +kernel
theorem dX3_level_25 : decode cX3_level 25 = .ok (.getfield 25, 3) := by decide +kernel
theorem dX3_level_28 : decode cX3_level 28 = .ok (.getfield 111, 3) := by decide +kernel
theorem dX3_level_31 : decode cX3_level 31 = .ok (.iload_n 1, 1) := by decide +kernel
theorem dX3_level_32 : decode cX3_level 32 = .ok (.iaload, 1) := by decide +kernel
theorem dX3_level_33 : decode cX3_level 33 = .ok (.ireturn, 1) := by decide +kernel
set_option maxRecDepth 20000 in
theorem ggX3_told_X3_refuseNoLift : GoodIn wsX3_told wsX3_refuseNoLift := goodIn_ca (goodIn_r _ [7, 8, 9, 2, 49, 50, 51, 52, 53, 54, 55, 56, 57, 58, 59, 60, 61, 62] (by decide +kernel) (by decide +kernel)) (goodIn_sub (fun _ h => List.mem_cons_of_mem _ (List.mem_append_left _ (List.mem_append_right _ h))) (by decide +kernel))
set_option maxRecDepth 20000 in
theorem gX3_told_X3_refuseNoLift : GoodIn wsX3_told (wsV RX3 107 RX3 yX3_refuseNoLift wsX3_refuseNoLift) := goodIn_app (goodIn_of _ (by decide +kernel)) ggX3_told_X3_refuseNoLift
set_option maxRecDepth 20000 in
theorem ggX3_told_X3_refuseOutside : GoodIn wsX3_told wsX3_refuseOutside := goodIn_ca (goodIn_r _ [12, 13, 14] (by decide +kernel) (by decide +kernel)) (goodIn_sub (fun _ h => List.mem_cons_of_mem _ (List.mem_append_right _ h)) (by decide +kernel))
set_option maxRecDepth 20000 in
theorem gX3_told_X3_refuseOutside : GoodIn wsX3_told (va_wsS RX3 46 yX3_refuseOutside wsX3_refuseOutside) := goodIn_app (goodIn_of _ (by decide +kernel)) ggX3_told_X3_refuseOutside
set_option maxRecDepth 20000 in
theorem ggX3_told_X0_loadAboard : GoodIn wsX3_told wsX0_loadAboard := goodIn_r _ [18, 19, 20, 21, 16, 22, 23, 24, 25, 26, 27, 28, 29, 30, 31, 63, 64, 65, 66, 67, 68, 69, 70, 71, 72] (by decide +kernel) (by decide +kernel)
set_option maxRecDepth 20000 in
theorem gX3_told_X0_loadAboard_n114 : GoodIn wsX3_told (wsX0_loadAboard) := ggX3_told_X0_loadAboard
set_option maxRecDepth 20000 in
theorem ggX3_told_X0_number : GoodIn wsX3_told wsX0_number := goodIn_r _ [34, 35, 36, 37, 16, 38, 23, 26, 27, 28, 29, 30, 31, 39, 40, 41, 42, 43, 44, 45, 63, 64, 65, 66, 67, 68, 69, 70, 71, 72] (by decide +kernel) (by decide +kernel)
set_option maxRecDepth 20000 in
theorem gX3_told_X0_number_n124 : GoodIn wsX3_told (wsX0_number) := ggX3_told_X0_number
set_option maxRecDepth 20000 in
theorem ggX3_told_X3_asNumber : GoodIn wsX3_told wsX3_asNumber := goodIn_r _ [48] (by decide +kernel) (by decide +kernel)
set_option maxRecDepth 20000 in
theorem gX3_told_X3_asNumber : GoodIn wsX3_told (va_wsS RX3 131 yX3_asNumber wsX3_asNumber) := goodIn_app (goodIn_of _ (by decide +kernel)) ggX3_told_X3_asNumber
theorem dX3_told_0 : decode cX3_told 0 = .ok (.aload_n 0, 1) := by decide +kernel
theorem dX3_told_1 : decode cX3_told 1 = .ok (.iload_n 1, 1) := by decide +kernel
theorem dX3_told_2 : decode cX3_told 2 = .ok (.invokevirtual 107, 3) := by decide +kernel
theorem dX3_told_5 : decode cX3_told 5 = .ok (.iload_n 2, 1) := by decide +kernel
theorem dX3_told_6 : decode cX3_told 6 = .ok (.iconst 0, 1) := by decide +kernel
theorem dX3_told_7 : decode cX3_told 7 = .ok (.bipush 7, 2) := by decide +kernel
theorem dX3_told_9 : decode cX3_told 9 = .ok (.invokestatic 46, 3) := by decide +kernel
theorem dX3_told_12 : decode cX3_told 12 = .ok (.iload_n 2, 1) := by decide +kernel
theorem dX3_told_13 : decode cX3_told 13 = .ok (.tableswitch 118 0 6 #[43, 52, 62, 72, 82, 92, 105], 43) := by decide +kernel
theorem dX3_told_56 : decode cX3_told 56 = .ok (.aload_n 0, 1) := by decide +kernel
theorem dX3_told_57 : decode cX3_told 57 = .ok (.getfield 32, 3) := by decide +kernel
theorem dX3_told_60 : decode cX3_told 60 = .ok (.iload_n 1, 1) := by decide +kernel
theorem dX3_told_61 : decode cX3_told 61 = .ok (.invokevirtual 114, 3) := by decide +kernel
theorem dX3_told_64 : decode cX3_told 64 = .ok (.ireturn, 1) := by decide +kernel
theorem dX3_told_65 : decode cX3_told 65 = .ok (.aload_n 0, 1) := by decide +kernel
theorem dX3_told_66 : decode cX3_told 66 = .ok (.getfield 25, 3) := by decide +kernel
theorem dX3_told_69 : decode cX3_told 69 = .ok (.getfield 118, 3) := by decide +kernel
theorem dX3_told_72 : decode cX3_told 72 = .ok (.iload_n 1, 1) := by decide +kernel
theorem dX3_told_73 : decode cX3_told 73 = .ok (.iaload, 1) := by decide +kernel
theorem dX3_told_74 : decode cX3_told 74 = .ok (.ireturn, 1) := by decide +kernel
theorem dX3_told_75 : decode cX3_told 75 = .ok (.aload_n 0, 1) := by decide +kernel
theorem dX3_told_76 : decode cX3_told 76 = .ok (.getfield 25, 3) := by decide +kernel
theorem dX3_told_79 : decode cX3_told 79 = .ok (.getfield 121, 3) := by decide +kernel
theorem dX3_told_82 : decode cX3_told 82 = .ok (.iload_n 1, 1) := by decide +kernel
theorem dX3_told_83 : decode cX3_told 83 = .ok (.iaload, 1) := by decide +kernel
theorem dX3_told_84 : decode cX3_told 84 = .ok (.ireturn, 1) := by decide +kernel
theorem dX3_told_85 : decode cX3_told 85 = .ok (.aload_n 0, 1) := by decide +kernel
theorem dX3_told_86 : decode cX3_told 86 = .ok (.getfield 32, 3) := by decide +kernel
theorem dX3_told_89 : decode cX3_told 89 = .ok (.iconst 1, 1) := by decide +kernel
theorem dX3_told_90 : decode cX3_told 90 = .ok (.iload_n 1, 1) := by decide +kernel
theorem dX3_told_91 : decode cX3_told 91 = .ok (.invokevirtual 124, 3) := by decide +kernel
theorem dX3_told_94 : decode cX3_told 94 = .ok (.ireturn, 1) := by decide +kernel
theorem dX3_told_95 : decode cX3_told 95 = .ok (.aload_n 0, 1) := by decide +kernel
theorem dX3_told_96 : decode cX3_told 96 = .ok (.getfield 32, 3) := by decide +kernel
theorem dX3_told_99 : decode cX3_told 99 = .ok (.iconst 0, 1) := by decide +kernel
theorem dX3_told_100 : decode cX3_told 100 = .ok (.iload_n 1, 1) := by decide +kernel
theorem dX3_told_101 : decode cX3_told 101 = .ok (.invokevirtual 124, 3) := by decide +kernel
theorem dX3_told_104 : decode cX3_told 104 = .ok (.ireturn, 1) := by decide +kernel
theorem dX3_told_105 : decode cX3_told 105 = .ok (.aload_n 0, 1) := by decide +kernel
theorem dX3_told_106 : decode cX3_told 106 = .ok (.getfield 25, 3) := by decide +kernel
theorem dX3_told_109 : decode cX3_told 109 = .ok (.getfield 127, 3) := by decide +kernel
theorem dX3_told_112 : decode cX3_told 112 = .ok (.iload_n 1, 1) := by decide +kernel
theorem dX3_told_113 : decode cX3_told 113 = .ok (.baload, 1) := by decide +kernel
theorem dX3_told_114 : decode cX3_told 114 = .ok (.invokestatic 131, 3) := by decide +kernel
theorem dX3_told_117 : decode cX3_told 117 = .ok (.ireturn, 1) := by decide +kernel
theorem dX3_told_118 : decode cX3_told 118 = .ok (.aload_n 0, 1) := by decide +kernel
theorem dX3_told_119 : decode cX3_told 119 = .ok (.getfield 25, 3) := by decide +kernel
theorem dX3_told_122 : decode cX3_told 122 = .ok (.getfield 135, 3) := by decide +kernel
theorem dX3_told_125 : decode cX3_told 125 = .ok (.iload_n 1, 1) := by decide +kernel
theorem dX3_told_126 : decode cX3_told 126 = .ok (.baload, 1) := by decide +kernel
theorem dX3_told_127 : decode cX3_told 127 = .ok (.invokestatic 131, 3) := by decide +kernel
theorem dX3_told_130 : decode cX3_told 130 = .ok (.ireturn, 1) := by decide +kernel
theorem dX3_told_131 : decode cX3_told 131 = .ok (.aload_n 0, 1) := by decide +kernel
theorem dX3_told_132 : decode cX3_told 132 = .ok (.getfield 25, 3) := by decide +kernel
theorem dX3_told_135 : decode cX3_told 135 = .ok (.getfield 138, 3) := by decide +kernel
theorem dX3_told_138 : decode cX3_told 138 = .ok (.iload_n 1, 1) := by decide +kernel
theorem dX3_told_139 : decode cX3_told 139 = .ok (.baload, 1) := by decide +kernel
theorem dX3_told_140 : decode cX3_told 140 = .ok (.invokestatic 131, 3) := by decide +kernel
theorem dX3_told_143 : decode cX3_told 143 = .ok (.ireturn, 1) := by decide +kernel
set_option maxRecDepth 20000 in
theorem ggX3_door_X3_refuseNoLift : GoodIn wsX3_door wsX3_refuseNoLift := goodIn_ca (goodIn_r _ [8, 9, 10, 3, 14, 15, 16, 17, 18, 19, 20, 21, 22, 23, 24, 25, 26, 27] (by decide +kernel) (by decide +kernel)) (goodIn_sub (fun _ h => List.mem_cons_of_mem _ (List.mem_append_right _ h)) (by decide +kernel))
set_option maxRecDepth 20000 in
theorem gX3_door_X3_refuseNoLift : GoodIn wsX3_door (wsV RX3 107 RX3 yX3_refuseNoLift wsX3_refuseNoLift) := goodIn_app (goodIn_of _ (by decide +kernel)) ggX3_door_X3_refuseNoLift
set_option maxRecDepth 20000 in
theorem ggX3_door_X3_refuseUnchanged : GoodIn wsX3_door wsX3_refuseUnchanged := goodIn_ca (goodIn_r _ [13, 1, 2] (by decide +kernel) (by decide +kernel)) (goodIn_sub (fun _ h => List.mem_cons_of_mem _ (List.mem_append_left _ (List.mem_append_right _ h))) (by decide +kernel))
set_option maxRecDepth 20000 in
theorem gX3_door_X3_refuseUnchanged : GoodIn wsX3_door (va_wsS RX3 141 yX3_refuseUnchanged wsX3_refuseUnchanged) := goodIn_app (goodIn_of _ (by decide +kernel)) ggX3_door_X3_refuseUnchanged
theorem dX3_door_0 : decode cX3_door 0 = .ok (.aload_n 0, 1) := by decide +kernel
theorem dX3_door_1 : decode cX3_door 1 = .ok (.iload_n 1, 1) := by decide +kernel
theorem dX3_door_2 : decode cX3_door 2 = .ok (.invokevirtual 107, 3) := by decide +kernel
theorem dX3_door_5 : decode cX3_door 5 = .ok (.aload_n 0, 1) := by decide +kernel
theorem dX3_door_6 : decode cX3_door 6 = .ok (.getfield 25, 3) := by decide +kernel
theorem dX3_door_9 : decode cX3_door 9 = .ok (.getfield 138, 3) := by decide +kernel
theorem dX3_door_12 : decode cX3_door 12 = .ok (.iload_n 1, 1) := by decide +kernel
theorem dX3_door_13 : decode cX3_door 13 = .ok (.baload, 1) := by decide +kernel
theorem dX3_door_14 : decode cX3_door 14 = .ok (.iload_n 2, 1) := by decide +kernel
theorem dX3_door_15 : decode cX3_door 15 = .ok (.invokestatic 141, 3) := by decide +kernel
theorem dX3_door_18 : decode cX3_door 18 = .ok (.iload_n 2, 1) := by decide +kernel
theorem dX3_door_19 : decode cX3_door 19 = .ok (.ifCond .eq 25, 3) := by decide +kernel
theorem dX3_door_22 : decode cX3_door 22 = .ok (.aload_n 0, 1) := by decide +kernel
theorem dX3_door_23 : decode cX3_door 23 = .ok (.getfield 25, 3) := by decide +kernel
theorem dX3_door_26 : decode cX3_door 26 = .ok (.getfield 121, 3) := by decide +kernel
theorem dX3_door_29 : decode cX3_door 29 = .ok (.iload_n 1, 1) := by decide +kernel
theorem dX3_door_30 : decode cX3_door 30 = .ok (.iaload, 1) := by decide +kernel
theorem dX3_door_31 : decode cX3_door 31 = .ok (.ifCond .ne 13, 3) := by decide +kernel
theorem dX3_door_34 : decode cX3_door 34 = .ok (.new 145, 3) := by decide +kernel
theorem dX3_door_37 : decode cX3_door 37 = .ok (.dup, 1) := by decide +kernel
theorem dX3_door_38 : decode cX3_door 38 = .ok (.ldc 147, 2) := by decide +kernel
theorem dX3_door_40 : decode cX3_door 40 = .ok (.invokespecial 149, 3) := by decide +kernel
theorem dX3_door_43 : decode cX3_door 43 = .ok (.athrow, 1) := by decide +kernel
theorem dX3_door_44 : decode cX3_door 44 = .ok (.aload_n 0, 1) := by decide +kernel
theorem dX3_door_45 : decode cX3_door 45 = .ok (.getfield 25, 3) := by decide +kernel
theorem dX3_door_48 : decode cX3_door 48 = .ok (.getfield 138, 3) := by decide +kernel
theorem dX3_door_51 : decode cX3_door 51 = .ok (.iload_n 1, 1) := by decide +kernel
theorem dX3_door_52 : decode cX3_door 52 = .ok (.iload_n 2, 1) := by decide +kernel
theorem dX3_door_53 : decode cX3_door 53 = .ok (.bastore, 1) := by decide +kernel
theorem dX3_door_54 : decode cX3_door 54 = .ok (.return_, 1) := by decide +kernel
set_option maxRecDepth 20000 in
theorem ggX3_stuck_X3_refuseNoLift : GoodIn wsX3_stuck wsX3_refuseNoLift := goodIn_ca (goodIn_r _ [7, 8, 9, 1, 59, 60, 61, 62, 63, 64, 65, 66, 67, 68, 69, 70, 71, 72] (by decide +kernel) (by decide +kernel)) (goodIn_sub (fun _ h => List.mem_cons_of_mem _ (List.mem_append_left _ (List.mem_append_right _ h))) (by decide +kernel))
set_option maxRecDepth 20000 in
theorem gX3_stuck_X3_refuseNoLift : GoodIn wsX3_stuck (wsV RX3 107 RX3 yX3_refuseNoLift wsX3_refuseNoLift) := goodIn_app (goodIn_of _ (by decide +kernel)) ggX3_stuck_X3_refuseNoLift
set_option maxRecDepth 20000 in
theorem ggX3_stuck_X3_refuseUnchanged : GoodIn wsX3_stuck wsX3_refuseUnchanged := goodIn_ca (goodIn_r _ [12, 13, 14] (by decide +kernel) (by decide +kernel)) (goodIn_sub (fun _ h => List.mem_cons_of_mem _ (List.mem_append_right _ h)) (by decide +kernel))
set_option maxRecDepth 20000 in
theorem gX3_stuck_X3_refuseUnchanged : GoodIn wsX3_stuck (va_wsS RX3 141 yX3_refuseUnchanged wsX3_refuseUnchanged) := goodIn_app (goodIn_of _ (by decide +kernel)) ggX3_stuck_X3_refuseUnchanged
set_option maxRecDepth 20000 in
theorem ggX3_stuck_X3_giveAnew : GoodIn wsX3_stuck wsX3_giveAnew := goodIn_r _ [18, 2, 19, 20, 21, 22, 23, 24, 25, 26, 27, 6, 28, 1, 29, 30, 31, 32, 33, 34, 35, 36, 37, 38, 39, 40, 41, 42, 59, 60, 61, 62, 63, 73, 74, 75, 76, 77, 78, 79, 80, 81, 82, 64, 65, 66, 67, 68, 69, 70, 71, 72] (by decide +kernel) (by decide +kernel)
set_option maxRecDepth 20000 in
theorem gX3_stuck_X3_giveAnew : GoodIn wsX3_stuck (wsV RX3 150 RX3 yX3_giveAnew wsX3_giveAnew) := goodIn_app (goodIn_of _ (by decide +kernel)) ggX3_stuck_X3_giveAnew
set_option maxRecDepth 20000 in
theorem ggX3_stuck_X0_number : GoodIn wsX3_stuck wsX0_number := goodIn_r _ [45, 46, 47, 48, 20, 49, 50, 51, 19, 21, 22, 23, 24, 52, 53, 54, 55, 56, 57, 58, 73, 74, 75, 76, 77, 78, 79, 80, 81, 82] (by decide +kernel) (by decide +kernel)
set_option maxRecDepth 20000 in
theorem gX3_stuck_X0_number_n124 : GoodIn wsX3_stuck (wsX0_number) := ggX3_stuck_X0_number
theorem dX3_stuck_0 : decode cX3_stuck 0 = .ok (.aload_n 0, 1) := by decide +kernel
theorem dX3_stuck_1 : decode cX3_stuck 1 = .ok (.iload_n 1, 1) := by decide +kernel
theorem dX3_stuck_2 : decode cX3_stuck 2 = .ok (.invokevirtual 107, 3) := by decide +kernel
theorem dX3_stuck_5 : decode cX3_stuck 5 = .ok (.aload_n 0, 1) := by decide +kernel
theorem dX3_stuck_6 : decode cX3_stuck 6 = .ok (.getfield 25, 3) := by decide +kernel
theorem dX3_stuck_9 : decode cX3_stuck 9 = .ok (.getfield 127, 3) := by decide +kernel
theorem dX3_stuck_12 : decode cX3_stuck 12 = .ok (.iload_n 1, 1) := by decide +kernel
theorem dX3_stuck_13 : decode cX3_stuck 13 = .ok (.baload, 1) := by decide +kernel
theorem dX3_stuck_14 : decode cX3_stuck 14 = .ok (.iload_n 2, 1) := by decide +kernel
theorem dX3_stuck_15 : decode cX3_stuck 15 = .ok (.invokestatic 141, 3) := by decide +kernel
theorem dX3_stuck_18 : decode cX3_stuck 18 = .ok (.aload_n 0, 1) := by decide +kernel
theorem dX3_stuck_19 : decode cX3_stuck 19 = .ok (.getfield 25, 3) := by decide +kernel
theorem dX3_stuck_22 : decode cX3_stuck 22 = .ok (.getfield 127, 3) := by decide +kernel
theorem dX3_stuck_25 : decode cX3_stuck 25 = .ok (.iload_n 1, 1) := by decide +kernel
theorem dX3_stuck_26 : decode cX3_stuck 26 = .ok (.iload_n 2, 1) := by decide +kernel
theorem dX3_stuck_27 : decode cX3_stuck 27 = .ok (.bastore, 1) := by decide +kernel
theorem dX3_stuck_28 : decode cX3_stuck 28 = .ok (.iload_n 2, 1) := by decide +kernel
theorem dX3_stuck_29 : decode cX3_stuck 29 = .ok (.ifCond .eq 9, 3) := by decide +kernel
theorem dX3_stuck_32 : decode cX3_stuck 32 = .ok (.aload_n 0, 1) := by decide +kernel
theorem dX3_stuck_33 : decode cX3_stuck 33 = .ok (.iload_n 1, 1) := by decide +kernel
theorem dX3_stuck_34 : decode cX3_stuck 34 = .ok (.invokevirtual 150, 3) := by decide +kernel
theorem dX3_stuck_37 : decode cX3_stuck 37 = .ok (.pop, 1) := by decide +kernel
theorem dX3_stuck_38 : decode cX3_stuck 38 = .ok (.aload_n 0, 1) := by decide +kernel
theorem dX3_stuck_39 : decode cX3_stuck 39 = .ok (.getfield 32, 3) := by decide +kernel
theorem dX3_stuck_42 : decode cX3_stuck 42 = .ok (.iconst 1, 1) := by decide +kernel
theorem dX3_stuck_43 : decode cX3_stuck 43 = .ok (.iload_n 1, 1) := by decide +kernel
theorem dX3_stuck_44 : decode cX3_stuck 44 = .ok (.invokevirtual 124, 3) := by decide +kernel
theorem dX3_stuck_47 : decode cX3_stuck 47 = .ok (.ireturn, 1) := by decide +kernel
set_option maxRecDepth 20000 in
theorem ggX3_reserved_X3_refuseNoLift : GoodIn wsX3_reserved wsX3_refuseNoLift := goodIn_ca (goodIn_r _ [7, 8, 9, 1, 37, 38, 39, 40, 41, 42, 43, 44, 45, 46, 47, 48, 49, 50] (by decide +kernel) (by decide +kernel)) (goodIn_sub (fun _ h => List.mem_cons_of_mem _ (List.mem_append_left _ (List.mem_append_right _ h))) (by decide +kernel))
set_option maxRecDepth 20000 in
theorem gX3_reserved_X3_refuseNoLift : GoodIn wsX3_reserved (wsV RX3 107 RX3 yX3_refuseNoLift wsX3_refuseNoLift) := goodIn_app (goodIn_of _ (by decide +kernel)) ggX3_reserved_X3_refuseNoLift
set_option maxRecDepth 20000 in
theorem ggX3_reserved_X3_refuseUnchanged : GoodIn wsX3_reserved wsX3_refuseUnchanged := goodIn_ca (goodIn_r _ [12, 13, 14] (by decide +kernel) (by decide +kernel)) (goodIn_sub (fun _ h => List.mem_cons_of_mem _ (List.mem_append_right _ h)) (by decide +kernel))
set_option maxRecDepth 20000 in
theorem gX3_reserved_X3_refuseUnchanged : GoodIn wsX3_reserved (va_wsS RX3 141 yX3_refuseUnchanged wsX3_refuseUnchanged) := goodIn_app (goodIn_of _ (by decide +kernel)) ggX3_reserved_X3_refuseUnchanged
set_option maxRecDepth 20000 in
theorem ggX3_reserved_X0_number : GoodIn wsX3_reserved wsX0_number := goodIn_r _ [18, 19, 20, 21, 16, 22, 23, 24, 25, 26, 27, 28, 29, 30, 31, 32, 33, 34, 35, 36, 51, 52, 53, 54, 55, 56, 57, 58, 59, 60] (by decide +kernel) (by decide +kernel)
set_option maxRecDepth 20000 in
theorem gX3_reserved_X0_number_n124 : GoodIn wsX3_reserved (wsX0_number) := ggX3_reserved_X0_number
theorem dX3_reserved_0 : decode cX3_reserved 0 = .ok (.aload_n 0, 1) := by decide +kernel
theorem dX3_reserved_1 : decode cX3_reserved 1 = .ok (.iload_n 1, 1) := by decide +kernel
theorem dX3_reserved_2 : decode cX3_reserved 2 = .ok (.invokevirtual 107, 3) := by decide +kernel
theorem dX3_reserved_5 : decode cX3_reserved 5 = .ok (.aload_n 0, 1) := by decide +kernel
theorem dX3_reserved_6 : decode cX3_reserved 6 = .ok (.getfield 25, 3) := by decide +kernel
theorem dX3_reserved_9 : decode cX3_reserved 9 = .ok (.getfield 135, 3) := by decide +kernel
theorem dX3_reserved_12 : decode cX3_reserved 12 = .ok (.iload_n 1, 1) := by decide +kernel
theorem dX3_reserved_13 : decode cX3_reserved 13 = .ok (.baload, 1) := by decide +kernel
theorem dX3_reserved_14 : decode cX3_reserved 14 = .ok (.iload_n 2, 1) := by decide +kernel
theorem dX3_reserved_15 : decode cX3_reserved 15 = .ok (.invokestatic 141, 3) := by decide +kernel
theorem dX3_reserved_18 : decode cX3_reserved 18 = .ok (.aload_n 0, 1) := by decide +kernel
theorem dX3_reserved_19 : decode cX3_reserved 19 = .ok (.getfield 25, 3) := by decide +kernel
theorem dX3_reserved_22 : decode cX3_reserved 22 = .ok (.getfield 135, 3) := by decide +kernel
theorem dX3_reserved_25 : decode cX3_reserved 25 = .ok (.iload_n 1, 1) := by decide +kernel
theorem dX3_reserved_26 : decode cX3_reserved 26 = .ok (.iload_n 2, 1) := by decide +kernel
theorem dX3_reserved_27 : decode cX3_reserved 27 = .ok (.bastore, 1) := by decide +kernel
theorem dX3_reserved_28 : decode cX3_reserved 28 = .ok (.aload_n 0, 1) := by decide +kernel
theorem dX3_reserved_29 : decode cX3_reserved 29 = .ok (.getfield 32, 3) := by decide +kernel
theorem dX3_reserved_32 : decode cX3_reserved 32 = .ok (.iconst 1, 1) := by decide +kernel
theorem dX3_reserved_33 : decode cX3_reserved 33 = .ok (.iload_n 1, 1) := by decide +kernel
theorem dX3_reserved_34 : decode cX3_reserved 34 = .ok (.invokevirtual 124, 3) := by decide +kernel
theorem dX3_reserved_37 : decode cX3_reserved 37 = .ok (.aload_n 0, 1) := by decide +kernel
theorem dX3_reserved_38 : decode cX3_reserved 38 = .ok (.getfield 32, 3) := by decide +kernel
theorem dX3_reserved_41 : decode cX3_reserved 41 = .ok (.iconst 0, 1) := by decide +kernel
theorem dX3_reserved_42 : decode cX3_reserved 42 = .ok (.iload_n 1, 1) := by decide +kernel
theorem dX3_reserved_43 : decode cX3_reserved 43 = .ok (.invokevirtual 124, 3) := by decide +kernel
theorem dX3_reserved_46 : decode cX3_reserved 46 = .ok (.iadd, 1) := by decide +kernel
theorem dX3_reserved_47 : decode cX3_reserved 47 = .ok (.ireturn, 1) := by decide +kernel
set_option maxRecDepth 20000 in
theorem ggX3_freed_X3_giveAnew : GoodIn wsX3_freed wsX3_giveAnew := goodIn_r _ [5, 6, 7, 8, 9, 10, 11, 12, 13, 14, 15, 4, 16, 17, 18, 19, 20, 21, 22, 23, 24, 25, 26, 27, 28, 29, 30, 31, 32, 33, 34, 35, 36, 37, 38, 39, 40, 41, 42, 43, 44, 45, 46, 47, 48, 49, 50, 51, 52, 53, 54, 55] (by decide +kernel) (by decide +kernel)
set_option maxRecDepth 20000 in
theorem gX3_freed_X3_giveAnew : GoodIn wsX3_freed (wsV RX3 150 RX3 yX3_giveAnew wsX3_giveAnew) := goodIn_app (goodIn_of _ (by decide +kernel)) ggX3_freed_X3_giveAnew
theorem dX3_freed_0 : decode cX3_freed 0 = .ok (.aload_n 0, 1) := by decide +kernel
theorem dX3_freed_1 : decode cX3_freed 1 = .ok (.iconst (-1), 1) := by decide +kernel
theorem dX3_freed_2 : decode cX3_freed 2 = .ok (.invokevirtual 150, 3) := by decide +kernel
theorem dX3_freed_5 : decode cX3_freed 5 = .ok (.ireturn, 1) := by decide +kernel
set_option maxRecDepth 20000 in
theorem ggX3_served_X3_refuseNoCall : GoodIn wsX3_served wsX3_refuseNoCall := goodIn_ca (goodIn_r _ [6, 7, 8, 1, 9, 10, 11, 12, 13, 14, 15, 16, 17, 18, 19, 20, 21, 22, 23] (by decide +kernel) (by decide +kernel)) (goodIn_sub (fun _ h => List.mem_cons_of_mem _ (List.mem_append_right _ h)) (by decide +kernel))
set_option maxRecDepth 20000 in
theorem gX3_served_X3_refuseNoCall : GoodIn wsX3_served (wsV RX3 153 RX3 yX3_refuseNoCall wsX3_refuseNoCall) := goodIn_app (goodIn_of _ (by decide +kernel)) ggX3_served_X3_refuseNoCall
theorem dX3_served_0 : decode cX3_served 0 = .ok (.aload_n 0, 1) := by decide +kernel
theorem dX3_served_1 : decode cX3_served 1 = .ok (.iload_n 1, 1) := by decide +kernel
theorem dX3_served_2 : decode cX3_served 2 = .ok (.invokevirtual 153, 3) := by decide +kernel
theorem dX3_served_5 : decode cX3_served 5 = .ok (.aload_n 0, 1) := by decide +kernel
theorem dX3_served_6 : decode cX3_served 6 = .ok (.getfield 32, 3) := by decide +kernel
theorem dX3_served_9 : decode cX3_served 9 = .ok (.getfield 156, 3) := by decide +kernel
theorem dX3_served_12 : decode cX3_served 12 = .ok (.iload_n 1, 1) := by decide +kernel
theorem dX3_served_13 : decode cX3_served 13 = .ok (.iaload, 1) := by decide +kernel
theorem dX3_served_14 : decode cX3_served 14 = .ok (.ireturn, 1) := by decide +kernel
set_option maxRecDepth 20000 in
theorem ggX3_waits_X3_refuseNoCall : GoodIn wsX3_waits wsX3_refuseNoCall := goodIn_ca (goodIn_r _ [7, 8, 9, 1, 10, 11, 12, 13, 14, 15, 16, 17, 18, 19, 20, 21, 22, 23, 24] (by decide +kernel) (by decide +kernel)) (goodIn_sub (fun _ h => List.mem_cons_of_mem _ (List.mem_append_right _ h)) (by decide +kernel))
set_option maxRecDepth 20000 in
theorem gX3_waits_X3_refuseNoCall : GoodIn wsX3_waits (wsV RX3 153 RX3 yX3_refuseNoCall wsX3_refuseNoCall) := goodIn_app (goodIn_of _ (by decide +kernel)) ggX3_waits_X3_refuseNoCall
theorem dX3_waits_0 : decode cX3_waits 0 = .ok (.aload_n 0, 1) := by decide +kernel
theorem dX3_waits_1 : decode cX3_waits 1 = .ok (.iload_n 1, 1) := by decide +kernel
theorem dX3_waits_2 : decode cX3_waits 2 = .ok (.invokevirtual 153, 3) := by decide +kernel
theorem dX3_waits_5 : decode cX3_waits 5 = .ok (.aload_n 0, 1) := by decide +kernel
theorem dX3_waits_6 : decode cX3_waits 6 = .ok (.getfield 32, 3) := by decide +kernel
theorem dX3_waits_9 : decode cX3_waits 9 = .ok (.getfield 159, 3) := by decide +kernel
theorem dX3_waits_12 : decode cX3_waits 12 = .ok (.iload_n 1, 1) := by decide +kernel
theorem dX3_waits_13 : decode cX3_waits 13 = .ok (.iaload, 1) := by decide +kernel
theorem dX3_waits_14 : decode cX3_waits 14 = .ok (.ifCond .ne 10, 3) := by decide +kernel
theorem dX3_waits_17 : decode cX3_waits 17 = .ok (.aload_n 0, 1) := by decide +kernel
theorem dX3_waits_18 : decode cX3_waits 18 = .ok (.getfield 43, 3) := by decide +kernel
theorem dX3_waits_21 : decode cX3_waits 21 = .ok (.goto 12, 3) := by decide +kernel
theorem dX3_waits_24 : decode cX3_waits 24 = .ok (.aload_n 0, 1) := by decide +kernel
theorem dX3_waits_25 : decode cX3_waits 25 = .ok (.getfield 32, 3) := by decide +kernel
theorem dX3_waits_28 : decode cX3_waits 28 = .ok (.getfield 162, 3) := by decide +kernel
theorem dX3_waits_31 : decode cX3_waits 31 = .ok (.iload_n 1, 1) := by decide +kernel
theorem dX3_waits_32 : decode cX3_waits 32 = .ok (.iaload, 1) := by decide +kernel
theorem dX3_waits_33 : decode cX3_waits 33 = .ok (.istore_n 2, 1) := by decide +kernel
theorem dX3_waits_34 : decode cX3_waits 34 = .ok (.iload_n 2, 1) := by decide +kernel
theorem dX3_waits_35 : decode cX3_waits 35 = .ok (.aload_n 0, 1) := by decide +kernel
theorem dX3_waits_36 : decode cX3_waits 36 = .ok (.getfield 32, 3) := by decide +kernel
theorem dX3_waits_39 : decode cX3_waits 39 = .ok (.getfield 165, 3) := by decide +kernel
theorem dX3_waits_42 : decode cX3_waits 42 = .ok (.iload_n 1, 1) := by decide +kernel
theorem dX3_waits_43 : decode cX3_waits 43 = .ok (.iaload, 1) := by decide +kernel
theorem dX3_waits_44 : decode cX3_waits 44 = .ok (.isub, 1) := by decide +kernel
theorem dX3_waits_45 : decode cX3_waits 45 = .ok (.ireturn, 1) := by decide +kernel
set_option maxRecDepth 20000 in
theorem ggX3_least_X3_refuseNoLift : GoodIn wsX3_least wsX3_refuseNoLift := goodIn_ca (goodIn_r _ [7, 8, 9, 2, 47, 48, 49, 50, 51, 52, 53, 54, 55, 56, 57, 58, 59, 60] (by decide +kernel) (by decide +kernel)) (goodIn_sub (fun _ h => List.mem_cons_of_mem _ (List.mem_append_right _ h)) (by decide +kernel))
set_option maxRecDepth 20000 in
theorem gX3_least_X3_refuseNoLift : GoodIn wsX3_least (wsV RX3 107 RX3 yX3_refuseNoLift wsX3_refuseNoLift) := goodIn_app (goodIn_of _ (by decide +kernel)) ggX3_least_X3_refuseNoLift
set_option maxRecDepth 20000 in
theorem ggX3_least_X0_setOf : GoodIn wsX3_least wsX0_setOf := goodIn_r _ [13, 14, 15, 16, 17, 11, 18, 19, 20, 61, 62, 63, 64, 65, 66, 67, 68, 69, 70] (by decide +kernel) (by decide +kernel)
set_option maxRecDepth 20000 in
theorem gX3_least_X0_setOf_n168 : GoodIn wsX3_least (wsX0_setOf) := ggX3_least_X0_setOf
set_option maxRecDepth 20000 in
theorem ggX3_least_J6_bitCount_0f7a4 : GoodIn wsX3_least wsJ6_bitCount_0f7a4 := goodIn_r _ [24, 25, 26, 27] (by decide +kernel) (by decide +kernel)
set_option maxRecDepth 20000 in
theorem gX3_least_J6_bitCount_0f7a4 : GoodIn wsX3_least (va_wsS RX3 171 yJ6_bitCount_0f7a4 wsJ6_bitCount_0f7a4) := goodIn_app (goodIn_of _ (by decide +kernel)) ggX3_least_J6_bitCount_0f7a4
set_option maxRecDepth 20000 in
theorem ggX3_least_X3_leastWay : GoodIn wsX3_least wsX3_leastWay := goodIn_r _ [30, 31, 32, 33, 34, 35, 36, 11, 37, 38, 14, 39, 40, 41, 42, 43, 44, 45, 46, 28, 29, 6, 61, 62, 63, 64, 65, 66, 67, 68, 69, 70] (by decide +kernel) (by decide +kernel)
set_option maxRecDepth 20000 in
theorem gX3_least_X3_leastWay : GoodIn wsX3_least (va_wsS RX3 176 yX3_leastWay wsX3_leastWay) := goodIn_app (goodIn_of _ (by decide +kernel)) ggX3_least_X3_leastWay
theorem dX3_least_0 : decode cX3_least 0 = .ok (.aload_n 0, 1) := by decide +kernel
theorem dX3_least_1 : decode cX3_least 1 = .ok (.iload_n 1, 1) := by decide +kernel
theorem dX3_least_2 : decode cX3_least 2 = .ok (.invokevirtual 107, 3) := by decide +kernel
theorem dX3_least_5 : decode cX3_least 5 = .ok (.aload_n 0, 1) := by decide +kernel
theorem dX3_least_6 : decode cX3_least 6 = .ok (.getfield 32, 3) := by decide +kernel
theorem dX3_least_9 : decode cX3_least 9 = .ok (.iconst 0, 1) := by decide +kernel
theorem dX3_least_10 : decode cX3_least 10 = .ok (.iload_n 1, 1) := by decide +kernel
theorem dX3_least_11 : decode cX3_least 11 = .ok (.invokevirtual 168, 3) := by decide +kernel
theorem dX3_least_14 : decode cX3_least 14 = .ok (.istore_n 2, 1) := by decide +kernel
theorem dX3_least_15 : decode cX3_least 15 = .ok (.aload_n 0, 1) := by decide +kernel
theorem dX3_least_16 : decode cX3_least 16 = .ok (.getfield 32, 3) := by decide +kernel
theorem dX3_least_19 : decode cX3_least 19 = .ok (.iconst 1, 1) := by decide +kernel
theorem dX3_least_20 : decode cX3_least 20 = .ok (.iload_n 1, 1) := by decide +kernel
theorem dX3_least_21 : decode cX3_least 21 = .ok (.invokevirtual 168, 3) := by decide +kernel
theorem dX3_least_24 : decode cX3_least 24 = .ok (.istore_n 3, 1) := by decide +kernel
theorem dX3_least_25 : decode cX3_least 25 = .ok (.iload_n 2, 1) := by decide +kernel
theorem dX3_least_26 : decode cX3_least 26 = .ok (.iload_n 3, 1) := by decide +kernel
theorem dX3_least_27 : decode cX3_least 27 = .ok (.ior, 1) := by decide +kernel
theorem dX3_least_28 : decode cX3_least 28 = .ok (.invokestatic 171, 3) := by decide +kernel
theorem dX3_least_31 : decode cX3_least 31 = .ok (.iconst 4, 1) := by decide +kernel
theorem dX3_least_32 : decode cX3_least 32 = .ok (.if_icmp .le 5, 3) := by decide +kernel
theorem dX3_least_35 : decode cX3_least 35 = .ok (.iconst (-1), 1) := by decide +kernel
theorem dX3_least_36 : decode cX3_least 36 = .ok (.ireturn, 1) := by decide +kernel
theorem dX3_least_37 : decode cX3_least 37 = .ok (.aload_n 0, 1) := by decide +kernel
theorem dX3_least_38 : decode cX3_least 38 = .ok (.getfield 32, 3) := by decide +kernel
theorem dX3_least_41 : decode cX3_least 41 = .ok (.aload_n 0, 1) := by decide +kernel
theorem dX3_least_42 : decode cX3_least 42 = .ok (.getfield 25, 3) := by decide +kernel
theorem dX3_least_45 : decode cX3_least 45 = .ok (.getfield 111, 3) := by decide +kernel
theorem dX3_least_48 : decode cX3_least 48 = .ok (.iload_n 1, 1) := by decide +kernel
theorem dX3_least_49 : decode cX3_least 49 = .ok (.iaload, 1) := by decide +kernel
theorem dX3_least_50 : decode cX3_least 50 = .ok (.iload_n 2, 1) := by decide +kernel
theorem dX3_least_51 : decode cX3_least 51 = .ok (.iload_n 3, 1) := by decide +kernel
theorem dX3_least_52 : decode cX3_least 52 = .ok (.iconst 0, 1) := by decide +kernel
theorem dX3_least_53 : decode cX3_least 53 = .ok (.invokestatic 176, 3) := by decide +kernel
theorem dX3_least_56 : decode cX3_least 56 = .ok (.ireturn, 1) := by decide +kernel
set_option maxRecDepth 20000 in
theorem ggX3_joins_X3_refuseNoCall : GoodIn wsX3_joins wsX3_refuseNoCall := goodIn_ca (goodIn_r _ [8, 9, 10, 3, 11, 12, 13, 14, 15, 16, 17, 18, 19, 20, 21, 22, 23, 24, 25] (by decide +kernel) (by decide +kernel)) (goodIn_sub (fun _ h => List.mem_cons_of_mem _ (List.mem_append_right _ h)) (by decide +kernel))
set_option maxRecDepth 20000 in
theorem gX3_joins_X3_refuseNoCall : GoodIn wsX3_joins (wsV RX3 153 RX3 yX3_refuseNoCall wsX3_refuseNoCall) := goodIn_app (goodIn_of _ (by decide +kernel)) ggX3_joins_X3_refuseNoCall
theorem dX3_joins_0 : decode cX3_joins 0 = .ok (.aload_n 0, 1) := by decide +kernel
theorem dX3_joins_1 : decode cX3_joins 1 = .ok (.iload_n 1, 1) := by decide +kernel
theorem dX3_joins_2 : decode cX3_joins 2 = .ok (.invokevirtual 153, 3) := by decide +kernel
theorem dX3_joins_5 : decode cX3_joins 5 = .ok (.aload_n 0, 1) := by decide +kernel
theorem dX3_joins_6 : decode cX3_joins 6 = .ok (.iload_n 2, 1) := by decide +kernel
theorem dX3_joins_7 : decode cX3_joins 7 = .ok (.invokevirtual 153, 3) := by decide +kernel
theorem dX3_joins_10 : decode cX3_joins 10 = .ok (.aload_n 0, 1) := by decide +kernel
theorem dX3_joins_11 : decode cX3_joins 11 = .ok (.getfield 32, 3) := by decide +kernel
theorem dX3_joins_14 : decode cX3_joins 14 = .ok (.getfield 159, 3) := by decide +kernel
theorem dX3_joins_17 : decode cX3_joins 17 = .ok (.iload_n 1, 1) := by decide +kernel
theorem dX3_joins_18 : decode cX3_joins 18 = .ok (.iaload, 1) := by decide +kernel
theorem dX3_joins_19 : decode cX3_joins 19 = .ok (.ifCond .ne 15, 3) := by decide +kernel
theorem dX3_joins_22 : decode cX3_joins 22 = .ok (.aload_n 0, 1) := by decide +kernel
theorem dX3_joins_23 : decode cX3_joins 23 = .ok (.getfield 32, 3) := by decide +kernel
theorem dX3_joins_26 : decode cX3_joins 26 = .ok (.getfield 159, 3) := by decide +kernel
theorem dX3_joins_29 : decode cX3_joins 29 = .ok (.iload_n 2, 1) := by decide +kernel
theorem dX3_joins_30 : decode cX3_joins 30 = .ok (.iaload, 1) := by decide +kernel
theorem dX3_joins_31 : decode cX3_joins 31 = .ok (.ifCond .eq 13, 3) := by decide +kernel
theorem dX3_joins_34 : decode cX3_joins 34 = .ok (.new 145, 3) := by decide +kernel
theorem dX3_joins_37 : decode cX3_joins 37 = .ok (.dup, 1) := by decide +kernel
theorem dX3_joins_38 : decode cX3_joins 38 = .ok (.ldc 180, 2) := by decide +kernel
theorem dX3_joins_40 : decode cX3_joins 40 = .ok (.invokespecial 149, 3) := by decide +kernel
theorem dX3_joins_43 : decode cX3_joins 43 = .ok (.athrow, 1) := by decide +kernel
theorem dX3_joins_44 : decode cX3_joins 44 = .ok (.aload_n 0, 1) := by decide +kernel
theorem dX3_joins_45 : decode cX3_joins 45 = .ok (.getfield 32, 3) := by decide +kernel
theorem dX3_joins_48 : decode cX3_joins 48 = .ok (.getfield 182, 3) := by decide +kernel
theorem dX3_joins_51 : decode cX3_joins 51 = .ok (.iload_n 1, 1) := by decide +kernel
theorem dX3_joins_52 : decode cX3_joins 52 = .ok (.iaload, 1) := by decide +kernel
theorem dX3_joins_53 : decode cX3_joins 53 = .ok (.aload_n 0, 1) := by decide +kernel
theorem dX3_joins_54 : decode cX3_joins 54 = .ok (.getfield 32, 3) := by decide +kernel
theorem dX3_joins_57 : decode cX3_joins 57 = .ok (.getfield 182, 3) := by decide +kernel
theorem dX3_joins_60 : decode cX3_joins 60 = .ok (.iload_n 2, 1) := by decide +kernel
theorem dX3_joins_61 : decode cX3_joins 61 = .ok (.iaload, 1) := by decide +kernel
theorem dX3_joins_62 : decode cX3_joins 62 = .ok (.if_icmp .ne 28, 3) := by decide +kernel
theorem dX3_joins_65 : decode cX3_joins 65 = .ok (.aload_n 0, 1) := by decide +kernel
theorem dX3_joins_66 : decode cX3_joins 66 = .ok (.getfield 32, 3) := by decide +kernel
theorem dX3_joins_69 : decode cX3_joins 69 = .ok (.getfield 185, 3) := by decide +kernel
theorem dX3_joins_72 : decode cX3_joins 72 = .ok (.iload_n 1, 1) := by decide +kernel
theorem dX3_joins_73 : decode cX3_joins 73 = .ok (.iaload, 1) := by decide +kernel
theorem dX3_joins_74 : decode cX3_joins 74 = .ok (.aload_n 0, 1) := by decide +kernel
theorem dX3_joins_75 : decode cX3_joins 75 = .ok (.getfield 32, 3) := by decide +kernel
theorem dX3_joins_78 : decode cX3_joins 78 = .ok (.getfield 185, 3) := by decide +kernel
theorem dX3_joins_81 : decode cX3_joins 81 = .ok (.iload_n 2, 1) := by decide +kernel
theorem dX3_joins_82 : decode cX3_joins 82 = .ok (.iaload, 1) := by decide +kernel
theorem dX3_joins_83 : decode cX3_joins 83 = .ok (.if_icmp .ne 7, 3) := by decide +kernel
theorem dX3_joins_86 : decode cX3_joins 86 = .ok (.iconst 1, 1) := by decide +kernel
theorem dX3_joins_87 : decode cX3_joins 87 = .ok (.goto 4, 3) := by decide +kernel
theorem dX3_joins_90 : decode cX3_joins 90 = .ok (.iconst 0, 1) := by decide +kernel
theorem dX3_joins_91 : decode cX3_joins 91 = .ok (.ireturn, 1) := by decide +kernel
set_option maxRecDepth 20000 in
theorem ggX3_known_X3_refuseNoCall : GoodIn wsX3_known wsX3_refuseNoCall := goodIn_ca (goodIn_r _ [6, 7, 8, 1, 14, 15, 16, 17, 18, 19, 20, 21, 22, 23, 24, 25, 26, 27, 28] (by decide +kernel) (by decide +kernel)) (goodIn_sub (fun _ h => List.mem_cons_of_mem _ (List.mem_append_left _ (List.mem_append_right _ h))) (by decide +kernel))
set_option maxRecDepth 20000 in
theorem gX3_known_X3_refuseNoCall : GoodIn wsX3_known (wsV RX3 153 RX3 yX3_refuseNoCall wsX3_refuseNoCall) := goodIn_app (goodIn_of _ (by decide +kernel)) ggX3_known_X3_refuseNoCall
set_option maxRecDepth 20000 in
theorem ggX3_known_X3_refuseOutside : GoodIn wsX3_known wsX3_refuseOutside := goodIn_ca (goodIn_r _ [11, 12, 13] (by decide +kernel) (by decide +kernel)) (goodIn_sub (fun _ h => List.mem_cons_of_mem _ (List.mem_append_right _ h)) (by decide +kernel))
set_option maxRecDepth 20000 in
theorem gX3_known_X3_refuseOutside : GoodIn wsX3_known (va_wsS RX3 46 yX3_refuseOutside wsX3_refuseOutside) := goodIn_app (goodIn_of _ (by decide +kernel)) ggX3_known_X3_refuseOutside
theorem dX3_known_0 : decode cX3_known 0 = .ok (.aload_n 0, 1) := by decide +kernel
theorem dX3_known_1 : decode cX3_known 1 = .ok (.iload_n 1, 1) := by decide +kernel
theorem dX3_known_2 : decode cX3_known 2 = .ok (.invokevirtual 153, 3) := by decide +kernel
theorem dX3_known_5 : decode cX3_known 5 = .ok (.iload_n 2, 1) := by decide +kernel
theorem dX3_known_6 : decode cX3_known 6 = .ok (.iconst 0, 1) := by decide +kernel
theorem dX3_known_7 : decode cX3_known 7 = .ok (.iconst 5, 1) := by decide +kernel
theorem dX3_known_8 : decode cX3_known 8 = .ok (.invokestatic 46, 3) := by decide +kernel
theorem dX3_known_11 : decode cX3_known 11 = .ok (.iload_n 2, 1) := by decide +kernel
theorem dX3_known_12 : decode cX3_known 12 = .ok (.tableswitch 86 0 4 #[36, 46, 56, 66, 76], 36) := by decide +kernel
theorem dX3_known_48 : decode cX3_known 48 = .ok (.aload_n 0, 1) := by decide +kernel
theorem dX3_known_49 : decode cX3_known 49 = .ok (.getfield 32, 3) := by decide +kernel
theorem dX3_known_52 : decode cX3_known 52 = .ok (.getfield 159, 3) := by decide +kernel
theorem dX3_known_55 : decode cX3_known 55 = .ok (.iload_n 1, 1) := by decide +kernel
theorem dX3_known_56 : decode cX3_known 56 = .ok (.iaload, 1) := by decide +kernel
theorem dX3_known_57 : decode cX3_known 57 = .ok (.ireturn, 1) := by decide +kernel
theorem dX3_known_58 : decode cX3_known 58 = .ok (.aload_n 0, 1) := by decide +kernel
theorem dX3_known_59 : decode cX3_known 59 = .ok (.getfield 32, 3) := by decide +kernel
theorem dX3_known_62 : decode cX3_known 62 = .ok (.getfield 74, 3) := by decide +kernel
theorem dX3_known_65 : decode cX3_known 65 = .ok (.iload_n 1, 1) := by decide +kernel
theorem dX3_known_66 : decode cX3_known 66 = .ok (.iaload, 1) := by decide +kernel
theorem dX3_known_67 : decode cX3_known 67 = .ok (.ireturn, 1) := by decide +kernel
theorem dX3_known_68 : decode cX3_known 68 = .ok (.aload_n 0, 1) := by decide +kernel
theorem dX3_known_69 : decode cX3_known 69 = .ok (.getfield 32, 3) := by decide +kernel
theorem dX3_known_72 : decode cX3_known 72 = .ok (.getfield 182, 3) := by decide +kernel
theorem dX3_known_75 : decode cX3_known 75 = .ok (.iload_n 1, 1) := by decide +kernel
theorem dX3_known_76 : decode cX3_known 76 = .ok (.iaload, 1) := by decide +kernel
theorem dX3_known_77 : decode cX3_known 77 = .ok (.ireturn, 1) := by decide +kernel
theorem dX3_known_78 : decode cX3_known 78 = .ok (.aload_n 0, 1) := by decide +kernel
theorem dX3_known_79 : decode cX3_known 79 = .ok (.getfield 32, 3) := by decide +kernel
theorem dX3_known_82 : decode cX3_known 82 = .ok (.getfield 185, 3) := by decide +kernel
theorem dX3_known_85 : decode cX3_known 85 = .ok (.iload_n 1, 1) := by decide +kernel
theorem dX3_known_86 : decode cX3_known 86 = .ok (.iaload, 1) := by decide +kernel
theorem dX3_known_87 : decode cX3_known 87 = .ok (.ireturn, 1) := by decide +kernel
theorem dX3_known_88 : decode cX3_known 88 = .ok (.aload_n 0, 1) := by decide +kernel
theorem dX3_known_89 : decode cX3_known 89 = .ok (.getfield 32, 3) := by decide +kernel
theorem dX3_known_92 : decode cX3_known 92 = .ok (.getfield 188, 3) := by decide +kernel
theorem dX3_known_95 : decode cX3_known 95 = .ok (.iload_n 1, 1) := by decide +kernel
theorem dX3_known_96 : decode cX3_known 96 = .ok (.iaload, 1) := by decide +kernel
theorem dX3_known_97 : decode cX3_known 97 = .ok (.ireturn, 1) := by decide +kernel
theorem dX3_known_98 : decode cX3_known 98 = .ok (.aload_n 0, 1) := by decide +kernel
theorem dX3_known_99 : decode cX3_known 99 = .ok (.getfield 32, 3) := by decide +kernel
theorem dX3_known_102 : decode cX3_known 102 = .ok (.getfield 191, 3) := by decide +kernel
theorem dX3_known_105 : decode cX3_known 105 = .ok (.iload_n 1, 1) := by decide +kernel
theorem dX3_known_106 : decode cX3_known 106 = .ok (.iaload, 1) := by decide +kernel
theorem dX3_known_107 : decode cX3_known 107 = .ok (.ireturn, 1) := by decide +kernel
set_option maxRecDepth 20000 in
theorem ggX3_count_X0_numberWaiting : GoodIn wsX3_count wsX0_numberWaiting := goodIn_r _ [9, 10, 11, 12, 13, 14, 52, 53, 54, 55, 56, 57, 58, 59, 60, 61] (by decide +kernel) (by decide +kernel)
set_option maxRecDepth 20000 in
theorem gX3_count_X0_numberWaiting_n194 : GoodIn wsX3_count (wsX0_numberWaiting) := ggX3_count_X0_numberWaiting
set_option maxRecDepth 20000 in
theorem ggX3_count_X0_number : GoodIn wsX3_count wsX0_number := goodIn_r _ [17, 18, 19, 20, 7, 21, 10, 22, 23, 24, 25, 11, 26, 27, 28, 29, 30, 31, 32, 33, 52, 53, 54, 55, 56, 57, 58, 59, 60, 61] (by decide +kernel) (by decide +kernel)
set_option maxRecDepth 20000 in
theorem gX3_count_X0_number_n124 : GoodIn wsX3_count (wsX0_number) := ggX3_count_X0_number
set_option maxRecDepth 20000 in
theorem ggX3_count_X0_levelsWithWaiting : GoodIn wsX3_count wsX0_levelsWithWaiting := goodIn_r _ [36, 10, 11, 37, 52, 53, 54, 55, 56, 57, 58, 59, 60, 61] (by decide +kernel) (by decide +kernel)
set_option maxRecDepth 20000 in
theorem gX3_count_X0_levelsWithWaiting_n198 : GoodIn wsX3_count (wsX0_levelsWithWaiting) := ggX3_count_X0_levelsWithWaiting
theorem dX3_count_0 : decode cX3_count 0 = .ok (.iload_n 1, 1) := by decide +kernel
theorem dX3_count_1 : decode cX3_count 1 = .ok (.tableswitch 119 0 8 #[51, 56, 64, 72, 80, 85, 93, 103, 111], 51) := by decide +kernel
theorem dX3_count_52 : decode cX3_count 52 = .ok (.aload_n 0, 1) := by decide +kernel
theorem dX3_count_53 : decode cX3_count 53 = .ok (.getfield 18, 3) := by decide +kernel
theorem dX3_count_56 : decode cX3_count 56 = .ok (.ireturn, 1) := by decide +kernel
theorem dX3_count_57 : decode cX3_count 57 = .ok (.aload_n 0, 1) := by decide +kernel
theorem dX3_count_58 : decode cX3_count 58 = .ok (.getfield 25, 3) := by decide +kernel
theorem dX3_count_61 : decode cX3_count 61 = .ok (.getfield 50, 3) := by decide +kernel
theorem dX3_count_64 : decode cX3_count 64 = .ok (.ireturn, 1) := by decide +kernel
theorem dX3_count_65 : decode cX3_count 65 = .ok (.aload_n 0, 1) := by decide +kernel
theorem dX3_count_66 : decode cX3_count 66 = .ok (.getfield 32, 3) := by decide +kernel
theorem dX3_count_69 : decode cX3_count 69 = .ok (.getfield 68, 3) := by decide +kernel
theorem dX3_count_72 : decode cX3_count 72 = .ok (.ireturn, 1) := by decide +kernel
theorem dX3_count_73 : decode cX3_count 73 = .ok (.aload_n 0, 1) := by decide +kernel
theorem dX3_count_74 : decode cX3_count 74 = .ok (.getfield 39, 3) := by decide +kernel
theorem dX3_count_77 : decode cX3_count 77 = .ok (.getfield 81, 3) := by decide +kernel
theorem dX3_count_80 : decode cX3_count 80 = .ok (.ireturn, 1) := by decide +kernel
theorem dX3_count_81 : decode cX3_count 81 = .ok (.aload_n 0, 1) := by decide +kernel
theorem dX3_count_82 : decode cX3_count 82 = .ok (.getfield 43, 3) := by decide +kernel
theorem dX3_count_85 : decode cX3_count 85 = .ok (.ireturn, 1) := by decide +kernel
theorem dX3_count_86 : decode cX3_count 86 = .ok (.aload_n 0, 1) := by decide +kernel
theorem dX3_count_87 : decode cX3_count 87 = .ok (.getfield 32, 3) := by decide +kernel
theorem dX3_count_90 : decode cX3_count 90 = .ok (.invokevirtual 194, 3) := by decide +kernel
theorem dX3_count_93 : decode cX3_count 93 = .ok (.ireturn, 1) := by decide +kernel
theorem dX3_count_94 : decode cX3_count 94 = .ok (.aload_n 0, 1) := by decide +kernel
theorem dX3_count_95 : decode cX3_count 95 = .ok (.getfield 32, 3) := by decide +kernel
theorem dX3_count_98 : decode cX3_count 98 = .ok (.iconst 0, 1) := by decide +kernel
theorem dX3_count_99 : decode cX3_count 99 = .ok (.iconst (-1), 1) := by decide +kernel
theorem dX3_count_100 : decode cX3_count 100 = .ok (.invokevirtual 124, 3) := by decide +kernel
theorem dX3_count_103 : decode cX3_count 103 = .ok (.ireturn, 1) := by decide +kernel
theorem dX3_count_104 : decode cX3_count 104 = .ok (.aload_n 0, 1) := by decide +kernel
theorem dX3_count_105 : decode cX3_count 105 = .ok (.getfield 32, 3) := by decide +kernel
theorem dX3_count_108 : decode cX3_count 108 = .ok (.invokevirtual 198, 3) := by decide +kernel
theorem dX3_count_111 : decode cX3_count 111 = .ok (.ireturn, 1) := by decide +kernel
theorem dX3_count_112 : decode cX3_count 112 = .ok (.aload_n 0, 1) := by decide +kernel
theorem dX3_count_113 : decode cX3_count 113 = .ok (.getfield 25, 3) := by decide +kernel
theorem dX3_count_116 : decode cX3_count 116 = .ok (.getfield 201, 3) := by decide +kernel
theorem dX3_count_119 : decode cX3_count 119 = .ok (.ireturn, 1) := by decide +kernel
theorem dX3_count_120 : decode cX3_count 120 = .ok (.iconst (-1), 1) := by decide +kernel
theorem dX3_count_121 : decode cX3_count 121 = .ok (.ireturn, 1) := by decide +kernel
theorem dX3_refuseOutside_0 : decode cX3_refuseOutside 0 = .ok (.iload_n 0, 1) := by decide +kernel
theorem dX3_refuseOutside_1 : decode cX3_refuseOutside 1 = .ok (.iload_n 1, 1) := by decide +kernel
theorem dX3_refuseOutside_2 : decode cX3_refuseOutside 2 = .ok (.if_icmp .lt 8, 3) := by decide +kernel
theorem dX3_refuseOutside_5 : decode cX3_refuseOutside 5 = .ok (.iload_n 0, 1) := by decide +kernel
theorem dX3_refuseOutside_6 : decode cX3_refuseOutside 6 = .ok (.iload_n 2, 1) := by decide +kernel
theorem dX3_refuseOutside_7 : decode cX3_refuseOutside 7 = .ok (.if_icmp .le 13, 3) := by decide +kernel
theorem dX3_refuseOutside_10 : decode cX3_refuseOutside 10 = .ok (.new 63, 3) := by decide +kernel
theorem dX3_refuseOutside_13 : decode cX3_refuseOutside 13 = .ok (.dup, 1) := by decide +kernel
theorem dX3_refuseOutside_14 : decode cX3_refuseOutside 14 = .ok (.ldc 204, 2) := by decide +kernel
theorem dX3_refuseOutside_16 : decode cX3_refuseOutside 16 = .ok (.invokespecial 67, 3) := by decide +kernel
theorem dX3_refuseOutside_19 : decode cX3_refuseOutside 19 = .ok (.athrow, 1) := by decide +kernel
theorem dX3_refuseOutside_20 : decode cX3_refuseOutside 20 = .ok (.return_, 1) := by decide +kernel
theorem dX3_refuseUnchanged_0 : decode cX3_refuseUnchanged 0 = .ok (.iload_n 0, 1) := by decide +kernel
theorem dX3_refuseUnchanged_1 : decode cX3_refuseUnchanged 1 = .ok (.iload_n 1, 1) := by decide +kernel
theorem dX3_refuseUnchanged_2 : decode cX3_refuseUnchanged 2 = .ok (.if_icmp .ne 13, 3) := by decide +kernel
theorem dX3_refuseUnchanged_5 : decode cX3_refuseUnchanged 5 = .ok (.new 145, 3) := by decide +kernel
theorem dX3_refuseUnchanged_8 : decode cX3_refuseUnchanged 8 = .ok (.dup, 1) := by decide +kernel
theorem dX3_refuseUnchanged_9 : decode cX3_refuseUnchanged 9 = .ok (.ldc 206, 2) := by decide +kernel
theorem dX3_refuseUnchanged_11 : decode cX3_refuseUnchanged 11 = .ok (.invokespecial 149, 3) := by decide +kernel
theorem dX3_refuseUnchanged_14 : decode cX3_refuseUnchanged 14 = .ok (.athrow, 1) := by decide +kernel
theorem dX3_refuseUnchanged_15 : decode cX3_refuseUnchanged 15 = .ok (.return_, 1) := by decide +kernel
theorem dX3_refuseNoLift_0 : decode cX3_refuseNoLift 0 = .ok (.iload_n 1, 1) := by decide +kernel
theorem dX3_refuseNoLift_1 : decode cX3_refuseNoLift 1 = .ok (.ifCond .lt 14, 3) := by decide +kernel
theorem dX3_refuseNoLift_4 : decode cX3_refuseNoLift 4 = .ok (.iload_n 1, 1) := by decide +kernel
theorem dX3_refuseNoLift_5 : decode cX3_refuseNoLift 5 = .ok (.aload_n 0, 1) := by decide +kernel
theorem dX3_refuseNoLift_6 : decode cX3_refuseNoLift 6 = .ok (.getfield 25, 3) := by decide +kernel
theorem dX3_refuseNoLift_9 : decode cX3_refuseNoLift 9 = .ok (.getfield 50, 3) := by decide +kernel
theorem dX3_refuseNoLift_12 : decode cX3_refuseNoLift 12 = .ok (.if_icmp .lt 13, 3) := by decide +kernel
theorem dX3_refuseNoLift_15 : decode cX3_refuseNoLift 15 = .ok (.new 85, 3) := by decide +kernel
theorem dX3_refuseNoLift_18 : decode cX3_refuseNoLift 18 = .ok (.dup, 1) := by decide +kernel
theorem dX3_refuseNoLift_19 : decode cX3_refuseNoLift 19 = .ok (.ldc 208, 2) := by decide +kernel
theorem dX3_refuseNoLift_21 : decode cX3_refuseNoLift 21 = .ok (.invokespecial 89, 3) := by decide +kernel
theorem dX3_refuseNoLift_24 : decode cX3_refuseNoLift 24 = .ok (.athrow, 1) := by decide +kernel
theorem dX3_refuseNoLift_25 : decode cX3_refuseNoLift 25 = .ok (.return_, 1) := by decide +kernel
theorem dX3_refuseNoCall_0 : decode cX3_refuseNoCall 0 = .ok (.iload_n 1, 1) := by decide +kernel
theorem dX3_refuseNoCall_1 : decode cX3_refuseNoCall 1 = .ok (.ifCond .lt 14, 3) := by decide +kernel
theorem dX3_refuseNoCall_4 : decode cX3_refuseNoCall 4 = .ok (.iload_n 1, 1) := by decide +kernel
theorem dX3_refuseNoCall_5 : decode cX3_refuseNoCall 5 = .ok (.aload_n 0, 1) := by decide +kernel
theorem dX3_refuseNoCall_6 : decode cX3_refuseNoCall 6 = .ok (.getfield 32, 3) := by decide +kernel
theorem dX3_refuseNoCall_9 : decode cX3_refuseNoCall 9 = .ok (.getfield 68, 3) := by decide +kernel
theorem dX3_refuseNoCall_12 : decode cX3_refuseNoCall 12 = .ok (.if_icmp .lt 13, 3) := by decide +kernel
theorem dX3_refuseNoCall_15 : decode cX3_refuseNoCall 15 = .ok (.new 85, 3) := by decide +kernel
theorem dX3_refuseNoCall_18 : decode cX3_refuseNoCall 18 = .ok (.dup, 1) := by decide +kernel
theorem dX3_refuseNoCall_19 : decode cX3_refuseNoCall 19 = .ok (.ldc 210, 2) := by decide +kernel
theorem dX3_refuseNoCall_21 : decode cX3_refuseNoCall 21 = .ok (.invokespecial 89, 3) := by decide +kernel
theorem dX3_refuseNoCall_24 : decode cX3_refuseNoCall 24 = .ok (.athrow, 1) := by decide +kernel
theorem dX3_refuseNoCall_25 : decode cX3_refuseNoCall 25 = .ok (.return_, 1) := by decide +kernel
theorem dX3_asNumber_0 : decode cX3_asNumber 0 = .ok (.iload_n 0, 1) := by decide +kernel
theorem dX3_asNumber_1 : decode cX3_asNumber 1 = .ok (.ifCond .eq 7, 3) := by decide +kernel
theorem dX3_asNumber_4 : decode cX3_asNumber 4 = .ok (.iconst 1, 1) := by decide +kernel
theorem dX3_asNumber_5 : decode cX3_asNumber 5 = .ok (.goto 4, 3) := by decide +kernel
theorem dX3_asNumber_8 : decode cX3_asNumber 8 = .ok (.iconst 0, 1) := by decide +kernel
theorem dX3_asNumber_9 : decode cX3_asNumber 9 = .ok (.ireturn, 1) := by decide +kernel
set_option maxRecDepth 20000 in
theorem ggX3_nearestLift_X2_mayGet : GoodIn wsX3_nearestLift wsX2_mayGet := goodIn_r _ [9, 10, 11, 12, 18, 19, 20, 21, 22, 23, 24, 25, 26] (by decide +kernel) (by decide +kernel)
set_option maxRecDepth 20000 in
theorem gX3_nearestLift_X2_mayGet_n215 : GoodIn wsX3_nearestLift (wsX2_mayGet) := ggX3_nearestLift_X2_mayGet
theorem dX3_nearestLift_0 : decode cX3_nearestLift 0 = .ok (.iconst (-1), 1) := by decide +kernel
theorem dX3_nearestLift_1 : decode cX3_nearestLift 1 = .ok (.istore_n 3, 1) := by decide +kernel
theorem dX3_nearestLift_2 : decode cX3_nearestLift 2 = .ok (.bipush 20, 2) := by decide +kernel
theorem dX3_nearestLift_4 : decode cX3_nearestLift 4 = .ok (.istore 4, 2) := by decide +kernel
theorem dX3_nearestLift_6 : decode cX3_nearestLift 6 = .ok (.iconst 0, 1) := by decide +kernel
theorem dX3_nearestLift_7 : decode cX3_nearestLift 7 = .ok (.istore 5, 2) := by decide +kernel
theorem dX3_nearestLift_9 : decode cX3_nearestLift 9 = .ok (.iload 5, 2) := by decide +kernel
theorem dX3_nearestLift_11 : decode cX3_nearestLift 11 = .ok (.aload_n 0, 1) := by decide +kernel
theorem dX3_nearestLift_12 : decode cX3_nearestLift 12 = .ok (.getfield 25, 3) := by decide +kernel
theorem dX3_nearestLift_15 : decode cX3_nearestLift 15 = .ok (.getfield 50, 3) := by decide +kernel
theorem dX3_nearestLift_18 : decode cX3_nearestLift 18 = .ok (.if_icmp .ge 53, 3) := by decide +kernel
theorem dX3_nearestLift_21 : decode cX3_nearestLift 21 = .ok (.aload_n 0, 1) := by decide +kernel
theorem dX3_nearestLift_22 : decode cX3_nearestLift 22 = .ok (.getfield 25, 3) := by decide +kernel
theorem dX3_nearestLift_25 : decode cX3_nearestLift 25 = .ok (.getfield 111, 3) := by decide +kernel
theorem dX3_nearestLift_28 : decode cX3_nearestLift 28 = .ok (.iload 5, 2) := by decide +kernel
theorem dX3_nearestLift_30 : decode cX3_nearestLift 30 = .ok (.iaload, 1) := by decide +kernel
theorem dX3_nearestLift_31 : decode cX3_nearestLift 31 = .ok (.iload_n 1, 1) := by decide +kernel
theorem dX3_nearestLift_32 : decode cX3_nearestLift 32 = .ok (.isub, 1) := by decide +kernel
theorem dX3_nearestLift_33 : decode cX3_nearestLift 33 = .ok (.invokestatic 212, 3) := by decide +kernel
theorem dX3_nearestLift_36 : decode cX3_nearestLift 36 = .ok (.istore 6, 2) := by decide +kernel
theorem dX3_nearestLift_38 : decode cX3_nearestLift 38 = .ok (.aload_n 0, 1) := by decide +kernel
theorem dX3_nearestLift_39 : decode cX3_nearestLift 39 = .ok (.getfield 25, 3) := by decide +kernel
theorem dX3_nearestLift_42 : decode cX3_nearestLift 42 = .ok (.iload 5, 2) := by decide +kernel
theorem dX3_nearestLift_44 : decode cX3_nearestLift 44 = .ok (.iload_n 2, 1) := by decide +kernel
theorem dX3_nearestLift_45 : decode cX3_nearestLift 45 = .ok (.invokevirtual 215, 3) := by decide +kernel
theorem dX3_nearestLift_48 : decode cX3_nearestLift 48 = .ok (.ifCond .eq 17, 3) := by decide +kernel
theorem dX3_nearestLift_51 : decode cX3_nearestLift 51 = .ok (.iload 6, 2) := by decide +kernel
theorem dX3_nearestLift_53 : decode cX3_nearestLift 53 = .ok (.iload 4, 2) := by decide +kernel
theorem dX3_nearestLift_55 : decode cX3_nearestLift 55 = .ok (.if_icmp .ge 10, 3) := by decide +kernel
theorem dX3_nearestLift_58 : decode cX3_nearestLift 58 = .ok (.iload 5, 2) := by decide +kernel
theorem dX3_nearestLift_60 : decode cX3_nearestLift 60 = .ok (.istore_n 3, 1) := by decide +kernel
theorem dX3_nearestLift_61 : decode cX3_nearestLift 61 = .ok (.iload 6, 2) := by decide +kernel
theorem dX3_nearestLift_63 : decode cX3_nearestLift 63 = .ok (.istore 4, 2) := by decide +kernel
theorem dX3_nearestLift_65 : decode cX3_nearestLift 65 = .ok (.iinc 5 1, 3) := by decide +kernel
theorem dX3_nearestLift_68 : decode cX3_nearestLift 68 = .ok (.goto (-59), 3) := by decide +kernel
theorem dX3_nearestLift_71 : decode cX3_nearestLift 71 = .ok (.iload_n 3, 1) := by decide +kernel
theorem dX3_nearestLift_72 : decode cX3_nearestLift 72 = .ok (.ireturn, 1) := by decide +kernel
set_option maxRecDepth 20000 in
theorem ggX3_giveAnew_X0_is : GoodIn wsX3_giveAnew wsX0_is := goodIn_r _ [5, 6, 7, 33, 34, 35, 36, 37, 38, 39, 40, 41, 42] (by decide +kernel) (by decide +kernel)
set_option maxRecDepth 20000 in
theorem gX3_giveAnew_X0_is_n219 : GoodIn wsX3_giveAnew (wsX0_is) := ggX3_giveAnew_X0_is
set_option maxRecDepth 20000 in
theorem ggX3_giveAnew_X3_nearestLift : GoodIn wsX3_giveAnew wsX3_nearestLift := goodIn_r _ [12, 13, 14, 15, 16, 17, 18, 19, 20, 21, 22, 23, 24, 28, 29, 30, 31, 32, 43, 44, 45, 46, 47, 48, 49, 50, 51] (by decide +kernel) (by decide +kernel)
set_option maxRecDepth 20000 in
theorem gX3_giveAnew_X3_nearestLift : GoodIn wsX3_giveAnew (wsV RX3 78 RX3 yX3_nearestLift wsX3_nearestLift) := goodIn_app (goodIn_of _ (by decide +kernel)) ggX3_giveAnew_X3_nearestLift
set_option maxRecDepth 20000 in
theorem ggX3_giveAnew_X3_asNumber : GoodIn wsX3_giveAnew wsX3_asNumber := goodIn_r _ [27] (by decide +kernel) (by decide +kernel)
set_option maxRecDepth 20000 in
theorem gX3_giveAnew_X3_asNumber : GoodIn wsX3_giveAnew (va_wsS RX3 131 yX3_asNumber wsX3_asNumber) := goodIn_app (goodIn_of _ (by decide +kernel)) ggX3_giveAnew_X3_asNumber
theorem dX3_giveAnew_0 : decode cX3_giveAnew 0 = .ok (.iconst 0, 1) := by decide +kernel
theorem dX3_giveAnew_1 : decode cX3_giveAnew 1 = .ok (.istore_n 2, 1) := by decide +kernel
theorem dX3_giveAnew_2 : decode cX3_giveAnew 2 = .ok (.iconst 0, 1) := by decide +kernel
theorem dX3_giveAnew_3 : decode cX3_giveAnew 3 = .ok (.istore_n 3, 1) := by decide +kernel
theorem dX3_giveAnew_4 : decode cX3_giveAnew 4 = .ok (.iload_n 3, 1) := by decide +kernel
theorem dX3_giveAnew_5 : decode cX3_giveAnew 5 = .ok (.aload_n 0, 1) := by decide +kernel
theorem dX3_giveAnew_6 : decode cX3_giveAnew 6 = .ok (.getfield 32, 3) := by decide +kernel
theorem dX3_giveAnew_9 : decode cX3_giveAnew 9 = .ok (.getfield 68, 3) := by decide +kernel
theorem dX3_giveAnew_12 : decode cX3_giveAnew 12 = .ok (.if_icmp .ge 77, 3) := by decide +kernel
theorem dX3_giveAnew_15 : decode cX3_giveAnew 15 = .ok (.aload_n 0, 1) := by decide +kernel
theorem dX3_giveAnew_16 : decode cX3_giveAnew 16 = .ok (.getfield 32, 3) := by decide +kernel
theorem dX3_giveAnew_19 : decode cX3_giveAnew 19 = .ok (.iload_n 3, 1) := by decide +kernel
theorem dX3_giveAnew_20 : decode cX3_giveAnew 20 = .ok (.iconst 0, 1) := by decide +kernel
theorem dX3_giveAnew_21 : decode cX3_giveAnew 21 = .ok (.iload_n 1, 1) := by decide +kernel
theorem dX3_giveAnew_22 : decode cX3_giveAnew 22 = .ok (.invokevirtual 219, 3) := by decide +kernel
theorem dX3_giveAnew_25 : decode cX3_giveAnew 25 = .ok (.ifCond .eq 58, 3) := by decide +kernel
theorem dX3_giveAnew_28 : decode cX3_giveAnew 28 = .ok (.aload_n 0, 1) := by decide +kernel
theorem dX3_giveAnew_29 : decode cX3_giveAnew 29 = .ok (.getfield 32, 3) := by decide +kernel
theorem dX3_giveAnew_32 : decode cX3_giveAnew 32 = .ok (.getfield 74, 3) := by decide +kernel
theorem dX3_giveAnew_35 : decode cX3_giveAnew 35 = .ok (.iload_n 3, 1) := by decide +kernel
theorem dX3_giveAnew_36 : decode cX3_giveAnew 36 = .ok (.aload_n 0, 1) := by decide +kernel
theorem dX3_giveAnew_37 : decode cX3_giveAnew 37 = .ok (.aload_n 0, 1) := by decide +kernel
theorem dX3_giveAnew_38 : decode cX3_giveAnew 38 = .ok (.getfield 32, 3) := by decide +kernel
theorem dX3_giveAnew_41 : decode cX3_giveAnew 41 = .ok (.getfield 182, 3) := by decide +kernel
theorem dX3_giveAnew_44 : decode cX3_giveAnew 44 = .ok (.iload_n 3, 1) := by decide +kernel
theorem dX3_giveAnew_45 : decode cX3_giveAnew 45 = .ok (.iaload, 1) := by decide +kernel
theorem dX3_giveAnew_46 : decode cX3_giveAnew 46 = .ok (.aload_n 0, 1) := by decide +kernel
theorem dX3_giveAnew_47 : decode cX3_giveAnew 47 = .ok (.getfield 32, 3) := by decide +kernel
theorem dX3_giveAnew_50 : decode cX3_giveAnew 50 = .ok (.getfield 191, 3) := by decide +kernel
theorem dX3_giveAnew_53 : decode cX3_giveAnew 53 = .ok (.iload_n 3, 1) := by decide +kernel
theorem dX3_giveAnew_54 : decode cX3_giveAnew 54 = .ok (.iaload, 1) := by decide +kernel
theorem dX3_giveAnew_55 : decode cX3_giveAnew 55 = .ok (.invokevirtual 78, 3) := by decide +kernel
theorem dX3_giveAnew_58 : decode cX3_giveAnew 58 = .ok (.iastore, 1) := by decide +kernel
theorem dX3_giveAnew_59 : decode cX3_giveAnew 59 = .ok (.iload_n 2, 1) := by decide +kernel
theorem dX3_giveAnew_60 : decode cX3_giveAnew 60 = .ok (.aload_n 0, 1) := by decide +kernel
theorem dX3_giveAnew_61 : decode cX3_giveAnew 61 = .ok (.getfield 32, 3) := by decide +kernel
theorem dX3_giveAnew_64 : decode cX3_giveAnew 64 = .ok (.getfield 74, 3) := by decide +kernel
theorem dX3_giveAnew_67 : decode cX3_giveAnew 67 = .ok (.iload_n 3, 1) := by decide +kernel
theorem dX3_giveAnew_68 : decode cX3_giveAnew 68 = .ok (.iaload, 1) := by decide +kernel
theorem dX3_giveAnew_69 : decode cX3_giveAnew 69 = .ok (.iconst (-1), 1) := by decide +kernel
theorem dX3_giveAnew_70 : decode cX3_giveAnew 70 = .ok (.if_icmp .eq 7, 3) := by decide +kernel
theorem dX3_giveAnew_73 : decode cX3_giveAnew 73 = .ok (.iconst 1, 1) := by decide +kernel
theorem dX3_giveAnew_74 : decode cX3_giveAnew 74 = .ok (.goto 4, 3) := by decide +kernel
theorem dX3_giveAnew_77 : decode cX3_giveAnew 77 = .ok (.iconst 0, 1) := by decide +kernel
theorem dX3_giveAnew_78 : decode cX3_giveAnew 78 = .ok (.invokestatic 131, 3) := by decide +kernel
theorem dX3_giveAnew_81 : decode cX3_giveAnew 81 = .ok (.iadd, 1) := by decide +kernel
theorem dX3_giveAnew_82 : decode cX3_giveAnew 82 = .ok (.istore_n 2, 1) := by decide +kernel
theorem dX3_giveAnew_83 : decode cX3_giveAnew 83 = .ok (.iinc 3 1, 3) := by decide +kernel
theorem dX3_giveAnew_86 : decode cX3_giveAnew 86 = .ok (.goto (-82), 3) := by decide +kernel
theorem dX3_giveAnew_89 : decode cX3_giveAnew 89 = .ok (.iload_n 2, 1) := by decide +kernel
theorem dX3_giveAnew_90 : decode cX3_giveAnew 90 = .ok (.ireturn, 1) := by decide +kernel
set_option maxRecDepth 20000 in
theorem ggX3_passSecond_X3_doOneThing : GoodIn wsX3_passSecond wsX3_doOneThing := goodIn_r _ [7, 2, 8, 9, 10, 11, 12, 13, 14, 15, 16, 17, 18, 19, 20, 21, 6, 22, 23, 24, 25, 26, 27, 28, 29, 30, 31, 32, 33, 34, 35, 36, 37, 38, 39, 40, 41, 42, 43, 44, 45, 46, 1, 47, 48, 49, 50, 51, 52, 53, 54, 55, 56, 57, 58, 59, 60, 61, 62, 63, 64, 65, 66, 67, 68, 69, 70, 71, 72, 73, 74, 75, 76, 77, 78, 79, 80, 81, 82, 83, 84, 85, 86, 87, 88, 89, 90, 91, 92, 93, 94, 95, 96, 97, 98, 99, 100, 101, 102, 103, 104, 105, 106, 107, 108, 109, 110, 111, 112, 113] (by decide +kernel) (by decide +kernel)
set_option maxRecDepth 20000 in
theorem gX3_passSecond_X3_doOneThing : GoodIn wsX3_passSecond (wsV RX3 223 RX3 yX3_doOneThing wsX3_doOneThing) := goodIn_app (goodIn_of _ (by decide +kernel)) ggX3_passSecond_X3_doOneThing
theorem dX3_passSecond_0 : decode cX3_passSecond 0 = .ok (.aload_n 0, 1) := by decide +kernel
theorem dX3_passSecond_1 : decode cX3_passSecond 1 = .ok (.dup, 1) := by decide +kernel
theorem dX3_passSecond_2 : decode cX3_passSecond 2 = .ok (.getfield 43, 3) := by decide +kernel
theorem dX3_passSecond_5 : decode cX3_passSecond 5 = .ok (.iconst 1, 1) := by decide +kernel
theorem dX3_passSecond_6 : decode cX3_passSecond 6 = .ok (.iadd, 1) := by decide +kernel
theorem dX3_passSecond_7 : decode cX3_passSecond 7 = .ok (.putfield 43, 3) := by decide +kernel
theorem dX3_passSecond_10 : decode cX3_passSecond 10 = .ok (.iconst 0, 1) := by decide +kernel
theorem dX3_passSecond_11 : decode cX3_passSecond 11 = .ok (.istore_n 1, 1) := by decide +kernel
theorem dX3_passSecond_12 : decode cX3_passSecond 12 = .ok (.iload_n 1, 1) := by decide +kernel
theorem dX3_passSecond_13 : decode cX3_passSecond 13 = .ok (.aload_n 0, 1) := by decide +kernel
theorem dX3_passSecond_14 : decode cX3_passSecond 14 = .ok (.getfield 25, 3) := by decide +kernel
theorem dX3_passSecond_17 : decode cX3_passSecond 17 = .ok (.getfield 50, 3) := by decide +kernel
theorem dX3_passSecond_20 : decode cX3_passSecond 20 = .ok (.if_icmp .ge 26, 3) := by decide +kernel
theorem dX3_passSecond_23 : decode cX3_passSecond 23 = .ok (.aload_n 0, 1) := by decide +kernel
theorem dX3_passSecond_24 : decode cX3_passSecond 24 = .ok (.getfield 25, 3) := by decide +kernel
theorem dX3_passSecond_27 : decode cX3_passSecond 27 = .ok (.getfield 127, 3) := by decide +kernel
theorem dX3_passSecond_30 : decode cX3_passSecond 30 = .ok (.iload_n 1, 1) := by decide +kernel
theorem dX3_passSecond_31 : decode cX3_passSecond 31 = .ok (.baload, 1) := by decide +kernel
theorem dX3_passSecond_32 : decode cX3_passSecond 32 = .ok (.ifCond .ne 8, 3) := by decide +kernel
theorem dX3_passSecond_35 : decode cX3_passSecond 35 = .ok (.aload_n 0, 1) := by decide +kernel
theorem dX3_passSecond_36 : decode cX3_passSecond 36 = .ok (.iload_n 1, 1) := by decide +kernel
theorem dX3_passSecond_37 : decode cX3_passSecond 37 = .ok (.invokevirtual 223, 3) := by decide +kernel
theorem dX3_passSecond_40 : decode cX3_passSecond 40 = .ok (.iinc 1 1, 3) := by decide +kernel
theorem dX3_passSecond_43 : decode cX3_passSecond 43 = .ok (.goto (-31), 3) := by decide +kernel
theorem dX3_passSecond_46 : decode cX3_passSecond 46 = .ok (.return_, 1) := by decide +kernel
set_option maxRecDepth 20000 in
theorem ggX3_doOneThing_X2_passOpenSecond : GoodIn wsX3_doOneThing wsX2_passOpenSecond := goodIn_r _ [6, 7, 8, 9, 10, 11, 12, 86, 87, 88, 89, 90, 91, 92, 93, 94] (by decide +kernel) (by decide +kernel)
set_option maxRecDepth 20000 in
theorem gX3_doOneThing_X2_passOpenSecond_n226 : GoodIn wsX3_doOneThing (wsX2_passOpenSecond) := ggX3_doOneThing_X2_passOpenSecond
set_option maxRecDepth 20000 in
theorem ggX3_doOneThing_X3_opensHere : GoodIn wsX3_doOneThing wsX3_opensHere := goodIn_r _ [17, 1, 2, 18, 19, 20, 21, 22, 23, 24, 25, 26, 27, 28, 29, 30, 31, 32, 33, 34, 35, 36, 37, 81, 82, 83, 84, 85, 86, 87, 88, 89, 90, 91, 92, 93, 94, 95, 96, 97, 98, 99, 100, 101, 102, 103, 104] (by decide +kernel) (by decide +kernel)
set_option maxRecDepth 20000 in
theorem gX3_doOneThing_X3_opensHere : GoodIn wsX3_doOneThing (wsV RX3 229 RX3 yX3_opensHere wsX3_opensHere) := goodIn_app (goodIn_of _ (by decide +kernel)) ggX3_doOneThing_X3_opensHere
set_option maxRecDepth 20000 in
theorem ggX3_doOneThing_X3_letOut : GoodIn wsX3_doOneThing wsX3_letOut := goodIn_r _ [41, 2, 1, 42, 43, 31, 19, 32, 33, 23, 25, 26, 27, 28, 29, 30, 44, 45, 46, 47, 48, 49, 50, 51, 52, 81, 82, 83, 84, 85, 95, 96, 97, 98, 99, 100, 101, 102, 103, 104, 86, 87, 88, 89, 90, 91, 92, 93, 94, 105, 106, 107, 108, 109] (by decide +kernel) (by decide +kernel)
set_option maxRecDepth 20000 in
theorem gX3_doOneThing_X3_letOut : GoodIn wsX3_doOneThing (wsV RX3 233 RX3 yX3_letOut wsX3_letOut) := goodIn_app (goodIn_of _ (by decide +kernel)) ggX3_doOneThing_X3_letOut
set_option maxRecDepth 20000 in
theorem ggX3_doOneThing_X3_letIn : GoodIn wsX3_doOneThing wsX3_letIn := goodIn_r _ [56, 1, 2, 42, 43, 57, 19, 58, 59, 60, 18, 20, 21, 22, 23, 24, 25, 26, 27, 28, 29, 30, 34, 35, 36, 37, 44, 45, 46, 47, 48, 49, 50, 51, 52, 81, 82, 83, 84, 85, 86, 87, 88, 89, 90, 91, 92, 93, 94, 95, 96, 97, 98, 99, 100, 101, 102, 103, 104, 105, 106, 107, 108, 109] (by decide +kernel) (by decide +kernel)
set_option maxRecDepth 20000 in
theorem gX3_doOneThing_X3_letIn : GoodIn wsX3_doOneThing (wsV RX3 236 RX3 yX3_letIn wsX3_letIn) := goodIn_app (goodIn_of _ (by decide +kernel)) ggX3_doOneThing_X3_letIn
set_option maxRecDepth 20000 in
theorem ggX3_doOneThing_X0_hasWork : GoodIn wsX3_doOneThing wsX0_hasWork := goodIn_r _ [63, 64, 65, 66, 19, 67, 22, 25, 26, 27, 28, 29, 30, 68, 69, 70, 71, 37, 23, 95, 96, 97, 98, 99, 100, 101, 102, 103, 104] (by decide +kernel) (by decide +kernel)
set_option maxRecDepth 20000 in
theorem gX3_doOneThing_X0_hasWork_n239 : GoodIn wsX3_doOneThing (wsX0_hasWork) := ggX3_doOneThing_X0_hasWork
set_option maxRecDepth 20000 in
theorem ggX3_doOneThing_X2_go : GoodIn wsX3_doOneThing wsX2_go := goodIn_r _ [74, 75, 76, 77, 78, 79, 11, 80, 86, 87, 88, 89, 90, 91, 92, 93, 94] (by decide +kernel) (by decide +kernel)
set_option maxRecDepth 20000 in
theorem gX3_doOneThing_X2_go_n242 : GoodIn wsX3_doOneThing (wsX2_go) := ggX3_doOneThing_X2_go
theorem dX3_doOneThing_0 : decode cX3_doOneThing 0 = .ok (.aload_n 0, 1) := by decide +kernel
theorem dX3_doOneThing_1 : decode cX3_doOneThing 1 = .ok (.getfield 25, 3) := by decide +kernel
theorem dX3_doOneThing_4 : decode cX3_doOneThing 4 = .ok (.getfield 121, 3) := by decide +kernel
theorem dX3_doOneThing_7 : decode cX3_doOneThing 7 = .ok (.iload_n 1, 1) := by decide +kernel
theorem dX3_doOneThing_8 : decode cX3_doOneThing 8 = .ok (.iaload, 1) := by decide +kernel
theorem dX3_doOneThing_9 : decode cX3_doOneThing 9 = .ok (.ifCond .le 14, 3) := by decide +kernel
theorem dX3_doOneThing_12 : decode cX3_doOneThing 12 = .ok (.aload_n 0, 1) := by decide +kernel
theorem dX3_doOneThing_13 : decode cX3_doOneThing 13 = .ok (.getfield 25, 3) := by decide +kernel
theorem dX3_doOneThing_16 : decode cX3_doOneThing 16 = .ok (.iload_n 1, 1) := by decide +kernel
theorem dX3_doOneThing_17 : decode cX3_doOneThing 17 = .ok (.invokevirtual 226, 3) := by decide +kernel
theorem dX3_doOneThing_20 : decode cX3_doOneThing 20 = .ok (.goto 82, 3) := by decide +kernel
theorem dX3_doOneThing_23 : decode cX3_doOneThing 23 = .ok (.aload_n 0, 1) := by decide +kernel
theorem dX3_doOneThing_24 : decode cX3_doOneThing 24 = .ok (.iload_n 1, 1) := by decide +kernel
theorem dX3_doOneThing_25 : decode cX3_doOneThing 25 = .ok (.invokevirtual 229, 3) := by decide +kernel
theorem dX3_doOneThing_28 : decode cX3_doOneThing 28 = .ok (.ifCond .eq 26, 3) := by decide +kernel
theorem dX3_doOneThing_31 : decode cX3_doOneThing 31 = .ok (.aload_n 0, 1) := by decide +kernel
theorem dX3_doOneThing_32 : decode cX3_doOneThing 32 = .ok (.iload_n 1, 1) := by decide +kernel
theorem dX3_doOneThing_33 : decode cX3_doOneThing 33 = .ok (.invokevirtual 233, 3) := by decide +kernel
theorem dX3_doOneThing_36 : decode cX3_doOneThing 36 = .ok (.aload_n 0, 1) := by decide +kernel
theorem dX3_doOneThing_37 : decode cX3_doOneThing 37 = .ok (.iload_n 1, 1) := by decide +kernel
theorem dX3_doOneThing_38 : decode cX3_doOneThing 38 = .ok (.invokevirtual 236, 3) := by decide +kernel
theorem dX3_doOneThing_41 : decode cX3_doOneThing 41 = .ok (.aload_n 0, 1) := by decide +kernel
theorem dX3_doOneThing_42 : decode cX3_doOneThing 42 = .ok (.getfield 25, 3) := by decide +kernel
theorem dX3_doOneThing_45 : decode cX3_doOneThing 45 = .ok (.getfield 121, 3) := by decide +kernel
theorem dX3_doOneThing_48 : decode cX3_doOneThing 48 = .ok (.iload_n 1, 1) := by decide +kernel
theorem dX3_doOneThing_49 : decode cX3_doOneThing 49 = .ok (.iconst 3, 1) := by decide +kernel
theorem dX3_doOneThing_50 : decode cX3_doOneThing 50 = .ok (.iastore, 1) := by decide +kernel
theorem dX3_doOneThing_51 : decode cX3_doOneThing 51 = .ok (.goto 51, 3) := by decide +kernel
theorem dX3_doOneThing_54 : decode cX3_doOneThing 54 = .ok (.aload_n 0, 1) := by decide +kernel
theorem dX3_doOneThing_55 : decode cX3_doOneThing 55 = .ok (.getfield 32, 3) := by decide +kernel
theorem dX3_doOneThing_58 : decode cX3_doOneThing 58 = .ok (.iload_n 1, 1) := by decide +kernel
theorem dX3_doOneThing_59 : decode cX3_doOneThing 59 = .ok (.aload_n 0, 1) := by decide +kernel
theorem dX3_doOneThing_60 : decode cX3_doOneThing 60 = .ok (.getfield 25, 3) := by decide +kernel
theorem dX3_doOneThing_63 : decode cX3_doOneThing 63 = .ok (.getfield 111, 3) := by decide +kernel
theorem dX3_doOneThing_66 : decode cX3_doOneThing 66 = .ok (.iload_n 1, 1) := by decide +kernel
theorem dX3_doOneThing_67 : decode cX3_doOneThing 67 = .ok (.iaload, 1) := by decide +kernel
theorem dX3_doOneThing_68 : decode cX3_doOneThing 68 = .ok (.iconst 1, 1) := by decide +kernel
theorem dX3_doOneThing_69 : decode cX3_doOneThing 69 = .ok (.invokevirtual 239, 3) := by decide +kernel
theorem dX3_doOneThing_72 : decode cX3_doOneThing 72 = .ok (.istore_n 2, 1) := by decide +kernel
theorem dX3_doOneThing_73 : decode cX3_doOneThing 73 = .ok (.aload_n 0, 1) := by decide +kernel
theorem dX3_doOneThing_74 : decode cX3_doOneThing 74 = .ok (.getfield 32, 3) := by decide +kernel
theorem dX3_doOneThing_77 : decode cX3_doOneThing 77 = .ok (.iload_n 1, 1) := by decide +kernel
theorem dX3_doOneThing_78 : decode cX3_doOneThing 78 = .ok (.aload_n 0, 1) := by decide +kernel
theorem dX3_doOneThing_79 : decode cX3_doOneThing 79 = .ok (.getfield 25, 3) := by decide +kernel
theorem dX3_doOneThing_82 : decode cX3_doOneThing 82 = .ok (.getfield 111, 3) := by decide +kernel
theorem dX3_doOneThing_85 : decode cX3_doOneThing 85 = .ok (.iload_n 1, 1) := by decide +kernel
theorem dX3_doOneThing_86 : decode cX3_doOneThing 86 = .ok (.iaload, 1) := by decide +kernel
theorem dX3_doOneThing_87 : decode cX3_doOneThing 87 = .ok (.iconst (-1), 1) := by decide +kernel
theorem dX3_doOneThing_88 : decode cX3_doOneThing 88 = .ok (.invokevirtual 239, 3) := by decide +kernel
theorem dX3_doOneThing_91 : decode cX3_doOneThing 91 = .ok (.istore_n 3, 1) := by decide +kernel
theorem dX3_doOneThing_92 : decode cX3_doOneThing 92 = .ok (.aload_n 0, 1) := by decide +kernel
theorem dX3_doOneThing_93 : decode cX3_doOneThing 93 = .ok (.getfield 25, 3) := by decide +kernel
theorem dX3_doOneThing_96 : decode cX3_doOneThing 96 = .ok (.iload_n 1, 1) := by decide +kernel
theorem dX3_doOneThing_97 : decode cX3_doOneThing 97 = .ok (.iload_n 2, 1) := by decide +kernel
theorem dX3_doOneThing_98 : decode cX3_doOneThing 98 = .ok (.iload_n 3, 1) := by decide +kernel
theorem dX3_doOneThing_99 : decode cX3_doOneThing 99 = .ok (.invokevirtual 242, 3) := by decide +kernel
theorem dX3_doOneThing_102 : decode cX3_doOneThing 102 = .ok (.return_, 1) := by decide +kernel
set_option maxRecDepth 20000 in
theorem ggX3_opensHere_X0_loadStaying : GoodIn wsX3_opensHere wsX0_loadStaying := goodIn_r _ [6, 7, 8, 9, 10, 11, 12, 4, 13, 14, 15, 37, 38, 39, 40, 41, 42, 43, 44, 45, 46] (by decide +kernel) (by decide +kernel)
set_option maxRecDepth 20000 in
theorem gX3_opensHere_X0_loadStaying_n249 : GoodIn wsX3_opensHere (wsX0_loadStaying) := ggX3_opensHere_X0_loadStaying
set_option maxRecDepth 20000 in
theorem ggX3_opensHere_X0_getsOut : GoodIn wsX3_opensHere wsX0_getsOut := goodIn_r _ [18, 8, 10, 11, 12, 4, 13, 14, 15, 37, 38, 39, 40, 41, 42, 43, 44, 45, 46] (by decide +kernel) (by decide +kernel)
set_option maxRecDepth 20000 in
theorem gX3_opensHere_X0_getsOut_n252 : GoodIn wsX3_opensHere (wsX0_getsOut) := ggX3_opensHere_X0_getsOut
set_option maxRecDepth 20000 in
theorem ggX3_opensHere_X0_fitsIn : GoodIn wsX3_opensHere wsX0_fitsIn := goodIn_r _ [21, 22, 9, 10, 11, 12, 4, 13, 14, 15, 37, 38, 39, 40, 41, 42, 43, 44, 45, 46] (by decide +kernel) (by decide +kernel)
set_option maxRecDepth 20000 in
theorem gX3_opensHere_X0_fitsIn_n255 : GoodIn wsX3_opensHere (wsX0_fitsIn) := ggX3_opensHere_X0_fitsIn
theorem dX3_opensHere_0 : decode cX3_opensHere 0 = .ok (.aload_n 0, 1) := by decide +kernel
theorem dX3_opensHere_1 : decode cX3_opensHere 1 = .ok (.getfield 25, 3) := by decide +kernel
theorem dX3_opensHere_4 : decode cX3_opensHere 4 = .ok (.getfield 111, 3) := by decide +kernel
theorem dX3_opensHere_7 : decode cX3_opensHere 7 = .ok (.iload_n 1, 1) := by decide +kernel
theorem dX3_opensHere_8 : decode cX3_opensHere 8 = .ok (.iaload, 1) := by decide +kernel
theorem dX3_opensHere_9 : decode cX3_opensHere 9 = .ok (.istore_n 2, 1) := by decide +kernel
theorem dX3_opensHere_10 : decode cX3_opensHere 10 = .ok (.aload_n 0, 1) := by decide +kernel
theorem dX3_opensHere_11 : decode cX3_opensHere 11 = .ok (.getfield 25, 3) := by decide +kernel
theorem dX3_opensHere_14 : decode cX3_opensHere 14 = .ok (.getfield 246, 3) := by decide +kernel
theorem dX3_opensHere_17 : decode cX3_opensHere 17 = .ok (.iload_n 1, 1) := by decide +kernel
theorem dX3_opensHere_18 : decode cX3_opensHere 18 = .ok (.iaload, 1) := by decide +kernel
theorem dX3_opensHere_19 : decode cX3_opensHere 19 = .ok (.aload_n 0, 1) := by decide +kernel
theorem dX3_opensHere_20 : decode cX3_opensHere 20 = .ok (.getfield 32, 3) := by decide +kernel
theorem dX3_opensHere_23 : decode cX3_opensHere 23 = .ok (.iload_n 1, 1) := by decide +kernel
theorem dX3_opensHere_24 : decode cX3_opensHere 24 = .ok (.iload_n 2, 1) := by decide +kernel
theorem dX3_opensHere_25 : decode cX3_opensHere 25 = .ok (.invokevirtual 249, 3) := by decide +kernel
theorem dX3_opensHere_28 : decode cX3_opensHere 28 = .ok (.isub, 1) := by decide +kernel
theorem dX3_opensHere_29 : decode cX3_opensHere 29 = .ok (.istore_n 3, 1) := by decide +kernel
theorem dX3_opensHere_30 : decode cX3_opensHere 30 = .ok (.iconst 0, 1) := by decide +kernel
theorem dX3_opensHere_31 : decode cX3_opensHere 31 = .ok (.istore 4, 2) := by decide +kernel
theorem dX3_opensHere_33 : decode cX3_opensHere 33 = .ok (.iload 4, 2) := by decide +kernel
theorem dX3_opensHere_35 : decode cX3_opensHere 35 = .ok (.aload_n 0, 1) := by decide +kernel
theorem dX3_opensHere_36 : decode cX3_opensHere 36 = .ok (.getfield 32, 3) := by decide +kernel
theorem dX3_opensHere_39 : decode cX3_opensHere 39 = .ok (.getfield 68, 3) := by decide +kernel
theorem dX3_opensHere_42 : decode cX3_opensHere 42 = .ok (.if_icmp .ge 40, 3) := by decide +kernel
theorem dX3_opensHere_45 : decode cX3_opensHere 45 = .ok (.aload_n 0, 1) := by decide +kernel
theorem dX3_opensHere_46 : decode cX3_opensHere 46 = .ok (.getfield 32, 3) := by decide +kernel
theorem dX3_opensHere_49 : decode cX3_opensHere 49 = .ok (.iload 4, 2) := by decide +kernel
theorem dX3_opensHere_51 : decode cX3_opensHere 51 = .ok (.iload_n 1, 1) := by decide +kernel
theorem dX3_opensHere_52 : decode cX3_opensHere 52 = .ok (.iload_n 2, 1) := by decide +kernel
theorem dX3_opensHere_53 : decode cX3_opensHere 53 = .ok (.invokevirtual 252, 3) := by decide +kernel
theorem dX3_opensHere_56 : decode cX3_opensHere 56 = .ok (.ifCond .ne 18, 3) := by decide +kernel
theorem dX3_opensHere_59 : decode cX3_opensHere 59 = .ok (.aload_n 0, 1) := by decide +kernel
theorem dX3_opensHere_60 : decode cX3_opensHere 60 = .ok (.getfield 32, 3) := by decide +kernel
theorem dX3_opensHere_63 : decode cX3_opensHere 63 = .ok (.iload 4, 2) := by decide +kernel
theorem dX3_opensHere_65 : decode cX3_opensHere 65 = .ok (.iload_n 1, 1) := by decide +kernel
theorem dX3_opensHere_66 : decode cX3_opensHere 66 = .ok (.iload_n 2, 1) := by decide +kernel
theorem dX3_opensHere_67 : decode cX3_opensHere 67 = .ok (.iload_n 3, 1) := by decide +kernel
theorem dX3_opensHere_68 : decode cX3_opensHere 68 = .ok (.invokevirtual 255, 3) := by decide +kernel
theorem dX3_opensHere_71 : decode cX3_opensHere 71 = .ok (.ifCond .eq 5, 3) := by decide +kernel
theorem dX3_opensHere_74 : decode cX3_opensHere 74 = .ok (.iconst 1, 1) := by decide +kernel
theorem dX3_opensHere_75 : decode cX3_opensHere 75 = .ok (.ireturn, 1) := by decide +kernel
theorem dX3_opensHere_76 : decode cX3_opensHere 76 = .ok (.iinc 4 1, 3) := by decide +kernel
theorem dX3_opensHere_79 : decode cX3_opensHere 79 = .ok (.goto (-46), 3) := by decide +kernel
theorem dX3_opensHere_82 : decode cX3_opensHere 82 = .ok (.iconst 0, 1) := by decide +kernel
theorem dX3_opensHere_83 : decode cX3_opensHere 83 = .ok (.ireturn, 1) := by decide +kernel
set_option maxRecDepth 20000 in
theorem ggX3_letOut_X0_getsOut : GoodIn wsX3_letOut wsX0_getsOut := goodIn_r _ [8, 9, 10, 11, 12, 6, 13, 14, 15, 30, 31, 32, 33, 34, 35, 36, 37, 38, 39] (by decide +kernel) (by decide +kernel)
set_option maxRecDepth 20000 in
theorem gX3_letOut_X0_getsOut_n252 : GoodIn wsX3_letOut (wsX0_getsOut) := ggX3_letOut_X0_getsOut
set_option maxRecDepth 20000 in
theorem ggX3_letOut_X1_add : GoodIn wsX3_letOut wsX1_add := goodIn_r _ [19, 20, 21, 22, 23, 24, 49, 50, 51, 52, 53] (by decide +kernel) (by decide +kernel)
set_option maxRecDepth 20000 in
theorem gX3_letOut_X1_add_n259 : GoodIn wsX3_letOut (wsX1_add) := ggX3_letOut_X1_add
theorem dX3_letOut_0 : decode cX3_letOut 0 = .ok (.iconst 0, 1) := by decide +kernel
theorem dX3_letOut_1 : decode cX3_letOut 1 = .ok (.istore_n 2, 1) := by decide +kernel
theorem dX3_letOut_2 : decode cX3_letOut 2 = .ok (.iload_n 2, 1) := by decide +kernel
theorem dX3_letOut_3 : decode cX3_letOut 3 = .ok (.aload_n 0, 1) := by decide +kernel
theorem dX3_letOut_4 : decode cX3_letOut 4 = .ok (.getfield 32, 3) := by decide +kernel
theorem dX3_letOut_7 : decode cX3_letOut 7 = .ok (.getfield 68, 3) := by decide +kernel
theorem dX3_letOut_10 : decode cX3_letOut 10 = .ok (.if_icmp .ge 67, 3) := by decide +kernel
theorem dX3_letOut_13 : decode cX3_letOut 13 = .ok (.aload_n 0, 1) := by decide +kernel
theorem dX3_letOut_14 : decode cX3_letOut 14 = .ok (.getfield 32, 3) := by decide +kernel
theorem dX3_letOut_17 : decode cX3_letOut 17 = .ok (.iload_n 2, 1) := by decide +kernel
theorem dX3_letOut_18 : decode cX3_letOut 18 = .ok (.iload_n 1, 1) := by decide +kernel
theorem dX3_letOut_19 : decode cX3_letOut 19 = .ok (.aload_n 0, 1) := by decide +kernel
theorem dX3_letOut_20 : decode cX3_letOut 20 = .ok (.getfield 25, 3) := by decide +kernel
theorem dX3_letOut_23 : decode cX3_letOut 23 = .ok (.getfield 111, 3) := by decide +kernel
theorem dX3_letOut_26 : decode cX3_letOut 26 = .ok (.iload_n 1, 1) := by decide +kernel
theorem dX3_letOut_27 : decode cX3_letOut 27 = .ok (.iaload, 1) := by decide +kernel
theorem dX3_letOut_28 : decode cX3_letOut 28 = .ok (.invokevirtual 252, 3) := by decide +kernel
theorem dX3_letOut_31 : decode cX3_letOut 31 = .ok (.ifCond .eq 40, 3) := by decide +kernel
theorem dX3_letOut_34 : decode cX3_letOut 34 = .ok (.aload_n 0, 1) := by decide +kernel
theorem dX3_letOut_35 : decode cX3_letOut 35 = .ok (.getfield 32, 3) := by decide +kernel
theorem dX3_letOut_38 : decode cX3_letOut 38 = .ok (.getfield 159, 3) := by decide +kernel
theorem dX3_letOut_41 : decode cX3_letOut 41 = .ok (.iload_n 2, 1) := by decide +kernel
theorem dX3_letOut_42 : decode cX3_letOut 42 = .ok (.iconst 2, 1) := by decide +kernel
theorem dX3_letOut_43 : decode cX3_letOut 43 = .ok (.iastore, 1) := by decide +kernel
theorem dX3_letOut_44 : decode cX3_letOut 44 = .ok (.aload_n 0, 1) := by decide +kernel
theorem dX3_letOut_45 : decode cX3_letOut 45 = .ok (.getfield 32, 3) := by decide +kernel
theorem dX3_letOut_48 : decode cX3_letOut 48 = .ok (.getfield 156, 3) := by decide +kernel
theorem dX3_letOut_51 : decode cX3_letOut 51 = .ok (.iload_n 2, 1) := by decide +kernel
theorem dX3_letOut_52 : decode cX3_letOut 52 = .ok (.aload_n 0, 1) := by decide +kernel
theorem dX3_letOut_53 : decode cX3_letOut 53 = .ok (.getfield 43, 3) := by decide +kernel
theorem dX3_letOut_56 : decode cX3_letOut 56 = .ok (.iastore, 1) := by decide +kernel
theorem dX3_letOut_57 : decode cX3_letOut 57 = .ok (.aload_n 0, 1) := by decide +kernel
theorem dX3_letOut_58 : decode cX3_letOut 58 = .ok (.getfield 39, 3) := by decide +kernel
theorem dX3_letOut_61 : decode cX3_letOut 61 = .ok (.aload_n 0, 1) := by decide +kernel
theorem dX3_letOut_62 : decode cX3_letOut 62 = .ok (.getfield 43, 3) := by decide +kernel
theorem dX3_letOut_65 : decode cX3_letOut 65 = .ok (.iload_n 1, 1) := by decide +kernel
theorem dX3_letOut_66 : decode cX3_letOut 66 = .ok (.iload_n 2, 1) := by decide +kernel
theorem dX3_letOut_67 : decode cX3_letOut 67 = .ok (.iconst 1, 1) := by decide +kernel
theorem dX3_letOut_68 : decode cX3_letOut 68 = .ok (.invokevirtual 259, 3) := by decide +kernel
theorem dX3_letOut_71 : decode cX3_letOut 71 = .ok (.iinc 2 1, 3) := by decide +kernel
theorem dX3_letOut_74 : decode cX3_letOut 74 = .ok (.goto (-72), 3) := by decide +kernel
theorem dX3_letOut_77 : decode cX3_letOut 77 = .ok (.return_, 1) := by decide +kernel
set_option maxRecDepth 20000 in
theorem ggX3_letIn_X0_loadAboard : GoodIn wsX3_letIn wsX0_loadAboard := goodIn_r _ [8, 9, 10, 11, 6, 12, 13, 14, 15, 16, 17, 18, 19, 20, 21, 49, 50, 51, 52, 53, 54, 55, 56, 57, 58] (by decide +kernel) (by decide +kernel)
set_option maxRecDepth 20000 in
theorem gX3_letIn_X0_loadAboard_n114 : GoodIn wsX3_letIn (wsX0_loadAboard) := ggX3_letIn_X0_loadAboard
set_option maxRecDepth 20000 in
theorem ggX3_letIn_X0_fitsIn : GoodIn wsX3_letIn wsX0_fitsIn := goodIn_r _ [24, 25, 15, 16, 17, 18, 6, 19, 20, 21, 49, 50, 51, 52, 53, 54, 55, 56, 57, 58] (by decide +kernel) (by decide +kernel)
set_option maxRecDepth 20000 in
theorem gX3_letIn_X0_fitsIn_n255 : GoodIn wsX3_letIn (wsX0_fitsIn) := ggX3_letIn_X0_fitsIn
set_option maxRecDepth 20000 in
theorem ggX3_letIn_X1_add : GoodIn wsX3_letIn wsX1_add := goodIn_r _ [29, 30, 31, 32, 33, 34, 59, 60, 61, 62, 63] (by decide +kernel) (by decide +kernel)
set_option maxRecDepth 20000 in
theorem gX3_letIn_X1_add_n259 : GoodIn wsX3_letIn (wsX1_add) := ggX3_letIn_X1_add
theorem dX3_letIn_0 : decode cX3_letIn 0 = .ok (.aload_n 0, 1) := by decide +kernel
theorem dX3_letIn_1 : decode cX3_letIn 1 = .ok (.getfield 25, 3) := by decide +kernel
theorem dX3_letIn_4 : decode cX3_letIn 4 = .ok (.getfield 246, 3) := by decide +kernel
theorem dX3_letIn_7 : decode cX3_letIn 7 = .ok (.iload_n 1, 1) := by decide +kernel
theorem dX3_letIn_8 : decode cX3_letIn 8 = .ok (.iaload, 1) := by decide +kernel
theorem dX3_letIn_9 : decode cX3_letIn 9 = .ok (.aload_n 0, 1) := by decide +kernel
theorem dX3_letIn_10 : decode cX3_letIn 10 = .ok (.getfield 32, 3) := by decide +kernel
theorem dX3_letIn_13 : decode cX3_letIn 13 = .ok (.iload_n 1, 1) := by decide +kernel
theorem dX3_letIn_14 : decode cX3_letIn 14 = .ok (.invokevirtual 114, 3) := by decide +kernel
theorem dX3_letIn_17 : decode cX3_letIn 17 = .ok (.isub, 1) := by decide +kernel
theorem dX3_letIn_18 : decode cX3_letIn 18 = .ok (.istore_n 2, 1) := by decide +kernel
theorem dX3_letIn_19 : decode cX3_letIn 19 = .ok (.iconst 1, 1) := by decide +kernel
theorem dX3_letIn_20 : decode cX3_letIn 20 = .ok (.istore_n 3, 1) := by decide +kernel
theorem dX3_letIn_21 : decode cX3_letIn 21 = .ok (.iload_n 3, 1) := by decide +kernel
theorem dX3_letIn_22 : decode cX3_letIn 22 = .ok (.iconst 3, 1) := by decide +kernel
theorem dX3_letIn_23 : decode cX3_letIn 23 = .ok (.if_icmp .gt 120, 3) := by decide +kernel
theorem dX3_letIn_26 : decode cX3_letIn 26 = .ok (.iconst 0, 1) := by decide +kernel
theorem dX3_letIn_27 : decode cX3_letIn 27 = .ok (.istore 4, 2) := by decide +kernel
theorem dX3_letIn_29 : decode cX3_letIn 29 = .ok (.iload 4, 2) := by decide +kernel
theorem dX3_letIn_31 : decode cX3_letIn 31 = .ok (.aload_n 0, 1) := by decide +kernel
theorem dX3_letIn_32 : decode cX3_letIn 32 = .ok (.getfield 32, 3) := by decide +kernel
theorem dX3_letIn_35 : decode cX3_letIn 35 = .ok (.getfield 68, 3) := by decide +kernel
theorem dX3_letIn_38 : decode cX3_letIn 38 = .ok (.if_icmp .ge 99, 3) := by decide +kernel
theorem dX3_letIn_41 : decode cX3_letIn 41 = .ok (.aload_n 0, 1) := by decide +kernel
theorem dX3_letIn_42 : decode cX3_letIn 42 = .ok (.getfield 32, 3) := by decide +kernel
theorem dX3_letIn_45 : decode cX3_letIn 45 = .ok (.getfield 188, 3) := by decide +kernel
theorem dX3_letIn_48 : decode cX3_letIn 48 = .ok (.iload 4, 2) := by decide +kernel
theorem dX3_letIn_50 : decode cX3_letIn 50 = .ok (.iaload, 1) := by decide +kernel
theorem dX3_letIn_51 : decode cX3_letIn 51 = .ok (.iload_n 3, 1) := by decide +kernel
theorem dX3_letIn_52 : decode cX3_letIn 52 = .ok (.if_icmp .ne 79, 3) := by decide +kernel
theorem dX3_letIn_55 : decode cX3_letIn 55 = .ok (.aload_n 0, 1) := by decide +kernel
theorem dX3_letIn_56 : decode cX3_letIn 56 = .ok (.getfield 32, 3) := by decide +kernel
theorem dX3_letIn_59 : decode cX3_letIn 59 = .ok (.iload 4, 2) := by decide +kernel
theorem dX3_letIn_61 : decode cX3_letIn 61 = .ok (.iload_n 1, 1) := by decide +kernel
theorem dX3_letIn_62 : decode cX3_letIn 62 = .ok (.aload_n 0, 1) := by decide +kernel
theorem dX3_letIn_63 : decode cX3_letIn 63 = .ok (.getfield 25, 3) := by decide +kernel
theorem dX3_letIn_66 : decode cX3_letIn 66 = .ok (.getfield 111, 3) := by decide +kernel
theorem dX3_letIn_69 : decode cX3_letIn 69 = .ok (.iload_n 1, 1) := by decide +kernel
theorem dX3_letIn_70 : decode cX3_letIn 70 = .ok (.iaload, 1) := by decide +kernel
theorem dX3_letIn_71 : decode cX3_letIn 71 = .ok (.iload_n 2, 1) := by decide +kernel
theorem dX3_letIn_72 : decode cX3_letIn 72 = .ok (.invokevirtual 255, 3) := by decide +kernel
theorem dX3_letIn_75 : decode cX3_letIn 75 = .ok (.ifCond .eq 56, 3) := by decide +kernel
theorem dX3_letIn_78 : decode cX3_letIn 78 = .ok (.aload_n 0, 1) := by decide +kernel
theorem dX3_letIn_79 : decode cX3_letIn 79 = .ok (.getfield 32, 3) := by decide +kernel
theorem dX3_letIn_82 : decode cX3_letIn 82 = .ok (.getfield 159, 3) := by decide +kernel
theorem dX3_letIn_85 : decode cX3_letIn 85 = .ok (.iload 4, 2) := by decide +kernel
theorem dX3_letIn_87 : decode cX3_letIn 87 = .ok (.iconst 1, 1) := by decide +kernel
theorem dX3_letIn_88 : decode cX3_letIn 88 = .ok (.iastore, 1) := by decide +kernel
theorem dX3_letIn_89 : decode cX3_letIn 89 = .ok (.aload_n 0, 1) := by decide +kernel
theorem dX3_letIn_90 : decode cX3_letIn 90 = .ok (.getfield 32, 3) := by decide +kernel
theorem dX3_letIn_93 : decode cX3_letIn 93 = .ok (.getfield 162, 3) := by decide +kernel
theorem dX3_letIn_96 : decode cX3_letIn 96 = .ok (.iload 4, 2) := by decide +kernel
theorem dX3_letIn_98 : decode cX3_letIn 98 = .ok (.aload_n 0, 1) := by decide +kernel
theorem dX3_letIn_99 : decode cX3_letIn 99 = .ok (.getfield 43, 3) := by decide +kernel
theorem dX3_letIn_102 : decode cX3_letIn 102 = .ok (.iastore, 1) := by decide +kernel
theorem dX3_letIn_103 : decode cX3_letIn 103 = .ok (.aload_n 0, 1) := by decide +kernel
theorem dX3_letIn_104 : decode cX3_letIn 104 = .ok (.getfield 39, 3) := by decide +kernel
theorem dX3_letIn_107 : decode cX3_letIn 107 = .ok (.aload_n 0, 1) := by decide +kernel
theorem dX3_letIn_108 : decode cX3_letIn 108 = .ok (.getfield 43, 3) := by decide +kernel
theorem dX3_letIn_111 : decode cX3_letIn 111 = .ok (.iload_n 1, 1) := by decide +kernel
theorem dX3_letIn_112 : decode cX3_letIn 112 = .ok (.iload 4, 2) := by decide +kernel
theorem dX3_letIn_114 : decode cX3_letIn 114 = .ok (.iconst 0, 1) := by decide +kernel
theorem dX3_letIn_115 : decode cX3_letIn 115 = .ok (.invokevirtual 259, 3) := by decide +kernel
theorem dX3_letIn_118 : decode cX3_letIn 118 = .ok (.iload_n 2, 1) := by decide +kernel
theorem dX3_letIn_119 : decode cX3_letIn 119 = .ok (.aload_n 0, 1) := by decide +kernel
theorem dX3_letIn_120 : decode cX3_letIn 120 = .ok (.getfield 32, 3) := by decide +kernel
theorem dX3_letIn_123 : decode cX3_letIn 123 = .ok (.getfield 191, 3) := by decide +kernel
theorem dX3_letIn_126 : decode cX3_letIn 126 = .ok (.iload 4, 2) := by decide +kernel
theorem dX3_letIn_128 : decode cX3_letIn 128 = .ok (.iaload, 1) := by decide +kernel
theorem dX3_letIn_129 : decode cX3_letIn 129 = .ok (.isub, 1) := by decide +kernel
theorem dX3_letIn_130 : decode cX3_letIn 130 = .ok (.istore_n 2, 1) := by decide +kernel
theorem dX3_letIn_131 : decode cX3_letIn 131 = .ok (.iinc 4 1, 3) := by decide +kernel
theorem dX3_letIn_134 : decode cX3_letIn 134 = .ok (.goto (-105), 3) := by decide +kernel
theorem dX3_letIn_137 : decode cX3_letIn 137 = .ok (.iinc 3 1, 3) := by decide +kernel
theorem dX3_letIn_140 : decode cX3_letIn 140 = .ok (.goto (-119), 3) := by decide +kernel
theorem dX3_letIn_143 : decode cX3_letIn 143 = .ok (.return_, 1) := by decide +kernel
set_option maxRecDepth 20000 in
theorem ggX3_leastWay_X0_setFrom : GoodIn wsX3_leastWay wsX0_setFrom := goodIn_r _ [9, 10, 11, 22, 23, 24, 25, 26, 27, 28, 29, 30, 31] (by decide +kernel) (by decide +kernel)
set_option maxRecDepth 20000 in
theorem gX3_leastWay_X0_setFrom_n262 : GoodIn wsX3_leastWay (wsX0_setFrom) := ggX3_leastWay_X0_setFrom
set_option maxRecDepth 20000 in
theorem ggX3_leastWay_X0_setTo : GoodIn wsX3_leastWay wsX0_setTo := goodIn_r _ [14, 10, 15, 22, 23, 24, 25, 26, 27, 28, 29, 30, 31] (by decide +kernel) (by decide +kernel)
set_option maxRecDepth 20000 in
theorem gX3_leastWay_X0_setTo_n265 : GoodIn wsX3_leastWay (wsX0_setTo) := ggX3_leastWay_X0_setTo
set_option maxRecDepth 20000 in
theorem ggX3_leastWay_X0_nearestStop : GoodIn wsX3_leastWay wsX0_nearestStop := goodIn_r _ [18, 10, 11, 15, 22, 23, 24, 25, 26, 27, 28, 29, 30, 31] (by decide +kernel) (by decide +kernel)
set_option maxRecDepth 20000 in
theorem gX3_leastWay_X0_nearestStop_n268 : GoodIn wsX3_leastWay (wsX0_nearestStop) := ggX3_leastWay_X0_nearestStop
set_option maxRecDepth 20000 in
theorem ggX3_leastWay_X3_leastWay : GoodIn wsX3_leastWay wsX3_leastWay := goodIn_r _ [0, 1, 2, 3, 4, 5, 6, 7, 8, 9, 10, 11, 12, 13, 14, 15, 16, 17, 18, 19, 20, 21, 22, 23, 24, 25, 26, 27, 28, 29, 30, 31] (by decide +kernel) (by decide +kernel)
set_option maxRecDepth 20000 in
theorem gX3_leastWay_X3_leastWay : GoodIn wsX3_leastWay (va_wsS RX3 176 yX3_leastWay wsX3_leastWay) := goodIn_app (goodIn_of _ (by decide +kernel)) ggX3_leastWay_X3_leastWay
theorem dX3_leastWay_0 : decode cX3_leastWay 0 = .ok (.iload_n 2, 1) := by decide +kernel
theorem dX3_leastWay_1 : decode cX3_leastWay 1 = .ok (.aload_n 0, 1) := by decide +kernel
theorem dX3_leastWay_2 : decode cX3_leastWay 2 = .ok (.iload_n 1, 1) := by decide +kernel
theorem dX3_leastWay_3 : decode cX3_leastWay 3 = .ok (.invokevirtual 262, 3) := by decide +kernel
theorem dX3_leastWay_6 : decode cX3_leastWay 6 = .ok (.iconst (-1), 1) := by decide +kernel
theorem dX3_leastWay_7 : decode cX3_leastWay 7 = .ok (.ixor, 1) := by decide +kernel
theorem dX3_leastWay_8 : decode cX3_leastWay 8 = .ok (.iand, 1) := by decide +kernel
theorem dX3_leastWay_9 : decode cX3_leastWay 9 = .ok (.istore 5, 2) := by decide +kernel
theorem dX3_leastWay_11 : decode cX3_leastWay 11 = .ok (.iload_n 2, 1) := by decide +kernel
theorem dX3_leastWay_12 : decode cX3_leastWay 12 = .ok (.iload 5, 2) := by decide +kernel
theorem dX3_leastWay_14 : decode cX3_leastWay 14 = .ok (.iconst (-1), 1) := by decide +kernel
theorem dX3_leastWay_15 : decode cX3_leastWay 15 = .ok (.ixor, 1) := by decide +kernel
theorem dX3_leastWay_16 : decode cX3_leastWay 16 = .ok (.iand, 1) := by decide +kernel
theorem dX3_leastWay_17 : decode cX3_leastWay 17 = .ok (.istore 6, 2) := by decide +kernel
theorem dX3_leastWay_19 : decode cX3_leastWay 19 = .ok (.iload_n 3, 1) := by decide +kernel
theorem dX3_leastWay_20 : decode cX3_leastWay 20 = .ok (.iload 6, 2) := by decide +kernel
theorem dX3_leastWay_22 : decode cX3_leastWay 22 = .ok (.ior, 1) := by decide +kernel
theorem dX3_leastWay_23 : decode cX3_leastWay 23 = .ok (.aload_n 0, 1) := by decide +kernel
theorem dX3_leastWay_24 : decode cX3_leastWay 24 = .ok (.iload_n 1, 1) := by decide +kernel
theorem dX3_leastWay_25 : decode cX3_leastWay 25 = .ok (.invokevirtual 265, 3) := by decide +kernel
theorem dX3_leastWay_28 : decode cX3_leastWay 28 = .ok (.iconst (-1), 1) := by decide +kernel
theorem dX3_leastWay_29 : decode cX3_leastWay 29 = .ok (.ixor, 1) := by decide +kernel
theorem dX3_leastWay_30 : decode cX3_leastWay 30 = .ok (.iand, 1) := by decide +kernel
theorem dX3_leastWay_31 : decode cX3_leastWay 31 = .ok (.istore 7, 2) := by decide +kernel
theorem dX3_leastWay_33 : decode cX3_leastWay 33 = .ok (.iload 5, 2) := by decide +kernel
theorem dX3_leastWay_35 : decode cX3_leastWay 35 = .ok (.iload 7, 2) := by decide +kernel
theorem dX3_leastWay_37 : decode cX3_leastWay 37 = .ok (.ior, 1) := by decide +kernel
theorem dX3_leastWay_38 : decode cX3_leastWay 38 = .ok (.ifCond .eq 10, 3) := by decide +kernel
theorem dX3_leastWay_41 : decode cX3_leastWay 41 = .ok (.iload 4, 2) := by decide +kernel
theorem dX3_leastWay_43 : decode cX3_leastWay 43 = .ok (.bipush 8, 2) := by decide +kernel
theorem dX3_leastWay_45 : decode cX3_leastWay 45 = .ok (.if_icmp .lt 5, 3) := by decide +kernel
theorem dX3_leastWay_48 : decode cX3_leastWay 48 = .ok (.iconst 0, 1) := by decide +kernel
theorem dX3_leastWay_49 : decode cX3_leastWay 49 = .ok (.ireturn, 1) := by decide +kernel
theorem dX3_leastWay_50 : decode cX3_leastWay 50 = .ok (.aload_n 0, 1) := by decide +kernel
theorem dX3_leastWay_51 : decode cX3_leastWay 51 = .ok (.iload_n 1, 1) := by decide +kernel
theorem dX3_leastWay_52 : decode cX3_leastWay 52 = .ok (.iconst 1, 1) := by decide +kernel
theorem dX3_leastWay_53 : decode cX3_leastWay 53 = .ok (.iload 5, 2) := by decide +kernel
theorem dX3_leastWay_55 : decode cX3_leastWay 55 = .ok (.iload 7, 2) := by decide +kernel
theorem dX3_leastWay_57 : decode cX3_leastWay 57 = .ok (.invokevirtual 268, 3) := by decide +kernel
theorem dX3_leastWay_60 : decode cX3_leastWay 60 = .ok (.istore 8, 2) := by decide +kernel
theorem dX3_leastWay_62 : decode cX3_leastWay 62 = .ok (.aload_n 0, 1) := by decide +kernel
theorem dX3_leastWay_63 : decode cX3_leastWay 63 = .ok (.iload_n 1, 1) := by decide +kernel
theorem dX3_leastWay_64 : decode cX3_leastWay 64 = .ok (.iconst (-1), 1) := by decide +kernel
theorem dX3_leastWay_65 : decode cX3_leastWay 65 = .ok (.iload 5, 2) := by decide +kernel
theorem dX3_leastWay_67 : decode cX3_leastWay 67 = .ok (.iload 7, 2) := by decide +kernel
theorem dX3_leastWay_69 : decode cX3_leastWay 69 = .ok (.invokevirtual 268, 3) := by decide +kernel
theorem dX3_leastWay_72 : decode cX3_leastWay 72 = .ok (.istore 9, 2) := by decide +kernel
theorem dX3_leastWay_74 : decode cX3_leastWay 74 = .ok (.iload 8, 2) := by decide +kernel
theorem dX3_leastWay_76 : decode cX3_leastWay 76 = .ok (.iconst (-1), 1) := by decide +kernel
theorem dX3_leastWay_77 : decode cX3_leastWay 77 = .ok (.if_icmp .ne 9, 3) := by decide +kernel
theorem dX3_leastWay_80 : decode cX3_leastWay 80 = .ok (.ldc_w 272, 3) := by decide +kernel
theorem dX3_leastWay_83 : decode cX3_leastWay 83 = .ok (.goto 22, 3) := by decide +kernel
theorem dX3_leastWay_86 : decode cX3_leastWay 86 = .ok (.iload 8, 2) := by decide +kernel
theorem dX3_leastWay_88 : decode cX3_leastWay 88 = .ok (.iload_n 1, 1) := by decide +kernel
theorem dX3_leastWay_89 : decode cX3_leastWay 89 = .ok (.isub, 1) := by decide +kernel
theorem dX3_leastWay_90 : decode cX3_leastWay 90 = .ok (.aload_n 0, 1) := by decide +kernel
theorem dX3_leastWay_91 : decode cX3_leastWay 91 = .ok (.iload 8, 2) := by decide +kernel
theorem dX3_leastWay_93 : decode cX3_leastWay 93 = .ok (.iload 5, 2) := by decide +kernel
theorem dX3_leastWay_95 : decode cX3_leastWay 95 = .ok (.iload 7, 2) := by decide +kernel
theorem dX3_leastWay_97 : decode cX3_leastWay 97 = .ok (.iload 4, 2) := by decide +kernel
theorem dX3_leastWay_99 : decode cX3_leastWay 99 = .ok (.iconst 1, 1) := by decide +kernel
theorem dX3_leastWay_100 : decode cX3_leastWay 100 = .ok (.iadd, 1) := by decide +kernel
theorem dX3_leastWay_101 : decode cX3_leastWay 101 = .ok (.invokestatic 176, 3) := by decide +kernel
theorem dX3_leastWay_104 : decode cX3_leastWay 104 = .ok (.iadd, 1) := by decide +kernel
theorem dX3_leastWay_105 : decode cX3_leastWay 105 = .ok (.istore 10, 2) := by decide +kernel
theorem dX3_leastWay_107 : decode cX3_leastWay 107 = .ok (.iload 9, 2) := by decide +kernel
theorem dX3_leastWay_109 : decode cX3_leastWay 109 = .ok (.iconst (-1), 1) := by decide +kernel
theorem dX3_leastWay_110 : decode cX3_leastWay 110 = .ok (.if_icmp .ne 9, 3) := by decide +kernel
theorem dX3_leastWay_113 : decode cX3_leastWay 113 = .ok (.ldc_w 272, 3) := by decide +kernel
theorem dX3_leastWay_116 : decode cX3_leastWay 116 = .ok (.goto 22, 3) := by decide +kernel
theorem dX3_leastWay_119 : decode cX3_leastWay 119 = .ok (.iload_n 1, 1) := by decide +kernel
theorem dX3_leastWay_120 : decode cX3_leastWay 120 = .ok (.iload 9, 2) := by decide +kernel
theorem dX3_leastWay_122 : decode cX3_leastWay 122 = .ok (.isub, 1) := by decide +kernel
theorem dX3_leastWay_123 : decode cX3_leastWay 123 = .ok (.aload_n 0, 1) := by decide +kernel
theorem dX3_leastWay_124 : decode cX3_leastWay 124 = .ok (.iload 9, 2) := by decide +kernel
theorem dX3_leastWay_126 : decode cX3_leastWay 126 = .ok (.iload 5, 2) := by decide +kernel
theorem dX3_leastWay_128 : decode cX3_leastWay 128 = .ok (.iload 7, 2) := by decide +kernel
theorem dX3_leastWay_130 : decode cX3_leastWay 130 = .ok (.iload 4, 2) := by decide +kernel
theorem dX3_leastWay_132 : decode cX3_leastWay 132 = .ok (.iconst 1, 1) := by decide +kernel
theorem dX3_leastWay_133 : decode cX3_leastWay 133 = .ok (.iadd, 1) := by decide +kernel
theorem dX3_leastWay_134 : decode cX3_leastWay 134 = .ok (.invokestatic 176, 3) := by decide +kernel
theorem dX3_leastWay_137 : decode cX3_leastWay 137 = .ok (.iadd, 1) := by decide +kernel
theorem dX3_leastWay_138 : decode cX3_leastWay 138 = .ok (.istore 11, 2) := by decide +kernel
theorem dX3_leastWay_140 : decode cX3_leastWay 140 = .ok (.iload 10, 2) := by decide +kernel
theorem dX3_leastWay_142 : decode cX3_leastWay 142 = .ok (.iload 11, 2) := by decide +kernel
theorem dX3_leastWay_144 : decode cX3_leastWay 144 = .ok (.invokestatic 9, 3) := by decide +kernel
theorem dX3_leastWay_147 : decode cX3_leastWay 147 = .ok (.ireturn, 1) := by decide +kernel
end
section
theorem dX4_init_0 : decode cX4_init 0 = .ok (.aload_n 0, 1) := by decide +kernel
theorem dX4_init_1 : decode cX4_init 1 = .ok (.invokespecial 1, 3) := by decide +kernel
theorem dX4_init_4 : decode cX4_init 4 = .ok (.aload_n 0, 1) := by decide +kernel
theorem dX4_init_5 : decode cX4_init 5 = .ok (.iconst 4, 1) := by decide +kernel
theorem dX4_init_6 : decode cX4_init 6 = .ok (.newarray .int, 2) := by decide +kernel
theorem dX4_init_8 : decode cX4_init 8 = .ok (.putfield 7, 3) := by decide +kernel
theorem dX4_init_11 : decode cX4_init 11 = .ok (.aload_n 0, 1) := by decide +kernel
theorem dX4_init_12 : decode cX4_init 12 = .ok (.iconst 4, 1) := by decide +kernel
theorem dX4_init_13 : decode cX4_init 13 = .ok (.newarray .int, 2) := by decide +kernel
theorem dX4_init_15 : decode cX4_init 15 = .ok (.putfield 13, 3) := by decide +kernel
theorem dX4_init_18 : decode cX4_init 18 = .ok (.aload_n 0, 1) := by decide +kernel
theorem dX4_init_19 : decode cX4_init 19 = .ok (.iconst 4, 1) := by decide +kernel
theorem dX4_init_20 : decode cX4_init 20 = .ok (.newarray .int, 2) := by decide +kernel
theorem dX4_init_22 : decode cX4_init 22 = .ok (.putfield 16, 3) := by decide +kernel
theorem dX4_init_25 : decode cX4_init 25 = .ok (.aload_n 0, 1) := by decide +kernel
theorem dX4_init_26 : decode cX4_init 26 = .ok (.iconst 4, 1) := by decide +kernel
theorem dX4_init_27 : decode cX4_init 27 = .ok (.newarray .int, 2) := by decide +kernel
theorem dX4_init_29 : decode cX4_init 29 = .ok (.putfield 19, 3) := by decide +kernel
theorem dX4_init_32 : decode cX4_init 32 = .ok (.aload_n 0, 1) := by decide +kernel
theorem dX4_init_33 : decode cX4_init 33 = .ok (.iconst 4, 1) := by decide +kernel
theorem dX4_init_34 : decode cX4_init 34 = .ok (.newarray .boolean, 2) := by decide +kernel
theorem dX4_init_36 : decode cX4_init 36 = .ok (.putfield 22, 3) := by decide +kernel
theorem dX4_init_39 : decode cX4_init 39 = .ok (.aload_n 0, 1) := by decide +kernel
theorem dX4_init_40 : decode cX4_init 40 = .ok (.iconst 4, 1) := by decide +kernel
theorem dX4_init_41 : decode cX4_init 41 = .ok (.newarray .boolean, 2) := by decide +kernel
theorem dX4_init_43 : decode cX4_init 43 = .ok (.putfield 26, 3) := by decide +kernel
theorem dX4_init_46 : decode cX4_init 46 = .ok (.aload_n 0, 1) := by decide +kernel
theorem dX4_init_47 : decode cX4_init 47 = .ok (.iconst 4, 1) := by decide +kernel
theorem dX4_init_48 : decode cX4_init 48 = .ok (.newarray .boolean, 2) := by decide +kernel
theorem dX4_init_50 : decode cX4_init 50 = .ok (.putfield 29, 3) := by decide +kernel
theorem dX4_init_53 : decode cX4_init 53 = .ok (.aload_n 0, 1) := by decide +kernel
theorem dX4_init_54 : decode cX4_init 54 = .ok (.bipush 24, 2) := by decide +kernel
theorem dX4_init_56 : decode cX4_init 56 = .ok (.newarray .int, 2) := by decide +kernel
theorem dX4_init_58 : decode cX4_init 58 = .ok (.putfield 32, 3) := by decide +kernel
theorem dX4_init_61 : decode cX4_init 61 = .ok (.aload_n 0, 1) := by decide +kernel
theorem dX4_init_62 : decode cX4_init 62 = .ok (.bipush 24, 2) := by decide +kernel
theorem dX4_init_64 : decode cX4_init 64 = .ok (.newarray .int, 2) := by decide +kernel
theorem dX4_init_66 : decode cX4_init 66 = .ok (.putfield 35, 3) := by decide +kernel
theorem dX4_init_69 : decode cX4_init 69 = .ok (.aload_n 0, 1) := by decide +kernel
theorem dX4_init_70 : decode cX4_init 70 = .ok (.bipush 24, 2) := by decide +kernel
theorem dX4_init_72 : decode cX4_init 72 = .ok (.newarray .int, 2) := by decide +kernel
theorem dX4_init_74 : decode cX4_init 74 = .ok (.putfield 38, 3) := by decide +kernel
theorem dX4_init_77 : decode cX4_init 77 = .ok (.aload_n 0, 1) := by decide +kernel
theorem dX4_init_78 : decode cX4_init 78 = .ok (.bipush 24, 2) := by decide +kernel
theorem dX4_init_80 : decode cX4_init 80 = .ok (.newarray .int, 2) := by decide +kernel
theorem dX4_init_82 : decode cX4_init 82 = .ok (.putfield 41, 3) := by decide +kernel
theorem dX4_init_85 : decode cX4_init 85 = .ok (.aload_n 0, 1) := by decide +kernel
theorem dX4_init_86 : decode cX4_init 86 = .ok (.bipush 24, 2) := by decide +kernel
theorem dX4_init_88 : decode cX4_init 88 = .ok (.newarray .int, 2) := by decide +kernel
theorem dX4_init_90 : decode cX4_init 90 = .ok (.putfield 44, 3) := by decide +kernel
theorem dX4_init_93 : decode cX4_init 93 = .ok (.aload_n 0, 1) := by decide +kernel
theorem dX4_init_94 : decode cX4_init 94 = .ok (.bipush 24, 2) := by decide +kernel
theorem dX4_init_96 : decode cX4_init 96 = .ok (.newarray .int, 2) := by decide +kernel
theorem dX4_init_98 : decode cX4_init 98 = .ok (.putfield 47, 3) := by decide +kernel
theorem dX4_init_101 : decode cX4_init 101 = .ok (.aload_n 0, 1) := by decide +kernel
theorem dX4_init_102 : decode cX4_init 102 = .ok (.bipush 24, 2) := by decide +kernel
theorem dX4_init_104 : decode cX4_init 104 = .ok (.newarray .int, 2) := by decide +kernel
theorem dX4_init_106 : decode cX4_init 106 = .ok (.putfield 50, 3) := by decide +kernel
theorem dX4_init_109 : decode cX4_init 109 = .ok (.aload_n 0, 1) := by decide +kernel
theorem dX4_init_110 : decode cX4_init 110 = .ok (.bipush 24, 2) := by decide +kernel
theorem dX4_init_112 : decode cX4_init 112 = .ok (.newarray .int, 2) := by decide +kernel
theorem dX4_init_114 : decode cX4_init 114 = .ok (.putfield 53, 3) := by decide +kernel
theorem dX4_init_117 : decode cX4_init 117 = .ok (.aload_n 0, 1) := by decide +kernel
theorem dX4_init_118 : decode cX4_init 118 = .ok (.bipush 24, 2) := by decide +kernel
theorem dX4_init_120 : decode cX4_init 120 = .ok (.newarray .int, 2) := by decide +kernel
theorem dX4_init_122 : decode cX4_init 122 = .ok (.putfield 56, 3) := by decide +kernel
theorem dX4_init_125 : decode cX4_init 125 = .ok (.aload_n 0, 1) := by decide +kernel
theorem dX4_init_126 : decode cX4_init 126 = .ok (.bipush 48, 2) := by decide +kernel
theorem dX4_init_128 : decode cX4_init 128 = .ok (.newarray .int, 2) := by decide +kernel
theorem dX4_init_130 : decode cX4_init 130 = .ok (.putfield 59, 3) := by decide +kernel
theorem dX4_init_133 : decode cX4_init 133 = .ok (.aload_n 0, 1) := by decide +kernel
theorem dX4_init_134 : decode cX4_init 134 = .ok (.bipush 48, 2) := by decide +kernel
theorem dX4_init_136 : decode cX4_init 136 = .ok (.newarray .int, 2) := by decide +kernel
theorem dX4_init_138 : decode cX4_init 138 = .ok (.putfield 62, 3) := by decide +kernel
theorem dX4_init_141 : decode cX4_init 141 = .ok (.aload_n 0, 1) := by decide +kernel
theorem dX4_init_142 : decode cX4_init 142 = .ok (.bipush 48, 2) := by decide +kernel
theorem dX4_init_144 : decode cX4_init 144 = .ok (.newarray .int, 2) := by decide +kernel
theorem dX4_init_146 : decode cX4_init 146 = .ok (.putfield 65, 3) := by decide +kernel
theorem dX4_init_149 : decode cX4_init 149 = .ok (.aload_n 0, 1) := by decide +kernel
theorem dX4_init_150 : decode cX4_init 150 = .ok (.sipush 1620, 3) := by decide +kernel
theorem dX4_init_153 : decode cX4_init 153 = .ok (.newarray .int, 2) := by decide +kernel
theorem dX4_init_155 : decode cX4_init 155 = .ok (.putfield 68, 3) := by decide +kernel
theorem dX4_init_158 : decode cX4_init 158 = .ok (.aload_n 0, 1) := by decide +kernel
theorem dX4_init_159 : decode cX4_init 159 = .ok (.iconst 4, 1) := by decide +kernel
theorem dX4_init_160 : decode cX4_init 160 = .ok (.newarray .int, 2) := by decide +kernel
theorem dX4_init_162 : decode cX4_init 162 = .ok (.putfield 71, 3) := by decide +kernel
theorem dX4_init_165 : decode cX4_init 165 = .ok (.aload_n 0, 1) := by decide +kernel
theorem dX4_init_166 : decode cX4_init 166 = .ok (.iload_n 1, 1) := by decide +kernel
theorem dX4_init_167 : decode cX4_init 167 = .ok (.iconst 2, 1) := by decide +kernel
theorem dX4_init_168 : decode cX4_init 168 = .ok (.if_icmp .ge 7, 3) := by decide +kernel
theorem dX4_init_171 : decode cX4_init 171 = .ok (.iconst 2, 1) := by decide +kernel
theorem dX4_init_172 : decode cX4_init 172 = .ok (.goto 15, 3) := by decide +kernel
theorem dX4_init_175 : decode cX4_init 175 = .ok (.iload_n 1, 1) := by decide +kernel
theorem dX4_init_176 : decode cX4_init 176 = .ok (.bipush 20, 2) := by decide +kernel
theorem dX4_init_178 : decode cX4_init 178 = .ok (.if_icmp .le 8, 3) := by decide +kernel
theorem dX4_init_181 : decode cX4_init 181 = .ok (.bipush 20, 2) := by decide +kernel
theorem dX4_init_183 : decode cX4_init 183 = .ok (.goto 4, 3) := by decide +kernel
theorem dX4_init_186 : decode cX4_init 186 = .ok (.iload_n 1, 1) := by decide +kernel
theorem dX4_init_187 : decode cX4_init 187 = .ok (.putfield 74, 3) := by decide +kernel
theorem dX4_init_190 : decode cX4_init 190 = .ok (.return_, 1) := by decide +kernel
theorem dX4_thrown_0 : decode cX4_thrown 0 = .ok (.aload_n 0, 1) := by decide +kernel
theorem dX4_thrown_1 : decode cX4_thrown 1 = .ok (.getfield 78, 3) := by decide +kernel
theorem dX4_thrown_4 : decode cX4_thrown 4 = .ok (.ireturn, 1) := by decide +kernel
theorem dX4_in_0 : decode cX4_in 0 = .ok (.iload_n 0, 1) := by decide +kernel
theorem dX4_in_1 : decode cX4_in 1 = .ok (.iload_n 1, 1) := by decide +kernel
theorem dX4_in_2 : decode cX4_in 2 = .ok (.if_icmp .lt 12, 3) := by decide +kernel
theorem dX4_in_5 : decode cX4_in 5 = .ok (.iload_n 0, 1) := by decide +kernel
theorem dX4_in_6 : decode cX4_in 6 = .ok (.iload_n 2, 1) := by decide +kernel
theorem dX4_in_7 : decode cX4_in 7 = .ok (.if_icmp .gt 7, 3) := by decide +kernel
theorem dX4_in_10 : decode cX4_in 10 = .ok (.iconst 1, 1) := by decide +kernel
theorem dX4_in_11 : decode cX4_in 11 = .ok (.goto 4, 3) := by decide +kernel
theorem dX4_in_14 : decode cX4_in 14 = .ok (.iconst 0, 1) := by decide +kernel
theorem dX4_in_15 : decode cX4_in 15 = .ok (.ireturn, 1) := by decide +kernel
set_option maxRecDepth 20000 in
theorem ggX4_isLevel_X4_in : GoodIn wsX4_isLevel wsX4_in := goodIn_r _ [5] (by decide +kernel) (by decide +kernel)
set_option maxRecDepth 20000 in
theorem gX4_isLevel_X4_in : GoodIn wsX4_isLevel (va_wsS RX4 81 yX4_in wsX4_in) := goodIn_app (goodIn_of _ (by decide +kernel)) ggX4_isLevel_X4_in
theorem dX4_isLevel_0 : decode cX4_isLevel 0 = .ok (.iload_n 1, 1) := by decide +kernel
theorem dX4_isLevel_1 : decode cX4_isLevel 1 = .ok (.iconst 0, 1) := by decide +kernel
theorem dX4_isLevel_2 : decode cX4_isLevel 2 = .ok (.aload_n 0, 1) := by decide +kernel
theorem dX4_isLevel_3 : decode cX4_isLevel 3 = .ok (.getfield 74, 3) := by decide +kernel
theorem dX4_isLevel_6 : decode cX4_isLevel 6 = .ok (.iconst 1, 1) := by decide +kernel
theorem dX4_isLevel_7 : decode cX4_isLevel 7 = .ok (.isub, 1) := by decide +kernel
theorem dX4_isLevel_8 : decode cX4_isLevel 8 = .ok (.invokestatic 81, 3) := by decide +kernel
theorem dX4_isLevel_11 : decode cX4_isLevel 11 = .ok (.ireturn, 1) := by decide +kernel
set_option maxRecDepth 20000 in
theorem ggX4_isLift_X4_in : GoodIn wsX4_isLift wsX4_in := goodIn_r _ [5] (by decide +kernel) (by decide +kernel)
set_option maxRecDepth 20000 in
theorem gX4_isLift_X4_in : GoodIn wsX4_isLift (va_wsS RX4 81 yX4_in wsX4_in) := goodIn_app (goodIn_of _ (by decide +kernel)) ggX4_isLift_X4_in
theorem dX4_isLift_0 : decode cX4_isLift 0 = .ok (.iload_n 1, 1) := by decide +kernel
theorem dX4_isLift_1 : decode cX4_isLift 1 = .ok (.iconst 0, 1) := by decide +kernel
theorem dX4_isLift_2 : decode cX4_isLift 2 = .ok (.aload_n 0, 1) := by decide +kernel
theorem dX4_isLift_3 : decode cX4_isLift 3 = .ok (.getfield 85, 3) := by decide +kernel
theorem dX4_isLift_6 : decode cX4_isLift 6 = .ok (.iconst 1, 1) := by decide +kernel
theorem dX4_isLift_7 : decode cX4_isLift 7 = .ok (.isub, 1) := by decide +kernel
theorem dX4_isLift_8 : decode cX4_isLift 8 = .ok (.invokestatic 81, 3) := by decide +kernel
theorem dX4_isLift_11 : decode cX4_isLift 11 = .ok (.ireturn, 1) := by decide +kernel
set_option maxRecDepth 20000 in
theorem ggX4_isCall_X4_in : GoodIn wsX4_isCall wsX4_in := goodIn_r _ [5] (by decide +kernel) (by decide +kernel)
set_option maxRecDepth 20000 in
theorem gX4_isCall_X4_in : GoodIn wsX4_isCall (va_wsS RX4 81 yX4_in wsX4_in) := goodIn_app (goodIn_of _ (by decide +kernel)) ggX4_isCall_X4_in
theorem dX4_isCall_0 : decode cX4_isCall 0 = .ok (.iload_n 1, 1) := by decide +kernel
theorem dX4_isCall_1 : decode cX4_isCall 1 = .ok (.iconst 0, 1) := by decide +kernel
theorem dX4_isCall_2 : decode cX4_isCall 2 = .ok (.aload_n 0, 1) := by decide +kernel
theorem dX4_isCall_3 : decode cX4_isCall 3 = .ok (.getfield 88, 3) := by decide +kernel
theorem dX4_isCall_6 : decode cX4_isCall 6 = .ok (.iconst 1, 1) := by decide +kernel
theorem dX4_isCall_7 : decode cX4_isCall 7 = .ok (.isub, 1) := by decide +kernel
theorem dX4_isCall_8 : decode cX4_isCall 8 = .ok (.invokestatic 81, 3) := by decide +kernel
theorem dX4_isCall_11 : decode cX4_isCall 11 = .ok (.ireturn, 1) := by decide +kernel
theorem dX4_far_0 : decode cX4_far 0 = .ok (.iload_n 0, 1) := by decide +kernel
theorem dX4_far_1 : decode cX4_far 1 = .ok (.iload_n 1, 1) := by decide +kernel
theorem dX4_far_2 : decode cX4_far 2 = .ok (.if_icmp .le 9, 3) := by decide +kernel
theorem dX4_far_5 : decode cX4_far 5 = .ok (.iload_n 0, 1) := by decide +kernel
theorem dX4_far_6 : decode cX4_far 6 = .ok (.iload_n 1, 1) := by decide +kernel
theorem dX4_far_7 : decode cX4_far 7 = .ok (.isub, 1) := by decide +kernel
theorem dX4_far_8 : decode cX4_far 8 = .ok (.goto 6, 3) := by decide +kernel
theorem dX4_far_11 : decode cX4_far 11 = .ok (.iload_n 1, 1) := by decide +kernel
theorem dX4_far_12 : decode cX4_far 12 = .ok (.iload_n 0, 1) := by decide +kernel
theorem dX4_far_13 : decode cX4_far 13 = .ok (.isub, 1) := by decide +kernel
theorem dX4_far_14 : decode cX4_far 14 = .ok (.ireturn, 1) := by decide +kernel
set_option maxRecDepth 20000 in
theorem ggX4_lift_X4_isLevel : GoodIn wsX4_lift wsX4_isLevel := goodIn_r _ [9, 10, 11, 12, 8, 13, 14, 15, 16, 17, 18, 19, 20, 21, 22, 23, 24, 25, 26, 27, 28, 29, 30, 31, 32, 33, 34, 35, 36, 37, 38, 39, 40, 41] (by decide +kernel) (by decide +kernel)
set_option maxRecDepth 20000 in
theorem gX4_lift_X4_isLevel : GoodIn wsX4_lift (wsV RX4 91 RX4 yX4_isLevel wsX4_isLevel) := goodIn_app (goodIn_of _ (by decide +kernel)) ggX4_lift_X4_isLevel
set_option maxRecDepth 20000 in
theorem ggX4_lift_X4_in : GoodIn wsX4_lift wsX4_in := goodIn_r _ [13] (by decide +kernel) (by decide +kernel)
set_option maxRecDepth 20000 in
theorem gX4_lift_X4_in : GoodIn wsX4_lift (va_wsS RX4 81 yX4_in wsX4_in) := goodIn_app (goodIn_of _ (by decide +kernel)) ggX4_lift_X4_in
theorem dX4_lift_0 : decode cX4_lift 0 = .ok (.aload_n 0, 1) := by decide +kernel
theorem dX4_lift_1 : decode cX4_lift 1 = .ok (.aload_n 0, 1) := by decide +kernel
theorem dX4_lift_2 : decode cX4_lift 2 = .ok (.iload_n 1, 1) := by decide +kernel
theorem dX4_lift_3 : decode cX4_lift 3 = .ok (.invokevirtual 91, 3) := by decide +kernel
theorem dX4_lift_6 : decode cX4_lift 6 = .ok (.ifCond .eq 13, 3) := by decide +kernel
theorem dX4_lift_9 : decode cX4_lift 9 = .ok (.iload_n 2, 1) := by decide +kernel
theorem dX4_lift_10 : decode cX4_lift 10 = .ok (.iconst 1, 1) := by decide +kernel
theorem dX4_lift_11 : decode cX4_lift 11 = .ok (.bipush 50, 2) := by decide +kernel
theorem dX4_lift_13 : decode cX4_lift 13 = .ok (.invokestatic 81, 3) := by decide +kernel
theorem dX4_lift_16 : decode cX4_lift 16 = .ok (.ifCond .ne 7, 3) := by decide +kernel
theorem dX4_lift_19 : decode cX4_lift 19 = .ok (.iconst 1, 1) := by decide +kernel
theorem dX4_lift_20 : decode cX4_lift 20 = .ok (.goto 16, 3) := by decide +kernel
theorem dX4_lift_23 : decode cX4_lift 23 = .ok (.aload_n 0, 1) := by decide +kernel
theorem dX4_lift_24 : decode cX4_lift 24 = .ok (.getfield 85, 3) := by decide +kernel
theorem dX4_lift_27 : decode cX4_lift 27 = .ok (.iconst 4, 1) := by decide +kernel
theorem dX4_lift_28 : decode cX4_lift 28 = .ok (.if_icmp .ne 7, 3) := by decide +kernel
theorem dX4_lift_31 : decode cX4_lift 31 = .ok (.iconst 2, 1) := by decide +kernel
theorem dX4_lift_32 : decode cX4_lift 32 = .ok (.goto 4, 3) := by decide +kernel
theorem dX4_lift_35 : decode cX4_lift 35 = .ok (.iconst 0, 1) := by decide +kernel
theorem dX4_lift_36 : decode cX4_lift 36 = .ok (.putfield 78, 3) := by decide +kernel
theorem dX4_lift_39 : decode cX4_lift 39 = .ok (.aload_n 0, 1) := by decide +kernel
theorem dX4_lift_40 : decode cX4_lift 40 = .ok (.getfield 78, 3) := by decide +kernel
theorem dX4_lift_43 : decode cX4_lift 43 = .ok (.ifCond .le 5, 3) := by decide +kernel
theorem dX4_lift_46 : decode cX4_lift 46 = .ok (.iconst 0, 1) := by decide +kernel
theorem dX4_lift_47 : decode cX4_lift 47 = .ok (.ireturn, 1) := by decide +kernel
theorem dX4_lift_48 : decode cX4_lift 48 = .ok (.aload_n 0, 1) := by decide +kernel
theorem dX4_lift_49 : decode cX4_lift 49 = .ok (.getfield 7, 3) := by decide +kernel
theorem dX4_lift_52 : decode cX4_lift 52 = .ok (.aload_n 0, 1) := by decide +kernel
theorem dX4_lift_53 : decode cX4_lift 53 = .ok (.getfield 85, 3) := by decide +kernel
theorem dX4_lift_56 : decode cX4_lift 56 = .ok (.iload_n 1, 1) := by decide +kernel
theorem dX4_lift_57 : decode cX4_lift 57 = .ok (.iastore, 1) := by decide +kernel
theorem dX4_lift_58 : decode cX4_lift 58 = .ok (.aload_n 0, 1) := by decide +kernel
theorem dX4_lift_59 : decode cX4_lift 59 = .ok (.getfield 13, 3) := by decide +kernel
theorem dX4_lift_62 : decode cX4_lift 62 = .ok (.aload_n 0, 1) := by decide +kernel
theorem dX4_lift_63 : decode cX4_lift 63 = .ok (.getfield 85, 3) := by decide +kernel
theorem dX4_lift_66 : decode cX4_lift 66 = .ok (.iload_n 2, 1) := by decide +kernel
theorem dX4_lift_67 : decode cX4_lift 67 = .ok (.iastore, 1) := by decide +kernel
theorem dX4_lift_68 : decode cX4_lift 68 = .ok (.aload_n 0, 1) := by decide +kernel
theorem dX4_lift_69 : decode cX4_lift 69 = .ok (.dup, 1) := by decide +kernel
theorem dX4_lift_70 : decode cX4_lift 70 = .ok (.getfield 85, 3) := by decide +kernel
theorem dX4_lift_73 : decode cX4_lift 73 = .ok (.iconst 1, 1) := by decide +kernel
theorem dX4_lift_74 : decode cX4_lift 74 = .ok (.iadd, 1) := by decide +kernel
theorem dX4_lift_75 : decode cX4_lift 75 = .ok (.putfield 85, 3) := by decide +kernel
theorem dX4_lift_78 : decode cX4_lift 78 = .ok (.aload_n 0, 1) := by decide +kernel
theorem dX4_lift_79 : decode cX4_lift 79 = .ok (.getfield 85, 3) := by decide +kernel
theorem dX4_lift_82 : decode cX4_lift 82 = .ok (.iconst 1, 1) := by decide +kernel
theorem dX4_lift_83 : decode cX4_lift 83 = .ok (.isub, 1) := by decide +kernel
theorem dX4_lift_84 : decode cX4_lift 84 = .ok (.ireturn, 1) := by decide +kernel
set_option maxRecDepth 20000 in
theorem ggX4_nearest_X4_far : GoodIn wsX4_nearest wsX4_far := goodIn_r _ [11] (by decide +kernel) (by decide +kernel)
set_option maxRecDepth 20000 in
theorem gX4_nearest_X4_far : GoodIn wsX4_nearest (va_wsS RX4 95 yX4_far wsX4_far) := goodIn_app (goodIn_of _ (by decide +kernel)) ggX4_nearest_X4_far
theorem dX4_nearest_0 : decode cX4_nearest 0 = .ok (.iconst (-1), 1) := by decide +kernel
theorem dX4_nearest_1 : decode cX4_nearest 1 = .ok (.istore_n 2, 1) := by decide +kernel
theorem dX4_nearest_2 : decode cX4_nearest 2 = .ok (.iconst 0, 1) := by decide +kernel
theorem dX4_nearest_3 : decode cX4_nearest 3 = .ok (.istore_n 3, 1) := by decide +kernel
theorem dX4_nearest_4 : decode cX4_nearest 4 = .ok (.iload_n 3, 1) := by decide +kernel
theorem dX4_nearest_5 : decode cX4_nearest 5 = .ok (.aload_n 0, 1) := by decide +kernel
theorem dX4_nearest_6 : decode cX4_nearest 6 = .ok (.getfield 85, 3) := by decide +kernel
theorem dX4_nearest_9 : decode cX4_nearest 9 = .ok (.if_icmp .ge 85, 3) := by decide +kernel
theorem dX4_nearest_12 : decode cX4_nearest 12 = .ok (.aload_n 0, 1) := by decide +kernel
theorem dX4_nearest_13 : decode cX4_nearest 13 = .ok (.getfield 26, 3) := by decide +kernel
theorem dX4_nearest_16 : decode cX4_nearest 16 = .ok (.iload_n 3, 1) := by decide +kernel
theorem dX4_nearest_17 : decode cX4_nearest 17 = .ok (.baload, 1) := by decide +kernel
theorem dX4_nearest_18 : decode cX4_nearest 18 = .ok (.ifCond .ne 70, 3) := by decide +kernel
theorem dX4_nearest_21 : decode cX4_nearest 21 = .ok (.aload_n 0, 1) := by decide +kernel
theorem dX4_nearest_22 : decode cX4_nearest 22 = .ok (.getfield 29, 3) := by decide +kernel
theorem dX4_nearest_25 : decode cX4_nearest 25 = .ok (.iload_n 3, 1) := by decide +kernel
theorem dX4_nearest_26 : decode cX4_nearest 26 = .ok (.baload, 1) := by decide +kernel
theorem dX4_nearest_27 : decode cX4_nearest 27 = .ok (.ifCond .ne 61, 3) := by decide +kernel
theorem dX4_nearest_30 : decode cX4_nearest 30 = .ok (.aload_n 0, 1) := by decide +kernel
theorem dX4_nearest_31 : decode cX4_nearest 31 = .ok (.getfield 13, 3) := by decide +kernel
theorem dX4_nearest_34 : decode cX4_nearest 34 = .ok (.iload_n 3, 1) := by decide +kernel
theorem dX4_nearest_35 : decode cX4_nearest 35 = .ok (.iaload, 1) := by decide +kernel
theorem dX4_nearest_36 : decode cX4_nearest 36 = .ok (.aload_n 0, 1) := by decide +kernel
theorem dX4_nearest_37 : decode cX4_nearest 37 = .ok (.getfield 41, 3) := by decide +kernel
theorem dX4_nearest_40 : decode cX4_nearest 40 = .ok (.iload_n 1, 1) := by decide +kernel
theorem dX4_nearest_41 : decode cX4_nearest 41 = .ok (.iaload, 1) := by decide +kernel
theorem dX4_nearest_42 : decode cX4_nearest 42 = .ok (.if_icmp .ge 6, 3) := by decide +kernel
theorem dX4_nearest_45 : decode cX4_nearest 45 = .ok (.goto 43, 3) := by decide +kernel
theorem dX4_nearest_48 : decode cX4_nearest 48 = .ok (.iload_n 2, 1) := by decide +kernel
theorem dX4_nearest_49 : decode cX4_nearest 49 = .ok (.iconst (-1), 1) := by decide +kernel
theorem dX4_nearest_50 : decode cX4_nearest 50 = .ok (.if_icmp .eq 36, 3) := by decide +kernel
theorem dX4_nearest_53 : decode cX4_nearest 53 = .ok (.aload_n 0, 1) := by decide +kernel
theorem dX4_nearest_54 : decode cX4_nearest 54 = .ok (.getfield 7, 3) := by decide +kernel
theorem dX4_nearest_57 : decode cX4_nearest 57 = .ok (.iload_n 3, 1) := by decide +kernel
theorem dX4_nearest_58 : decode cX4_nearest 58 = .ok (.iaload, 1) := by decide +kernel
theorem dX4_nearest_59 : decode cX4_nearest 59 = .ok (.aload_n 0, 1) := by decide +kernel
theorem dX4_nearest_60 : decode cX4_nearest 60 = .ok (.getfield 32, 3) := by decide +kernel
theorem dX4_nearest_63 : decode cX4_nearest 63 = .ok (.iload_n 1, 1) := by decide +kernel
theorem dX4_nearest_64 : decode cX4_nearest 64 = .ok (.iaload, 1) := by decide +kernel
theorem dX4_nearest_65 : decode cX4_nearest 65 = .ok (.invokestatic 95, 3) := by decide +kernel
theorem dX4_nearest_68 : decode cX4_nearest 68 = .ok (.aload_n 0, 1) := by decide +kernel
theorem dX4_nearest_69 : decode cX4_nearest 69 = .ok (.getfield 7, 3) := by decide +kernel
theorem dX4_nearest_72 : decode cX4_nearest 72 = .ok (.iload_n 2, 1) := by decide +kernel
theorem dX4_nearest_73 : decode cX4_nearest 73 = .ok (.iaload, 1) := by decide +kernel
theorem dX4_nearest_74 : decode cX4_nearest 74 = .ok (.aload_n 0, 1) := by decide +kernel
theorem dX4_nearest_75 : decode cX4_nearest 75 = .ok (.getfield 32, 3) := by decide +kernel
theorem dX4_nearest_78 : decode cX4_nearest 78 = .ok (.iload_n 1, 1) := by decide +kernel
theorem dX4_nearest_79 : decode cX4_nearest 79 = .ok (.iaload, 1) := by decide +kernel
theorem dX4_nearest_80 : decode cX4_nearest 80 = .ok (.invokestatic 95, 3) := by decide +kernel
theorem dX4_nearest_83 : decode cX4_nearest 83 = .ok (.if_icmp .ge 5, 3) := by decide +kernel
theorem dX4_nearest_86 : decode cX4_nearest 86 = .ok (.iload_n 3, 1) := by decide +kernel
theorem dX4_nearest_87 : decode cX4_nearest 87 = .ok (.istore_n 2, 1) := by decide +kernel
theorem dX4_nearest_88 : decode cX4_nearest 88 = .ok (.iinc 3 1, 3) := by decide +kernel
theorem dX4_nearest_91 : decode cX4_nearest 91 = .ok (.goto (-87), 3) := by decide +kernel
theorem dX4_nearest_94 : decode cX4_nearest 94 = .ok (.iload_n 2, 1) := by decide +kernel
theorem dX4_nearest_95 : decode cX4_nearest 95 = .ok (.ireturn, 1) := by decide +kernel
set_option maxRecDepth 20000 in
theorem ggX4_call_X4_isLevel : GoodIn wsX4_call wsX4_isLevel := goodIn_r _ [16, 17, 18, 19, 15, 20, 33, 34, 35, 36, 37, 38, 39, 40, 41, 42, 43, 44, 45, 46, 47, 48, 49, 50, 51, 52, 53, 54, 55, 56, 57, 58, 59, 60] (by decide +kernel) (by decide +kernel)
set_option maxRecDepth 20000 in
theorem gX4_call_X4_isLevel : GoodIn wsX4_call (wsV RX4 91 RX4 yX4_isLevel wsX4_isLevel) := goodIn_app (goodIn_of _ (by decide +kernel)) ggX4_call_X4_isLevel
set_option maxRecDepth 20000 in
theorem ggX4_call_X4_in : GoodIn wsX4_call wsX4_in := goodIn_r _ [20] (by decide +kernel) (by decide +kernel)
set_option maxRecDepth 20000 in
theorem gX4_call_X4_in : GoodIn wsX4_call (va_wsS RX4 81 yX4_in wsX4_in) := goodIn_app (goodIn_of _ (by decide +kernel)) ggX4_call_X4_in
set_option maxRecDepth 20000 in
theorem ggX4_call_X4_nearest : GoodIn wsX4_call wsX4_nearest := goodIn_r _ [24, 25, 26, 27, 28, 6, 29, 3, 30, 31, 15, 32, 33, 34, 35, 36, 37, 38, 39, 40, 41, 42, 43, 44, 45, 46, 47, 48, 49, 50, 51, 52, 53, 54, 55, 56, 57, 58, 59, 60] (by decide +kernel) (by decide +kernel)
set_option maxRecDepth 20000 in
theorem gX4_call_X4_nearest : GoodIn wsX4_call (wsV RX4 102 RX4 yX4_nearest wsX4_nearest) := goodIn_app (goodIn_of _ (by decide +kernel)) ggX4_call_X4_nearest
theorem dX4_call_0 : decode cX4_call 0 = .ok (.aload_n 0, 1) := by decide +kernel
theorem dX4_call_1 : decode cX4_call 1 = .ok (.aload_n 0, 1) := by decide +kernel
theorem dX4_call_2 : decode cX4_call 2 = .ok (.iload_n 1, 1) := by decide +kernel
theorem dX4_call_3 : decode cX4_call 3 = .ok (.invokevirtual 91, 3) := by decide +kernel
theorem dX4_call_6 : decode cX4_call 6 = .ok (.ifCond .eq 36, 3) := by decide +kernel
theorem dX4_call_9 : decode cX4_call 9 = .ok (.aload_n 0, 1) := by decide +kernel
theorem dX4_call_10 : decode cX4_call 10 = .ok (.iload_n 2, 1) := by decide +kernel
theorem dX4_call_11 : decode cX4_call 11 = .ok (.invokevirtual 91, 3) := by decide +kernel
theorem dX4_call_14 : decode cX4_call 14 = .ok (.ifCond .eq 28, 3) := by decide +kernel
theorem dX4_call_17 : decode cX4_call 17 = .ok (.iload_n 1, 1) := by decide +kernel
theorem dX4_call_18 : decode cX4_call 18 = .ok (.iload_n 2, 1) := by decide +kernel
theorem dX4_call_19 : decode cX4_call 19 = .ok (.if_icmp .eq 23, 3) := by decide +kernel
theorem dX4_call_22 : decode cX4_call 22 = .ok (.iload_n 3, 1) := by decide +kernel
theorem dX4_call_23 : decode cX4_call 23 = .ok (.iconst 1, 1) := by decide +kernel
theorem dX4_call_24 : decode cX4_call 24 = .ok (.iconst 3, 1) := by decide +kernel
theorem dX4_call_25 : decode cX4_call 25 = .ok (.invokestatic 81, 3) := by decide +kernel
theorem dX4_call_28 : decode cX4_call 28 = .ok (.ifCond .eq 14, 3) := by decide +kernel
theorem dX4_call_31 : decode cX4_call 31 = .ok (.iload 4, 2) := by decide +kernel
theorem dX4_call_33 : decode cX4_call 33 = .ok (.iconst 1, 1) := by decide +kernel
theorem dX4_call_34 : decode cX4_call 34 = .ok (.bipush 50, 2) := by decide +kernel
theorem dX4_call_36 : decode cX4_call 36 = .ok (.invokestatic 81, 3) := by decide +kernel
theorem dX4_call_39 : decode cX4_call 39 = .ok (.ifCond .ne 7, 3) := by decide +kernel
theorem dX4_call_42 : decode cX4_call 42 = .ok (.iconst 1, 1) := by decide +kernel
theorem dX4_call_43 : decode cX4_call 43 = .ok (.goto 17, 3) := by decide +kernel
theorem dX4_call_46 : decode cX4_call 46 = .ok (.aload_n 0, 1) := by decide +kernel
theorem dX4_call_47 : decode cX4_call 47 = .ok (.getfield 88, 3) := by decide +kernel
theorem dX4_call_50 : decode cX4_call 50 = .ok (.bipush 24, 2) := by decide +kernel
theorem dX4_call_52 : decode cX4_call 52 = .ok (.if_icmp .ne 7, 3) := by decide +kernel
theorem dX4_call_55 : decode cX4_call 55 = .ok (.iconst 2, 1) := by decide +kernel
theorem dX4_call_56 : decode cX4_call 56 = .ok (.goto 4, 3) := by decide +kernel
theorem dX4_call_59 : decode cX4_call 59 = .ok (.iconst 0, 1) := by decide +kernel
theorem dX4_call_60 : decode cX4_call 60 = .ok (.putfield 78, 3) := by decide +kernel
theorem dX4_call_63 : decode cX4_call 63 = .ok (.aload_n 0, 1) := by decide +kernel
theorem dX4_call_64 : decode cX4_call 64 = .ok (.getfield 78, 3) := by decide +kernel
theorem dX4_call_67 : decode cX4_call 67 = .ok (.ifCond .le 5, 3) := by decide +kernel
theorem dX4_call_70 : decode cX4_call 70 = .ok (.iconst 0, 1) := by decide +kernel
theorem dX4_call_71 : decode cX4_call 71 = .ok (.ireturn, 1) := by decide +kernel
theorem dX4_call_72 : decode cX4_call 72 = .ok (.aload_n 0, 1) := by decide +kernel
theorem dX4_call_73 : decode cX4_call 73 = .ok (.getfield 88, 3) := by decide +kernel
theorem dX4_call_76 : decode cX4_call 76 = .ok (.istore 5, 2) := by decide +kernel
theorem dX4_call_78 : decode cX4_call 78 = .ok (.aload_n 0, 1) := by decide +kernel
theorem dX4_call_79 : decode cX4_call 79 = .ok (.dup, 1) := by decide +kernel
theorem dX4_call_80 : decode cX4_call 80 = .ok (.getfield 88, 3) := by decide +kernel
theorem dX4_call_83 : decode cX4_call 83 = .ok (.iconst 1, 1) := by decide +kernel
theorem dX4_call_84 : decode cX4_call 84 = .ok (.iadd, 1) := by decide +kernel
theorem dX4_call_85 : decode cX4_call 85 = .ok (.putfield 88, 3) := by decide +kernel
theorem dX4_call_88 : decode cX4_call 88 = .ok (.aload_n 0, 1) := by decide +kernel
theorem dX4_call_89 : decode cX4_call 89 = .ok (.getfield 32, 3) := by decide +kernel
theorem dX4_call_92 : decode cX4_call 92 = .ok (.iload 5, 2) := by decide +kernel
theorem dX4_call_94 : decode cX4_call 94 = .ok (.iload_n 1, 1) := by decide +kernel
theorem dX4_call_95 : decode cX4_call 95 = .ok (.iastore, 1) := by decide +kernel
theorem dX4_call_96 : decode cX4_call 96 = .ok (.aload_n 0, 1) := by decide +kernel
theorem dX4_call_97 : decode cX4_call 97 = .ok (.getfield 35, 3) := by decide +kernel
theorem dX4_call_100 : decode cX4_call 100 = .ok (.iload 5, 2) := by decide +kernel
theorem dX4_call_102 : decode cX4_call 102 = .ok (.iload_n 2, 1) := by decide +kernel
theorem dX4_call_103 : decode cX4_call 103 = .ok (.iastore, 1) := by decide +kernel
theorem dX4_call_104 : decode cX4_call 104 = .ok (.aload_n 0, 1) := by decide +kernel
theorem dX4_call_105 : decode cX4_call 105 = .ok (.getfield 38, 3) := by decide +kernel
theorem dX4_call_108 : decode cX4_call 108 = .ok (.iload 5, 2) := by decide +kernel
theorem dX4_call_110 : decode cX4_call 110 = .ok (.iload_n 3, 1) := by decide +kernel
theorem dX4_call_111 : decode cX4_call 111 = .ok (.iastore, 1) := by decide +kernel
theorem dX4_call_112 : decode cX4_call 112 = .ok (.aload_n 0, 1) := by decide +kernel
theorem dX4_call_113 : decode cX4_call 113 = .ok (.getfield 41, 3) := by decide +kernel
theorem dX4_call_116 : decode cX4_call 116 = .ok (.iload 5, 2) := by decide +kernel
theorem dX4_call_118 : decode cX4_call 118 = .ok (.iload 4, 2) := by decide +kernel
theorem dX4_call_120 : decode cX4_call 120 = .ok (.iastore, 1) := by decide +kernel
theorem dX4_call_121 : decode cX4_call 121 = .ok (.aload_n 0, 1) := by decide +kernel
theorem dX4_call_122 : decode cX4_call 122 = .ok (.getfield 50, 3) := by decide +kernel
theorem dX4_call_125 : decode cX4_call 125 = .ok (.iload 5, 2) := by decide +kernel
theorem dX4_call_127 : decode cX4_call 127 = .ok (.aload_n 0, 1) := by decide +kernel
theorem dX4_call_128 : decode cX4_call 128 = .ok (.getfield 99, 3) := by decide +kernel
theorem dX4_call_131 : decode cX4_call 131 = .ok (.iastore, 1) := by decide +kernel
theorem dX4_call_132 : decode cX4_call 132 = .ok (.aload_n 0, 1) := by decide +kernel
theorem dX4_call_133 : decode cX4_call 133 = .ok (.getfield 53, 3) := by decide +kernel
theorem dX4_call_136 : decode cX4_call 136 = .ok (.iload 5, 2) := by decide +kernel
theorem dX4_call_138 : decode cX4_call 138 = .ok (.iconst (-1), 1) := by decide +kernel
theorem dX4_call_139 : decode cX4_call 139 = .ok (.iastore, 1) := by decide +kernel
theorem dX4_call_140 : decode cX4_call 140 = .ok (.aload_n 0, 1) := by decide +kernel
theorem dX4_call_141 : decode cX4_call 141 = .ok (.getfield 56, 3) := by decide +kernel
theorem dX4_call_144 : decode cX4_call 144 = .ok (.iload 5, 2) := by decide +kernel
theorem dX4_call_146 : decode cX4_call 146 = .ok (.iconst (-1), 1) := by decide +kernel
theorem dX4_call_147 : decode cX4_call 147 = .ok (.iastore, 1) := by decide +kernel
theorem dX4_call_148 : decode cX4_call 148 = .ok (.aload_n 0, 1) := by decide +kernel
theorem dX4_call_149 : decode cX4_call 149 = .ok (.getfield 47, 3) := by decide +kernel
theorem dX4_call_152 : decode cX4_call 152 = .ok (.iload 5, 2) := by decide +kernel
theorem dX4_call_154 : decode cX4_call 154 = .ok (.aload_n 0, 1) := by decide +kernel
theorem dX4_call_155 : decode cX4_call 155 = .ok (.iload 5, 2) := by decide +kernel
theorem dX4_call_157 : decode cX4_call 157 = .ok (.invokevirtual 102, 3) := by decide +kernel
theorem dX4_call_160 : decode cX4_call 160 = .ok (.iastore, 1) := by decide +kernel
theorem dX4_call_161 : decode cX4_call 161 = .ok (.iload 5, 2) := by decide +kernel
theorem dX4_call_163 : decode cX4_call 163 = .ok (.ireturn, 1) := by decide +kernel
theorem dX4_is_0 : decode cX4_is 0 = .ok (.aload_n 0, 1) := by decide +kernel
theorem dX4_is_1 : decode cX4_is 1 = .ok (.getfield 47, 3) := by decide +kernel
theorem dX4_is_4 : decode cX4_is 4 = .ok (.iload_n 1, 1) := by decide +kernel
theorem dX4_is_5 : decode cX4_is 5 = .ok (.iaload, 1) := by decide +kernel
theorem dX4_is_6 : decode cX4_is 6 = .ok (.iload_n 2, 1) := by decide +kernel
theorem dX4_is_7 : decode cX4_is 7 = .ok (.if_icmp .ne 17, 3) := by decide +kernel
theorem dX4_is_10 : decode cX4_is 10 = .ok (.aload_n 0, 1) := by decide +kernel
theorem dX4_is_11 : decode cX4_is 11 = .ok (.getfield 44, 3) := by decide +kernel
theorem dX4_is_14 : decode cX4_is 14 = .ok (.iload_n 1, 1) := by decide +kernel
theorem dX4_is_15 : decode cX4_is 15 = .ok (.iaload, 1) := by decide +kernel
theorem dX4_is_16 : decode cX4_is 16 = .ok (.iload_n 3, 1) := by decide +kernel
theorem dX4_is_17 : decode cX4_is 17 = .ok (.if_icmp .ne 7, 3) := by decide +kernel
theorem dX4_is_20 : decode cX4_is 20 = .ok (.iconst 1, 1) := by decide +kernel
theorem dX4_is_21 : decode cX4_is 21 = .ok (.goto 4, 3) := by decide +kernel
theorem dX4_is_24 : decode cX4_is 24 = .ok (.iconst 0, 1) := by decide +kernel
theorem dX4_is_25 : decode cX4_is 25 = .ok (.ireturn, 1) := by decide +kernel
set_option maxRecDepth 20000 in
theorem ggX4_aboard_X4_is : GoodIn wsX4_aboard wsX4_is := goodIn_r _ [7, 8, 9, 10, 11, 12, 13, 14, 15, 16, 17, 18, 19, 20, 21, 22, 23, 24, 25, 26, 27, 28, 29, 30, 31, 32, 33, 34, 35, 36, 37] (by decide +kernel) (by decide +kernel)
set_option maxRecDepth 20000 in
theorem gX4_aboard_X4_is : GoodIn wsX4_aboard (wsV RX4 106 RX4 yX4_is wsX4_is) := goodIn_app (goodIn_of _ (by decide +kernel)) ggX4_aboard_X4_is
theorem dX4_aboard_0 : decode cX4_aboard 0 = .ok (.iconst 0, 1) := by decide +kernel
theorem dX4_aboard_1 : decode cX4_aboard 1 = .ok (.istore_n 2, 1) := by decide +kernel
theorem dX4_aboard_2 : decode cX4_aboard 2 = .ok (.iconst 0, 1) := by decide +kernel
theorem dX4_aboard_3 : decode cX4_aboard 3 = .ok (.istore_n 3, 1) := by decide +kernel
theorem dX4_aboard_4 : decode cX4_aboard 4 = .ok (.iload_n 3, 1) := by decide +kernel
theorem dX4_aboard_5 : decode cX4_aboard 5 = .ok (.aload_n 0, 1) := by decide +kernel
theorem dX4_aboard_6 : decode cX4_aboard 6 = .ok (.getfield 88, 3) := by decide +kernel
theorem dX4_aboard_9 : decode cX4_aboard 9 = .ok (.if_icmp .ge 32, 3) := by decide +kernel
theorem dX4_aboard_12 : decode cX4_aboard 12 = .ok (.iload_n 2, 1) := by decide +kernel
theorem dX4_aboard_13 : decode cX4_aboard 13 = .ok (.aload_n 0, 1) := by decide +kernel
theorem dX4_aboard_14 : decode cX4_aboard 14 = .ok (.iload_n 3, 1) := by decide +kernel
theorem dX4_aboard_15 : decode cX4_aboard 15 = .ok (.iload_n 1, 1) := by decide +kernel
theorem dX4_aboard_16 : decode cX4_aboard 16 = .ok (.iconst 1, 1) := by decide +kernel
theorem dX4_aboard_17 : decode cX4_aboard 17 = .ok (.invokevirtual 106, 3) := by decide +kernel
theorem dX4_aboard_20 : decode cX4_aboard 20 = .ok (.ifCond .eq 12, 3) := by decide +kernel
theorem dX4_aboard_23 : decode cX4_aboard 23 = .ok (.aload_n 0, 1) := by decide +kernel
theorem dX4_aboard_24 : decode cX4_aboard 24 = .ok (.getfield 41, 3) := by decide +kernel
theorem dX4_aboard_27 : decode cX4_aboard 27 = .ok (.iload_n 3, 1) := by decide +kernel
theorem dX4_aboard_28 : decode cX4_aboard 28 = .ok (.iaload, 1) := by decide +kernel
theorem dX4_aboard_29 : decode cX4_aboard 29 = .ok (.goto 4, 3) := by decide +kernel
theorem dX4_aboard_32 : decode cX4_aboard 32 = .ok (.iconst 0, 1) := by decide +kernel
theorem dX4_aboard_33 : decode cX4_aboard 33 = .ok (.iadd, 1) := by decide +kernel
theorem dX4_aboard_34 : decode cX4_aboard 34 = .ok (.istore_n 2, 1) := by decide +kernel
theorem dX4_aboard_35 : decode cX4_aboard 35 = .ok (.iinc 3 1, 3) := by decide +kernel
theorem dX4_aboard_38 : decode cX4_aboard 38 = .ok (.goto (-34), 3) := by decide +kernel
theorem dX4_aboard_41 : decode cX4_aboard 41 = .ok (.iload_n 2, 1) := by decide +kernel
theorem dX4_aboard_42 : decode cX4_aboard 42 = .ok (.ireturn, 1) := by decide +kernel
theorem dX4_tell_0 : decode cX4_tell 0 = .ok (.aload_n 0, 1) := by decide +kernel
theorem dX4_tell_1 : decode cX4_tell 1 = .ok (.getfield 59, 3) := by decide +kernel
theorem dX4_tell_4 : decode cX4_tell 4 = .ok (.aload_n 0, 1) := by decide +kernel
theorem dX4_tell_5 : decode cX4_tell 5 = .ok (.getfield 109, 3) := by decide +kernel
theorem dX4_tell_8 : decode cX4_tell 8 = .ok (.aload_n 0, 1) := by decide +kernel
theorem dX4_tell_9 : decode cX4_tell 9 = .ok (.getfield 99, 3) := by decide +kernel
theorem dX4_tell_12 : decode cX4_tell 12 = .ok (.iastore, 1) := by decide +kernel
theorem dX4_tell_13 : decode cX4_tell 13 = .ok (.aload_n 0, 1) := by decide +kernel
theorem dX4_tell_14 : decode cX4_tell 14 = .ok (.getfield 62, 3) := by decide +kernel
theorem dX4_tell_17 : decode cX4_tell 17 = .ok (.aload_n 0, 1) := by decide +kernel
theorem dX4_tell_18 : decode cX4_tell 18 = .ok (.getfield 109, 3) := by decide +kernel
theorem dX4_tell_21 : decode cX4_tell 21 = .ok (.iload_n 1, 1) := by decide +kernel
theorem dX4_tell_22 : decode cX4_tell 22 = .ok (.iastore, 1) := by decide +kernel
theorem dX4_tell_23 : decode cX4_tell 23 = .ok (.aload_n 0, 1) := by decide +kernel
theorem dX4_tell_24 : decode cX4_tell 24 = .ok (.getfield 65, 3) := by decide +kernel
theorem dX4_tell_27 : decode cX4_tell 27 = .ok (.aload_n 0, 1) := by decide +kernel
theorem dX4_tell_28 : decode cX4_tell 28 = .ok (.getfield 109, 3) := by decide +kernel
theorem dX4_tell_31 : decode cX4_tell 31 = .ok (.iload_n 2, 1) := by decide +kernel
theorem dX4_tell_32 : decode cX4_tell 32 = .ok (.iastore, 1) := by decide +kernel
theorem dX4_tell_33 : decode cX4_tell 33 = .ok (.aload_n 0, 1) := by decide +kernel
theorem dX4_tell_34 : decode cX4_tell 34 = .ok (.dup, 1) := by decide +kernel
theorem dX4_tell_35 : decode cX4_tell 35 = .ok (.getfield 109, 3) := by decide +kernel
theorem dX4_tell_38 : decode cX4_tell 38 = .ok (.iconst 1, 1) := by decide +kernel
theorem dX4_tell_39 : decode cX4_tell 39 = .ok (.iadd, 1) := by decide +kernel
theorem dX4_tell_40 : decode cX4_tell 40 = .ok (.putfield 109, 3) := by decide +kernel
theorem dX4_tell_43 : decode cX4_tell 43 = .ok (.return_, 1) := by decide +kernel
set_option maxRecDepth 20000 in
theorem ggX4_stops_X4_is : GoodIn wsX4_stops wsX4_is := goodIn_r _ [11, 12, 13, 14, 15, 16, 17, 18, 19, 20, 21, 22, 23, 24, 25, 26, 27, 28, 29, 30, 31, 32, 33, 34, 35, 36, 37, 38, 39, 40, 41] (by decide +kernel) (by decide +kernel)
set_option maxRecDepth 20000 in
theorem gX4_stops_X4_is : GoodIn wsX4_stops (wsV RX4 106 RX4 yX4_is wsX4_is) := goodIn_app (goodIn_of _ (by decide +kernel)) ggX4_stops_X4_is
theorem dX4_stops_0 : decode cX4_stops 0 = .ok (.iconst 0, 1) := by decide +kernel
theorem dX4_stops_1 : decode cX4_stops 1 = .ok (.istore_n 2, 1) := by decide +kernel
theorem dX4_stops_2 : decode cX4_stops 2 = .ok (.iconst 0, 1) := by decide +kernel
theorem dX4_stops_3 : decode cX4_stops 3 = .ok (.istore_n 3, 1) := by decide +kernel
theorem dX4_stops_4 : decode cX4_stops 4 = .ok (.iload_n 3, 1) := by decide +kernel
theorem dX4_stops_5 : decode cX4_stops 5 = .ok (.aload_n 0, 1) := by decide +kernel
theorem dX4_stops_6 : decode cX4_stops 6 = .ok (.getfield 88, 3) := by decide +kernel
theorem dX4_stops_9 : decode cX4_stops 9 = .ok (.if_icmp .ge 59, 3) := by decide +kernel
theorem dX4_stops_12 : decode cX4_stops 12 = .ok (.aload_n 0, 1) := by decide +kernel
theorem dX4_stops_13 : decode cX4_stops 13 = .ok (.iload_n 3, 1) := by decide +kernel
theorem dX4_stops_14 : decode cX4_stops 14 = .ok (.iload_n 1, 1) := by decide +kernel
theorem dX4_stops_15 : decode cX4_stops 15 = .ok (.iconst 1, 1) := by decide +kernel
theorem dX4_stops_16 : decode cX4_stops 16 = .ok (.invokevirtual 106, 3) := by decide +kernel
theorem dX4_stops_19 : decode cX4_stops 19 = .ok (.ifCond .eq 20, 3) := by decide +kernel
theorem dX4_stops_22 : decode cX4_stops 22 = .ok (.aload_n 0, 1) := by decide +kernel
theorem dX4_stops_23 : decode cX4_stops 23 = .ok (.getfield 35, 3) := by decide +kernel
theorem dX4_stops_26 : decode cX4_stops 26 = .ok (.iload_n 3, 1) := by decide +kernel
theorem dX4_stops_27 : decode cX4_stops 27 = .ok (.iaload, 1) := by decide +kernel
theorem dX4_stops_28 : decode cX4_stops 28 = .ok (.aload_n 0, 1) := by decide +kernel
theorem dX4_stops_29 : decode cX4_stops 29 = .ok (.getfield 7, 3) := by decide +kernel
theorem dX4_stops_32 : decode cX4_stops 32 = .ok (.iload_n 1, 1) := by decide +kernel
theorem dX4_stops_33 : decode cX4_stops 33 = .ok (.iaload, 1) := by decide +kernel
theorem dX4_stops_34 : decode cX4_stops 34 = .ok (.if_icmp .ne 5, 3) := by decide +kernel
theorem dX4_stops_37 : decode cX4_stops 37 = .ok (.iconst 1, 1) := by decide +kernel
theorem dX4_stops_38 : decode cX4_stops 38 = .ok (.ireturn, 1) := by decide +kernel
theorem dX4_stops_39 : decode cX4_stops 39 = .ok (.iload_n 2, 1) := by decide +kernel
theorem dX4_stops_40 : decode cX4_stops 40 = .ok (.aload_n 0, 1) := by decide +kernel
theorem dX4_stops_41 : decode cX4_stops 41 = .ok (.iload_n 3, 1) := by decide +kernel
theorem dX4_stops_42 : decode cX4_stops 42 = .ok (.iload_n 1, 1) := by decide +kernel
theorem dX4_stops_43 : decode cX4_stops 43 = .ok (.iconst 1, 1) := by decide +kernel
theorem dX4_stops_44 : decode cX4_stops 44 = .ok (.invokevirtual 106, 3) := by decide +kernel
theorem dX4_stops_47 : decode cX4_stops 47 = .ok (.ifCond .eq 12, 3) := by decide +kernel
theorem dX4_stops_50 : decode cX4_stops 50 = .ok (.aload_n 0, 1) := by decide +kernel
theorem dX4_stops_51 : decode cX4_stops 51 = .ok (.getfield 41, 3) := by decide +kernel
theorem dX4_stops_54 : decode cX4_stops 54 = .ok (.iload_n 3, 1) := by decide +kernel
theorem dX4_stops_55 : decode cX4_stops 55 = .ok (.iaload, 1) := by decide +kernel
theorem dX4_stops_56 : decode cX4_stops 56 = .ok (.goto 4, 3) := by decide +kernel
theorem dX4_stops_59 : decode cX4_stops 59 = .ok (.iconst 0, 1) := by decide +kernel
theorem dX4_stops_60 : decode cX4_stops 60 = .ok (.iadd, 1) := by decide +kernel
theorem dX4_stops_61 : decode cX4_stops 61 = .ok (.istore_n 2, 1) := by decide +kernel
theorem dX4_stops_62 : decode cX4_stops 62 = .ok (.iinc 3 1, 3) := by decide +kernel
theorem dX4_stops_65 : decode cX4_stops 65 = .ok (.goto (-61), 3) := by decide +kernel
theorem dX4_stops_68 : decode cX4_stops 68 = .ok (.iconst 0, 1) := by decide +kernel
theorem dX4_stops_69 : decode cX4_stops 69 = .ok (.istore_n 3, 1) := by decide +kernel
theorem dX4_stops_70 : decode cX4_stops 70 = .ok (.iload_n 3, 1) := by decide +kernel
theorem dX4_stops_71 : decode cX4_stops 71 = .ok (.aload_n 0, 1) := by decide +kernel
theorem dX4_stops_72 : decode cX4_stops 72 = .ok (.getfield 88, 3) := by decide +kernel
theorem dX4_stops_75 : decode cX4_stops 75 = .ok (.if_icmp .ge 53, 3) := by decide +kernel
theorem dX4_stops_78 : decode cX4_stops 78 = .ok (.aload_n 0, 1) := by decide +kernel
theorem dX4_stops_79 : decode cX4_stops 79 = .ok (.iload_n 3, 1) := by decide +kernel
theorem dX4_stops_80 : decode cX4_stops 80 = .ok (.iload_n 1, 1) := by decide +kernel
theorem dX4_stops_81 : decode cX4_stops 81 = .ok (.iconst 0, 1) := by decide +kernel
theorem dX4_stops_82 : decode cX4_stops 82 = .ok (.invokevirtual 106, 3) := by decide +kernel
theorem dX4_stops_85 : decode cX4_stops 85 = .ok (.ifCond .eq 37, 3) := by decide +kernel
theorem dX4_stops_88 : decode cX4_stops 88 = .ok (.aload_n 0, 1) := by decide +kernel
theorem dX4_stops_89 : decode cX4_stops 89 = .ok (.getfield 32, 3) := by decide +kernel
theorem dX4_stops_92 : decode cX4_stops 92 = .ok (.iload_n 3, 1) := by decide +kernel
theorem dX4_stops_93 : decode cX4_stops 93 = .ok (.iaload, 1) := by decide +kernel
theorem dX4_stops_94 : decode cX4_stops 94 = .ok (.aload_n 0, 1) := by decide +kernel
theorem dX4_stops_95 : decode cX4_stops 95 = .ok (.getfield 7, 3) := by decide +kernel
theorem dX4_stops_98 : decode cX4_stops 98 = .ok (.iload_n 1, 1) := by decide +kernel
theorem dX4_stops_99 : decode cX4_stops 99 = .ok (.iaload, 1) := by decide +kernel
theorem dX4_stops_100 : decode cX4_stops 100 = .ok (.if_icmp .ne 22, 3) := by decide +kernel
theorem dX4_stops_103 : decode cX4_stops 103 = .ok (.iload_n 2, 1) := by decide +kernel
theorem dX4_stops_104 : decode cX4_stops 104 = .ok (.aload_n 0, 1) := by decide +kernel
theorem dX4_stops_105 : decode cX4_stops 105 = .ok (.getfield 41, 3) := by decide +kernel
theorem dX4_stops_108 : decode cX4_stops 108 = .ok (.iload_n 3, 1) := by decide +kernel
theorem dX4_stops_109 : decode cX4_stops 109 = .ok (.iaload, 1) := by decide +kernel
theorem dX4_stops_110 : decode cX4_stops 110 = .ok (.iadd, 1) := by decide +kernel
theorem dX4_stops_111 : decode cX4_stops 111 = .ok (.aload_n 0, 1) := by decide +kernel
theorem dX4_stops_112 : decode cX4_stops 112 = .ok (.getfield 13, 3) := by decide +kernel
theorem dX4_stops_115 : decode cX4_stops 115 = .ok (.iload_n 1, 1) := by decide +kernel
theorem dX4_stops_116 : decode cX4_stops 116 = .ok (.iaload, 1) := by decide +kernel
theorem dX4_stops_117 : decode cX4_stops 117 = .ok (.if_icmp .gt 5, 3) := by decide +kernel
theorem dX4_stops_120 : decode cX4_stops 120 = .ok (.iconst 1, 1) := by decide +kernel
theorem dX4_stops_121 : decode cX4_stops 121 = .ok (.ireturn, 1) := by decide +kernel
theorem dX4_stops_122 : decode cX4_stops 122 = .ok (.iinc 3 1, 3) := by decide +kernel
theorem dX4_stops_125 : decode cX4_stops 125 = .ok (.goto (-55), 3) := by decide +kernel
theorem dX4_stops_128 : decode cX4_stops 128 = .ok (.iconst 0, 1) := by decide +kernel
theorem dX4_stops_129 : decode cX4_stops 129 = .ok (.ireturn, 1) := by decide +kernel
set_option maxRecDepth 20000 in
theorem ggX4_exchange_X4_is : GoodIn wsX4_exchange wsX4_is := goodIn_r _ [17, 18, 4, 31, 32, 33, 34, 35, 36, 37, 38, 39, 40, 41, 42, 43, 44, 45, 46, 47, 48, 49, 50, 51, 52, 53, 54, 55, 56, 57, 58] (by decide +kernel) (by decide +kernel)
set_option maxRecDepth 20000 in
theorem gX4_exchange_X4_is : GoodIn wsX4_exchange (wsV RX4 106 RX4 yX4_is wsX4_is) := goodIn_app (goodIn_of _ (by decide +kernel)) ggX4_exchange_X4_is
set_option maxRecDepth 20000 in
theorem ggX4_exchange_X4_tell : GoodIn wsX4_exchange wsX4_tell := goodIn_r _ [22, 23, 24, 6, 25, 26, 31, 32, 33, 34, 35, 36, 37, 38, 39, 40, 41, 42, 43, 44, 45, 46, 47, 48, 49, 50, 51, 52, 53, 54, 55, 56, 57, 58] (by decide +kernel) (by decide +kernel)
set_option maxRecDepth 20000 in
theorem gX4_exchange_X4_tell : GoodIn wsX4_exchange (wsV RX4 112 RX4 yX4_tell wsX4_tell) := goodIn_app (goodIn_of _ (by decide +kernel)) ggX4_exchange_X4_tell
set_option maxRecDepth 20000 in
theorem ggX4_exchange_X4_aboard : GoodIn wsX4_exchange wsX4_aboard := goodIn_r _ [30, 1, 9, 13, 14, 15, 16, 17, 18, 4, 31, 32, 33, 34, 35, 36, 37, 38, 39, 40, 41, 42, 43, 44, 45, 46, 47, 48, 49, 50, 51, 52, 53, 54, 55, 56, 57, 58] (by decide +kernel) (by decide +kernel)
set_option maxRecDepth 20000 in
theorem gX4_exchange_X4_aboard : GoodIn wsX4_exchange (wsV RX4 116 RX4 yX4_aboard wsX4_aboard) := goodIn_app (goodIn_of _ (by decide +kernel)) ggX4_exchange_X4_aboard
theorem dX4_exchange_0 : decode cX4_exchange 0 = .ok (.iconst 0, 1) := by decide +kernel
theorem dX4_exchange_1 : decode cX4_exchange 1 = .ok (.istore_n 2, 1) := by decide +kernel
theorem dX4_exchange_2 : decode cX4_exchange 2 = .ok (.iload_n 2, 1) := by decide +kernel
theorem dX4_exchange_3 : decode cX4_exchange 3 = .ok (.aload_n 0, 1) := by decide +kernel
theorem dX4_exchange_4 : decode cX4_exchange 4 = .ok (.getfield 88, 3) := by decide +kernel
theorem dX4_exchange_7 : decode cX4_exchange 7 = .ok (.if_icmp .ge 60, 3) := by decide +kernel
theorem dX4_exchange_10 : decode cX4_exchange 10 = .ok (.aload_n 0, 1) := by decide +kernel
theorem dX4_exchange_11 : decode cX4_exchange 11 = .ok (.iload_n 2, 1) := by decide +kernel
theorem dX4_exchange_12 : decode cX4_exchange 12 = .ok (.iload_n 1, 1) := by decide +kernel
theorem dX4_exchange_13 : decode cX4_exchange 13 = .ok (.iconst 1, 1) := by decide +kernel
theorem dX4_exchange_14 : decode cX4_exchange 14 = .ok (.invokevirtual 106, 3) := by decide +kernel
theorem dX4_exchange_17 : decode cX4_exchange 17 = .ok (.ifCond .eq 44, 3) := by decide +kernel
theorem dX4_exchange_20 : decode cX4_exchange 20 = .ok (.aload_n 0, 1) := by decide +kernel
theorem dX4_exchange_21 : decode cX4_exchange 21 = .ok (.getfield 35, 3) := by decide +kernel
theorem dX4_exchange_24 : decode cX4_exchange 24 = .ok (.iload_n 2, 1) := by decide +kernel
theorem dX4_exchange_25 : decode cX4_exchange 25 = .ok (.iaload, 1) := by decide +kernel
theorem dX4_exchange_26 : decode cX4_exchange 26 = .ok (.aload_n 0, 1) := by decide +kernel
theorem dX4_exchange_27 : decode cX4_exchange 27 = .ok (.getfield 7, 3) := by decide +kernel
theorem dX4_exchange_30 : decode cX4_exchange 30 = .ok (.iload_n 1, 1) := by decide +kernel
theorem dX4_exchange_31 : decode cX4_exchange 31 = .ok (.iaload, 1) := by decide +kernel
theorem dX4_exchange_32 : decode cX4_exchange 32 = .ok (.if_icmp .eq 6, 3) := by decide +kernel
theorem dX4_exchange_35 : decode cX4_exchange 35 = .ok (.goto 26, 3) := by decide +kernel
theorem dX4_exchange_38 : decode cX4_exchange 38 = .ok (.aload_n 0, 1) := by decide +kernel
theorem dX4_exchange_39 : decode cX4_exchange 39 = .ok (.getfield 44, 3) := by decide +kernel
theorem dX4_exchange_42 : decode cX4_exchange 42 = .ok (.iload_n 2, 1) := by decide +kernel
theorem dX4_exchange_43 : decode cX4_exchange 43 = .ok (.iconst 2, 1) := by decide +kernel
theorem dX4_exchange_44 : decode cX4_exchange 44 = .ok (.iastore, 1) := by decide +kernel
theorem dX4_exchange_45 : decode cX4_exchange 45 = .ok (.aload_n 0, 1) := by decide +kernel
theorem dX4_exchange_46 : decode cX4_exchange 46 = .ok (.getfield 56, 3) := by decide +kernel
theorem dX4_exchange_49 : decode cX4_exchange 49 = .ok (.iload_n 2, 1) := by decide +kernel
theorem dX4_exchange_50 : decode cX4_exchange 50 = .ok (.aload_n 0, 1) := by decide +kernel
theorem dX4_exchange_51 : decode cX4_exchange 51 = .ok (.getfield 99, 3) := by decide +kernel
theorem dX4_exchange_54 : decode cX4_exchange 54 = .ok (.iastore, 1) := by decide +kernel
theorem dX4_exchange_55 : decode cX4_exchange 55 = .ok (.aload_n 0, 1) := by decide +kernel
theorem dX4_exchange_56 : decode cX4_exchange 56 = .ok (.iload_n 2, 1) := by decide +kernel
theorem dX4_exchange_57 : decode cX4_exchange 57 = .ok (.iconst 1, 1) := by decide +kernel
theorem dX4_exchange_58 : decode cX4_exchange 58 = .ok (.invokevirtual 112, 3) := by decide +kernel
theorem dX4_exchange_61 : decode cX4_exchange 61 = .ok (.iinc 2 1, 3) := by decide +kernel
theorem dX4_exchange_64 : decode cX4_exchange 64 = .ok (.goto (-62), 3) := by decide +kernel
theorem dX4_exchange_67 : decode cX4_exchange 67 = .ok (.iconst 1, 1) := by decide +kernel
theorem dX4_exchange_68 : decode cX4_exchange 68 = .ok (.istore_n 2, 1) := by decide +kernel
theorem dX4_exchange_69 : decode cX4_exchange 69 = .ok (.iload_n 2, 1) := by decide +kernel
theorem dX4_exchange_70 : decode cX4_exchange 70 = .ok (.iconst 4, 1) := by decide +kernel
theorem dX4_exchange_71 : decode cX4_exchange 71 = .ok (.if_icmp .ge 107, 3) := by decide +kernel
theorem dX4_exchange_74 : decode cX4_exchange 74 = .ok (.iconst 0, 1) := by decide +kernel
theorem dX4_exchange_75 : decode cX4_exchange 75 = .ok (.istore_n 3, 1) := by decide +kernel
theorem dX4_exchange_76 : decode cX4_exchange 76 = .ok (.iload_n 3, 1) := by decide +kernel
theorem dX4_exchange_77 : decode cX4_exchange 77 = .ok (.aload_n 0, 1) := by decide +kernel
theorem dX4_exchange_78 : decode cX4_exchange 78 = .ok (.getfield 88, 3) := by decide +kernel
theorem dX4_exchange_81 : decode cX4_exchange 81 = .ok (.if_icmp .ge 91, 3) := by decide +kernel
theorem dX4_exchange_84 : decode cX4_exchange 84 = .ok (.aload_n 0, 1) := by decide +kernel
theorem dX4_exchange_85 : decode cX4_exchange 85 = .ok (.iload_n 3, 1) := by decide +kernel
theorem dX4_exchange_86 : decode cX4_exchange 86 = .ok (.iload_n 1, 1) := by decide +kernel
theorem dX4_exchange_87 : decode cX4_exchange 87 = .ok (.iconst 0, 1) := by decide +kernel
theorem dX4_exchange_88 : decode cX4_exchange 88 = .ok (.invokevirtual 106, 3) := by decide +kernel
theorem dX4_exchange_91 : decode cX4_exchange 91 = .ok (.ifCond .eq 75, 3) := by decide +kernel
theorem dX4_exchange_94 : decode cX4_exchange 94 = .ok (.aload_n 0, 1) := by decide +kernel
theorem dX4_exchange_95 : decode cX4_exchange 95 = .ok (.getfield 32, 3) := by decide +kernel
theorem dX4_exchange_98 : decode cX4_exchange 98 = .ok (.iload_n 3, 1) := by decide +kernel
theorem dX4_exchange_99 : decode cX4_exchange 99 = .ok (.iaload, 1) := by decide +kernel
theorem dX4_exchange_100 : decode cX4_exchange 100 = .ok (.aload_n 0, 1) := by decide +kernel
theorem dX4_exchange_101 : decode cX4_exchange 101 = .ok (.getfield 7, 3) := by decide +kernel
theorem dX4_exchange_104 : decode cX4_exchange 104 = .ok (.iload_n 1, 1) := by decide +kernel
theorem dX4_exchange_105 : decode cX4_exchange 105 = .ok (.iaload, 1) := by decide +kernel
theorem dX4_exchange_106 : decode cX4_exchange 106 = .ok (.if_icmp .ne 60, 3) := by decide +kernel
theorem dX4_exchange_109 : decode cX4_exchange 109 = .ok (.aload_n 0, 1) := by decide +kernel
theorem dX4_exchange_110 : decode cX4_exchange 110 = .ok (.getfield 38, 3) := by decide +kernel
theorem dX4_exchange_113 : decode cX4_exchange 113 = .ok (.iload_n 3, 1) := by decide +kernel
theorem dX4_exchange_114 : decode cX4_exchange 114 = .ok (.iaload, 1) := by decide +kernel
theorem dX4_exchange_115 : decode cX4_exchange 115 = .ok (.iload_n 2, 1) := by decide +kernel
theorem dX4_exchange_116 : decode cX4_exchange 116 = .ok (.if_icmp .ne 50, 3) := by decide +kernel
theorem dX4_exchange_119 : decode cX4_exchange 119 = .ok (.aload_n 0, 1) := by decide +kernel
theorem dX4_exchange_120 : decode cX4_exchange 120 = .ok (.iload_n 1, 1) := by decide +kernel
theorem dX4_exchange_121 : decode cX4_exchange 121 = .ok (.invokevirtual 116, 3) := by decide +kernel
theorem dX4_exchange_124 : decode cX4_exchange 124 = .ok (.aload_n 0, 1) := by decide +kernel
theorem dX4_exchange_125 : decode cX4_exchange 125 = .ok (.getfield 41, 3) := by decide +kernel
theorem dX4_exchange_128 : decode cX4_exchange 128 = .ok (.iload_n 3, 1) := by decide +kernel
theorem dX4_exchange_129 : decode cX4_exchange 129 = .ok (.iaload, 1) := by decide +kernel
theorem dX4_exchange_130 : decode cX4_exchange 130 = .ok (.iadd, 1) := by decide +kernel
theorem dX4_exchange_131 : decode cX4_exchange 131 = .ok (.aload_n 0, 1) := by decide +kernel
theorem dX4_exchange_132 : decode cX4_exchange 132 = .ok (.getfield 13, 3) := by decide +kernel
theorem dX4_exchange_135 : decode cX4_exchange 135 = .ok (.iload_n 1, 1) := by decide +kernel
theorem dX4_exchange_136 : decode cX4_exchange 136 = .ok (.iaload, 1) := by decide +kernel
theorem dX4_exchange_137 : decode cX4_exchange 137 = .ok (.if_icmp .le 6, 3) := by decide +kernel
theorem dX4_exchange_140 : decode cX4_exchange 140 = .ok (.goto 26, 3) := by decide +kernel
theorem dX4_exchange_143 : decode cX4_exchange 143 = .ok (.aload_n 0, 1) := by decide +kernel
theorem dX4_exchange_144 : decode cX4_exchange 144 = .ok (.getfield 44, 3) := by decide +kernel
theorem dX4_exchange_147 : decode cX4_exchange 147 = .ok (.iload_n 3, 1) := by decide +kernel
theorem dX4_exchange_148 : decode cX4_exchange 148 = .ok (.iconst 1, 1) := by decide +kernel
theorem dX4_exchange_149 : decode cX4_exchange 149 = .ok (.iastore, 1) := by decide +kernel
theorem dX4_exchange_150 : decode cX4_exchange 150 = .ok (.aload_n 0, 1) := by decide +kernel
theorem dX4_exchange_151 : decode cX4_exchange 151 = .ok (.getfield 53, 3) := by decide +kernel
theorem dX4_exchange_154 : decode cX4_exchange 154 = .ok (.iload_n 3, 1) := by decide +kernel
theorem dX4_exchange_155 : decode cX4_exchange 155 = .ok (.aload_n 0, 1) := by decide +kernel
theorem dX4_exchange_156 : decode cX4_exchange 156 = .ok (.getfield 99, 3) := by decide +kernel
theorem dX4_exchange_159 : decode cX4_exchange 159 = .ok (.iastore, 1) := by decide +kernel
theorem dX4_exchange_160 : decode cX4_exchange 160 = .ok (.aload_n 0, 1) := by decide +kernel
theorem dX4_exchange_161 : decode cX4_exchange 161 = .ok (.iload_n 3, 1) := by decide +kernel
theorem dX4_exchange_162 : decode cX4_exchange 162 = .ok (.iconst 0, 1) := by decide +kernel
theorem dX4_exchange_163 : decode cX4_exchange 163 = .ok (.invokevirtual 112, 3) := by decide +kernel
theorem dX4_exchange_166 : decode cX4_exchange 166 = .ok (.iinc 3 1, 3) := by decide +kernel
theorem dX4_exchange_169 : decode cX4_exchange 169 = .ok (.goto (-93), 3) := by decide +kernel
theorem dX4_exchange_172 : decode cX4_exchange 172 = .ok (.iinc 2 1, 3) := by decide +kernel
theorem dX4_exchange_175 : decode cX4_exchange 175 = .ok (.goto (-106), 3) := by decide +kernel
theorem dX4_exchange_178 : decode cX4_exchange 178 = .ok (.aload_n 0, 1) := by decide +kernel
theorem dX4_exchange_179 : decode cX4_exchange 179 = .ok (.getfield 19, 3) := by decide +kernel
theorem dX4_exchange_182 : decode cX4_exchange 182 = .ok (.iload_n 1, 1) := by decide +kernel
theorem dX4_exchange_183 : decode cX4_exchange 183 = .ok (.iconst 3, 1) := by decide +kernel
theorem dX4_exchange_184 : decode cX4_exchange 184 = .ok (.iastore, 1) := by decide +kernel
theorem dX4_exchange_185 : decode cX4_exchange 185 = .ok (.return_, 1) := by decide +kernel
set_option maxRecDepth 20000 in
theorem ggX4_hasWork_X4_is : GoodIn wsX4_hasWork wsX4_is := goodIn_r _ [9, 10, 11, 12, 13, 14, 15, 16, 17, 18, 19, 20, 21, 22, 23, 24, 25, 26, 27, 28, 29, 30, 31, 32, 33, 34, 35, 36, 37, 38, 39] (by decide +kernel) (by decide +kernel)
set_option maxRecDepth 20000 in
theorem gX4_hasWork_X4_is : GoodIn wsX4_hasWork (wsV RX4 106 RX4 yX4_is wsX4_is) := goodIn_app (goodIn_of _ (by decide +kernel)) ggX4_hasWork_X4_is
theorem dX4_hasWork_0 : decode cX4_hasWork 0 = .ok (.iconst 0, 1) := by decide +kernel
theorem dX4_hasWork_1 : decode cX4_hasWork 1 = .ok (.istore_n 3, 1) := by decide +kernel
theorem dX4_hasWork_2 : decode cX4_hasWork 2 = .ok (.iload_n 3, 1) := by decide +kernel
theorem dX4_hasWork_3 : decode cX4_hasWork 3 = .ok (.aload_n 0, 1) := by decide +kernel
theorem dX4_hasWork_4 : decode cX4_hasWork 4 = .ok (.getfield 88, 3) := by decide +kernel
theorem dX4_hasWork_7 : decode cX4_hasWork 7 = .ok (.if_icmp .ge 86, 3) := by decide +kernel
theorem dX4_hasWork_10 : decode cX4_hasWork 10 = .ok (.aload_n 0, 1) := by decide +kernel
theorem dX4_hasWork_11 : decode cX4_hasWork 11 = .ok (.iload_n 3, 1) := by decide +kernel
theorem dX4_hasWork_12 : decode cX4_hasWork 12 = .ok (.iload_n 1, 1) := by decide +kernel
theorem dX4_hasWork_13 : decode cX4_hasWork 13 = .ok (.iconst 1, 1) := by decide +kernel
theorem dX4_hasWork_14 : decode cX4_hasWork 14 = .ok (.invokevirtual 106, 3) := by decide +kernel
theorem dX4_hasWork_17 : decode cX4_hasWork 17 = .ok (.ifCond .eq 12, 3) := by decide +kernel
theorem dX4_hasWork_20 : decode cX4_hasWork 20 = .ok (.aload_n 0, 1) := by decide +kernel
theorem dX4_hasWork_21 : decode cX4_hasWork 21 = .ok (.getfield 35, 3) := by decide +kernel
theorem dX4_hasWork_24 : decode cX4_hasWork 24 = .ok (.iload_n 3, 1) := by decide +kernel
theorem dX4_hasWork_25 : decode cX4_hasWork 25 = .ok (.iaload, 1) := by decide +kernel
theorem dX4_hasWork_26 : decode cX4_hasWork 26 = .ok (.goto 28, 3) := by decide +kernel
theorem dX4_hasWork_29 : decode cX4_hasWork 29 = .ok (.aload_n 0, 1) := by decide +kernel
theorem dX4_hasWork_30 : decode cX4_hasWork 30 = .ok (.iload_n 3, 1) := by decide +kernel
theorem dX4_hasWork_31 : decode cX4_hasWork 31 = .ok (.iload_n 1, 1) := by decide +kernel
theorem dX4_hasWork_32 : decode cX4_hasWork 32 = .ok (.iconst 0, 1) := by decide +kernel
theorem dX4_hasWork_33 : decode cX4_hasWork 33 = .ok (.invokevirtual 106, 3) := by decide +kernel
theorem dX4_hasWork_36 : decode cX4_hasWork 36 = .ok (.ifCond .eq 12, 3) := by decide +kernel
theorem dX4_hasWork_39 : decode cX4_hasWork 39 = .ok (.aload_n 0, 1) := by decide +kernel
theorem dX4_hasWork_40 : decode cX4_hasWork 40 = .ok (.getfield 32, 3) := by decide +kernel
theorem dX4_hasWork_43 : decode cX4_hasWork 43 = .ok (.iload_n 3, 1) := by decide +kernel
theorem dX4_hasWork_44 : decode cX4_hasWork 44 = .ok (.iaload, 1) := by decide +kernel
theorem dX4_hasWork_45 : decode cX4_hasWork 45 = .ok (.goto 9, 3) := by decide +kernel
theorem dX4_hasWork_48 : decode cX4_hasWork 48 = .ok (.aload_n 0, 1) := by decide +kernel
theorem dX4_hasWork_49 : decode cX4_hasWork 49 = .ok (.getfield 7, 3) := by decide +kernel
theorem dX4_hasWork_52 : decode cX4_hasWork 52 = .ok (.iload_n 1, 1) := by decide +kernel
theorem dX4_hasWork_53 : decode cX4_hasWork 53 = .ok (.iaload, 1) := by decide +kernel
theorem dX4_hasWork_54 : decode cX4_hasWork 54 = .ok (.istore 4, 2) := by decide +kernel
theorem dX4_hasWork_56 : decode cX4_hasWork 56 = .ok (.iload_n 2, 1) := by decide +kernel
theorem dX4_hasWork_57 : decode cX4_hasWork 57 = .ok (.ifCond .le 17, 3) := by decide +kernel
theorem dX4_hasWork_60 : decode cX4_hasWork 60 = .ok (.iload 4, 2) := by decide +kernel
theorem dX4_hasWork_62 : decode cX4_hasWork 62 = .ok (.aload_n 0, 1) := by decide +kernel
theorem dX4_hasWork_63 : decode cX4_hasWork 63 = .ok (.getfield 7, 3) := by decide +kernel
theorem dX4_hasWork_66 : decode cX4_hasWork 66 = .ok (.iload_n 1, 1) := by decide +kernel
theorem dX4_hasWork_67 : decode cX4_hasWork 67 = .ok (.iaload, 1) := by decide +kernel
theorem dX4_hasWork_68 : decode cX4_hasWork 68 = .ok (.if_icmp .le 19, 3) := by decide +kernel
theorem dX4_hasWork_71 : decode cX4_hasWork 71 = .ok (.goto 14, 3) := by decide +kernel
theorem dX4_hasWork_74 : decode cX4_hasWork 74 = .ok (.iload 4, 2) := by decide +kernel
theorem dX4_hasWork_76 : decode cX4_hasWork 76 = .ok (.aload_n 0, 1) := by decide +kernel
theorem dX4_hasWork_77 : decode cX4_hasWork 77 = .ok (.getfield 7, 3) := by decide +kernel
theorem dX4_hasWork_80 : decode cX4_hasWork 80 = .ok (.iload_n 1, 1) := by decide +kernel
theorem dX4_hasWork_81 : decode cX4_hasWork 81 = .ok (.iaload, 1) := by decide +kernel
theorem dX4_hasWork_82 : decode cX4_hasWork 82 = .ok (.if_icmp .ge 5, 3) := by decide +kernel
theorem dX4_hasWork_85 : decode cX4_hasWork 85 = .ok (.iconst 1, 1) := by decide +kernel
theorem dX4_hasWork_86 : decode cX4_hasWork 86 = .ok (.ireturn, 1) := by decide +kernel
theorem dX4_hasWork_87 : decode cX4_hasWork 87 = .ok (.iinc 3 1, 3) := by decide +kernel
theorem dX4_hasWork_90 : decode cX4_hasWork 90 = .ok (.goto (-88), 3) := by decide +kernel
theorem dX4_hasWork_93 : decode cX4_hasWork 93 = .ok (.iconst 0, 1) := by decide +kernel
theorem dX4_hasWork_94 : decode cX4_hasWork 94 = .ok (.ireturn, 1) := by decide +kernel
set_option maxRecDepth 20000 in
theorem ggX4_second_X4_stops : GoodIn wsX4_second wsX4_stops := goodIn_r _ [10, 11, 12, 4, 13, 14, 15, 16, 17, 18, 9, 19, 20, 21, 46, 47, 48, 49, 50, 51, 52, 53, 54, 55, 56, 57, 58, 59, 60, 61, 62, 63, 64, 65, 66, 67, 68, 69, 70, 71, 72, 73] (by decide +kernel) (by decide +kernel)
set_option maxRecDepth 20000 in
theorem gX4_second_X4_stops : GoodIn wsX4_second (wsV RX4 119 RX4 yX4_stops wsX4_stops) := goodIn_app (goodIn_of _ (by decide +kernel)) ggX4_second_X4_stops
set_option maxRecDepth 20000 in
theorem ggX4_second_X4_exchange : GoodIn wsX4_second wsX4_exchange := goodIn_r _ [25, 11, 12, 4, 21, 26, 27, 14, 28, 13, 15, 29, 1, 16, 17, 18, 9, 19, 20, 30, 31, 32, 33, 34, 35, 36, 37, 38, 39, 40, 41, 46, 47, 48, 49, 50, 51, 52, 53, 54, 55, 56, 57, 58, 59, 60, 61, 62, 63, 64, 65, 66, 67, 68, 69, 70, 71, 72, 73] (by decide +kernel) (by decide +kernel)
set_option maxRecDepth 20000 in
theorem gX4_second_X4_exchange : GoodIn wsX4_second (wsV RX4 122 RX4 yX4_exchange wsX4_exchange) := goodIn_app (goodIn_of _ (by decide +kernel)) ggX4_second_X4_exchange
set_option maxRecDepth 20000 in
theorem ggX4_second_X4_hasWork : GoodIn wsX4_second wsX4_hasWork := goodIn_r _ [45, 11, 12, 14, 4, 16, 17, 18, 9, 19, 20, 21, 46, 47, 48, 49, 50, 51, 52, 53, 54, 55, 56, 57, 58, 59, 60, 61, 62, 63, 64, 65, 66, 67, 68, 69, 70, 71, 72, 73] (by decide +kernel) (by decide +kernel)
set_option maxRecDepth 20000 in
theorem gX4_second_X4_hasWork : GoodIn wsX4_second (wsV RX4 126 RX4 yX4_hasWork wsX4_hasWork) := goodIn_app (goodIn_of _ (by decide +kernel)) ggX4_second_X4_hasWork
theorem dX4_second_0 : decode cX4_second 0 = .ok (.aload_n 0, 1) := by decide +kernel
theorem dX4_second_1 : decode cX4_second 1 = .ok (.getfield 19, 3) := by decide +kernel
theorem dX4_second_4 : decode cX4_second 4 = .ok (.iload_n 1, 1) := by decide +kernel
theorem dX4_second_5 : decode cX4_second 5 = .ok (.iaload, 1) := by decide +kernel
theorem dX4_second_6 : decode cX4_second 6 = .ok (.ifCond .le 37, 3) := by decide +kernel
theorem dX4_second_9 : decode cX4_second 9 = .ok (.aload_n 0, 1) := by decide +kernel
theorem dX4_second_10 : decode cX4_second 10 = .ok (.getfield 19, 3) := by decide +kernel
theorem dX4_second_13 : decode cX4_second 13 = .ok (.iload_n 1, 1) := by decide +kernel
theorem dX4_second_14 : decode cX4_second 14 = .ok (.dup2, 1) := by decide +kernel
theorem dX4_second_15 : decode cX4_second 15 = .ok (.iaload, 1) := by decide +kernel
theorem dX4_second_16 : decode cX4_second 16 = .ok (.aload_n 0, 1) := by decide +kernel
theorem dX4_second_17 : decode cX4_second 17 = .ok (.getfield 22, 3) := by decide +kernel
theorem dX4_second_20 : decode cX4_second 20 = .ok (.iload_n 1, 1) := by decide +kernel
theorem dX4_second_21 : decode cX4_second 21 = .ok (.baload, 1) := by decide +kernel
theorem dX4_second_22 : decode cX4_second 22 = .ok (.ifCond .eq 17, 3) := by decide +kernel
theorem dX4_second_25 : decode cX4_second 25 = .ok (.aload_n 0, 1) := by decide +kernel
theorem dX4_second_26 : decode cX4_second 26 = .ok (.getfield 19, 3) := by decide +kernel
theorem dX4_second_29 : decode cX4_second 29 = .ok (.iload_n 1, 1) := by decide +kernel
theorem dX4_second_30 : decode cX4_second 30 = .ok (.iaload, 1) := by decide +kernel
theorem dX4_second_31 : decode cX4_second 31 = .ok (.iconst 1, 1) := by decide +kernel
theorem dX4_second_32 : decode cX4_second 32 = .ok (.if_icmp .ne 7, 3) := by decide +kernel
theorem dX4_second_35 : decode cX4_second 35 = .ok (.iconst 0, 1) := by decide +kernel
theorem dX4_second_36 : decode cX4_second 36 = .ok (.goto 4, 3) := by decide +kernel
theorem dX4_second_39 : decode cX4_second 39 = .ok (.iconst 1, 1) := by decide +kernel
theorem dX4_second_40 : decode cX4_second 40 = .ok (.isub, 1) := by decide +kernel
theorem dX4_second_41 : decode cX4_second 41 = .ok (.iastore, 1) := by decide +kernel
theorem dX4_second_42 : decode cX4_second 42 = .ok (.return_, 1) := by decide +kernel
theorem dX4_second_43 : decode cX4_second 43 = .ok (.aload_n 0, 1) := by decide +kernel
theorem dX4_second_44 : decode cX4_second 44 = .ok (.iload_n 1, 1) := by decide +kernel
theorem dX4_second_45 : decode cX4_second 45 = .ok (.invokevirtual 119, 3) := by decide +kernel
theorem dX4_second_48 : decode cX4_second 48 = .ok (.ifCond .eq 9, 3) := by decide +kernel
theorem dX4_second_51 : decode cX4_second 51 = .ok (.aload_n 0, 1) := by decide +kernel
theorem dX4_second_52 : decode cX4_second 52 = .ok (.iload_n 1, 1) := by decide +kernel
theorem dX4_second_53 : decode cX4_second 53 = .ok (.invokevirtual 122, 3) := by decide +kernel
theorem dX4_second_56 : decode cX4_second 56 = .ok (.return_, 1) := by decide +kernel
theorem dX4_second_57 : decode cX4_second 57 = .ok (.aload_n 0, 1) := by decide +kernel
theorem dX4_second_58 : decode cX4_second 58 = .ok (.iload_n 1, 1) := by decide +kernel
theorem dX4_second_59 : decode cX4_second 59 = .ok (.iconst 1, 1) := by decide +kernel
theorem dX4_second_60 : decode cX4_second 60 = .ok (.invokevirtual 126, 3) := by decide +kernel
theorem dX4_second_63 : decode cX4_second 63 = .ok (.istore_n 2, 1) := by decide +kernel
theorem dX4_second_64 : decode cX4_second 64 = .ok (.aload_n 0, 1) := by decide +kernel
theorem dX4_second_65 : decode cX4_second 65 = .ok (.iload_n 1, 1) := by decide +kernel
theorem dX4_second_66 : decode cX4_second 66 = .ok (.iconst (-1), 1) := by decide +kernel
theorem dX4_second_67 : decode cX4_second 67 = .ok (.invokevirtual 126, 3) := by decide +kernel
theorem dX4_second_70 : decode cX4_second 70 = .ok (.istore_n 3, 1) := by decide +kernel
theorem dX4_second_71 : decode cX4_second 71 = .ok (.iload_n 2, 1) := by decide +kernel
theorem dX4_second_72 : decode cX4_second 72 = .ok (.ifCond .ne 15, 3) := by decide +kernel
theorem dX4_second_75 : decode cX4_second 75 = .ok (.iload_n 3, 1) := by decide +kernel
theorem dX4_second_76 : decode cX4_second 76 = .ok (.ifCond .ne 11, 3) := by decide +kernel
theorem dX4_second_79 : decode cX4_second 79 = .ok (.aload_n 0, 1) := by decide +kernel
theorem dX4_second_80 : decode cX4_second 80 = .ok (.getfield 16, 3) := by decide +kernel
theorem dX4_second_83 : decode cX4_second 83 = .ok (.iload_n 1, 1) := by decide +kernel
theorem dX4_second_84 : decode cX4_second 84 = .ok (.iconst 0, 1) := by decide +kernel
theorem dX4_second_85 : decode cX4_second 85 = .ok (.iastore, 1) := by decide +kernel
theorem dX4_second_86 : decode cX4_second 86 = .ok (.return_, 1) := by decide +kernel
theorem dX4_second_87 : decode cX4_second 87 = .ok (.aload_n 0, 1) := by decide +kernel
theorem dX4_second_88 : decode cX4_second 88 = .ok (.getfield 16, 3) := by decide +kernel
theorem dX4_second_91 : decode cX4_second 91 = .ok (.iload_n 1, 1) := by decide +kernel
theorem dX4_second_92 : decode cX4_second 92 = .ok (.iaload, 1) := by decide +kernel
theorem dX4_second_93 : decode cX4_second 93 = .ok (.iconst 1, 1) := by decide +kernel
theorem dX4_second_94 : decode cX4_second 94 = .ok (.if_icmp .ne 7, 3) := by decide +kernel
theorem dX4_second_97 : decode cX4_second 97 = .ok (.iload_n 2, 1) := by decide +kernel
theorem dX4_second_98 : decode cX4_second 98 = .ok (.ifCond .ne 32, 3) := by decide +kernel
theorem dX4_second_101 : decode cX4_second 101 = .ok (.aload_n 0, 1) := by decide +kernel
theorem dX4_second_102 : decode cX4_second 102 = .ok (.getfield 16, 3) := by decide +kernel
theorem dX4_second_105 : decode cX4_second 105 = .ok (.iload_n 1, 1) := by decide +kernel
theorem dX4_second_106 : decode cX4_second 106 = .ok (.aload_n 0, 1) := by decide +kernel
theorem dX4_second_107 : decode cX4_second 107 = .ok (.getfield 16, 3) := by decide +kernel
theorem dX4_second_110 : decode cX4_second 110 = .ok (.iload_n 1, 1) := by decide +kernel
theorem dX4_second_111 : decode cX4_second 111 = .ok (.iaload, 1) := by decide +kernel
theorem dX4_second_112 : decode cX4_second 112 = .ok (.iconst (-1), 1) := by decide +kernel
theorem dX4_second_113 : decode cX4_second 113 = .ok (.if_icmp .ne 7, 3) := by decide +kernel
theorem dX4_second_116 : decode cX4_second 116 = .ok (.iload_n 3, 1) := by decide +kernel
theorem dX4_second_117 : decode cX4_second 117 = .ok (.ifCond .ne 7, 3) := by decide +kernel
theorem dX4_second_120 : decode cX4_second 120 = .ok (.iload_n 2, 1) := by decide +kernel
theorem dX4_second_121 : decode cX4_second 121 = .ok (.ifCond .ne 7, 3) := by decide +kernel
theorem dX4_second_124 : decode cX4_second 124 = .ok (.iconst (-1), 1) := by decide +kernel
theorem dX4_second_125 : decode cX4_second 125 = .ok (.goto 4, 3) := by decide +kernel
theorem dX4_second_128 : decode cX4_second 128 = .ok (.iconst 1, 1) := by decide +kernel
theorem dX4_second_129 : decode cX4_second 129 = .ok (.iastore, 1) := by decide +kernel
theorem dX4_second_130 : decode cX4_second 130 = .ok (.aload_n 0, 1) := by decide +kernel
theorem dX4_second_131 : decode cX4_second 131 = .ok (.getfield 7, 3) := by decide +kernel
theorem dX4_second_134 : decode cX4_second 134 = .ok (.iload_n 1, 1) := by decide +kernel
theorem dX4_second_135 : decode cX4_second 135 = .ok (.dup2, 1) := by decide +kernel
theorem dX4_second_136 : decode cX4_second 136 = .ok (.iaload, 1) := by decide +kernel
theorem dX4_second_137 : decode cX4_second 137 = .ok (.aload_n 0, 1) := by decide +kernel
theorem dX4_second_138 : decode cX4_second 138 = .ok (.getfield 16, 3) := by decide +kernel
theorem dX4_second_141 : decode cX4_second 141 = .ok (.iload_n 1, 1) := by decide +kernel
theorem dX4_second_142 : decode cX4_second 142 = .ok (.iaload, 1) := by decide +kernel
theorem dX4_second_143 : decode cX4_second 143 = .ok (.iadd, 1) := by decide +kernel
theorem dX4_second_144 : decode cX4_second 144 = .ok (.iastore, 1) := by decide +kernel
theorem dX4_second_145 : decode cX4_second 145 = .ok (.aload_n 0, 1) := by decide +kernel
theorem dX4_second_146 : decode cX4_second 146 = .ok (.dup, 1) := by decide +kernel
theorem dX4_second_147 : decode cX4_second 147 = .ok (.getfield 130, 3) := by decide +kernel
theorem dX4_second_150 : decode cX4_second 150 = .ok (.iconst 1, 1) := by decide +kernel
theorem dX4_second_151 : decode cX4_second 151 = .ok (.iadd, 1) := by decide +kernel
theorem dX4_second_152 : decode cX4_second 152 = .ok (.putfield 130, 3) := by decide +kernel
theorem dX4_second_155 : decode cX4_second 155 = .ok (.return_, 1) := by decide +kernel
set_option maxRecDepth 20000 in
theorem ggX4_step_X4_in : GoodIn wsX4_step wsX4_in := goodIn_r _ [9] (by decide +kernel) (by decide +kernel)
set_option maxRecDepth 20000 in
theorem gX4_step_X4_in : GoodIn wsX4_step (va_wsS RX4 81 yX4_in wsX4_in) := goodIn_app (goodIn_of _ (by decide +kernel)) ggX4_step_X4_in
set_option maxRecDepth 20000 in
theorem ggX4_step_X4_second : GoodIn wsX4_step wsX4_second := goodIn_r _ [13, 14, 15, 16, 17, 18, 19, 20, 21, 8, 22, 23, 24, 25, 26, 27, 28, 29, 30, 31, 32, 33, 34, 35, 36, 37, 38, 3, 39, 40, 41, 42, 43, 44, 45, 2, 46, 47, 48, 49, 50, 51, 52, 53, 54, 55, 56, 57, 58, 59, 60, 61, 62, 63, 64, 65, 66, 67, 68, 69, 70, 71, 72, 73, 74, 75, 76, 77, 78, 79, 80, 81, 82, 83] (by decide +kernel) (by decide +kernel)
set_option maxRecDepth 20000 in
theorem gX4_step_X4_second : GoodIn wsX4_step (wsV RX4 133 RX4 yX4_second wsX4_second) := goodIn_app (goodIn_of _ (by decide +kernel)) ggX4_step_X4_second
theorem dX4_step_0 : decode cX4_step 0 = .ok (.aload_n 0, 1) := by decide +kernel
theorem dX4_step_1 : decode cX4_step 1 = .ok (.iload_n 1, 1) := by decide +kernel
theorem dX4_step_2 : decode cX4_step 2 = .ok (.iconst 0, 1) := by decide +kernel
theorem dX4_step_3 : decode cX4_step 3 = .ok (.sipush 200, 3) := by decide +kernel
theorem dX4_step_6 : decode cX4_step 6 = .ok (.invokestatic 81, 3) := by decide +kernel
theorem dX4_step_9 : decode cX4_step 9 = .ok (.ifCond .eq 7, 3) := by decide +kernel
theorem dX4_step_12 : decode cX4_step 12 = .ok (.iconst 0, 1) := by decide +kernel
theorem dX4_step_13 : decode cX4_step 13 = .ok (.goto 4, 3) := by decide +kernel
theorem dX4_step_16 : decode cX4_step 16 = .ok (.iconst 1, 1) := by decide +kernel
theorem dX4_step_17 : decode cX4_step 17 = .ok (.putfield 78, 3) := by decide +kernel
theorem dX4_step_20 : decode cX4_step 20 = .ok (.aload_n 0, 1) := by decide +kernel
theorem dX4_step_21 : decode cX4_step 21 = .ok (.getfield 78, 3) := by decide +kernel
theorem dX4_step_24 : decode cX4_step 24 = .ok (.ifCond .le 5, 3) := by decide +kernel
theorem dX4_step_27 : decode cX4_step 27 = .ok (.iconst 0, 1) := by decide +kernel
theorem dX4_step_28 : decode cX4_step 28 = .ok (.ireturn, 1) := by decide +kernel
theorem dX4_step_29 : decode cX4_step 29 = .ok (.aload_n 0, 1) := by decide +kernel
theorem dX4_step_30 : decode cX4_step 30 = .ok (.getfield 109, 3) := by decide +kernel
theorem dX4_step_33 : decode cX4_step 33 = .ok (.istore_n 2, 1) := by decide +kernel
theorem dX4_step_34 : decode cX4_step 34 = .ok (.iconst 0, 1) := by decide +kernel
theorem dX4_step_35 : decode cX4_step 35 = .ok (.istore_n 3, 1) := by decide +kernel
theorem dX4_step_36 : decode cX4_step 36 = .ok (.iload_n 3, 1) := by decide +kernel
theorem dX4_step_37 : decode cX4_step 37 = .ok (.iload_n 1, 1) := by decide +kernel
theorem dX4_step_38 : decode cX4_step 38 = .ok (.if_icmp .ge 53, 3) := by decide +kernel
theorem dX4_step_41 : decode cX4_step 41 = .ok (.aload_n 0, 1) := by decide +kernel
theorem dX4_step_42 : decode cX4_step 42 = .ok (.dup, 1) := by decide +kernel
theorem dX4_step_43 : decode cX4_step 43 = .ok (.getfield 99, 3) := by decide +kernel
theorem dX4_step_46 : decode cX4_step 46 = .ok (.iconst 1, 1) := by decide +kernel
theorem dX4_step_47 : decode cX4_step 47 = .ok (.iadd, 1) := by decide +kernel
theorem dX4_step_48 : decode cX4_step 48 = .ok (.putfield 99, 3) := by decide +kernel
theorem dX4_step_51 : decode cX4_step 51 = .ok (.iconst 0, 1) := by decide +kernel
theorem dX4_step_52 : decode cX4_step 52 = .ok (.istore 4, 2) := by decide +kernel
theorem dX4_step_54 : decode cX4_step 54 = .ok (.iload 4, 2) := by decide +kernel
theorem dX4_step_56 : decode cX4_step 56 = .ok (.aload_n 0, 1) := by decide +kernel
theorem dX4_step_57 : decode cX4_step 57 = .ok (.getfield 85, 3) := by decide +kernel
theorem dX4_step_60 : decode cX4_step 60 = .ok (.if_icmp .ge 25, 3) := by decide +kernel
theorem dX4_step_63 : decode cX4_step 63 = .ok (.aload_n 0, 1) := by decide +kernel
theorem dX4_step_64 : decode cX4_step 64 = .ok (.getfield 26, 3) := by decide +kernel
theorem dX4_step_67 : decode cX4_step 67 = .ok (.iload 4, 2) := by decide +kernel
theorem dX4_step_69 : decode cX4_step 69 = .ok (.baload, 1) := by decide +kernel
theorem dX4_step_70 : decode cX4_step 70 = .ok (.ifCond .ne 9, 3) := by decide +kernel
theorem dX4_step_73 : decode cX4_step 73 = .ok (.aload_n 0, 1) := by decide +kernel
theorem dX4_step_74 : decode cX4_step 74 = .ok (.iload 4, 2) := by decide +kernel
theorem dX4_step_76 : decode cX4_step 76 = .ok (.invokevirtual 133, 3) := by decide +kernel
theorem dX4_step_79 : decode cX4_step 79 = .ok (.iinc 4 1, 3) := by decide +kernel
theorem dX4_step_82 : decode cX4_step 82 = .ok (.goto (-28), 3) := by decide +kernel
theorem dX4_step_85 : decode cX4_step 85 = .ok (.iinc 3 1, 3) := by decide +kernel
theorem dX4_step_88 : decode cX4_step 88 = .ok (.goto (-52), 3) := by decide +kernel
theorem dX4_step_91 : decode cX4_step 91 = .ok (.aload_n 0, 1) := by decide +kernel
theorem dX4_step_92 : decode cX4_step 92 = .ok (.getfield 109, 3) := by decide +kernel
theorem dX4_step_95 : decode cX4_step 95 = .ok (.iload_n 2, 1) := by decide +kernel
theorem dX4_step_96 : decode cX4_step 96 = .ok (.isub, 1) := by decide +kernel
theorem dX4_step_97 : decode cX4_step 97 = .ok (.ireturn, 1) := by decide +kernel
set_option maxRecDepth 20000 in
theorem ggX4_event_X4_in : GoodIn wsX4_event wsX4_in := goodIn_r _ [10] (by decide +kernel) (by decide +kernel)
set_option maxRecDepth 20000 in
theorem gX4_event_X4_in : GoodIn wsX4_event (va_wsS RX4 81 yX4_in wsX4_in) := goodIn_app (goodIn_of _ (by decide +kernel)) ggX4_event_X4_in
theorem dX4_event_0 : decode cX4_event 0 = .ok (.aload_n 0, 1) := by decide +kernel
theorem dX4_event_1 : decode cX4_event 1 = .ok (.iload_n 1, 1) := by decide +kernel
theorem dX4_event_2 : decode cX4_event 2 = .ok (.iconst 0, 1) := by decide +kernel
theorem dX4_event_3 : decode cX4_event 3 = .ok (.aload_n 0, 1) := by decide +kernel
theorem dX4_event_4 : decode cX4_event 4 = .ok (.getfield 109, 3) := by decide +kernel
theorem dX4_event_7 : decode cX4_event 7 = .ok (.iconst 1, 1) := by decide +kernel
theorem dX4_event_8 : decode cX4_event 8 = .ok (.isub, 1) := by decide +kernel
theorem dX4_event_9 : decode cX4_event 9 = .ok (.invokestatic 81, 3) := by decide +kernel
theorem dX4_event_12 : decode cX4_event 12 = .ok (.ifCond .ne 7, 3) := by decide +kernel
theorem dX4_event_15 : decode cX4_event 15 = .ok (.iconst 1, 1) := by decide +kernel
theorem dX4_event_16 : decode cX4_event 16 = .ok (.goto 17, 3) := by decide +kernel
theorem dX4_event_19 : decode cX4_event 19 = .ok (.iload_n 2, 1) := by decide +kernel
theorem dX4_event_20 : decode cX4_event 20 = .ok (.iconst 0, 1) := by decide +kernel
theorem dX4_event_21 : decode cX4_event 21 = .ok (.iconst 3, 1) := by decide +kernel
theorem dX4_event_22 : decode cX4_event 22 = .ok (.invokestatic 81, 3) := by decide +kernel
theorem dX4_event_25 : decode cX4_event 25 = .ok (.ifCond .ne 7, 3) := by decide +kernel
theorem dX4_event_28 : decode cX4_event 28 = .ok (.iconst 2, 1) := by decide +kernel
theorem dX4_event_29 : decode cX4_event 29 = .ok (.goto 4, 3) := by decide +kernel
theorem dX4_event_32 : decode cX4_event 32 = .ok (.iconst 0, 1) := by decide +kernel
theorem dX4_event_33 : decode cX4_event 33 = .ok (.putfield 78, 3) := by decide +kernel
theorem dX4_event_36 : decode cX4_event 36 = .ok (.aload_n 0, 1) := by decide +kernel
theorem dX4_event_37 : decode cX4_event 37 = .ok (.getfield 78, 3) := by decide +kernel
theorem dX4_event_40 : decode cX4_event 40 = .ok (.ifCond .le 5, 3) := by decide +kernel
theorem dX4_event_43 : decode cX4_event 43 = .ok (.iconst 0, 1) := by decide +kernel
theorem dX4_event_44 : decode cX4_event 44 = .ok (.ireturn, 1) := by decide +kernel
theorem dX4_event_45 : decode cX4_event 45 = .ok (.iload_n 2, 1) := by decide +kernel
theorem dX4_event_46 : decode cX4_event 46 = .ok (.ifCond .ne 12, 3) := by decide +kernel
theorem dX4_event_49 : decode cX4_event 49 = .ok (.aload_n 0, 1) := by decide +kernel
theorem dX4_event_50 : decode cX4_event 50 = .ok (.getfield 59, 3) := by decide +kernel
theorem dX4_event_53 : decode cX4_event 53 = .ok (.iload_n 1, 1) := by decide +kernel
theorem dX4_event_54 : decode cX4_event 54 = .ok (.iaload, 1) := by decide +kernel
theorem dX4_event_55 : decode cX4_event 55 = .ok (.goto 42, 3) := by decide +kernel
theorem dX4_event_58 : decode cX4_event 58 = .ok (.iload_n 2, 1) := by decide +kernel
theorem dX4_event_59 : decode cX4_event 59 = .ok (.iconst 1, 1) := by decide +kernel
theorem dX4_event_60 : decode cX4_event 60 = .ok (.if_icmp .ne 17, 3) := by decide +kernel
theorem dX4_event_63 : decode cX4_event 63 = .ok (.aload_n 0, 1) := by decide +kernel
theorem dX4_event_64 : decode cX4_event 64 = .ok (.getfield 47, 3) := by decide +kernel
theorem dX4_event_67 : decode cX4_event 67 = .ok (.aload_n 0, 1) := by decide +kernel
theorem dX4_event_68 : decode cX4_event 68 = .ok (.getfield 62, 3) := by decide +kernel
theorem dX4_event_71 : decode cX4_event 71 = .ok (.iload_n 1, 1) := by decide +kernel
theorem dX4_event_72 : decode cX4_event 72 = .ok (.iaload, 1) := by decide +kernel
theorem dX4_event_73 : decode cX4_event 73 = .ok (.iaload, 1) := by decide +kernel
theorem dX4_event_74 : decode cX4_event 74 = .ok (.goto 23, 3) := by decide +kernel
theorem dX4_event_77 : decode cX4_event 77 = .ok (.iload_n 2, 1) := by decide +kernel
theorem dX4_event_78 : decode cX4_event 78 = .ok (.iconst 2, 1) := by decide +kernel
theorem dX4_event_79 : decode cX4_event 79 = .ok (.if_icmp .ne 12, 3) := by decide +kernel
theorem dX4_event_82 : decode cX4_event 82 = .ok (.aload_n 0, 1) := by decide +kernel
theorem dX4_event_83 : decode cX4_event 83 = .ok (.getfield 62, 3) := by decide +kernel
theorem dX4_event_86 : decode cX4_event 86 = .ok (.iload_n 1, 1) := by decide +kernel
theorem dX4_event_87 : decode cX4_event 87 = .ok (.iaload, 1) := by decide +kernel
theorem dX4_event_88 : decode cX4_event 88 = .ok (.goto 9, 3) := by decide +kernel
theorem dX4_event_91 : decode cX4_event 91 = .ok (.aload_n 0, 1) := by decide +kernel
theorem dX4_event_92 : decode cX4_event 92 = .ok (.getfield 65, 3) := by decide +kernel
theorem dX4_event_95 : decode cX4_event 95 = .ok (.iload_n 1, 1) := by decide +kernel
theorem dX4_event_96 : decode cX4_event 96 = .ok (.iaload, 1) := by decide +kernel
theorem dX4_event_97 : decode cX4_event 97 = .ok (.ireturn, 1) := by decide +kernel
set_option maxRecDepth 20000 in
theorem ggX4_level_X4_in : GoodIn wsX4_level wsX4_in := goodIn_r _ [7] (by decide +kernel) (by decide +kernel)
set_option maxRecDepth 20000 in
theorem gX4_level_X4_in : GoodIn wsX4_level (va_wsS RX4 81 yX4_in wsX4_in) := goodIn_app (goodIn_of _ (by decide +kernel)) ggX4_level_X4_in
theorem dX4_level_0 : decode cX4_level 0 = .ok (.aload_n 0, 1) := by decide +kernel
theorem dX4_level_1 : decode cX4_level 1 = .ok (.iload_n 1, 1) := by decide +kernel
theorem dX4_level_2 : decode cX4_level 2 = .ok (.iconst 0, 1) := by decide +kernel
theorem dX4_level_3 : decode cX4_level 3 = .ok (.iconst 3, 1) := by decide +kernel
theorem dX4_level_4 : decode cX4_level 4 = .ok (.invokestatic 81, 3) := by decide +kernel
theorem dX4_level_7 : decode cX4_level 7 = .ok (.ifCond .ne 7, 3) := by decide +kernel
theorem dX4_level_10 : decode cX4_level 10 = .ok (.iconst 2, 1) := by decide +kernel
theorem dX4_level_11 : decode cX4_level 11 = .ok (.goto 16, 3) := by decide +kernel
theorem dX4_level_14 : decode cX4_level 14 = .ok (.iload_n 1, 1) := by decide +kernel
theorem dX4_level_15 : decode cX4_level 15 = .ok (.aload_n 0, 1) := by decide +kernel
theorem dX4_level_16 : decode cX4_level 16 = .ok (.getfield 85, 3) := by decide +kernel
theorem dX4_level_19 : decode cX4_level 19 = .ok (.if_icmp .lt 7, 3) := by decide +kernel
theorem dX4_level_22 : decode cX4_level 22 = .ok (.iconst 1, 1) := by decide +kernel
theorem dX4_level_23 : decode cX4_level 23 = .ok (.goto 4, 3) := by decide +kernel
theorem dX4_level_26 : decode cX4_level 26 = .ok (.iconst 0, 1) := by decide +kernel
theorem dX4_level_27 : decode cX4_level 27 = .ok (.putfield 78, 3) := by decide +kernel
theorem dX4_level_30 : decode cX4_level 30 = .ok (.aload_n 0, 1) := by decide +kernel
theorem dX4_level_31 : decode cX4_level 31 = .ok (.getfield 78, 3) := by decide +kernel
theorem dX4_level_34 : decode cX4_level 34 = .ok (.ifCond .le 7, 3) := by decide +kernel
theorem dX4_level_37 : decode cX4_level 37 = .ok (.iconst 0, 1) := by decide +kernel
theorem dX4_level_38 : decode cX4_level 38 = .ok (.goto 9, 3) := by decide +kernel
theorem dX4_level_41 : decode cX4_level 41 = .ok (.aload_n 0, 1) := by decide +kernel
theorem dX4_level_42 : decode cX4_level 42 = .ok (.getfield 7, 3) := by decide +kernel
theorem dX4_level_45 : decode cX4_level 45 = .ok (.iload_n 1, 1) := by decide +kernel
theorem dX4_level_46 : decode cX4_level 46 = .ok (.iaload, 1) := by decide +kernel
theorem dX4_level_47 : decode cX4_level 47 = .ok (.ireturn, 1) := by decide +kernel
set_option maxRecDepth 20000 in
theorem ggX4_many_X4_is : GoodIn wsX4_many wsX4_is := goodIn_r _ [6, 7, 8, 9, 10, 11, 12, 13, 14, 15, 16, 17, 18, 19, 20, 21, 22, 23, 24, 25, 26, 27, 28, 29, 30, 31, 32, 33, 34, 35, 36] (by decide +kernel) (by decide +kernel)
set_option maxRecDepth 20000 in
theorem gX4_many_X4_is : GoodIn wsX4_many (wsV RX4 106 RX4 yX4_is wsX4_is) := goodIn_app (goodIn_of _ (by decide +kernel)) ggX4_many_X4_is
theorem dX4_many_0 : decode cX4_many 0 = .ok (.iconst 0, 1) := by decide +kernel
theorem dX4_many_1 : decode cX4_many 1 = .ok (.istore_n 3, 1) := by decide +kernel
theorem dX4_many_2 : decode cX4_many 2 = .ok (.iconst 0, 1) := by decide +kernel
theorem dX4_many_3 : decode cX4_many 3 = .ok (.istore 4, 2) := by decide +kernel
theorem dX4_many_5 : decode cX4_many 5 = .ok (.iload 4, 2) := by decide +kernel
theorem dX4_many_7 : decode cX4_many 7 = .ok (.aload_n 0, 1) := by decide +kernel
theorem dX4_many_8 : decode cX4_many 8 = .ok (.getfield 88, 3) := by decide +kernel
theorem dX4_many_11 : decode cX4_many 11 = .ok (.if_icmp .ge 28, 3) := by decide +kernel
theorem dX4_many_14 : decode cX4_many 14 = .ok (.iload_n 3, 1) := by decide +kernel
theorem dX4_many_15 : decode cX4_many 15 = .ok (.aload_n 0, 1) := by decide +kernel
theorem dX4_many_16 : decode cX4_many 16 = .ok (.iload 4, 2) := by decide +kernel
theorem dX4_many_18 : decode cX4_many 18 = .ok (.iload_n 1, 1) := by decide +kernel
theorem dX4_many_19 : decode cX4_many 19 = .ok (.iload_n 2, 1) := by decide +kernel
theorem dX4_many_20 : decode cX4_many 20 = .ok (.invokevirtual 106, 3) := by decide +kernel
theorem dX4_many_23 : decode cX4_many 23 = .ok (.ifCond .eq 7, 3) := by decide +kernel
theorem dX4_many_26 : decode cX4_many 26 = .ok (.iconst 1, 1) := by decide +kernel
theorem dX4_many_27 : decode cX4_many 27 = .ok (.goto 4, 3) := by decide +kernel
theorem dX4_many_30 : decode cX4_many 30 = .ok (.iconst 0, 1) := by decide +kernel
theorem dX4_many_31 : decode cX4_many 31 = .ok (.iadd, 1) := by decide +kernel
theorem dX4_many_32 : decode cX4_many 32 = .ok (.istore_n 3, 1) := by decide +kernel
theorem dX4_many_33 : decode cX4_many 33 = .ok (.iinc 4 1, 3) := by decide +kernel
theorem dX4_many_36 : decode cX4_many 36 = .ok (.goto (-31), 3) := by decide +kernel
theorem dX4_many_39 : decode cX4_many 39 = .ok (.iload_n 3, 1) := by decide +kernel
theorem dX4_many_40 : decode cX4_many 40 = .ok (.ireturn, 1) := by decide +kernel
set_option maxRecDepth 20000 in
theorem ggX4_told_X4_isLift : GoodIn wsX4_told wsX4_isLift := goodIn_r _ [11, 12, 13, 14, 10, 15, 32, 33, 34, 35, 36, 37, 38, 39, 40, 41, 42, 43, 44, 45, 46, 47, 48, 49, 50, 51, 52, 53, 54, 55, 56, 57, 58, 59] (by decide +kernel) (by decide +kernel)
set_option maxRecDepth 20000 in
theorem gX4_told_X4_isLift : GoodIn wsX4_told (wsV RX4 136 RX4 yX4_isLift wsX4_isLift) := goodIn_app (goodIn_of _ (by decide +kernel)) ggX4_told_X4_isLift
set_option maxRecDepth 20000 in
theorem ggX4_told_X4_in : GoodIn wsX4_told wsX4_in := goodIn_r _ [15] (by decide +kernel) (by decide +kernel)
set_option maxRecDepth 20000 in
theorem gX4_told_X4_in : GoodIn wsX4_told (va_wsS RX4 81 yX4_in wsX4_in) := goodIn_app (goodIn_of _ (by decide +kernel)) ggX4_told_X4_in
set_option maxRecDepth 20000 in
theorem ggX4_told_X4_aboard : GoodIn wsX4_told wsX4_aboard := goodIn_r _ [19, 20, 21, 22, 23, 24, 10, 25, 26, 27, 32, 33, 34, 35, 36, 37, 38, 39, 40, 41, 42, 43, 44, 45, 46, 47, 48, 49, 50, 51, 52, 53, 54, 55, 56, 57, 58, 59] (by decide +kernel) (by decide +kernel)
set_option maxRecDepth 20000 in
theorem gX4_told_X4_aboard : GoodIn wsX4_told (wsV RX4 116 RX4 yX4_aboard wsX4_aboard) := goodIn_app (goodIn_of _ (by decide +kernel)) ggX4_told_X4_aboard
set_option maxRecDepth 20000 in
theorem ggX4_told_X4_many : GoodIn wsX4_told wsX4_many := goodIn_r _ [31, 20, 22, 23, 24, 10, 25, 26, 27, 32, 33, 34, 35, 36, 37, 38, 39, 40, 41, 42, 43, 44, 45, 46, 47, 48, 49, 50, 51, 52, 53, 54, 55, 56, 57, 58, 59] (by decide +kernel) (by decide +kernel)
set_option maxRecDepth 20000 in
theorem gX4_told_X4_many : GoodIn wsX4_told (wsV RX4 139 RX4 yX4_many wsX4_many) := goodIn_app (goodIn_of _ (by decide +kernel)) ggX4_told_X4_many
theorem dX4_told_0 : decode cX4_told 0 = .ok (.aload_n 0, 1) := by decide +kernel
theorem dX4_told_1 : decode cX4_told 1 = .ok (.aload_n 0, 1) := by decide +kernel
theorem dX4_told_2 : decode cX4_told 2 = .ok (.iload_n 1, 1) := by decide +kernel
theorem dX4_told_3 : decode cX4_told 3 = .ok (.invokevirtual 136, 3) := by decide +kernel
theorem dX4_told_6 : decode cX4_told 6 = .ok (.ifCond .ne 7, 3) := by decide +kernel
theorem dX4_told_9 : decode cX4_told 9 = .ok (.iconst 1, 1) := by decide +kernel
theorem dX4_told_10 : decode cX4_told 10 = .ok (.goto 18, 3) := by decide +kernel
theorem dX4_told_13 : decode cX4_told 13 = .ok (.iload_n 2, 1) := by decide +kernel
theorem dX4_told_14 : decode cX4_told 14 = .ok (.iconst 0, 1) := by decide +kernel
theorem dX4_told_15 : decode cX4_told 15 = .ok (.bipush 7, 2) := by decide +kernel
theorem dX4_told_17 : decode cX4_told 17 = .ok (.invokestatic 81, 3) := by decide +kernel
theorem dX4_told_20 : decode cX4_told 20 = .ok (.ifCond .ne 7, 3) := by decide +kernel
theorem dX4_told_23 : decode cX4_told 23 = .ok (.iconst 2, 1) := by decide +kernel
theorem dX4_told_24 : decode cX4_told 24 = .ok (.goto 4, 3) := by decide +kernel
theorem dX4_told_27 : decode cX4_told 27 = .ok (.iconst 0, 1) := by decide +kernel
theorem dX4_told_28 : decode cX4_told 28 = .ok (.putfield 78, 3) := by decide +kernel
theorem dX4_told_31 : decode cX4_told 31 = .ok (.aload_n 0, 1) := by decide +kernel
theorem dX4_told_32 : decode cX4_told 32 = .ok (.getfield 78, 3) := by decide +kernel
theorem dX4_told_35 : decode cX4_told 35 = .ok (.ifCond .le 5, 3) := by decide +kernel
theorem dX4_told_38 : decode cX4_told 38 = .ok (.iconst 0, 1) := by decide +kernel
theorem dX4_told_39 : decode cX4_told 39 = .ok (.ireturn, 1) := by decide +kernel
theorem dX4_told_40 : decode cX4_told 40 = .ok (.iload_n 2, 1) := by decide +kernel
theorem dX4_told_41 : decode cX4_told 41 = .ok (.ifCond .ne 9, 3) := by decide +kernel
theorem dX4_told_44 : decode cX4_told 44 = .ok (.aload_n 0, 1) := by decide +kernel
theorem dX4_told_45 : decode cX4_told 45 = .ok (.iload_n 1, 1) := by decide +kernel
theorem dX4_told_46 : decode cX4_told 46 = .ok (.invokevirtual 116, 3) := by decide +kernel
theorem dX4_told_49 : decode cX4_told 49 = .ok (.ireturn, 1) := by decide +kernel
theorem dX4_told_50 : decode cX4_told 50 = .ok (.iload_n 2, 1) := by decide +kernel
theorem dX4_told_51 : decode cX4_told 51 = .ok (.iconst 1, 1) := by decide +kernel
theorem dX4_told_52 : decode cX4_told 52 = .ok (.if_icmp .ne 10, 3) := by decide +kernel
theorem dX4_told_55 : decode cX4_told 55 = .ok (.aload_n 0, 1) := by decide +kernel
theorem dX4_told_56 : decode cX4_told 56 = .ok (.getfield 16, 3) := by decide +kernel
theorem dX4_told_59 : decode cX4_told 59 = .ok (.iload_n 1, 1) := by decide +kernel
theorem dX4_told_60 : decode cX4_told 60 = .ok (.iaload, 1) := by decide +kernel
theorem dX4_told_61 : decode cX4_told 61 = .ok (.ireturn, 1) := by decide +kernel
theorem dX4_told_62 : decode cX4_told 62 = .ok (.iload_n 2, 1) := by decide +kernel
theorem dX4_told_63 : decode cX4_told 63 = .ok (.iconst 2, 1) := by decide +kernel
theorem dX4_told_64 : decode cX4_told 64 = .ok (.if_icmp .ne 10, 3) := by decide +kernel
theorem dX4_told_67 : decode cX4_told 67 = .ok (.aload_n 0, 1) := by decide +kernel
theorem dX4_told_68 : decode cX4_told 68 = .ok (.getfield 19, 3) := by decide +kernel
theorem dX4_told_71 : decode cX4_told 71 = .ok (.iload_n 1, 1) := by decide +kernel
theorem dX4_told_72 : decode cX4_told 72 = .ok (.iaload, 1) := by decide +kernel
theorem dX4_told_73 : decode cX4_told 73 = .ok (.ireturn, 1) := by decide +kernel
theorem dX4_told_74 : decode cX4_told 74 = .ok (.iload_n 2, 1) := by decide +kernel
theorem dX4_told_75 : decode cX4_told 75 = .ok (.iconst 3, 1) := by decide +kernel
theorem dX4_told_76 : decode cX4_told 76 = .ok (.if_icmp .ne 10, 3) := by decide +kernel
theorem dX4_told_79 : decode cX4_told 79 = .ok (.aload_n 0, 1) := by decide +kernel
theorem dX4_told_80 : decode cX4_told 80 = .ok (.iload_n 1, 1) := by decide +kernel
theorem dX4_told_81 : decode cX4_told 81 = .ok (.iconst 1, 1) := by decide +kernel
theorem dX4_told_82 : decode cX4_told 82 = .ok (.invokevirtual 139, 3) := by decide +kernel
theorem dX4_told_85 : decode cX4_told 85 = .ok (.ireturn, 1) := by decide +kernel
theorem dX4_told_86 : decode cX4_told 86 = .ok (.iload_n 2, 1) := by decide +kernel
theorem dX4_told_87 : decode cX4_told 87 = .ok (.iconst 4, 1) := by decide +kernel
theorem dX4_told_88 : decode cX4_told 88 = .ok (.if_icmp .ne 10, 3) := by decide +kernel
theorem dX4_told_91 : decode cX4_told 91 = .ok (.aload_n 0, 1) := by decide +kernel
theorem dX4_told_92 : decode cX4_told 92 = .ok (.iload_n 1, 1) := by decide +kernel
theorem dX4_told_93 : decode cX4_told 93 = .ok (.iconst 0, 1) := by decide +kernel
theorem dX4_told_94 : decode cX4_told 94 = .ok (.invokevirtual 139, 3) := by decide +kernel
theorem dX4_told_97 : decode cX4_told 97 = .ok (.ireturn, 1) := by decide +kernel
theorem dX4_told_98 : decode cX4_told 98 = .ok (.iload_n 2, 1) := by decide +kernel
theorem dX4_told_99 : decode cX4_told 99 = .ok (.iconst 5, 1) := by decide +kernel
theorem dX4_told_100 : decode cX4_told 100 = .ok (.if_icmp .ne 15, 3) := by decide +kernel
theorem dX4_told_103 : decode cX4_told 103 = .ok (.aload_n 0, 1) := by decide +kernel
theorem dX4_told_104 : decode cX4_told 104 = .ok (.getfield 26, 3) := by decide +kernel
theorem dX4_told_107 : decode cX4_told 107 = .ok (.iload_n 1, 1) := by decide +kernel
theorem dX4_told_108 : decode cX4_told 108 = .ok (.baload, 1) := by decide +kernel
theorem dX4_told_109 : decode cX4_told 109 = .ok (.ifCond .eq 37, 3) := by decide +kernel
theorem dX4_told_112 : decode cX4_told 112 = .ok (.goto 30, 3) := by decide +kernel
theorem dX4_told_115 : decode cX4_told 115 = .ok (.iload_n 2, 1) := by decide +kernel
theorem dX4_told_116 : decode cX4_told 116 = .ok (.bipush 6, 2) := by decide +kernel
theorem dX4_told_118 : decode cX4_told 118 = .ok (.if_icmp .ne 15, 3) := by decide +kernel
theorem dX4_told_121 : decode cX4_told 121 = .ok (.aload_n 0, 1) := by decide +kernel
theorem dX4_told_122 : decode cX4_told 122 = .ok (.getfield 29, 3) := by decide +kernel
theorem dX4_told_125 : decode cX4_told 125 = .ok (.iload_n 1, 1) := by decide +kernel
theorem dX4_told_126 : decode cX4_told 126 = .ok (.baload, 1) := by decide +kernel
theorem dX4_told_127 : decode cX4_told 127 = .ok (.ifCond .eq 19, 3) := by decide +kernel
theorem dX4_told_130 : decode cX4_told 130 = .ok (.goto 12, 3) := by decide +kernel
theorem dX4_told_133 : decode cX4_told 133 = .ok (.aload_n 0, 1) := by decide +kernel
theorem dX4_told_134 : decode cX4_told 134 = .ok (.getfield 22, 3) := by decide +kernel
theorem dX4_told_137 : decode cX4_told 137 = .ok (.iload_n 1, 1) := by decide +kernel
theorem dX4_told_138 : decode cX4_told 138 = .ok (.baload, 1) := by decide +kernel
theorem dX4_told_139 : decode cX4_told 139 = .ok (.ifCond .eq 7, 3) := by decide +kernel
theorem dX4_told_142 : decode cX4_told 142 = .ok (.iconst 1, 1) := by decide +kernel
theorem dX4_told_143 : decode cX4_told 143 = .ok (.goto 4, 3) := by decide +kernel
theorem dX4_told_146 : decode cX4_told 146 = .ok (.iconst 0, 1) := by decide +kernel
theorem dX4_told_147 : decode cX4_told 147 = .ok (.ireturn, 1) := by decide +kernel
set_option maxRecDepth 20000 in
theorem ggX4_door_X4_isLift : GoodIn wsX4_door wsX4_isLift := goodIn_r _ [8, 9, 10, 11, 7, 12, 13, 14, 15, 16, 17, 18, 19, 20, 21, 22, 23, 24, 25, 26, 27, 28, 29, 30, 31, 32, 33, 34, 35, 36, 37, 38, 39, 40] (by decide +kernel) (by decide +kernel)
set_option maxRecDepth 20000 in
theorem gX4_door_X4_isLift : GoodIn wsX4_door (wsV RX4 136 RX4 yX4_isLift wsX4_isLift) := goodIn_app (goodIn_of _ (by decide +kernel)) ggX4_door_X4_isLift
theorem dX4_door_0 : decode cX4_door 0 = .ok (.aload_n 0, 1) := by decide +kernel
theorem dX4_door_1 : decode cX4_door 1 = .ok (.aload_n 0, 1) := by decide +kernel
theorem dX4_door_2 : decode cX4_door 2 = .ok (.iload_n 1, 1) := by decide +kernel
theorem dX4_door_3 : decode cX4_door 3 = .ok (.invokevirtual 136, 3) := by decide +kernel
theorem dX4_door_6 : decode cX4_door 6 = .ok (.ifCond .ne 7, 3) := by decide +kernel
theorem dX4_door_9 : decode cX4_door 9 = .ok (.iconst 1, 1) := by decide +kernel
theorem dX4_door_10 : decode cX4_door 10 = .ok (.goto 4, 3) := by decide +kernel
theorem dX4_door_13 : decode cX4_door 13 = .ok (.iconst 0, 1) := by decide +kernel
theorem dX4_door_14 : decode cX4_door 14 = .ok (.putfield 78, 3) := by decide +kernel
theorem dX4_door_17 : decode cX4_door 17 = .ok (.aload_n 0, 1) := by decide +kernel
theorem dX4_door_18 : decode cX4_door 18 = .ok (.getfield 78, 3) := by decide +kernel
theorem dX4_door_21 : decode cX4_door 21 = .ok (.ifCond .ne 35, 3) := by decide +kernel
theorem dX4_door_24 : decode cX4_door 24 = .ok (.aload_n 0, 1) := by decide +kernel
theorem dX4_door_25 : decode cX4_door 25 = .ok (.aload_n 0, 1) := by decide +kernel
theorem dX4_door_26 : decode cX4_door 26 = .ok (.getfield 22, 3) := by decide +kernel
theorem dX4_door_29 : decode cX4_door 29 = .ok (.iload_n 1, 1) := by decide +kernel
theorem dX4_door_30 : decode cX4_door 30 = .ok (.baload, 1) := by decide +kernel
theorem dX4_door_31 : decode cX4_door 31 = .ok (.iload_n 2, 1) := by decide +kernel
theorem dX4_door_32 : decode cX4_door 32 = .ok (.if_icmp .eq 16, 3) := by decide +kernel
theorem dX4_door_35 : decode cX4_door 35 = .ok (.iload_n 2, 1) := by decide +kernel
theorem dX4_door_36 : decode cX4_door 36 = .ok (.ifCond .eq 16, 3) := by decide +kernel
theorem dX4_door_39 : decode cX4_door 39 = .ok (.aload_n 0, 1) := by decide +kernel
theorem dX4_door_40 : decode cX4_door 40 = .ok (.getfield 19, 3) := by decide +kernel
theorem dX4_door_43 : decode cX4_door 43 = .ok (.iload_n 1, 1) := by decide +kernel
theorem dX4_door_44 : decode cX4_door 44 = .ok (.iaload, 1) := by decide +kernel
theorem dX4_door_45 : decode cX4_door 45 = .ok (.ifCond .ne 7, 3) := by decide +kernel
theorem dX4_door_48 : decode cX4_door 48 = .ok (.iconst 2, 1) := by decide +kernel
theorem dX4_door_49 : decode cX4_door 49 = .ok (.goto 4, 3) := by decide +kernel
theorem dX4_door_52 : decode cX4_door 52 = .ok (.iconst 0, 1) := by decide +kernel
theorem dX4_door_53 : decode cX4_door 53 = .ok (.putfield 78, 3) := by decide +kernel
theorem dX4_door_56 : decode cX4_door 56 = .ok (.aload_n 0, 1) := by decide +kernel
theorem dX4_door_57 : decode cX4_door 57 = .ok (.getfield 78, 3) := by decide +kernel
theorem dX4_door_60 : decode cX4_door 60 = .ok (.ifCond .ne 10, 3) := by decide +kernel
theorem dX4_door_63 : decode cX4_door 63 = .ok (.aload_n 0, 1) := by decide +kernel
theorem dX4_door_64 : decode cX4_door 64 = .ok (.getfield 22, 3) := by decide +kernel
theorem dX4_door_67 : decode cX4_door 67 = .ok (.iload_n 1, 1) := by decide +kernel
theorem dX4_door_68 : decode cX4_door 68 = .ok (.iload_n 2, 1) := by decide +kernel
theorem dX4_door_69 : decode cX4_door 69 = .ok (.bastore, 1) := by decide +kernel
theorem dX4_door_70 : decode cX4_door 70 = .ok (.return_, 1) := by decide +kernel
set_option maxRecDepth 20000 in
theorem ggX4_stuck_X4_isLift : GoodIn wsX4_stuck wsX4_isLift := goodIn_r _ [9, 10, 11, 12, 8, 13, 35, 36, 37, 38, 39, 40, 41, 42, 43, 44, 45, 46, 47, 48, 49, 50, 51, 52, 53, 54, 55, 56, 57, 58, 59, 60, 61, 62] (by decide +kernel) (by decide +kernel)
set_option maxRecDepth 20000 in
theorem gX4_stuck_X4_isLift : GoodIn wsX4_stuck (wsV RX4 136 RX4 yX4_isLift wsX4_isLift) := goodIn_app (goodIn_of _ (by decide +kernel)) ggX4_stuck_X4_isLift
set_option maxRecDepth 20000 in
theorem ggX4_stuck_X4_is : GoodIn wsX4_stuck wsX4_is := goodIn_r _ [17, 4, 18, 35, 36, 37, 38, 39, 40, 41, 42, 43, 44, 45, 46, 47, 48, 49, 50, 51, 52, 53, 54, 55, 56, 57, 58, 59, 60, 61, 62] (by decide +kernel) (by decide +kernel)
set_option maxRecDepth 20000 in
theorem gX4_stuck_X4_is : GoodIn wsX4_stuck (wsV RX4 106 RX4 yX4_is wsX4_is) := goodIn_app (goodIn_of _ (by decide +kernel)) ggX4_stuck_X4_is
set_option maxRecDepth 20000 in
theorem ggX4_stuck_X4_nearest : GoodIn wsX4_stuck wsX4_nearest := goodIn_r _ [22, 10, 2, 23, 24, 25, 26, 27, 28, 29, 8, 30, 35, 36, 37, 38, 39, 40, 41, 42, 43, 44, 45, 46, 47, 48, 49, 50, 51, 52, 53, 54, 55, 56, 57, 58, 59, 60, 61, 62] (by decide +kernel) (by decide +kernel)
set_option maxRecDepth 20000 in
theorem gX4_stuck_X4_nearest : GoodIn wsX4_stuck (wsV RX4 102 RX4 yX4_nearest wsX4_nearest) := goodIn_app (goodIn_of _ (by decide +kernel)) ggX4_stuck_X4_nearest
set_option maxRecDepth 20000 in
theorem ggX4_stuck_X4_many : GoodIn wsX4_stuck wsX4_many := goodIn_r _ [34, 3, 14, 15, 16, 8, 17, 4, 18, 35, 36, 37, 38, 39, 40, 41, 42, 43, 44, 45, 46, 47, 48, 49, 50, 51, 52, 53, 54, 55, 56, 57, 58, 59, 60, 61, 62] (by decide +kernel) (by decide +kernel)
set_option maxRecDepth 20000 in
theorem gX4_stuck_X4_many : GoodIn wsX4_stuck (wsV RX4 139 RX4 yX4_many wsX4_many) := goodIn_app (goodIn_of _ (by decide +kernel)) ggX4_stuck_X4_many
theorem dX4_stuck_0 : decode cX4_stuck 0 = .ok (.aload_n 0, 1) := by decide +kernel
theorem dX4_stuck_1 : decode cX4_stuck 1 = .ok (.aload_n 0, 1) := by decide +kernel
theorem dX4_stuck_2 : decode cX4_stuck 2 = .ok (.iload_n 1, 1) := by decide +kernel
theorem dX4_stuck_3 : decode cX4_stuck 3 = .ok (.invokevirtual 136, 3) := by decide +kernel
theorem dX4_stuck_6 : decode cX4_stuck 6 = .ok (.ifCond .ne 7, 3) := by decide +kernel
theorem dX4_stuck_9 : decode cX4_stuck 9 = .ok (.iconst 1, 1) := by decide +kernel
theorem dX4_stuck_10 : decode cX4_stuck 10 = .ok (.goto 4, 3) := by decide +kernel
theorem dX4_stuck_13 : decode cX4_stuck 13 = .ok (.iconst 0, 1) := by decide +kernel
theorem dX4_stuck_14 : decode cX4_stuck 14 = .ok (.putfield 78, 3) := by decide +kernel
theorem dX4_stuck_17 : decode cX4_stuck 17 = .ok (.aload_n 0, 1) := by decide +kernel
theorem dX4_stuck_18 : decode cX4_stuck 18 = .ok (.getfield 78, 3) := by decide +kernel
theorem dX4_stuck_21 : decode cX4_stuck 21 = .ok (.ifCond .ne 22, 3) := by decide +kernel
theorem dX4_stuck_24 : decode cX4_stuck 24 = .ok (.aload_n 0, 1) := by decide +kernel
theorem dX4_stuck_25 : decode cX4_stuck 25 = .ok (.aload_n 0, 1) := by decide +kernel
theorem dX4_stuck_26 : decode cX4_stuck 26 = .ok (.getfield 26, 3) := by decide +kernel
theorem dX4_stuck_29 : decode cX4_stuck 29 = .ok (.iload_n 1, 1) := by decide +kernel
theorem dX4_stuck_30 : decode cX4_stuck 30 = .ok (.baload, 1) := by decide +kernel
theorem dX4_stuck_31 : decode cX4_stuck 31 = .ok (.iload_n 2, 1) := by decide +kernel
theorem dX4_stuck_32 : decode cX4_stuck 32 = .ok (.if_icmp .ne 7, 3) := by decide +kernel
theorem dX4_stuck_35 : decode cX4_stuck 35 = .ok (.iconst 2, 1) := by decide +kernel
theorem dX4_stuck_36 : decode cX4_stuck 36 = .ok (.goto 4, 3) := by decide +kernel
theorem dX4_stuck_39 : decode cX4_stuck 39 = .ok (.iconst 0, 1) := by decide +kernel
theorem dX4_stuck_40 : decode cX4_stuck 40 = .ok (.putfield 78, 3) := by decide +kernel
theorem dX4_stuck_43 : decode cX4_stuck 43 = .ok (.aload_n 0, 1) := by decide +kernel
theorem dX4_stuck_44 : decode cX4_stuck 44 = .ok (.getfield 78, 3) := by decide +kernel
theorem dX4_stuck_47 : decode cX4_stuck 47 = .ok (.ifCond .le 5, 3) := by decide +kernel
theorem dX4_stuck_50 : decode cX4_stuck 50 = .ok (.iconst 0, 1) := by decide +kernel
theorem dX4_stuck_51 : decode cX4_stuck 51 = .ok (.ireturn, 1) := by decide +kernel
theorem dX4_stuck_52 : decode cX4_stuck 52 = .ok (.aload_n 0, 1) := by decide +kernel
theorem dX4_stuck_53 : decode cX4_stuck 53 = .ok (.getfield 26, 3) := by decide +kernel
theorem dX4_stuck_56 : decode cX4_stuck 56 = .ok (.iload_n 1, 1) := by decide +kernel
theorem dX4_stuck_57 : decode cX4_stuck 57 = .ok (.iload_n 2, 1) := by decide +kernel
theorem dX4_stuck_58 : decode cX4_stuck 58 = .ok (.bastore, 1) := by decide +kernel
theorem dX4_stuck_59 : decode cX4_stuck 59 = .ok (.iconst 0, 1) := by decide +kernel
theorem dX4_stuck_60 : decode cX4_stuck 60 = .ok (.istore_n 3, 1) := by decide +kernel
theorem dX4_stuck_61 : decode cX4_stuck 61 = .ok (.iload_n 3, 1) := by decide +kernel
theorem dX4_stuck_62 : decode cX4_stuck 62 = .ok (.aload_n 0, 1) := by decide +kernel
theorem dX4_stuck_63 : decode cX4_stuck 63 = .ok (.getfield 88, 3) := by decide +kernel
theorem dX4_stuck_66 : decode cX4_stuck 66 = .ok (.if_icmp .ge 34, 3) := by decide +kernel
theorem dX4_stuck_69 : decode cX4_stuck 69 = .ok (.iload_n 2, 1) := by decide +kernel
theorem dX4_stuck_70 : decode cX4_stuck 70 = .ok (.ifCond .eq 30, 3) := by decide +kernel
theorem dX4_stuck_73 : decode cX4_stuck 73 = .ok (.aload_n 0, 1) := by decide +kernel
theorem dX4_stuck_74 : decode cX4_stuck 74 = .ok (.iload_n 3, 1) := by decide +kernel
theorem dX4_stuck_75 : decode cX4_stuck 75 = .ok (.iload_n 1, 1) := by decide +kernel
theorem dX4_stuck_76 : decode cX4_stuck 76 = .ok (.iconst 0, 1) := by decide +kernel
theorem dX4_stuck_77 : decode cX4_stuck 77 = .ok (.invokevirtual 106, 3) := by decide +kernel
theorem dX4_stuck_80 : decode cX4_stuck 80 = .ok (.ifCond .eq 14, 3) := by decide +kernel
theorem dX4_stuck_83 : decode cX4_stuck 83 = .ok (.aload_n 0, 1) := by decide +kernel
theorem dX4_stuck_84 : decode cX4_stuck 84 = .ok (.getfield 47, 3) := by decide +kernel
theorem dX4_stuck_87 : decode cX4_stuck 87 = .ok (.iload_n 3, 1) := by decide +kernel
theorem dX4_stuck_88 : decode cX4_stuck 88 = .ok (.aload_n 0, 1) := by decide +kernel
theorem dX4_stuck_89 : decode cX4_stuck 89 = .ok (.iload_n 3, 1) := by decide +kernel
theorem dX4_stuck_90 : decode cX4_stuck 90 = .ok (.invokevirtual 102, 3) := by decide +kernel
theorem dX4_stuck_93 : decode cX4_stuck 93 = .ok (.iastore, 1) := by decide +kernel
theorem dX4_stuck_94 : decode cX4_stuck 94 = .ok (.iinc 3 1, 3) := by decide +kernel
theorem dX4_stuck_97 : decode cX4_stuck 97 = .ok (.goto (-36), 3) := by decide +kernel
theorem dX4_stuck_100 : decode cX4_stuck 100 = .ok (.aload_n 0, 1) := by decide +kernel
theorem dX4_stuck_101 : decode cX4_stuck 101 = .ok (.iload_n 1, 1) := by decide +kernel
theorem dX4_stuck_102 : decode cX4_stuck 102 = .ok (.iconst 1, 1) := by decide +kernel
theorem dX4_stuck_103 : decode cX4_stuck 103 = .ok (.invokevirtual 139, 3) := by decide +kernel
theorem dX4_stuck_106 : decode cX4_stuck 106 = .ok (.ireturn, 1) := by decide +kernel
set_option maxRecDepth 20000 in
theorem ggX4_reserved_X4_isLift : GoodIn wsX4_reserved wsX4_isLift := goodIn_r _ [7, 8, 9, 10, 6, 11, 23, 24, 25, 26, 27, 28, 29, 30, 31, 32, 33, 34, 35, 36, 37, 38, 39, 40, 41, 42, 43, 44, 45, 46, 47, 48, 49, 50] (by decide +kernel) (by decide +kernel)
set_option maxRecDepth 20000 in
theorem gX4_reserved_X4_isLift : GoodIn wsX4_reserved (wsV RX4 136 RX4 yX4_isLift wsX4_isLift) := goodIn_app (goodIn_of _ (by decide +kernel)) ggX4_reserved_X4_isLift
set_option maxRecDepth 20000 in
theorem ggX4_reserved_X4_many : GoodIn wsX4_reserved wsX4_many := goodIn_r _ [15, 16, 17, 18, 19, 6, 20, 21, 22, 23, 24, 25, 26, 27, 28, 29, 30, 31, 32, 33, 34, 35, 36, 37, 38, 39, 40, 41, 42, 43, 44, 45, 46, 47, 48, 49, 50] (by decide +kernel) (by decide +kernel)
set_option maxRecDepth 20000 in
theorem gX4_reserved_X4_many : GoodIn wsX4_reserved (wsV RX4 139 RX4 yX4_many wsX4_many) := goodIn_app (goodIn_of _ (by decide +kernel)) ggX4_reserved_X4_many
theorem dX4_reserved_0 : decode cX4_reserved 0 = .ok (.aload_n 0, 1) := by decide +kernel
theorem dX4_reserved_1 : decode cX4_reserved 1 = .ok (.aload_n 0, 1) := by decide +kernel
theorem dX4_reserved_2 : decode cX4_reserved 2 = .ok (.iload_n 1, 1) := by decide +kernel
theorem dX4_reserved_3 : decode cX4_reserved 3 = .ok (.invokevirtual 136, 3) := by decide +kernel
theorem dX4_reserved_6 : decode cX4_reserved 6 = .ok (.ifCond .ne 7, 3) := by decide +kernel
theorem dX4_reserved_9 : decode cX4_reserved 9 = .ok (.iconst 1, 1) := by decide +kernel
theorem dX4_reserved_10 : decode cX4_reserved 10 = .ok (.goto 4, 3) := by decide +kernel
theorem dX4_reserved_13 : decode cX4_reserved 13 = .ok (.iconst 0, 1) := by decide +kernel
theorem dX4_reserved_14 : decode cX4_reserved 14 = .ok (.putfield 78, 3) := by decide +kernel
theorem dX4_reserved_17 : decode cX4_reserved 17 = .ok (.aload_n 0, 1) := by decide +kernel
theorem dX4_reserved_18 : decode cX4_reserved 18 = .ok (.getfield 78, 3) := by decide +kernel
theorem dX4_reserved_21 : decode cX4_reserved 21 = .ok (.ifCond .ne 22, 3) := by decide +kernel
theorem dX4_reserved_24 : decode cX4_reserved 24 = .ok (.aload_n 0, 1) := by decide +kernel
theorem dX4_reserved_25 : decode cX4_reserved 25 = .ok (.aload_n 0, 1) := by decide +kernel
theorem dX4_reserved_26 : decode cX4_reserved 26 = .ok (.getfield 29, 3) := by decide +kernel
theorem dX4_reserved_29 : decode cX4_reserved 29 = .ok (.iload_n 1, 1) := by decide +kernel
theorem dX4_reserved_30 : decode cX4_reserved 30 = .ok (.baload, 1) := by decide +kernel
theorem dX4_reserved_31 : decode cX4_reserved 31 = .ok (.iload_n 2, 1) := by decide +kernel
theorem dX4_reserved_32 : decode cX4_reserved 32 = .ok (.if_icmp .ne 7, 3) := by decide +kernel
theorem dX4_reserved_35 : decode cX4_reserved 35 = .ok (.iconst 2, 1) := by decide +kernel
theorem dX4_reserved_36 : decode cX4_reserved 36 = .ok (.goto 4, 3) := by decide +kernel
theorem dX4_reserved_39 : decode cX4_reserved 39 = .ok (.iconst 0, 1) := by decide +kernel
theorem dX4_reserved_40 : decode cX4_reserved 40 = .ok (.putfield 78, 3) := by decide +kernel
theorem dX4_reserved_43 : decode cX4_reserved 43 = .ok (.aload_n 0, 1) := by decide +kernel
theorem dX4_reserved_44 : decode cX4_reserved 44 = .ok (.getfield 78, 3) := by decide +kernel
theorem dX4_reserved_47 : decode cX4_reserved 47 = .ok (.ifCond .le 5, 3) := by decide +kernel
theorem dX4_reserved_50 : decode cX4_reserved 50 = .ok (.iconst 0, 1) := by decide +kernel
theorem dX4_reserved_51 : decode cX4_reserved 51 = .ok (.ireturn, 1) := by decide +kernel
theorem dX4_reserved_52 : decode cX4_reserved 52 = .ok (.aload_n 0, 1) := by decide +kernel
theorem dX4_reserved_53 : decode cX4_reserved 53 = .ok (.getfield 29, 3) := by decide +kernel
theorem dX4_reserved_56 : decode cX4_reserved 56 = .ok (.iload_n 1, 1) := by decide +kernel
theorem dX4_reserved_57 : decode cX4_reserved 57 = .ok (.iload_n 2, 1) := by decide +kernel
theorem dX4_reserved_58 : decode cX4_reserved 58 = .ok (.bastore, 1) := by decide +kernel
theorem dX4_reserved_59 : decode cX4_reserved 59 = .ok (.aload_n 0, 1) := by decide +kernel
theorem dX4_reserved_60 : decode cX4_reserved 60 = .ok (.iload_n 1, 1) := by decide +kernel
theorem dX4_reserved_61 : decode cX4_reserved 61 = .ok (.iconst 1, 1) := by decide +kernel
theorem dX4_reserved_62 : decode cX4_reserved 62 = .ok (.invokevirtual 139, 3) := by decide +kernel
theorem dX4_reserved_65 : decode cX4_reserved 65 = .ok (.aload_n 0, 1) := by decide +kernel
theorem dX4_reserved_66 : decode cX4_reserved 66 = .ok (.iload_n 1, 1) := by decide +kernel
theorem dX4_reserved_67 : decode cX4_reserved 67 = .ok (.iconst 0, 1) := by decide +kernel
theorem dX4_reserved_68 : decode cX4_reserved 68 = .ok (.invokevirtual 139, 3) := by decide +kernel
theorem dX4_reserved_71 : decode cX4_reserved 71 = .ok (.iadd, 1) := by decide +kernel
theorem dX4_reserved_72 : decode cX4_reserved 72 = .ok (.ireturn, 1) := by decide +kernel
set_option maxRecDepth 20000 in
theorem ggX4_freed_X4_is : GoodIn wsX4_freed wsX4_is := goodIn_r _ [8, 3, 9, 24, 25, 26, 27, 28, 29, 30, 31, 32, 33, 34, 35, 36, 37, 38, 39, 40, 41, 42, 43, 44, 45, 46, 47, 48, 49, 50, 51] (by decide +kernel) (by decide +kernel)
set_option maxRecDepth 20000 in
theorem gX4_freed_X4_is : GoodIn wsX4_freed (wsV RX4 106 RX4 yX4_is wsX4_is) := goodIn_app (goodIn_of _ (by decide +kernel)) ggX4_freed_X4_is
set_option maxRecDepth 20000 in
theorem ggX4_freed_X4_nearest : GoodIn wsX4_freed wsX4_nearest := goodIn_r _ [13, 14, 15, 16, 17, 18, 19, 20, 21, 22, 7, 23, 24, 25, 26, 27, 28, 29, 30, 31, 32, 33, 34, 35, 36, 37, 38, 39, 40, 41, 42, 43, 44, 45, 46, 47, 48, 49, 50, 51] (by decide +kernel) (by decide +kernel)
set_option maxRecDepth 20000 in
theorem gX4_freed_X4_nearest : GoodIn wsX4_freed (wsV RX4 102 RX4 yX4_nearest wsX4_nearest) := goodIn_app (goodIn_of _ (by decide +kernel)) ggX4_freed_X4_nearest
theorem dX4_freed_0 : decode cX4_freed 0 = .ok (.aload_n 0, 1) := by decide +kernel
theorem dX4_freed_1 : decode cX4_freed 1 = .ok (.iconst 0, 1) := by decide +kernel
theorem dX4_freed_2 : decode cX4_freed 2 = .ok (.putfield 78, 3) := by decide +kernel
theorem dX4_freed_5 : decode cX4_freed 5 = .ok (.iconst 0, 1) := by decide +kernel
theorem dX4_freed_6 : decode cX4_freed 6 = .ok (.istore_n 1, 1) := by decide +kernel
theorem dX4_freed_7 : decode cX4_freed 7 = .ok (.iconst 0, 1) := by decide +kernel
theorem dX4_freed_8 : decode cX4_freed 8 = .ok (.istore_n 2, 1) := by decide +kernel
theorem dX4_freed_9 : decode cX4_freed 9 = .ok (.iload_n 2, 1) := by decide +kernel
theorem dX4_freed_10 : decode cX4_freed 10 = .ok (.aload_n 0, 1) := by decide +kernel
theorem dX4_freed_11 : decode cX4_freed 11 = .ok (.getfield 88, 3) := by decide +kernel
theorem dX4_freed_14 : decode cX4_freed 14 = .ok (.if_icmp .ge 51, 3) := by decide +kernel
theorem dX4_freed_17 : decode cX4_freed 17 = .ok (.aload_n 0, 1) := by decide +kernel
theorem dX4_freed_18 : decode cX4_freed 18 = .ok (.iload_n 2, 1) := by decide +kernel
theorem dX4_freed_19 : decode cX4_freed 19 = .ok (.iconst (-1), 1) := by decide +kernel
theorem dX4_freed_20 : decode cX4_freed 20 = .ok (.iconst 0, 1) := by decide +kernel
theorem dX4_freed_21 : decode cX4_freed 21 = .ok (.invokevirtual 106, 3) := by decide +kernel
theorem dX4_freed_24 : decode cX4_freed 24 = .ok (.ifCond .ne 6, 3) := by decide +kernel
theorem dX4_freed_27 : decode cX4_freed 27 = .ok (.goto 32, 3) := by decide +kernel
theorem dX4_freed_30 : decode cX4_freed 30 = .ok (.aload_n 0, 1) := by decide +kernel
theorem dX4_freed_31 : decode cX4_freed 31 = .ok (.getfield 47, 3) := by decide +kernel
theorem dX4_freed_34 : decode cX4_freed 34 = .ok (.iload_n 2, 1) := by decide +kernel
theorem dX4_freed_35 : decode cX4_freed 35 = .ok (.aload_n 0, 1) := by decide +kernel
theorem dX4_freed_36 : decode cX4_freed 36 = .ok (.iload_n 2, 1) := by decide +kernel
theorem dX4_freed_37 : decode cX4_freed 37 = .ok (.invokevirtual 102, 3) := by decide +kernel
theorem dX4_freed_40 : decode cX4_freed 40 = .ok (.iastore, 1) := by decide +kernel
theorem dX4_freed_41 : decode cX4_freed 41 = .ok (.iload_n 1, 1) := by decide +kernel
theorem dX4_freed_42 : decode cX4_freed 42 = .ok (.aload_n 0, 1) := by decide +kernel
theorem dX4_freed_43 : decode cX4_freed 43 = .ok (.getfield 47, 3) := by decide +kernel
theorem dX4_freed_46 : decode cX4_freed 46 = .ok (.iload_n 2, 1) := by decide +kernel
theorem dX4_freed_47 : decode cX4_freed 47 = .ok (.iaload, 1) := by decide +kernel
theorem dX4_freed_48 : decode cX4_freed 48 = .ok (.iconst (-1), 1) := by decide +kernel
theorem dX4_freed_49 : decode cX4_freed 49 = .ok (.if_icmp .ne 7, 3) := by decide +kernel
theorem dX4_freed_52 : decode cX4_freed 52 = .ok (.iconst 0, 1) := by decide +kernel
theorem dX4_freed_53 : decode cX4_freed 53 = .ok (.goto 4, 3) := by decide +kernel
theorem dX4_freed_56 : decode cX4_freed 56 = .ok (.iconst 1, 1) := by decide +kernel
theorem dX4_freed_57 : decode cX4_freed 57 = .ok (.iadd, 1) := by decide +kernel
theorem dX4_freed_58 : decode cX4_freed 58 = .ok (.istore_n 1, 1) := by decide +kernel
theorem dX4_freed_59 : decode cX4_freed 59 = .ok (.iinc 2 1, 3) := by decide +kernel
theorem dX4_freed_62 : decode cX4_freed 62 = .ok (.goto (-53), 3) := by decide +kernel
theorem dX4_freed_65 : decode cX4_freed 65 = .ok (.iload_n 1, 1) := by decide +kernel
theorem dX4_freed_66 : decode cX4_freed 66 = .ok (.ireturn, 1) := by decide +kernel
set_option maxRecDepth 20000 in
theorem ggX4_served_X4_isCall : GoodIn wsX4_served wsX4_isCall := goodIn_r _ [7, 8, 9, 10, 6, 11, 12, 13, 14, 15, 16, 17, 18, 19, 20, 21, 22, 23, 24, 25, 26, 27, 28, 29, 30, 31, 32, 33, 34, 35, 36, 37, 38, 39] (by decide +kernel) (by decide +kernel)
set_option maxRecDepth 20000 in
theorem gX4_served_X4_isCall : GoodIn wsX4_served (wsV RX4 142 RX4 yX4_isCall wsX4_isCall) := goodIn_app (goodIn_of _ (by decide +kernel)) ggX4_served_X4_isCall
theorem dX4_served_0 : decode cX4_served 0 = .ok (.aload_n 0, 1) := by decide +kernel
theorem dX4_served_1 : decode cX4_served 1 = .ok (.aload_n 0, 1) := by decide +kernel
theorem dX4_served_2 : decode cX4_served 2 = .ok (.iload_n 1, 1) := by decide +kernel
theorem dX4_served_3 : decode cX4_served 3 = .ok (.invokevirtual 142, 3) := by decide +kernel
theorem dX4_served_6 : decode cX4_served 6 = .ok (.ifCond .eq 7, 3) := by decide +kernel
theorem dX4_served_9 : decode cX4_served 9 = .ok (.iconst 0, 1) := by decide +kernel
theorem dX4_served_10 : decode cX4_served 10 = .ok (.goto 4, 3) := by decide +kernel
theorem dX4_served_13 : decode cX4_served 13 = .ok (.iconst 1, 1) := by decide +kernel
theorem dX4_served_14 : decode cX4_served 14 = .ok (.putfield 78, 3) := by decide +kernel
theorem dX4_served_17 : decode cX4_served 17 = .ok (.aload_n 0, 1) := by decide +kernel
theorem dX4_served_18 : decode cX4_served 18 = .ok (.getfield 78, 3) := by decide +kernel
theorem dX4_served_21 : decode cX4_served 21 = .ok (.ifCond .le 7, 3) := by decide +kernel
theorem dX4_served_24 : decode cX4_served 24 = .ok (.iconst 0, 1) := by decide +kernel
theorem dX4_served_25 : decode cX4_served 25 = .ok (.goto 9, 3) := by decide +kernel
theorem dX4_served_28 : decode cX4_served 28 = .ok (.aload_n 0, 1) := by decide +kernel
theorem dX4_served_29 : decode cX4_served 29 = .ok (.getfield 56, 3) := by decide +kernel
theorem dX4_served_32 : decode cX4_served 32 = .ok (.iload_n 1, 1) := by decide +kernel
theorem dX4_served_33 : decode cX4_served 33 = .ok (.iaload, 1) := by decide +kernel
theorem dX4_served_34 : decode cX4_served 34 = .ok (.ireturn, 1) := by decide +kernel
set_option maxRecDepth 20000 in
theorem ggX4_waits_X4_isCall : GoodIn wsX4_waits wsX4_isCall := goodIn_r _ [9, 10, 11, 12, 8, 13, 14, 15, 16, 17, 18, 19, 20, 21, 22, 23, 24, 25, 26, 27, 28, 29, 30, 31, 32, 33, 34, 35, 36, 37, 38, 39, 40, 41] (by decide +kernel) (by decide +kernel)
set_option maxRecDepth 20000 in
theorem gX4_waits_X4_isCall : GoodIn wsX4_waits (wsV RX4 142 RX4 yX4_isCall wsX4_isCall) := goodIn_app (goodIn_of _ (by decide +kernel)) ggX4_waits_X4_isCall
theorem dX4_waits_0 : decode cX4_waits 0 = .ok (.aload_n 0, 1) := by decide +kernel
theorem dX4_waits_1 : decode cX4_waits 1 = .ok (.aload_n 0, 1) := by decide +kernel
theorem dX4_waits_2 : decode cX4_waits 2 = .ok (.iload_n 1, 1) := by decide +kernel
theorem dX4_waits_3 : decode cX4_waits 3 = .ok (.invokevirtual 142, 3) := by decide +kernel
theorem dX4_waits_6 : decode cX4_waits 6 = .ok (.ifCond .eq 7, 3) := by decide +kernel
theorem dX4_waits_9 : decode cX4_waits 9 = .ok (.iconst 0, 1) := by decide +kernel
theorem dX4_waits_10 : decode cX4_waits 10 = .ok (.goto 4, 3) := by decide +kernel
theorem dX4_waits_13 : decode cX4_waits 13 = .ok (.iconst 1, 1) := by decide +kernel
theorem dX4_waits_14 : decode cX4_waits 14 = .ok (.putfield 78, 3) := by decide +kernel
theorem dX4_waits_17 : decode cX4_waits 17 = .ok (.aload_n 0, 1) := by decide +kernel
theorem dX4_waits_18 : decode cX4_waits 18 = .ok (.getfield 78, 3) := by decide +kernel
theorem dX4_waits_21 : decode cX4_waits 21 = .ok (.ifCond .le 5, 3) := by decide +kernel
theorem dX4_waits_24 : decode cX4_waits 24 = .ok (.iconst 0, 1) := by decide +kernel
theorem dX4_waits_25 : decode cX4_waits 25 = .ok (.ireturn, 1) := by decide +kernel
theorem dX4_waits_26 : decode cX4_waits 26 = .ok (.aload_n 0, 1) := by decide +kernel
theorem dX4_waits_27 : decode cX4_waits 27 = .ok (.getfield 53, 3) := by decide +kernel
theorem dX4_waits_30 : decode cX4_waits 30 = .ok (.iload_n 1, 1) := by decide +kernel
theorem dX4_waits_31 : decode cX4_waits 31 = .ok (.iaload, 1) := by decide +kernel
theorem dX4_waits_32 : decode cX4_waits 32 = .ok (.iconst (-1), 1) := by decide +kernel
theorem dX4_waits_33 : decode cX4_waits 33 = .ok (.if_icmp .ne 10, 3) := by decide +kernel
theorem dX4_waits_36 : decode cX4_waits 36 = .ok (.aload_n 0, 1) := by decide +kernel
theorem dX4_waits_37 : decode cX4_waits 37 = .ok (.getfield 99, 3) := by decide +kernel
theorem dX4_waits_40 : decode cX4_waits 40 = .ok (.goto 9, 3) := by decide +kernel
theorem dX4_waits_43 : decode cX4_waits 43 = .ok (.aload_n 0, 1) := by decide +kernel
theorem dX4_waits_44 : decode cX4_waits 44 = .ok (.getfield 53, 3) := by decide +kernel
theorem dX4_waits_47 : decode cX4_waits 47 = .ok (.iload_n 1, 1) := by decide +kernel
theorem dX4_waits_48 : decode cX4_waits 48 = .ok (.iaload, 1) := by decide +kernel
theorem dX4_waits_49 : decode cX4_waits 49 = .ok (.aload_n 0, 1) := by decide +kernel
theorem dX4_waits_50 : decode cX4_waits 50 = .ok (.getfield 50, 3) := by decide +kernel
theorem dX4_waits_53 : decode cX4_waits 53 = .ok (.iload_n 1, 1) := by decide +kernel
theorem dX4_waits_54 : decode cX4_waits 54 = .ok (.iaload, 1) := by decide +kernel
theorem dX4_waits_55 : decode cX4_waits 55 = .ok (.isub, 1) := by decide +kernel
theorem dX4_waits_56 : decode cX4_waits 56 = .ok (.ireturn, 1) := by decide +kernel
theorem dX4_lower_0 : decode cX4_lower 0 = .ok (.iload_n 3, 1) := by decide +kernel
theorem dX4_lower_1 : decode cX4_lower 1 = .ok (.aload_n 0, 1) := by decide +kernel
theorem dX4_lower_2 : decode cX4_lower 2 = .ok (.getfield 68, 3) := by decide +kernel
theorem dX4_lower_5 : decode cX4_lower 5 = .ok (.bipush 20, 2) := by decide +kernel
theorem dX4_lower_7 : decode cX4_lower 7 = .ok (.iload_n 1, 1) := by decide +kernel
theorem dX4_lower_8 : decode cX4_lower 8 = .ok (.imul, 1) := by decide +kernel
theorem dX4_lower_9 : decode cX4_lower 9 = .ok (.iload_n 2, 1) := by decide +kernel
theorem dX4_lower_10 : decode cX4_lower 10 = .ok (.iadd, 1) := by decide +kernel
theorem dX4_lower_11 : decode cX4_lower 11 = .ok (.iaload, 1) := by decide +kernel
theorem dX4_lower_12 : decode cX4_lower 12 = .ok (.if_icmp .ge 15, 3) := by decide +kernel
theorem dX4_lower_15 : decode cX4_lower 15 = .ok (.aload_n 0, 1) := by decide +kernel
theorem dX4_lower_16 : decode cX4_lower 16 = .ok (.getfield 68, 3) := by decide +kernel
theorem dX4_lower_19 : decode cX4_lower 19 = .ok (.bipush 20, 2) := by decide +kernel
theorem dX4_lower_21 : decode cX4_lower 21 = .ok (.iload_n 1, 1) := by decide +kernel
theorem dX4_lower_22 : decode cX4_lower 22 = .ok (.imul, 1) := by decide +kernel
theorem dX4_lower_23 : decode cX4_lower 23 = .ok (.iload_n 2, 1) := by decide +kernel
theorem dX4_lower_24 : decode cX4_lower 24 = .ok (.iadd, 1) := by decide +kernel
theorem dX4_lower_25 : decode cX4_lower 25 = .ok (.iload_n 3, 1) := by decide +kernel
theorem dX4_lower_26 : decode cX4_lower 26 = .ok (.iastore, 1) := by decide +kernel
theorem dX4_lower_27 : decode cX4_lower 27 = .ok (.return_, 1) := by decide +kernel
set_option maxRecDepth 20000 in
theorem ggX4_least_X4_isLift : GoodIn wsX4_least wsX4_isLift := goodIn_r _ [13, 14, 15, 16, 12, 17, 40, 41, 42, 43, 44, 45, 46, 47, 48, 49, 50, 51, 52, 53, 54, 55, 56, 57, 58, 59, 60, 61, 62, 63, 64, 65, 66, 67] (by decide +kernel) (by decide +kernel)
set_option maxRecDepth 20000 in
theorem gX4_least_X4_isLift : GoodIn wsX4_least (wsV RX4 136 RX4 yX4_isLift wsX4_isLift) := goodIn_app (goodIn_of _ (by decide +kernel)) ggX4_least_X4_isLift
set_option maxRecDepth 20000 in
theorem ggX4_least_X4_many : GoodIn wsX4_least wsX4_many := goodIn_r _ [21, 2, 22, 23, 24, 12, 25, 26, 4, 40, 41, 42, 43, 44, 45, 46, 47, 48, 49, 50, 51, 52, 53, 54, 55, 56, 57, 58, 59, 60, 61, 62, 63, 64, 65, 66, 67] (by decide +kernel) (by decide +kernel)
set_option maxRecDepth 20000 in
theorem gX4_least_X4_many : GoodIn wsX4_least (wsV RX4 139 RX4 yX4_many wsX4_many) := goodIn_app (goodIn_of _ (by decide +kernel)) ggX4_least_X4_many
set_option maxRecDepth 20000 in
theorem ggX4_least_X4_is : GoodIn wsX4_least wsX4_is := goodIn_r _ [25, 26, 4, 40, 41, 42, 43, 44, 45, 46, 47, 48, 49, 50, 51, 52, 53, 54, 55, 56, 57, 58, 59, 60, 61, 62, 63, 64, 65, 66, 67] (by decide +kernel) (by decide +kernel)
set_option maxRecDepth 20000 in
theorem gX4_least_X4_is : GoodIn wsX4_least (wsV RX4 106 RX4 yX4_is wsX4_is) := goodIn_app (goodIn_of _ (by decide +kernel)) ggX4_least_X4_is
set_option maxRecDepth 20000 in
theorem ggX4_least_X4_goOn : GoodIn wsX4_least wsX4_goOn := goodIn_r _ [30, 31, 3, 32, 5, 33, 34, 12, 35, 36, 37, 38, 39, 40, 41, 42, 43, 44, 45, 46, 47, 48, 49, 50, 51, 52, 53, 54, 55, 56, 57, 58, 59, 60, 61, 62, 63, 64, 65, 66, 67] (by decide +kernel) (by decide +kernel)
set_option maxRecDepth 20000 in
theorem gX4_least_X4_goOn : GoodIn wsX4_least (wsV RX4 146 RX4 yX4_goOn wsX4_goOn) := goodIn_app (goodIn_of _ (by decide +kernel)) ggX4_least_X4_goOn
theorem dX4_least_0 : decode cX4_least 0 = .ok (.aload_n 0, 1) := by decide +kernel
theorem dX4_least_1 : decode cX4_least 1 = .ok (.aload_n 0, 1) := by decide +kernel
theorem dX4_least_2 : decode cX4_least 2 = .ok (.iload_n 1, 1) := by decide +kernel
theorem dX4_least_3 : decode cX4_least 3 = .ok (.invokevirtual 136, 3) := by decide +kernel
theorem dX4_least_6 : decode cX4_least 6 = .ok (.ifCond .eq 7, 3) := by decide +kernel
theorem dX4_least_9 : decode cX4_least 9 = .ok (.iconst 0, 1) := by decide +kernel
theorem dX4_least_10 : decode cX4_least 10 = .ok (.goto 4, 3) := by decide +kernel
theorem dX4_least_13 : decode cX4_least 13 = .ok (.iconst 1, 1) := by decide +kernel
theorem dX4_least_14 : decode cX4_least 14 = .ok (.putfield 78, 3) := by decide +kernel
theorem dX4_least_17 : decode cX4_least 17 = .ok (.aload_n 0, 1) := by decide +kernel
theorem dX4_least_18 : decode cX4_least 18 = .ok (.getfield 78, 3) := by decide +kernel
theorem dX4_least_21 : decode cX4_least 21 = .ok (.ifCond .le 5, 3) := by decide +kernel
theorem dX4_least_24 : decode cX4_least 24 = .ok (.iconst 0, 1) := by decide +kernel
theorem dX4_least_25 : decode cX4_least 25 = .ok (.ireturn, 1) := by decide +kernel
theorem dX4_least_26 : decode cX4_least 26 = .ok (.aload_n 0, 1) := by decide +kernel
theorem dX4_least_27 : decode cX4_least 27 = .ok (.iload_n 1, 1) := by decide +kernel
theorem dX4_least_28 : decode cX4_least 28 = .ok (.iconst 1, 1) := by decide +kernel
theorem dX4_least_29 : decode cX4_least 29 = .ok (.invokevirtual 139, 3) := by decide +kernel
theorem dX4_least_32 : decode cX4_least 32 = .ok (.aload_n 0, 1) := by decide +kernel
theorem dX4_least_33 : decode cX4_least 33 = .ok (.iload_n 1, 1) := by decide +kernel
theorem dX4_least_34 : decode cX4_least 34 = .ok (.iconst 0, 1) := by decide +kernel
theorem dX4_least_35 : decode cX4_least 35 = .ok (.invokevirtual 139, 3) := by decide +kernel
theorem dX4_least_38 : decode cX4_least 38 = .ok (.iadd, 1) := by decide +kernel
theorem dX4_least_39 : decode cX4_least 39 = .ok (.istore_n 2, 1) := by decide +kernel
theorem dX4_least_40 : decode cX4_least 40 = .ok (.iload_n 2, 1) := by decide +kernel
theorem dX4_least_41 : decode cX4_least 41 = .ok (.iconst 4, 1) := by decide +kernel
theorem dX4_least_42 : decode cX4_least 42 = .ok (.if_icmp .le 5, 3) := by decide +kernel
theorem dX4_least_45 : decode cX4_least 45 = .ok (.iconst (-1), 1) := by decide +kernel
theorem dX4_least_46 : decode cX4_least 46 = .ok (.ireturn, 1) := by decide +kernel
theorem dX4_least_47 : decode cX4_least 47 = .ok (.iconst 0, 1) := by decide +kernel
theorem dX4_least_48 : decode cX4_least 48 = .ok (.istore_n 3, 1) := by decide +kernel
theorem dX4_least_49 : decode cX4_least 49 = .ok (.iconst 0, 1) := by decide +kernel
theorem dX4_least_50 : decode cX4_least 50 = .ok (.istore 4, 2) := by decide +kernel
theorem dX4_least_52 : decode cX4_least 52 = .ok (.iconst 1, 1) := by decide +kernel
theorem dX4_least_53 : decode cX4_least 53 = .ok (.istore 5, 2) := by decide +kernel
theorem dX4_least_55 : decode cX4_least 55 = .ok (.iconst 0, 1) := by decide +kernel
theorem dX4_least_56 : decode cX4_least 56 = .ok (.istore 6, 2) := by decide +kernel
theorem dX4_least_58 : decode cX4_least 58 = .ok (.iload 6, 2) := by decide +kernel
theorem dX4_least_60 : decode cX4_least 60 = .ok (.aload_n 0, 1) := by decide +kernel
theorem dX4_least_61 : decode cX4_least 61 = .ok (.getfield 88, 3) := by decide +kernel
theorem dX4_least_64 : decode cX4_least 64 = .ok (.if_icmp .ge 66, 3) := by decide +kernel
theorem dX4_least_67 : decode cX4_least 67 = .ok (.aload_n 0, 1) := by decide +kernel
theorem dX4_least_68 : decode cX4_least 68 = .ok (.iload 6, 2) := by decide +kernel
theorem dX4_least_70 : decode cX4_least 70 = .ok (.iload_n 1, 1) := by decide +kernel
theorem dX4_least_71 : decode cX4_least 71 = .ok (.iconst 1, 1) := by decide +kernel
theorem dX4_least_72 : decode cX4_least 72 = .ok (.invokevirtual 106, 3) := by decide +kernel
theorem dX4_least_75 : decode cX4_least 75 = .ok (.ifCond .ne 17, 3) := by decide +kernel
theorem dX4_least_78 : decode cX4_least 78 = .ok (.aload_n 0, 1) := by decide +kernel
theorem dX4_least_79 : decode cX4_least 79 = .ok (.iload 6, 2) := by decide +kernel
theorem dX4_least_81 : decode cX4_least 81 = .ok (.iload_n 1, 1) := by decide +kernel
theorem dX4_least_82 : decode cX4_least 82 = .ok (.iconst 0, 1) := by decide +kernel
theorem dX4_least_83 : decode cX4_least 83 = .ok (.invokevirtual 106, 3) := by decide +kernel
theorem dX4_least_86 : decode cX4_least 86 = .ok (.ifCond .ne 6, 3) := by decide +kernel
theorem dX4_least_89 : decode cX4_least 89 = .ok (.goto 35, 3) := by decide +kernel
theorem dX4_least_92 : decode cX4_least 92 = .ok (.aload_n 0, 1) := by decide +kernel
theorem dX4_least_93 : decode cX4_least 93 = .ok (.getfield 71, 3) := by decide +kernel
theorem dX4_least_96 : decode cX4_least 96 = .ok (.iload_n 3, 1) := by decide +kernel
theorem dX4_least_97 : decode cX4_least 97 = .ok (.iload 6, 2) := by decide +kernel
theorem dX4_least_99 : decode cX4_least 99 = .ok (.iastore, 1) := by decide +kernel
theorem dX4_least_100 : decode cX4_least 100 = .ok (.iload 4, 2) := by decide +kernel
theorem dX4_least_102 : decode cX4_least 102 = .ok (.aload_n 0, 1) := by decide +kernel
theorem dX4_least_103 : decode cX4_least 103 = .ok (.getfield 44, 3) := by decide +kernel
theorem dX4_least_106 : decode cX4_least 106 = .ok (.iload 6, 2) := by decide +kernel
theorem dX4_least_108 : decode cX4_least 108 = .ok (.iaload, 1) := by decide +kernel
theorem dX4_least_109 : decode cX4_least 109 = .ok (.iload 5, 2) := by decide +kernel
theorem dX4_least_111 : decode cX4_least 111 = .ok (.imul, 1) := by decide +kernel
theorem dX4_least_112 : decode cX4_least 112 = .ok (.iadd, 1) := by decide +kernel
theorem dX4_least_113 : decode cX4_least 113 = .ok (.istore 4, 2) := by decide +kernel
theorem dX4_least_115 : decode cX4_least 115 = .ok (.iload 5, 2) := by decide +kernel
theorem dX4_least_117 : decode cX4_least 117 = .ok (.iconst 3, 1) := by decide +kernel
theorem dX4_least_118 : decode cX4_least 118 = .ok (.imul, 1) := by decide +kernel
theorem dX4_least_119 : decode cX4_least 119 = .ok (.istore 5, 2) := by decide +kernel
theorem dX4_least_121 : decode cX4_least 121 = .ok (.iinc 3 1, 3) := by decide +kernel
theorem dX4_least_124 : decode cX4_least 124 = .ok (.iinc 6 1, 3) := by decide +kernel
theorem dX4_least_127 : decode cX4_least 127 = .ok (.goto (-69), 3) := by decide +kernel
theorem dX4_least_130 : decode cX4_least 130 = .ok (.iconst 0, 1) := by decide +kernel
theorem dX4_least_131 : decode cX4_least 131 = .ok (.istore 6, 2) := by decide +kernel
theorem dX4_least_133 : decode cX4_least 133 = .ok (.iload 6, 2) := by decide +kernel
theorem dX4_least_135 : decode cX4_least 135 = .ok (.bipush 20, 2) := by decide +kernel
theorem dX4_least_137 : decode cX4_least 137 = .ok (.iload 5, 2) := by decide +kernel
theorem dX4_least_139 : decode cX4_least 139 = .ok (.imul, 1) := by decide +kernel
theorem dX4_least_140 : decode cX4_least 140 = .ok (.if_icmp .ge 18, 3) := by decide +kernel
theorem dX4_least_143 : decode cX4_least 143 = .ok (.aload_n 0, 1) := by decide +kernel
theorem dX4_least_144 : decode cX4_least 144 = .ok (.getfield 68, 3) := by decide +kernel
theorem dX4_least_147 : decode cX4_least 147 = .ok (.iload 6, 2) := by decide +kernel
theorem dX4_least_149 : decode cX4_least 149 = .ok (.ldc 145, 2) := by decide +kernel
theorem dX4_least_151 : decode cX4_least 151 = .ok (.iastore, 1) := by decide +kernel
theorem dX4_least_152 : decode cX4_least 152 = .ok (.iinc 6 1, 3) := by decide +kernel
theorem dX4_least_155 : decode cX4_least 155 = .ok (.goto (-22), 3) := by decide +kernel
theorem dX4_least_158 : decode cX4_least 158 = .ok (.aload_n 0, 1) := by decide +kernel
theorem dX4_least_159 : decode cX4_least 159 = .ok (.getfield 68, 3) := by decide +kernel
theorem dX4_least_162 : decode cX4_least 162 = .ok (.bipush 20, 2) := by decide +kernel
theorem dX4_least_164 : decode cX4_least 164 = .ok (.iload 4, 2) := by decide +kernel
theorem dX4_least_166 : decode cX4_least 166 = .ok (.imul, 1) := by decide +kernel
theorem dX4_least_167 : decode cX4_least 167 = .ok (.aload_n 0, 1) := by decide +kernel
theorem dX4_least_168 : decode cX4_least 168 = .ok (.getfield 7, 3) := by decide +kernel
theorem dX4_least_171 : decode cX4_least 171 = .ok (.iload_n 1, 1) := by decide +kernel
theorem dX4_least_172 : decode cX4_least 172 = .ok (.iaload, 1) := by decide +kernel
theorem dX4_least_173 : decode cX4_least 173 = .ok (.iadd, 1) := by decide +kernel
theorem dX4_least_174 : decode cX4_least 174 = .ok (.iconst 0, 1) := by decide +kernel
theorem dX4_least_175 : decode cX4_least 175 = .ok (.iastore, 1) := by decide +kernel
theorem dX4_least_176 : decode cX4_least 176 = .ok (.iload 4, 2) := by decide +kernel
theorem dX4_least_178 : decode cX4_least 178 = .ok (.istore 6, 2) := by decide +kernel
theorem dX4_least_180 : decode cX4_least 180 = .ok (.iload 6, 2) := by decide +kernel
theorem dX4_least_182 : decode cX4_least 182 = .ok (.iload 5, 2) := by decide +kernel
theorem dX4_least_184 : decode cX4_least 184 = .ok (.if_icmp .ge 54, 3) := by decide +kernel
theorem dX4_least_187 : decode cX4_least 187 = .ok (.iconst 0, 1) := by decide +kernel
theorem dX4_least_188 : decode cX4_least 188 = .ok (.istore 7, 2) := by decide +kernel
theorem dX4_least_190 : decode cX4_least 190 = .ok (.iload 7, 2) := by decide +kernel
theorem dX4_least_192 : decode cX4_least 192 = .ok (.aload_n 0, 1) := by decide +kernel
theorem dX4_least_193 : decode cX4_least 193 = .ok (.getfield 74, 3) := by decide +kernel
theorem dX4_least_196 : decode cX4_least 196 = .ok (.if_icmp .ge 36, 3) := by decide +kernel
theorem dX4_least_199 : decode cX4_least 199 = .ok (.aload_n 0, 1) := by decide +kernel
theorem dX4_least_200 : decode cX4_least 200 = .ok (.getfield 68, 3) := by decide +kernel
theorem dX4_least_203 : decode cX4_least 203 = .ok (.bipush 20, 2) := by decide +kernel
theorem dX4_least_205 : decode cX4_least 205 = .ok (.iload 6, 2) := by decide +kernel
theorem dX4_least_207 : decode cX4_least 207 = .ok (.imul, 1) := by decide +kernel
theorem dX4_least_208 : decode cX4_least 208 = .ok (.iload 7, 2) := by decide +kernel
theorem dX4_least_210 : decode cX4_least 210 = .ok (.iadd, 1) := by decide +kernel
theorem dX4_least_211 : decode cX4_least 211 = .ok (.iaload, 1) := by decide +kernel
theorem dX4_least_212 : decode cX4_least 212 = .ok (.ldc 145, 2) := by decide +kernel
theorem dX4_least_214 : decode cX4_least 214 = .ok (.if_icmp .ge 12, 3) := by decide +kernel
theorem dX4_least_217 : decode cX4_least 217 = .ok (.aload_n 0, 1) := by decide +kernel
theorem dX4_least_218 : decode cX4_least 218 = .ok (.iload 6, 2) := by decide +kernel
theorem dX4_least_220 : decode cX4_least 220 = .ok (.iload 7, 2) := by decide +kernel
theorem dX4_least_222 : decode cX4_least 222 = .ok (.iload_n 2, 1) := by decide +kernel
theorem dX4_least_223 : decode cX4_least 223 = .ok (.invokevirtual 146, 3) := by decide +kernel
theorem dX4_least_226 : decode cX4_least 226 = .ok (.iinc 7 1, 3) := by decide +kernel
theorem dX4_least_229 : decode cX4_least 229 = .ok (.goto (-39), 3) := by decide +kernel
theorem dX4_least_232 : decode cX4_least 232 = .ok (.iinc 6 1, 3) := by decide +kernel
theorem dX4_least_235 : decode cX4_least 235 = .ok (.goto (-55), 3) := by decide +kernel
theorem dX4_least_238 : decode cX4_least 238 = .ok (.ldc 145, 2) := by decide +kernel
theorem dX4_least_240 : decode cX4_least 240 = .ok (.istore 6, 2) := by decide +kernel
theorem dX4_least_242 : decode cX4_least 242 = .ok (.iconst 0, 1) := by decide +kernel
theorem dX4_least_243 : decode cX4_least 243 = .ok (.istore 7, 2) := by decide +kernel
theorem dX4_least_245 : decode cX4_least 245 = .ok (.iload 7, 2) := by decide +kernel
theorem dX4_least_247 : decode cX4_least 247 = .ok (.aload_n 0, 1) := by decide +kernel
theorem dX4_least_248 : decode cX4_least 248 = .ok (.getfield 74, 3) := by decide +kernel
theorem dX4_least_251 : decode cX4_least 251 = .ok (.if_icmp .ge 51, 3) := by decide +kernel
theorem dX4_least_254 : decode cX4_least 254 = .ok (.aload_n 0, 1) := by decide +kernel
theorem dX4_least_255 : decode cX4_least 255 = .ok (.getfield 68, 3) := by decide +kernel
theorem dX4_least_258 : decode cX4_least 258 = .ok (.bipush 20, 2) := by decide +kernel
theorem dX4_least_260 : decode cX4_least 260 = .ok (.iload 5, 2) := by decide +kernel
theorem dX4_least_262 : decode cX4_least 262 = .ok (.iconst 1, 1) := by decide +kernel
theorem dX4_least_263 : decode cX4_least 263 = .ok (.isub, 1) := by decide +kernel
theorem dX4_least_264 : decode cX4_least 264 = .ok (.imul, 1) := by decide +kernel
theorem dX4_least_265 : decode cX4_least 265 = .ok (.iload 7, 2) := by decide +kernel
theorem dX4_least_267 : decode cX4_least 267 = .ok (.iadd, 1) := by decide +kernel
theorem dX4_least_268 : decode cX4_least 268 = .ok (.iaload, 1) := by decide +kernel
theorem dX4_least_269 : decode cX4_least 269 = .ok (.iload 6, 2) := by decide +kernel
theorem dX4_least_271 : decode cX4_least 271 = .ok (.if_icmp .ge 21, 3) := by decide +kernel
theorem dX4_least_274 : decode cX4_least 274 = .ok (.aload_n 0, 1) := by decide +kernel
theorem dX4_least_275 : decode cX4_least 275 = .ok (.getfield 68, 3) := by decide +kernel
theorem dX4_least_278 : decode cX4_least 278 = .ok (.bipush 20, 2) := by decide +kernel
theorem dX4_least_280 : decode cX4_least 280 = .ok (.iload 5, 2) := by decide +kernel
theorem dX4_least_282 : decode cX4_least 282 = .ok (.iconst 1, 1) := by decide +kernel
theorem dX4_least_283 : decode cX4_least 283 = .ok (.isub, 1) := by decide +kernel
theorem dX4_least_284 : decode cX4_least 284 = .ok (.imul, 1) := by decide +kernel
theorem dX4_least_285 : decode cX4_least 285 = .ok (.iload 7, 2) := by decide +kernel
theorem dX4_least_287 : decode cX4_least 287 = .ok (.iadd, 1) := by decide +kernel
theorem dX4_least_288 : decode cX4_least 288 = .ok (.iaload, 1) := by decide +kernel
theorem dX4_least_289 : decode cX4_least 289 = .ok (.goto 5, 3) := by decide +kernel
theorem dX4_least_292 : decode cX4_least 292 = .ok (.iload 6, 2) := by decide +kernel
theorem dX4_least_294 : decode cX4_least 294 = .ok (.istore 6, 2) := by decide +kernel
theorem dX4_least_296 : decode cX4_least 296 = .ok (.iinc 7 1, 3) := by decide +kernel
theorem dX4_least_299 : decode cX4_least 299 = .ok (.goto (-54), 3) := by decide +kernel
theorem dX4_least_302 : decode cX4_least 302 = .ok (.iload 6, 2) := by decide +kernel
theorem dX4_least_304 : decode cX4_least 304 = .ok (.ireturn, 1) := by decide +kernel
set_option maxRecDepth 20000 in
theorem ggX4_goOn_X4_far : GoodIn wsX4_goOn wsX4_far := goodIn_r _ [8] (by decide +kernel) (by decide +kernel)
set_option maxRecDepth 20000 in
theorem gX4_goOn_X4_far : GoodIn wsX4_goOn (va_wsS RX4 95 yX4_far wsX4_far) := goodIn_app (goodIn_of _ (by decide +kernel)) ggX4_goOn_X4_far
set_option maxRecDepth 20000 in
theorem ggX4_goOn_X4_lower : GoodIn wsX4_goOn wsX4_lower := goodIn_r _ [12, 4, 13, 14, 15, 16, 17, 18, 19, 20, 21, 22, 23, 24, 25, 26, 27, 28, 29, 30, 31, 32, 33, 34, 35, 36, 37, 38, 39, 40] (by decide +kernel) (by decide +kernel)
set_option maxRecDepth 20000 in
theorem gX4_goOn_X4_lower : GoodIn wsX4_goOn (wsV RX4 150 RX4 yX4_lower wsX4_lower) := goodIn_app (goodIn_of _ (by decide +kernel)) ggX4_goOn_X4_lower
theorem dX4_goOn_0 : decode cX4_goOn 0 = .ok (.iconst 1, 1) := by decide +kernel
theorem dX4_goOn_1 : decode cX4_goOn 1 = .ok (.istore 4, 2) := by decide +kernel
theorem dX4_goOn_3 : decode cX4_goOn 3 = .ok (.iconst 0, 1) := by decide +kernel
theorem dX4_goOn_4 : decode cX4_goOn 4 = .ok (.istore 5, 2) := by decide +kernel
theorem dX4_goOn_6 : decode cX4_goOn 6 = .ok (.iload 5, 2) := by decide +kernel
theorem dX4_goOn_8 : decode cX4_goOn 8 = .ok (.iload_n 3, 1) := by decide +kernel
theorem dX4_goOn_9 : decode cX4_goOn 9 = .ok (.if_icmp .ge 91, 3) := by decide +kernel
theorem dX4_goOn_12 : decode cX4_goOn 12 = .ok (.iload_n 1, 1) := by decide +kernel
theorem dX4_goOn_13 : decode cX4_goOn 13 = .ok (.iload 4, 2) := by decide +kernel
theorem dX4_goOn_15 : decode cX4_goOn 15 = .ok (.idiv, 1) := by decide +kernel
theorem dX4_goOn_16 : decode cX4_goOn 16 = .ok (.iconst 3, 1) := by decide +kernel
theorem dX4_goOn_17 : decode cX4_goOn 17 = .ok (.irem, 1) := by decide +kernel
theorem dX4_goOn_18 : decode cX4_goOn 18 = .ok (.istore 6, 2) := by decide +kernel
theorem dX4_goOn_20 : decode cX4_goOn 20 = .ok (.iload 6, 2) := by decide +kernel
theorem dX4_goOn_22 : decode cX4_goOn 22 = .ok (.ifCond .ne 18, 3) := by decide +kernel
theorem dX4_goOn_25 : decode cX4_goOn 25 = .ok (.aload_n 0, 1) := by decide +kernel
theorem dX4_goOn_26 : decode cX4_goOn 26 = .ok (.getfield 32, 3) := by decide +kernel
theorem dX4_goOn_29 : decode cX4_goOn 29 = .ok (.aload_n 0, 1) := by decide +kernel
theorem dX4_goOn_30 : decode cX4_goOn 30 = .ok (.getfield 71, 3) := by decide +kernel
theorem dX4_goOn_33 : decode cX4_goOn 33 = .ok (.iload 5, 2) := by decide +kernel
theorem dX4_goOn_35 : decode cX4_goOn 35 = .ok (.iaload, 1) := by decide +kernel
theorem dX4_goOn_36 : decode cX4_goOn 36 = .ok (.iaload, 1) := by decide +kernel
theorem dX4_goOn_37 : decode cX4_goOn 37 = .ok (.goto 15, 3) := by decide +kernel
theorem dX4_goOn_40 : decode cX4_goOn 40 = .ok (.aload_n 0, 1) := by decide +kernel
theorem dX4_goOn_41 : decode cX4_goOn 41 = .ok (.getfield 35, 3) := by decide +kernel
theorem dX4_goOn_44 : decode cX4_goOn 44 = .ok (.aload_n 0, 1) := by decide +kernel
theorem dX4_goOn_45 : decode cX4_goOn 45 = .ok (.getfield 71, 3) := by decide +kernel
theorem dX4_goOn_48 : decode cX4_goOn 48 = .ok (.iload 5, 2) := by decide +kernel
theorem dX4_goOn_50 : decode cX4_goOn 50 = .ok (.iaload, 1) := by decide +kernel
theorem dX4_goOn_51 : decode cX4_goOn 51 = .ok (.iaload, 1) := by decide +kernel
theorem dX4_goOn_52 : decode cX4_goOn 52 = .ok (.istore 7, 2) := by decide +kernel
theorem dX4_goOn_54 : decode cX4_goOn 54 = .ok (.iload 6, 2) := by decide +kernel
theorem dX4_goOn_56 : decode cX4_goOn 56 = .ok (.iconst 2, 1) := by decide +kernel
theorem dX4_goOn_57 : decode cX4_goOn 57 = .ok (.if_icmp .ge 31, 3) := by decide +kernel
theorem dX4_goOn_60 : decode cX4_goOn 60 = .ok (.aload_n 0, 1) := by decide +kernel
theorem dX4_goOn_61 : decode cX4_goOn 61 = .ok (.iload_n 1, 1) := by decide +kernel
theorem dX4_goOn_62 : decode cX4_goOn 62 = .ok (.iload 4, 2) := by decide +kernel
theorem dX4_goOn_64 : decode cX4_goOn 64 = .ok (.iadd, 1) := by decide +kernel
theorem dX4_goOn_65 : decode cX4_goOn 65 = .ok (.iload 7, 2) := by decide +kernel
theorem dX4_goOn_67 : decode cX4_goOn 67 = .ok (.aload_n 0, 1) := by decide +kernel
theorem dX4_goOn_68 : decode cX4_goOn 68 = .ok (.getfield 68, 3) := by decide +kernel
theorem dX4_goOn_71 : decode cX4_goOn 71 = .ok (.bipush 20, 2) := by decide +kernel
theorem dX4_goOn_73 : decode cX4_goOn 73 = .ok (.iload_n 1, 1) := by decide +kernel
theorem dX4_goOn_74 : decode cX4_goOn 74 = .ok (.imul, 1) := by decide +kernel
theorem dX4_goOn_75 : decode cX4_goOn 75 = .ok (.iload_n 2, 1) := by decide +kernel
theorem dX4_goOn_76 : decode cX4_goOn 76 = .ok (.iadd, 1) := by decide +kernel
theorem dX4_goOn_77 : decode cX4_goOn 77 = .ok (.iaload, 1) := by decide +kernel
theorem dX4_goOn_78 : decode cX4_goOn 78 = .ok (.iload_n 2, 1) := by decide +kernel
theorem dX4_goOn_79 : decode cX4_goOn 79 = .ok (.iload 7, 2) := by decide +kernel
theorem dX4_goOn_81 : decode cX4_goOn 81 = .ok (.invokestatic 95, 3) := by decide +kernel
theorem dX4_goOn_84 : decode cX4_goOn 84 = .ok (.iadd, 1) := by decide +kernel
theorem dX4_goOn_85 : decode cX4_goOn 85 = .ok (.invokevirtual 150, 3) := by decide +kernel
theorem dX4_goOn_88 : decode cX4_goOn 88 = .ok (.iload 4, 2) := by decide +kernel
theorem dX4_goOn_90 : decode cX4_goOn 90 = .ok (.iconst 3, 1) := by decide +kernel
theorem dX4_goOn_91 : decode cX4_goOn 91 = .ok (.imul, 1) := by decide +kernel
theorem dX4_goOn_92 : decode cX4_goOn 92 = .ok (.istore 4, 2) := by decide +kernel
theorem dX4_goOn_94 : decode cX4_goOn 94 = .ok (.iinc 5 1, 3) := by decide +kernel
theorem dX4_goOn_97 : decode cX4_goOn 97 = .ok (.goto (-91), 3) := by decide +kernel
theorem dX4_goOn_100 : decode cX4_goOn 100 = .ok (.return_, 1) := by decide +kernel
set_option maxRecDepth 20000 in
theorem ggX4_joins_X4_isCall : GoodIn wsX4_joins wsX4_isCall := goodIn_r _ [9, 10, 11, 12, 8, 13, 14, 15, 16, 17, 18, 19, 20, 21, 22, 23, 24, 25, 26, 27, 28, 29, 30, 31, 32, 33, 34, 35, 36, 37, 38, 39, 40, 41] (by decide +kernel) (by decide +kernel)
set_option maxRecDepth 20000 in
theorem gX4_joins_X4_isCall : GoodIn wsX4_joins (wsV RX4 142 RX4 yX4_isCall wsX4_isCall) := goodIn_app (goodIn_of _ (by decide +kernel)) ggX4_joins_X4_isCall
theorem dX4_joins_0 : decode cX4_joins 0 = .ok (.aload_n 0, 1) := by decide +kernel
theorem dX4_joins_1 : decode cX4_joins 1 = .ok (.aload_n 0, 1) := by decide +kernel
theorem dX4_joins_2 : decode cX4_joins 2 = .ok (.iload_n 1, 1) := by decide +kernel
theorem dX4_joins_3 : decode cX4_joins 3 = .ok (.invokevirtual 142, 3) := by decide +kernel
theorem dX4_joins_6 : decode cX4_joins 6 = .ok (.ifCond .eq 11, 3) := by decide +kernel
theorem dX4_joins_9 : decode cX4_joins 9 = .ok (.aload_n 0, 1) := by decide +kernel
theorem dX4_joins_10 : decode cX4_joins 10 = .ok (.iload_n 2, 1) := by decide +kernel
theorem dX4_joins_11 : decode cX4_joins 11 = .ok (.invokevirtual 142, 3) := by decide +kernel
theorem dX4_joins_14 : decode cX4_joins 14 = .ok (.ifCond .ne 7, 3) := by decide +kernel
theorem dX4_joins_17 : decode cX4_joins 17 = .ok (.iconst 1, 1) := by decide +kernel
theorem dX4_joins_18 : decode cX4_joins 18 = .ok (.goto 4, 3) := by decide +kernel
theorem dX4_joins_21 : decode cX4_joins 21 = .ok (.iconst 0, 1) := by decide +kernel
theorem dX4_joins_22 : decode cX4_joins 22 = .ok (.putfield 78, 3) := by decide +kernel
theorem dX4_joins_25 : decode cX4_joins 25 = .ok (.aload_n 0, 1) := by decide +kernel
theorem dX4_joins_26 : decode cX4_joins 26 = .ok (.getfield 78, 3) := by decide +kernel
theorem dX4_joins_29 : decode cX4_joins 29 = .ok (.ifCond .ne 30, 3) := by decide +kernel
theorem dX4_joins_32 : decode cX4_joins 32 = .ok (.aload_n 0, 1) := by decide +kernel
theorem dX4_joins_33 : decode cX4_joins 33 = .ok (.aload_n 0, 1) := by decide +kernel
theorem dX4_joins_34 : decode cX4_joins 34 = .ok (.getfield 44, 3) := by decide +kernel
theorem dX4_joins_37 : decode cX4_joins 37 = .ok (.iload_n 1, 1) := by decide +kernel
theorem dX4_joins_38 : decode cX4_joins 38 = .ok (.iaload, 1) := by decide +kernel
theorem dX4_joins_39 : decode cX4_joins 39 = .ok (.ifCond .ne 12, 3) := by decide +kernel
theorem dX4_joins_42 : decode cX4_joins 42 = .ok (.aload_n 0, 1) := by decide +kernel
theorem dX4_joins_43 : decode cX4_joins 43 = .ok (.getfield 44, 3) := by decide +kernel
theorem dX4_joins_46 : decode cX4_joins 46 = .ok (.iload_n 2, 1) := by decide +kernel
theorem dX4_joins_47 : decode cX4_joins 47 = .ok (.iaload, 1) := by decide +kernel
theorem dX4_joins_48 : decode cX4_joins 48 = .ok (.ifCond .eq 7, 3) := by decide +kernel
theorem dX4_joins_51 : decode cX4_joins 51 = .ok (.iconst 2, 1) := by decide +kernel
theorem dX4_joins_52 : decode cX4_joins 52 = .ok (.goto 4, 3) := by decide +kernel
theorem dX4_joins_55 : decode cX4_joins 55 = .ok (.iconst 0, 1) := by decide +kernel
theorem dX4_joins_56 : decode cX4_joins 56 = .ok (.putfield 78, 3) := by decide +kernel
theorem dX4_joins_59 : decode cX4_joins 59 = .ok (.aload_n 0, 1) := by decide +kernel
theorem dX4_joins_60 : decode cX4_joins 60 = .ok (.getfield 78, 3) := by decide +kernel
theorem dX4_joins_63 : decode cX4_joins 63 = .ok (.ifCond .ne 37, 3) := by decide +kernel
theorem dX4_joins_66 : decode cX4_joins 66 = .ok (.aload_n 0, 1) := by decide +kernel
theorem dX4_joins_67 : decode cX4_joins 67 = .ok (.getfield 32, 3) := by decide +kernel
theorem dX4_joins_70 : decode cX4_joins 70 = .ok (.iload_n 1, 1) := by decide +kernel
theorem dX4_joins_71 : decode cX4_joins 71 = .ok (.iaload, 1) := by decide +kernel
theorem dX4_joins_72 : decode cX4_joins 72 = .ok (.aload_n 0, 1) := by decide +kernel
theorem dX4_joins_73 : decode cX4_joins 73 = .ok (.getfield 32, 3) := by decide +kernel
theorem dX4_joins_76 : decode cX4_joins 76 = .ok (.iload_n 2, 1) := by decide +kernel
theorem dX4_joins_77 : decode cX4_joins 77 = .ok (.iaload, 1) := by decide +kernel
theorem dX4_joins_78 : decode cX4_joins 78 = .ok (.if_icmp .ne 22, 3) := by decide +kernel
theorem dX4_joins_81 : decode cX4_joins 81 = .ok (.aload_n 0, 1) := by decide +kernel
theorem dX4_joins_82 : decode cX4_joins 82 = .ok (.getfield 35, 3) := by decide +kernel
theorem dX4_joins_85 : decode cX4_joins 85 = .ok (.iload_n 1, 1) := by decide +kernel
theorem dX4_joins_86 : decode cX4_joins 86 = .ok (.iaload, 1) := by decide +kernel
theorem dX4_joins_87 : decode cX4_joins 87 = .ok (.aload_n 0, 1) := by decide +kernel
theorem dX4_joins_88 : decode cX4_joins 88 = .ok (.getfield 35, 3) := by decide +kernel
theorem dX4_joins_91 : decode cX4_joins 91 = .ok (.iload_n 2, 1) := by decide +kernel
theorem dX4_joins_92 : decode cX4_joins 92 = .ok (.iaload, 1) := by decide +kernel
theorem dX4_joins_93 : decode cX4_joins 93 = .ok (.if_icmp .ne 7, 3) := by decide +kernel
theorem dX4_joins_96 : decode cX4_joins 96 = .ok (.iconst 1, 1) := by decide +kernel
theorem dX4_joins_97 : decode cX4_joins 97 = .ok (.goto 4, 3) := by decide +kernel
theorem dX4_joins_100 : decode cX4_joins 100 = .ok (.iconst 0, 1) := by decide +kernel
theorem dX4_joins_101 : decode cX4_joins 101 = .ok (.ireturn, 1) := by decide +kernel
set_option maxRecDepth 20000 in
theorem ggX4_known_X4_isCall : GoodIn wsX4_known wsX4_isCall := goodIn_r _ [12, 13, 14, 15, 11, 16, 17, 18, 19, 20, 21, 22, 23, 24, 25, 26, 27, 28, 29, 30, 31, 32, 33, 34, 35, 36, 37, 38, 39, 40, 41, 42, 43, 44] (by decide +kernel) (by decide +kernel)
set_option maxRecDepth 20000 in
theorem gX4_known_X4_isCall : GoodIn wsX4_known (wsV RX4 142 RX4 yX4_isCall wsX4_isCall) := goodIn_app (goodIn_of _ (by decide +kernel)) ggX4_known_X4_isCall
set_option maxRecDepth 20000 in
theorem ggX4_known_X4_in : GoodIn wsX4_known wsX4_in := goodIn_r _ [16] (by decide +kernel) (by decide +kernel)
set_option maxRecDepth 20000 in
theorem gX4_known_X4_in : GoodIn wsX4_known (va_wsS RX4 81 yX4_in wsX4_in) := goodIn_app (goodIn_of _ (by decide +kernel)) ggX4_known_X4_in
theorem dX4_known_0 : decode cX4_known 0 = .ok (.aload_n 0, 1) := by decide +kernel
theorem dX4_known_1 : decode cX4_known 1 = .ok (.aload_n 0, 1) := by decide +kernel
theorem dX4_known_2 : decode cX4_known 2 = .ok (.iload_n 1, 1) := by decide +kernel
theorem dX4_known_3 : decode cX4_known 3 = .ok (.invokevirtual 142, 3) := by decide +kernel
theorem dX4_known_6 : decode cX4_known 6 = .ok (.ifCond .ne 7, 3) := by decide +kernel
theorem dX4_known_9 : decode cX4_known 9 = .ok (.iconst 1, 1) := by decide +kernel
theorem dX4_known_10 : decode cX4_known 10 = .ok (.goto 17, 3) := by decide +kernel
theorem dX4_known_13 : decode cX4_known 13 = .ok (.iload_n 2, 1) := by decide +kernel
theorem dX4_known_14 : decode cX4_known 14 = .ok (.iconst 0, 1) := by decide +kernel
theorem dX4_known_15 : decode cX4_known 15 = .ok (.iconst 5, 1) := by decide +kernel
theorem dX4_known_16 : decode cX4_known 16 = .ok (.invokestatic 81, 3) := by decide +kernel
theorem dX4_known_19 : decode cX4_known 19 = .ok (.ifCond .ne 7, 3) := by decide +kernel
theorem dX4_known_22 : decode cX4_known 22 = .ok (.iconst 2, 1) := by decide +kernel
theorem dX4_known_23 : decode cX4_known 23 = .ok (.goto 4, 3) := by decide +kernel
theorem dX4_known_26 : decode cX4_known 26 = .ok (.iconst 0, 1) := by decide +kernel
theorem dX4_known_27 : decode cX4_known 27 = .ok (.putfield 78, 3) := by decide +kernel
theorem dX4_known_30 : decode cX4_known 30 = .ok (.aload_n 0, 1) := by decide +kernel
theorem dX4_known_31 : decode cX4_known 31 = .ok (.getfield 78, 3) := by decide +kernel
theorem dX4_known_34 : decode cX4_known 34 = .ok (.ifCond .le 5, 3) := by decide +kernel
theorem dX4_known_37 : decode cX4_known 37 = .ok (.iconst 0, 1) := by decide +kernel
theorem dX4_known_38 : decode cX4_known 38 = .ok (.ireturn, 1) := by decide +kernel
theorem dX4_known_39 : decode cX4_known 39 = .ok (.iload_n 2, 1) := by decide +kernel
theorem dX4_known_40 : decode cX4_known 40 = .ok (.ifCond .ne 10, 3) := by decide +kernel
theorem dX4_known_43 : decode cX4_known 43 = .ok (.aload_n 0, 1) := by decide +kernel
theorem dX4_known_44 : decode cX4_known 44 = .ok (.getfield 44, 3) := by decide +kernel
theorem dX4_known_47 : decode cX4_known 47 = .ok (.iload_n 1, 1) := by decide +kernel
theorem dX4_known_48 : decode cX4_known 48 = .ok (.iaload, 1) := by decide +kernel
theorem dX4_known_49 : decode cX4_known 49 = .ok (.ireturn, 1) := by decide +kernel
theorem dX4_known_50 : decode cX4_known 50 = .ok (.iload_n 2, 1) := by decide +kernel
theorem dX4_known_51 : decode cX4_known 51 = .ok (.iconst 1, 1) := by decide +kernel
theorem dX4_known_52 : decode cX4_known 52 = .ok (.if_icmp .ne 10, 3) := by decide +kernel
theorem dX4_known_55 : decode cX4_known 55 = .ok (.aload_n 0, 1) := by decide +kernel
theorem dX4_known_56 : decode cX4_known 56 = .ok (.getfield 47, 3) := by decide +kernel
theorem dX4_known_59 : decode cX4_known 59 = .ok (.iload_n 1, 1) := by decide +kernel
theorem dX4_known_60 : decode cX4_known 60 = .ok (.iaload, 1) := by decide +kernel
theorem dX4_known_61 : decode cX4_known 61 = .ok (.ireturn, 1) := by decide +kernel
theorem dX4_known_62 : decode cX4_known 62 = .ok (.iload_n 2, 1) := by decide +kernel
theorem dX4_known_63 : decode cX4_known 63 = .ok (.iconst 2, 1) := by decide +kernel
theorem dX4_known_64 : decode cX4_known 64 = .ok (.if_icmp .ne 10, 3) := by decide +kernel
theorem dX4_known_67 : decode cX4_known 67 = .ok (.aload_n 0, 1) := by decide +kernel
theorem dX4_known_68 : decode cX4_known 68 = .ok (.getfield 32, 3) := by decide +kernel
theorem dX4_known_71 : decode cX4_known 71 = .ok (.iload_n 1, 1) := by decide +kernel
theorem dX4_known_72 : decode cX4_known 72 = .ok (.iaload, 1) := by decide +kernel
theorem dX4_known_73 : decode cX4_known 73 = .ok (.ireturn, 1) := by decide +kernel
theorem dX4_known_74 : decode cX4_known 74 = .ok (.iload_n 2, 1) := by decide +kernel
theorem dX4_known_75 : decode cX4_known 75 = .ok (.iconst 3, 1) := by decide +kernel
theorem dX4_known_76 : decode cX4_known 76 = .ok (.if_icmp .ne 12, 3) := by decide +kernel
theorem dX4_known_79 : decode cX4_known 79 = .ok (.aload_n 0, 1) := by decide +kernel
theorem dX4_known_80 : decode cX4_known 80 = .ok (.getfield 35, 3) := by decide +kernel
theorem dX4_known_83 : decode cX4_known 83 = .ok (.iload_n 1, 1) := by decide +kernel
theorem dX4_known_84 : decode cX4_known 84 = .ok (.iaload, 1) := by decide +kernel
theorem dX4_known_85 : decode cX4_known 85 = .ok (.goto 23, 3) := by decide +kernel
theorem dX4_known_88 : decode cX4_known 88 = .ok (.iload_n 2, 1) := by decide +kernel
theorem dX4_known_89 : decode cX4_known 89 = .ok (.iconst 4, 1) := by decide +kernel
theorem dX4_known_90 : decode cX4_known 90 = .ok (.if_icmp .ne 12, 3) := by decide +kernel
theorem dX4_known_93 : decode cX4_known 93 = .ok (.aload_n 0, 1) := by decide +kernel
theorem dX4_known_94 : decode cX4_known 94 = .ok (.getfield 38, 3) := by decide +kernel
theorem dX4_known_97 : decode cX4_known 97 = .ok (.iload_n 1, 1) := by decide +kernel
theorem dX4_known_98 : decode cX4_known 98 = .ok (.iaload, 1) := by decide +kernel
theorem dX4_known_99 : decode cX4_known 99 = .ok (.goto 9, 3) := by decide +kernel
theorem dX4_known_102 : decode cX4_known 102 = .ok (.aload_n 0, 1) := by decide +kernel
theorem dX4_known_103 : decode cX4_known 103 = .ok (.getfield 41, 3) := by decide +kernel
theorem dX4_known_106 : decode cX4_known 106 = .ok (.iload_n 1, 1) := by decide +kernel
theorem dX4_known_107 : decode cX4_known 107 = .ok (.iaload, 1) := by decide +kernel
theorem dX4_known_108 : decode cX4_known 108 = .ok (.ireturn, 1) := by decide +kernel
theorem dX4_count_0 : decode cX4_count 0 = .ok (.aload_n 0, 1) := by decide +kernel
theorem dX4_count_1 : decode cX4_count 1 = .ok (.iconst 0, 1) := by decide +kernel
theorem dX4_count_2 : decode cX4_count 2 = .ok (.putfield 78, 3) := by decide +kernel
theorem dX4_count_5 : decode cX4_count 5 = .ok (.iload_n 1, 1) := by decide +kernel
theorem dX4_count_6 : decode cX4_count 6 = .ok (.ifCond .ne 8, 3) := by decide +kernel
theorem dX4_count_9 : decode cX4_count 9 = .ok (.aload_n 0, 1) := by decide +kernel
theorem dX4_count_10 : decode cX4_count 10 = .ok (.getfield 74, 3) := by decide +kernel
theorem dX4_count_13 : decode cX4_count 13 = .ok (.ireturn, 1) := by decide +kernel
theorem dX4_count_14 : decode cX4_count 14 = .ok (.iload_n 1, 1) := by decide +kernel
theorem dX4_count_15 : decode cX4_count 15 = .ok (.iconst 1, 1) := by decide +kernel
theorem dX4_count_16 : decode cX4_count 16 = .ok (.if_icmp .ne 8, 3) := by decide +kernel
theorem dX4_count_19 : decode cX4_count 19 = .ok (.aload_n 0, 1) := by decide +kernel
theorem dX4_count_20 : decode cX4_count 20 = .ok (.getfield 85, 3) := by decide +kernel
theorem dX4_count_23 : decode cX4_count 23 = .ok (.ireturn, 1) := by decide +kernel
theorem dX4_count_24 : decode cX4_count 24 = .ok (.iload_n 1, 1) := by decide +kernel
theorem dX4_count_25 : decode cX4_count 25 = .ok (.iconst 2, 1) := by decide +kernel
theorem dX4_count_26 : decode cX4_count 26 = .ok (.if_icmp .ne 8, 3) := by decide +kernel
theorem dX4_count_29 : decode cX4_count 29 = .ok (.aload_n 0, 1) := by decide +kernel
theorem dX4_count_30 : decode cX4_count 30 = .ok (.getfield 88, 3) := by decide +kernel
theorem dX4_count_33 : decode cX4_count 33 = .ok (.ireturn, 1) := by decide +kernel
theorem dX4_count_34 : decode cX4_count 34 = .ok (.iload_n 1, 1) := by decide +kernel
theorem dX4_count_35 : decode cX4_count 35 = .ok (.iconst 3, 1) := by decide +kernel
theorem dX4_count_36 : decode cX4_count 36 = .ok (.if_icmp .ne 8, 3) := by decide +kernel
theorem dX4_count_39 : decode cX4_count 39 = .ok (.aload_n 0, 1) := by decide +kernel
theorem dX4_count_40 : decode cX4_count 40 = .ok (.getfield 109, 3) := by decide +kernel
theorem dX4_count_43 : decode cX4_count 43 = .ok (.ireturn, 1) := by decide +kernel
theorem dX4_count_44 : decode cX4_count 44 = .ok (.iload_n 1, 1) := by decide +kernel
theorem dX4_count_45 : decode cX4_count 45 = .ok (.iconst 4, 1) := by decide +kernel
theorem dX4_count_46 : decode cX4_count 46 = .ok (.if_icmp .ne 8, 3) := by decide +kernel
theorem dX4_count_49 : decode cX4_count 49 = .ok (.aload_n 0, 1) := by decide +kernel
theorem dX4_count_50 : decode cX4_count 50 = .ok (.getfield 99, 3) := by decide +kernel
theorem dX4_count_53 : decode cX4_count 53 = .ok (.ireturn, 1) := by decide +kernel
theorem dX4_count_54 : decode cX4_count 54 = .ok (.iload_n 1, 1) := by decide +kernel
theorem dX4_count_55 : decode cX4_count 55 = .ok (.bipush 8, 2) := by decide +kernel
theorem dX4_count_57 : decode cX4_count 57 = .ok (.if_icmp .ne 8, 3) := by decide +kernel
theorem dX4_count_60 : decode cX4_count 60 = .ok (.aload_n 0, 1) := by decide +kernel
theorem dX4_count_61 : decode cX4_count 61 = .ok (.getfield 130, 3) := by decide +kernel
theorem dX4_count_64 : decode cX4_count 64 = .ok (.ireturn, 1) := by decide +kernel
theorem dX4_count_65 : decode cX4_count 65 = .ok (.iconst 0, 1) := by decide +kernel
theorem dX4_count_66 : decode cX4_count 66 = .ok (.istore_n 2, 1) := by decide +kernel
theorem dX4_count_67 : decode cX4_count 67 = .ok (.iconst 0, 1) := by decide +kernel
theorem dX4_count_68 : decode cX4_count 68 = .ok (.istore_n 3, 1) := by decide +kernel
theorem dX4_count_69 : decode cX4_count 69 = .ok (.iconst 0, 1) := by decide +kernel
theorem dX4_count_70 : decode cX4_count 70 = .ok (.istore 4, 2) := by decide +kernel
theorem dX4_count_72 : decode cX4_count 72 = .ok (.iload 4, 2) := by decide +kernel
theorem dX4_count_74 : decode cX4_count 74 = .ok (.aload_n 0, 1) := by decide +kernel
theorem dX4_count_75 : decode cX4_count 75 = .ok (.getfield 88, 3) := by decide +kernel
theorem dX4_count_78 : decode cX4_count 78 = .ok (.if_icmp .ge 58, 3) := by decide +kernel
theorem dX4_count_81 : decode cX4_count 81 = .ok (.aload_n 0, 1) := by decide +kernel
theorem dX4_count_82 : decode cX4_count 82 = .ok (.getfield 44, 3) := by decide +kernel
theorem dX4_count_85 : decode cX4_count 85 = .ok (.iload 4, 2) := by decide +kernel
theorem dX4_count_87 : decode cX4_count 87 = .ok (.iaload, 1) := by decide +kernel
theorem dX4_count_88 : decode cX4_count 88 = .ok (.ifCond .eq 6, 3) := by decide +kernel
theorem dX4_count_91 : decode cX4_count 91 = .ok (.goto 39, 3) := by decide +kernel
theorem dX4_count_94 : decode cX4_count 94 = .ok (.iload_n 2, 1) := by decide +kernel
theorem dX4_count_95 : decode cX4_count 95 = .ok (.iload_n 1, 1) := by decide +kernel
theorem dX4_count_96 : decode cX4_count 96 = .ok (.iconst 5, 1) := by decide +kernel
theorem dX4_count_97 : decode cX4_count 97 = .ok (.if_icmp .eq 14, 3) := by decide +kernel
theorem dX4_count_100 : decode cX4_count 100 = .ok (.aload_n 0, 1) := by decide +kernel
theorem dX4_count_101 : decode cX4_count 101 = .ok (.getfield 47, 3) := by decide +kernel
theorem dX4_count_104 : decode cX4_count 104 = .ok (.iload 4, 2) := by decide +kernel
theorem dX4_count_106 : decode cX4_count 106 = .ok (.iaload, 1) := by decide +kernel
theorem dX4_count_107 : decode cX4_count 107 = .ok (.iconst (-1), 1) := by decide +kernel
theorem dX4_count_108 : decode cX4_count 108 = .ok (.if_icmp .ne 7, 3) := by decide +kernel
theorem dX4_count_111 : decode cX4_count 111 = .ok (.iconst 1, 1) := by decide +kernel
theorem dX4_count_112 : decode cX4_count 112 = .ok (.goto 4, 3) := by decide +kernel
theorem dX4_count_115 : decode cX4_count 115 = .ok (.iconst 0, 1) := by decide +kernel
theorem dX4_count_116 : decode cX4_count 116 = .ok (.iadd, 1) := by decide +kernel
theorem dX4_count_117 : decode cX4_count 117 = .ok (.istore_n 2, 1) := by decide +kernel
theorem dX4_count_118 : decode cX4_count 118 = .ok (.iload_n 3, 1) := by decide +kernel
theorem dX4_count_119 : decode cX4_count 119 = .ok (.iconst 1, 1) := by decide +kernel
theorem dX4_count_120 : decode cX4_count 120 = .ok (.aload_n 0, 1) := by decide +kernel
theorem dX4_count_121 : decode cX4_count 121 = .ok (.getfield 32, 3) := by decide +kernel
theorem dX4_count_124 : decode cX4_count 124 = .ok (.iload 4, 2) := by decide +kernel
theorem dX4_count_126 : decode cX4_count 126 = .ok (.iaload, 1) := by decide +kernel
theorem dX4_count_127 : decode cX4_count 127 = .ok (.ishl, 1) := by decide +kernel
theorem dX4_count_128 : decode cX4_count 128 = .ok (.ior, 1) := by decide +kernel
theorem dX4_count_129 : decode cX4_count 129 = .ok (.istore_n 3, 1) := by decide +kernel
theorem dX4_count_130 : decode cX4_count 130 = .ok (.iinc 4 1, 3) := by decide +kernel
theorem dX4_count_133 : decode cX4_count 133 = .ok (.goto (-61), 3) := by decide +kernel
theorem dX4_count_136 : decode cX4_count 136 = .ok (.iload_n 1, 1) := by decide +kernel
theorem dX4_count_137 : decode cX4_count 137 = .ok (.iconst 5, 1) := by decide +kernel
theorem dX4_count_138 : decode cX4_count 138 = .ok (.if_icmp .eq 9, 3) := by decide +kernel
theorem dX4_count_141 : decode cX4_count 141 = .ok (.iload_n 1, 1) := by decide +kernel
theorem dX4_count_142 : decode cX4_count 142 = .ok (.bipush 6, 2) := by decide +kernel
theorem dX4_count_144 : decode cX4_count 144 = .ok (.if_icmp .ne 7, 3) := by decide +kernel
theorem dX4_count_147 : decode cX4_count 147 = .ok (.iload_n 2, 1) := by decide +kernel
theorem dX4_count_148 : decode cX4_count 148 = .ok (.goto 14, 3) := by decide +kernel
theorem dX4_count_151 : decode cX4_count 151 = .ok (.iload_n 1, 1) := by decide +kernel
theorem dX4_count_152 : decode cX4_count 152 = .ok (.bipush 7, 2) := by decide +kernel
theorem dX4_count_154 : decode cX4_count 154 = .ok (.if_icmp .ne 7, 3) := by decide +kernel
theorem dX4_count_157 : decode cX4_count 157 = .ok (.iload_n 3, 1) := by decide +kernel
theorem dX4_count_158 : decode cX4_count 158 = .ok (.goto 4, 3) := by decide +kernel
theorem dX4_count_161 : decode cX4_count 161 = .ok (.iconst (-1), 1) := by decide +kernel
theorem dX4_count_162 : decode cX4_count 162 = .ok (.ireturn, 1) := by decide +kernel
theorem dJx00060_init_a7421_0 : decode cJx00060_init_a7421 0 = .ok (.aload_n 0, 1) := by decide +kernel
theorem dJx00060_init_a7421_1 : decode cJx00060_init_a7421 1 = .ok (.aload_n 1, 1) := by decide +kernel
theorem dJx00060_init_a7421_2 : decode cJx00060_init_a7421 2 = .ok (.invokespecial 7, 3) := by decide +kernel
theorem dJx00060_init_a7421_5 : decode cJx00060_init_a7421 5 = .ok (.return_, 1) := by decide +kernel
theorem dJ6_bitCount_0f7a4_0 : decode cJ6_bitCount_0f7a4 0 = .ok (.iload_n 0, 1) := by decide +kernel
theorem dJ6_bitCount_0f7a4_1 : decode cJ6_bitCount_0f7a4 1 = .ok (.iload_n 0, 1) := by decide +kernel
theorem dJ6_bitCount_0f7a4_2 : decode cJ6_bitCount_0f7a4 2 = .ok (.iconst 1, 1) := by decide +kernel
theorem dJ6_bitCount_0f7a4_3 : decode cJ6_bitCount_0f7a4 3 = .ok (.iushr, 1) := by decide +kernel
theorem dJ6_bitCount_0f7a4_4 : decode cJ6_bitCount_0f7a4 4 = .ok (.ldc_w 265, 3) := by decide +kernel
theorem dJ6_bitCount_0f7a4_7 : decode cJ6_bitCount_0f7a4 7 = .ok (.iand, 1) := by decide +kernel
theorem dJ6_bitCount_0f7a4_8 : decode cJ6_bitCount_0f7a4 8 = .ok (.isub, 1) := by decide +kernel
theorem dJ6_bitCount_0f7a4_9 : decode cJ6_bitCount_0f7a4 9 = .ok (.istore_n 0, 1) := by decide +kernel
theorem dJ6_bitCount_0f7a4_10 : decode cJ6_bitCount_0f7a4 10 = .ok (.iload_n 0, 1) := by decide +kernel
theorem dJ6_bitCount_0f7a4_11 : decode cJ6_bitCount_0f7a4 11 = .ok (.ldc_w 266, 3) := by decide +kernel
theorem dJ6_bitCount_0f7a4_14 : decode cJ6_bitCount_0f7a4 14 = .ok (.iand, 1) := by decide +kernel
theorem dJ6_bitCount_0f7a4_15 : decode cJ6_bitCount_0f7a4 15 = .ok (.iload_n 0, 1) := by decide +kernel
theorem dJ6_bitCount_0f7a4_16 : decode cJ6_bitCount_0f7a4 16 = .ok (.iconst 2, 1) := by decide +kernel
theorem dJ6_bitCount_0f7a4_17 : decode cJ6_bitCount_0f7a4 17 = .ok (.iushr, 1) := by decide +kernel
theorem dJ6_bitCount_0f7a4_18 : decode cJ6_bitCount_0f7a4 18 = .ok (.ldc_w 266, 3) := by decide +kernel
theorem dJ6_bitCount_0f7a4_21 : decode cJ6_bitCount_0f7a4 21 = .ok (.iand, 1) := by decide +kernel
theorem dJ6_bitCount_0f7a4_22 : decode cJ6_bitCount_0f7a4 22 = .ok (.iadd, 1) := by decide +kernel
theorem dJ6_bitCount_0f7a4_23 : decode cJ6_bitCount_0f7a4 23 = .ok (.istore_n 0, 1) := by decide +kernel
theorem dJ6_bitCount_0f7a4_24 : decode cJ6_bitCount_0f7a4 24 = .ok (.iload_n 0, 1) := by decide +kernel
theorem dJ6_bitCount_0f7a4_25 : decode cJ6_bitCount_0f7a4 25 = .ok (.iload_n 0, 1) := by decide +kernel
theorem dJ6_bitCount_0f7a4_26 : decode cJ6_bitCount_0f7a4 26 = .ok (.iconst 4, 1) := by decide +kernel
theorem dJ6_bitCount_0f7a4_27 : decode cJ6_bitCount_0f7a4 27 = .ok (.iushr, 1) := by decide +kernel
theorem dJ6_bitCount_0f7a4_28 : decode cJ6_bitCount_0f7a4 28 = .ok (.iadd, 1) := by decide +kernel
theorem dJ6_bitCount_0f7a4_29 : decode cJ6_bitCount_0f7a4 29 = .ok (.ldc_w 267, 3) := by decide +kernel
theorem dJ6_bitCount_0f7a4_32 : decode cJ6_bitCount_0f7a4 32 = .ok (.iand, 1) := by decide +kernel
theorem dJ6_bitCount_0f7a4_33 : decode cJ6_bitCount_0f7a4 33 = .ok (.istore_n 0, 1) := by decide +kernel
theorem dJ6_bitCount_0f7a4_34 : decode cJ6_bitCount_0f7a4 34 = .ok (.iload_n 0, 1) := by decide +kernel
theorem dJ6_bitCount_0f7a4_35 : decode cJ6_bitCount_0f7a4 35 = .ok (.iload_n 0, 1) := by decide +kernel
theorem dJ6_bitCount_0f7a4_36 : decode cJ6_bitCount_0f7a4 36 = .ok (.bipush 8, 2) := by decide +kernel
theorem dJ6_bitCount_0f7a4_38 : decode cJ6_bitCount_0f7a4 38 = .ok (.iushr, 1) := by decide +kernel
theorem dJ6_bitCount_0f7a4_39 : decode cJ6_bitCount_0f7a4 39 = .ok (.iadd, 1) := by decide +kernel
theorem dJ6_bitCount_0f7a4_40 : decode cJ6_bitCount_0f7a4 40 = .ok (.istore_n 0, 1) := by decide +kernel
theorem dJ6_bitCount_0f7a4_41 : decode cJ6_bitCount_0f7a4 41 = .ok (.iload_n 0, 1) := by decide +kernel
theorem dJ6_bitCount_0f7a4_42 : decode cJ6_bitCount_0f7a4 42 = .ok (.iload_n 0, 1) := by decide +kernel
theorem dJ6_bitCount_0f7a4_43 : decode cJ6_bitCount_0f7a4 43 = .ok (.bipush 16, 2) := by decide +kernel
theorem dJ6_bitCount_0f7a4_45 : decode cJ6_bitCount_0f7a4 45 = .ok (.iushr, 1) := by decide +kernel
theorem dJ6_bitCount_0f7a4_46 : decode cJ6_bitCount_0f7a4 46 = .ok (.iadd, 1) := by decide +kernel
theorem dJ6_bitCount_0f7a4_47 : decode cJ6_bitCount_0f7a4 47 = .ok (.istore_n 0, 1) := by decide +kernel
theorem dJ6_bitCount_0f7a4_48 : decode cJ6_bitCount_0f7a4 48 = .ok (.iload_n 0, 1) := by decide +kernel
theorem dJ6_bitCount_0f7a4_49 : decode cJ6_bitCount_0f7a4 49 = .ok (.bipush 63, 2) := by decide +kernel
theorem dJ6_bitCount_0f7a4_51 : decode cJ6_bitCount_0f7a4 51 = .ok (.iand, 1) := by decide +kernel
theorem dJ6_bitCount_0f7a4_52 : decode cJ6_bitCount_0f7a4 52 = .ok (.ireturn, 1) := by decide +kernel
theorem dJ9_abs_0f7a4_0 : decode cJ9_abs_0f7a4 0 = .ok (.iload_n 0, 1) := by decide +kernel
theorem dJ9_abs_0f7a4_1 : decode cJ9_abs_0f7a4 1 = .ok (.ifCond .ge 8, 3) := by decide +kernel
theorem dJ9_abs_0f7a4_4 : decode cJ9_abs_0f7a4 4 = .ok (.iload_n 0, 1) := by decide +kernel
theorem dJ9_abs_0f7a4_5 : decode cJ9_abs_0f7a4 5 = .ok (.ineg, 1) := by decide +kernel
theorem dJ9_abs_0f7a4_6 : decode cJ9_abs_0f7a4 6 = .ok (.goto 4, 3) := by decide +kernel
theorem dJ9_abs_0f7a4_9 : decode cJ9_abs_0f7a4 9 = .ok (.iload_n 0, 1) := by decide +kernel
theorem dJ9_abs_0f7a4_10 : decode cJ9_abs_0f7a4 10 = .ok (.ireturn, 1) := by decide +kernel
theorem dJ9_max_7cf53_0 : decode cJ9_max_7cf53 0 = .ok (.iload_n 0, 1) := by decide +kernel
theorem dJ9_max_7cf53_1 : decode cJ9_max_7cf53 1 = .ok (.iload_n 1, 1) := by decide +kernel
theorem dJ9_max_7cf53_2 : decode cJ9_max_7cf53 2 = .ok (.if_icmp .lt 7, 3) := by decide +kernel
theorem dJ9_max_7cf53_5 : decode cJ9_max_7cf53 5 = .ok (.iload_n 0, 1) := by decide +kernel
theorem dJ9_max_7cf53_6 : decode cJ9_max_7cf53 6 = .ok (.goto 4, 3) := by decide +kernel
theorem dJ9_max_7cf53_9 : decode cJ9_max_7cf53 9 = .ok (.iload_n 1, 1) := by decide +kernel
theorem dJ9_max_7cf53_10 : decode cJ9_max_7cf53 10 = .ok (.ireturn, 1) := by decide +kernel
theorem dJ9_min_7cf53_0 : decode cJ9_min_7cf53 0 = .ok (.iload_n 0, 1) := by decide +kernel
theorem dJ9_min_7cf53_1 : decode cJ9_min_7cf53 1 = .ok (.iload_n 1, 1) := by decide +kernel
theorem dJ9_min_7cf53_2 : decode cJ9_min_7cf53 2 = .ok (.if_icmp .gt 7, 3) := by decide +kernel
theorem dJ9_min_7cf53_5 : decode cJ9_min_7cf53 5 = .ok (.iload_n 0, 1) := by decide +kernel
theorem dJ9_min_7cf53_6 : decode cJ9_min_7cf53 6 = .ok (.goto 4, 3) := by decide +kernel
theorem dJ9_min_7cf53_9 : decode cJ9_min_7cf53 9 = .ok (.iload_n 1, 1) := by decide +kernel
theorem dJ9_min_7cf53_10 : decode cJ9_min_7cf53 10 = .ok (.ireturn, 1) := by decide +kernel
end
section
/-! Own base: what every contract here shares. -/
abbrev zT (cI cZ cJ : ClassId) : List (ClassId × FieldType) := [(cI, .int), (cZ, .boolean), (cJ, .long)]
def zNest : List Cond := [
  Cond.methodLinkNest "LiftRows2" (24) ({ cls := "LiftRows2$Lifts", name := "<init>", desc := "()V" } : MethodName) "LiftRows2",
  Cond.fieldLinkNest "LiftRows2" (111) "LiftRows2$Lifts" "at" "[I" "LiftRows2",
  Cond.fieldLinkNest "LiftRows2" (246) "LiftRows2$Lifts" "capacity" "[I" "LiftRows2",
  Cond.fieldLinkNest "LiftRows2" (118) "LiftRows2$Lifts" "direction" "[I" "LiftRows2",
  Cond.fieldLinkNest "LiftRows2" (121) "LiftRows2$Lifts" "openFor" "[I" "LiftRows2",
  Cond.fieldLinkNest "LiftRows2" (127) "LiftRows2$Lifts" "isStuck" "[Z" "LiftRows2",
  Cond.fieldLinkNest "LiftRows2" (135) "LiftRows2$Lifts" "isReserved" "[Z" "LiftRows2",
  Cond.fieldLinkNest "LiftRows2" (138) "LiftRows2$Lifts" "isKept" "[Z" "LiftRows2",
  Cond.fieldLinkNest "LiftRows2" (50) "LiftRows2$Lifts" "size" "I" "LiftRows2",
  Cond.fieldLinkNest "LiftRows2" (201) "LiftRows2$Lifts" "gone" "I" "LiftRows2",
  Cond.methodLinkNest "LiftRows2" (31) ({ cls := "LiftRows2$Calls", name := "<init>", desc := "()V" } : MethodName) "LiftRows2",
  Cond.fieldLinkNest "LiftRows2" (182) "LiftRows2$Calls" "from" "[I" "LiftRows2",
  Cond.fieldLinkNest "LiftRows2" (185) "LiftRows2$Calls" "to" "[I" "LiftRows2",
  Cond.fieldLinkNest "LiftRows2" (188) "LiftRows2$Calls" "rank" "[I" "LiftRows2",
  Cond.fieldLinkNest "LiftRows2" (191) "LiftRows2$Calls" "load" "[I" "LiftRows2",
  Cond.fieldLinkNest "LiftRows2" (159) "LiftRows2$Calls" "state" "[I" "LiftRows2",
  Cond.fieldLinkNest "LiftRows2" (74) "LiftRows2$Calls" "by" "[I" "LiftRows2",
  Cond.fieldLinkNest "LiftRows2" (165) "LiftRows2$Calls" "cameAt" "[I" "LiftRows2",
  Cond.fieldLinkNest "LiftRows2" (162) "LiftRows2$Calls" "boardedAt" "[I" "LiftRows2",
  Cond.fieldLinkNest "LiftRows2" (156) "LiftRows2$Calls" "servedAt" "[I" "LiftRows2",
  Cond.fieldLinkNest "LiftRows2" (68) "LiftRows2$Calls" "size" "I" "LiftRows2",
  Cond.methodLinkNest "LiftRows2" (38) ({ cls := "LiftRows2$Events", name := "<init>", desc := "()V" } : MethodName) "LiftRows2",
  Cond.fieldLinkNest "LiftRows2" (90) "LiftRows2$Events" "second" "[I" "LiftRows2",
  Cond.fieldLinkNest "LiftRows2" (93) "LiftRows2$Events" "lift" "[I" "LiftRows2",
  Cond.fieldLinkNest "LiftRows2" (96) "LiftRows2$Events" "call" "[I" "LiftRows2",
  Cond.fieldLinkNest "LiftRows2" (99) "LiftRows2$Events" "kind" "[I" "LiftRows2",
  Cond.fieldLinkNest "LiftRows2" (81) "LiftRows2$Events" "size" "I" "LiftRows2",
  Cond.methodLinkNest "LiftRows2" (219) ({ cls := "LiftRows2$Calls", name := "is", desc := "(III)Z" } : MethodName) "LiftRows2",
  Cond.methodLinkNest "LiftRows2" (215) ({ cls := "LiftRows2$Lifts", name := "mayGet", desc := "(II)Z" } : MethodName) "LiftRows2",
  Cond.methodLinkNest "LiftRows2" (194) ({ cls := "LiftRows2$Calls", name := "numberWaiting", desc := "()I" } : MethodName) "LiftRows2",
  Cond.methodLinkNest "LiftRows2$Calls" (60) ({ cls := "LiftRows2", name := "asNumber", desc := "(Z)I" } : MethodName) "LiftRows2",
  Cond.methodLinkNest "LiftRows2" (124) ({ cls := "LiftRows2$Calls", name := "number", desc := "(II)I" } : MethodName) "LiftRows2",
  Cond.methodLinkNest "LiftRows2" (198) ({ cls := "LiftRows2$Calls", name := "levelsWithWaiting", desc := "()I" } : MethodName) "LiftRows2",
  Cond.methodLinkNest "LiftRows2" (60) ({ cls := "LiftRows2$Lifts", name := "add", desc := "(II)I" } : MethodName) "LiftRows2",
  Cond.methodLinkNest "LiftRows2" (71) ({ cls := "LiftRows2$Calls", name := "add", desc := "(IIIII)I" } : MethodName) "LiftRows2",
  Cond.methodLinkNest "LiftRows2" (226) ({ cls := "LiftRows2$Lifts", name := "passOpenSecond", desc := "(I)V" } : MethodName) "LiftRows2",
  Cond.methodLinkNest "LiftRows2" (249) ({ cls := "LiftRows2$Calls", name := "loadStaying", desc := "(II)I" } : MethodName) "LiftRows2",
  Cond.methodLinkNest "LiftRows2" (252) ({ cls := "LiftRows2$Calls", name := "getsOut", desc := "(III)Z" } : MethodName) "LiftRows2",
  Cond.methodLinkNest "LiftRows2" (255) ({ cls := "LiftRows2$Calls", name := "fitsIn", desc := "(IIII)Z" } : MethodName) "LiftRows2",
  Cond.methodLinkNest "LiftRows2" (259) ({ cls := "LiftRows2$Events", name := "add", desc := "(IIII)V" } : MethodName) "LiftRows2",
  Cond.methodLinkNest "LiftRows2" (114) ({ cls := "LiftRows2$Calls", name := "loadAboard", desc := "(I)I" } : MethodName) "LiftRows2",
  Cond.methodLinkNest "LiftRows2" (239) ({ cls := "LiftRows2$Calls", name := "hasWork", desc := "(III)Z" } : MethodName) "LiftRows2",
  Cond.methodLinkNest "LiftRows2" (242) ({ cls := "LiftRows2$Lifts", name := "go", desc := "(IZZ)V" } : MethodName) "LiftRows2",
  Cond.methodLinkNest "LiftRows2" (168) ({ cls := "LiftRows2$Calls", name := "setOf", desc := "(II)I" } : MethodName) "LiftRows2",
  Cond.methodLinkNest "LiftRows2" (262) ({ cls := "LiftRows2$Calls", name := "setFrom", desc := "(I)I" } : MethodName) "LiftRows2",
  Cond.methodLinkNest "LiftRows2" (265) ({ cls := "LiftRows2$Calls", name := "setTo", desc := "(I)I" } : MethodName) "LiftRows2",
  Cond.methodLinkNest "LiftRows2" (268) ({ cls := "LiftRows2$Calls", name := "nearestStop", desc := "(IIII)I" } : MethodName) "LiftRows2"]
theorem zl_RX3_24 : Cond.methodLinkNest "LiftRows2" (24) ({ cls := "LiftRows2$Lifts", name := "<init>", desc := "()V" } : MethodName) "LiftRows2" ∈ zNest := List.mem_of_getElem? (i := 0) rfl
theorem zl_RX3_111 : Cond.fieldLinkNest "LiftRows2" (111) "LiftRows2$Lifts" "at" "[I" "LiftRows2" ∈ zNest := List.mem_of_getElem? (i := 1) rfl
theorem zl_RX3_246 : Cond.fieldLinkNest "LiftRows2" (246) "LiftRows2$Lifts" "capacity" "[I" "LiftRows2" ∈ zNest := List.mem_of_getElem? (i := 2) rfl
theorem zl_RX3_118 : Cond.fieldLinkNest "LiftRows2" (118) "LiftRows2$Lifts" "direction" "[I" "LiftRows2" ∈ zNest := List.mem_of_getElem? (i := 3) rfl
theorem zl_RX3_121 : Cond.fieldLinkNest "LiftRows2" (121) "LiftRows2$Lifts" "openFor" "[I" "LiftRows2" ∈ zNest := List.mem_of_getElem? (i := 4) rfl
theorem zl_RX3_127 : Cond.fieldLinkNest "LiftRows2" (127) "LiftRows2$Lifts" "isStuck" "[Z" "LiftRows2" ∈ zNest := List.mem_of_getElem? (i := 5) rfl
theorem zl_RX3_135 : Cond.fieldLinkNest "LiftRows2" (135) "LiftRows2$Lifts" "isReserved" "[Z" "LiftRows2" ∈ zNest := List.mem_of_getElem? (i := 6) rfl
theorem zl_RX3_138 : Cond.fieldLinkNest "LiftRows2" (138) "LiftRows2$Lifts" "isKept" "[Z" "LiftRows2" ∈ zNest := List.mem_of_getElem? (i := 7) rfl
theorem zl_RX3_50 : Cond.fieldLinkNest "LiftRows2" (50) "LiftRows2$Lifts" "size" "I" "LiftRows2" ∈ zNest := List.mem_of_getElem? (i := 8) rfl
theorem zl_RX3_201 : Cond.fieldLinkNest "LiftRows2" (201) "LiftRows2$Lifts" "gone" "I" "LiftRows2" ∈ zNest := List.mem_of_getElem? (i := 9) rfl
theorem zl_RX3_31 : Cond.methodLinkNest "LiftRows2" (31) ({ cls := "LiftRows2$Calls", name := "<init>", desc := "()V" } : MethodName) "LiftRows2" ∈ zNest := List.mem_of_getElem? (i := 10) rfl
theorem zl_RX3_182 : Cond.fieldLinkNest "LiftRows2" (182) "LiftRows2$Calls" "from" "[I" "LiftRows2" ∈ zNest := List.mem_of_getElem? (i := 11) rfl
theorem zl_RX3_185 : Cond.fieldLinkNest "LiftRows2" (185) "LiftRows2$Calls" "to" "[I" "LiftRows2" ∈ zNest := List.mem_of_getElem? (i := 12) rfl
theorem zl_RX3_188 : Cond.fieldLinkNest "LiftRows2" (188) "LiftRows2$Calls" "rank" "[I" "LiftRows2" ∈ zNest := List.mem_of_getElem? (i := 13) rfl
theorem zl_RX3_191 : Cond.fieldLinkNest "LiftRows2" (191) "LiftRows2$Calls" "load" "[I" "LiftRows2" ∈ zNest := List.mem_of_getElem? (i := 14) rfl
theorem zl_RX3_159 : Cond.fieldLinkNest "LiftRows2" (159) "LiftRows2$Calls" "state" "[I" "LiftRows2" ∈ zNest := List.mem_of_getElem? (i := 15) rfl
theorem zl_RX3_74 : Cond.fieldLinkNest "LiftRows2" (74) "LiftRows2$Calls" "by" "[I" "LiftRows2" ∈ zNest := List.mem_of_getElem? (i := 16) rfl
theorem zl_RX3_165 : Cond.fieldLinkNest "LiftRows2" (165) "LiftRows2$Calls" "cameAt" "[I" "LiftRows2" ∈ zNest := List.mem_of_getElem? (i := 17) rfl
theorem zl_RX3_162 : Cond.fieldLinkNest "LiftRows2" (162) "LiftRows2$Calls" "boardedAt" "[I" "LiftRows2" ∈ zNest := List.mem_of_getElem? (i := 18) rfl
theorem zl_RX3_156 : Cond.fieldLinkNest "LiftRows2" (156) "LiftRows2$Calls" "servedAt" "[I" "LiftRows2" ∈ zNest := List.mem_of_getElem? (i := 19) rfl
theorem zl_RX3_68 : Cond.fieldLinkNest "LiftRows2" (68) "LiftRows2$Calls" "size" "I" "LiftRows2" ∈ zNest := List.mem_of_getElem? (i := 20) rfl
theorem zl_RX3_38 : Cond.methodLinkNest "LiftRows2" (38) ({ cls := "LiftRows2$Events", name := "<init>", desc := "()V" } : MethodName) "LiftRows2" ∈ zNest := List.mem_of_getElem? (i := 21) rfl
theorem zl_RX3_90 : Cond.fieldLinkNest "LiftRows2" (90) "LiftRows2$Events" "second" "[I" "LiftRows2" ∈ zNest := List.mem_of_getElem? (i := 22) rfl
theorem zl_RX3_93 : Cond.fieldLinkNest "LiftRows2" (93) "LiftRows2$Events" "lift" "[I" "LiftRows2" ∈ zNest := List.mem_of_getElem? (i := 23) rfl
theorem zl_RX3_96 : Cond.fieldLinkNest "LiftRows2" (96) "LiftRows2$Events" "call" "[I" "LiftRows2" ∈ zNest := List.mem_of_getElem? (i := 24) rfl
theorem zl_RX3_99 : Cond.fieldLinkNest "LiftRows2" (99) "LiftRows2$Events" "kind" "[I" "LiftRows2" ∈ zNest := List.mem_of_getElem? (i := 25) rfl
theorem zl_RX3_81 : Cond.fieldLinkNest "LiftRows2" (81) "LiftRows2$Events" "size" "I" "LiftRows2" ∈ zNest := List.mem_of_getElem? (i := 26) rfl
theorem zl_RX3_219 : Cond.methodLinkNest "LiftRows2" (219) ({ cls := "LiftRows2$Calls", name := "is", desc := "(III)Z" } : MethodName) "LiftRows2" ∈ zNest := List.mem_of_getElem? (i := 27) rfl
theorem zl_RX3_215 : Cond.methodLinkNest "LiftRows2" (215) ({ cls := "LiftRows2$Lifts", name := "mayGet", desc := "(II)Z" } : MethodName) "LiftRows2" ∈ zNest := List.mem_of_getElem? (i := 28) rfl
theorem zl_RX3_194 : Cond.methodLinkNest "LiftRows2" (194) ({ cls := "LiftRows2$Calls", name := "numberWaiting", desc := "()I" } : MethodName) "LiftRows2" ∈ zNest := List.mem_of_getElem? (i := 29) rfl
theorem zl_RX0_60 : Cond.methodLinkNest "LiftRows2$Calls" (60) ({ cls := "LiftRows2", name := "asNumber", desc := "(Z)I" } : MethodName) "LiftRows2" ∈ zNest := List.mem_of_getElem? (i := 30) rfl
theorem zl_RX3_124 : Cond.methodLinkNest "LiftRows2" (124) ({ cls := "LiftRows2$Calls", name := "number", desc := "(II)I" } : MethodName) "LiftRows2" ∈ zNest := List.mem_of_getElem? (i := 31) rfl
theorem zl_RX3_198 : Cond.methodLinkNest "LiftRows2" (198) ({ cls := "LiftRows2$Calls", name := "levelsWithWaiting", desc := "()I" } : MethodName) "LiftRows2" ∈ zNest := List.mem_of_getElem? (i := 32) rfl
theorem zl_RX3_60 : Cond.methodLinkNest "LiftRows2" (60) ({ cls := "LiftRows2$Lifts", name := "add", desc := "(II)I" } : MethodName) "LiftRows2" ∈ zNest := List.mem_of_getElem? (i := 33) rfl
theorem zl_RX3_71 : Cond.methodLinkNest "LiftRows2" (71) ({ cls := "LiftRows2$Calls", name := "add", desc := "(IIIII)I" } : MethodName) "LiftRows2" ∈ zNest := List.mem_of_getElem? (i := 34) rfl
theorem zl_RX3_226 : Cond.methodLinkNest "LiftRows2" (226) ({ cls := "LiftRows2$Lifts", name := "passOpenSecond", desc := "(I)V" } : MethodName) "LiftRows2" ∈ zNest := List.mem_of_getElem? (i := 35) rfl
theorem zl_RX3_249 : Cond.methodLinkNest "LiftRows2" (249) ({ cls := "LiftRows2$Calls", name := "loadStaying", desc := "(II)I" } : MethodName) "LiftRows2" ∈ zNest := List.mem_of_getElem? (i := 36) rfl
theorem zl_RX3_252 : Cond.methodLinkNest "LiftRows2" (252) ({ cls := "LiftRows2$Calls", name := "getsOut", desc := "(III)Z" } : MethodName) "LiftRows2" ∈ zNest := List.mem_of_getElem? (i := 37) rfl
theorem zl_RX3_255 : Cond.methodLinkNest "LiftRows2" (255) ({ cls := "LiftRows2$Calls", name := "fitsIn", desc := "(IIII)Z" } : MethodName) "LiftRows2" ∈ zNest := List.mem_of_getElem? (i := 38) rfl
theorem zl_RX3_259 : Cond.methodLinkNest "LiftRows2" (259) ({ cls := "LiftRows2$Events", name := "add", desc := "(IIII)V" } : MethodName) "LiftRows2" ∈ zNest := List.mem_of_getElem? (i := 39) rfl
theorem zl_RX3_114 : Cond.methodLinkNest "LiftRows2" (114) ({ cls := "LiftRows2$Calls", name := "loadAboard", desc := "(I)I" } : MethodName) "LiftRows2" ∈ zNest := List.mem_of_getElem? (i := 40) rfl
theorem zl_RX3_239 : Cond.methodLinkNest "LiftRows2" (239) ({ cls := "LiftRows2$Calls", name := "hasWork", desc := "(III)Z" } : MethodName) "LiftRows2" ∈ zNest := List.mem_of_getElem? (i := 41) rfl
theorem zl_RX3_242 : Cond.methodLinkNest "LiftRows2" (242) ({ cls := "LiftRows2$Lifts", name := "go", desc := "(IZZ)V" } : MethodName) "LiftRows2" ∈ zNest := List.mem_of_getElem? (i := 42) rfl
theorem zl_RX3_168 : Cond.methodLinkNest "LiftRows2" (168) ({ cls := "LiftRows2$Calls", name := "setOf", desc := "(II)I" } : MethodName) "LiftRows2" ∈ zNest := List.mem_of_getElem? (i := 43) rfl
theorem zl_RX3_262 : Cond.methodLinkNest "LiftRows2" (262) ({ cls := "LiftRows2$Calls", name := "setFrom", desc := "(I)I" } : MethodName) "LiftRows2" ∈ zNest := List.mem_of_getElem? (i := 44) rfl
theorem zl_RX3_265 : Cond.methodLinkNest "LiftRows2" (265) ({ cls := "LiftRows2$Calls", name := "setTo", desc := "(I)I" } : MethodName) "LiftRows2" ∈ zNest := List.mem_of_getElem? (i := 45) rfl
theorem zl_RX3_268 : Cond.methodLinkNest "LiftRows2" (268) ({ cls := "LiftRows2$Calls", name := "nearestStop", desc := "(IIII)I" } : MethodName) "LiftRows2" ∈ zNest := List.mem_of_getElem? (i := 46) rfl
def zIsN : Cond → Bool
  | .fieldLinkNest _ _ _ _ _ _ => true
  | .methodLinkNest _ _ _ _ => true
  | _ => false
/-- the links between the nest's classes -/
def zE (U : State) : Prop := ∀ w ∈ zNest, va_Nw w U
theorem zNest_k : zNest.all zIsN = true := by decide +kernel
theorem zE.same {u U : State} (h : u.vm = U.vm) (hZ : zE u) : zE U := fun w hw => by
  have hk := List.all_eq_true.mp zNest_k w hw
  have h1 := hZ w hw
  cases w <;> first | (simp [zIsN] at hk; done) | exact va_Nw.same rfl h h1
theorem zE.warm {s U : State} (hW : s.WarmedH U.vm) (hZ : zE s) : zE U := fun w hw => by
  have hk := List.all_eq_true.mp zNest_k w hw
  have h1 := hZ w hw
  cases w <;> first | (simp [zIsN] at hk; done) | exact va_Nw.warmF hW h1 | exact va_Nw.warmM hW h1
/-- a contract's start -/
def zP (D : va_G) (cI cZ cJ : ClassId) (w : va_W) (sz : Nat) (av : List Value) : Array Value → State → Prop :=
  va_Pc av (fun U => U.heap.size = sz ∧ va_P D vwCl w U.heap ∧ va_K D vwCl (zT cI cZ cJ) U ∧ zE U ∧ va_D (fun _ => True) w)
theorem zP.blind {D : va_G} {cI cZ cJ : ClassId} {w : va_W} {sz : Nat} {av : List Value} : FrameBlind (zP D cI cZ cJ w sz av) := fun a U g mk q => by
  obtain ⟨q0, q1, qP, qK, qE, qD⟩ := q
  exact ⟨q0, q1, qP, va_K.moved (u := U) (U := U.calling g mk a) (Vm.Alike.refl U.vm) qK, zE.same (u := U) rfl qE, qD⟩
/-- the world behind it -/
def zB (D : va_G) : va_W → State → Prop := fun w' t => va_P D vwCl w' t.heap
def zQi (D : va_G) (w : va_W) (P : Int32 → va_W → Prop) (A : Nat → Prop) : Array Value → State → Outcome → State → Prop := va_Qi (fun r w' => P r w' ∧ w'.map (·.1) = w.map (·.1)) (zB D) A
def zQv (D : va_G) (w : va_W) (P : va_W → Prop) (A : Nat → Prop) : Array Value → State → Outcome → State → Prop := va_Qv (fun w' => P w' ∧ w'.map (·.1) = w.map (·.1)) (zB D) A
/-- a method that makes nothing and answers an int -/
def zMi (l : Launch) (y : MethodName) (ws : List Cond) (rm : Room) (D : va_G) (cI cZ cJ : ClassId) (w : va_W) (sz : Nat) (av : List Value) (P : Int32 → va_W → Prop) : Prop :=
  Met l y ws rm (zP D cI cZ cJ w sz av) (zQi D w P (va_A w sz)) 0 0 (va_A w sz)
def zMv (l : Launch) (y : MethodName) (ws : List Cond) (rm : Room) (D : va_G) (cI cZ cJ : ClassId) (w : va_W) (sz : Nat) (av : List Value) (P : va_W → Prop) : Prop :=
  Met l y ws rm (zP D cI cZ cJ w sz av) (zQv D w P (va_A w sz)) 0 0 (va_A w sz)
/-- what stands at a method's entry, in one word -/
def zAt (p : Program) (s : State) (m : MethodId) (meth : Method) (c : Code) (av : List Value) (cc : ByteArray) (maxL : Nat) (ret : Option FieldType) (ws : List Cond) (y : MethodName) (D : va_G) (cI cZ cJ : ClassId) (A : Nat → Prop) : Prop :=
  p.tables.exec = Jvm.exec ∧ c.code = cc ∧ meth.sig.returnType = ret ∧ c.maxLocals = maxL ∧ meth.locks = false ∧ (∀ w ∈ ws, w.before av.toArray s = true) ∧ s.vm.findClass y.cls = some m.cls ∧ meth.name = y.name ∧ va_K D vwCl (zT cI cZ cJ) s ∧ zE s ∧ (∀ q, s.heap.size ≤ q → A q)
theorem z_head {l : Launch} {y : MethodName} {ws ws' : List Cond} {rm : Room} {D : va_G} {cI cZ cJ : ClassId} {w : va_W} {sz : Nat} {av : List Value} {cc : ByteArray} {maxL : Nat} {ret : Option FieldType} {Qc : (Nat → Prop) → Array Value → State → Outcome → State → Prop} {mc ms : Nat}
    (hy : plainName y.cls = true) (hw : ws = Cond.code y cc maxL ret :: ws') (hav : (lg_sl av).length ≤ maxL)
    (body : ∀ p e s m below meth c ls A, zAt p s m meth c av cc maxL ret ws y D cI cZ cJ A → va_P D vwCl w s.heap → va_D A w → va_S A s.heap s.heap [] → lv_has ls maxL (lv_args 0 av) →
      W p l e rm s m av.toArray below meth c s.heap [] 0 0 (MQ below (Qc A) av.toArray s mc ms A) (F0 m 0 ls [])) :
    Met l y ws rm (zP D cI cZ cJ w sz av) (Qc (va_A w sz)) mc ms (va_A w sz) := by
  refine Met.ofW (cc := cc) (maxL := maxL) (ret := ret) hy hw ?_
  intro p e s m args below meth c s₁ B hml hv
  obtain ⟨rfl, hsz, hP, hK, hE, hD0⟩ := hv
  subst hsz
  have hl := lv_entry av (n := maxL) hav
  rw [lg_entry_eq]
  generalize (lg_sl av ++ List.replicate (maxL - (lg_sl av).length) Slot.unset).toArray = ls at hl ⊢
  exact body p e s m below meth c ls (va_A w s.heap.size) ⟨B.exec, B.bytes, B.returns, hml, B.notSynchronized, atoms_spec (ws := ws) B.pre, findClass_of_methodNamed B.named, (name_of_methodNamed B.named B.method).1, hK, hE, fun q h => Or.inr h⟩ hP hD0.self va_S.rf hl
theorem z_headF {l : Launch} {y : MethodName} {ws ws' : List Cond} {rm : Room} {D : va_G} {cI cZ cJ : ClassId} {w : va_W} {sz : Nat} {av : List Value} {cc : ByteArray} {maxL : Nat} {ret : Option FieldType} {Qc : (Nat → Prop) → Array Value → State → Outcome → State → Prop} {mc ms : Nat}
    (hy : plainFor y = true) (hw : ws = Cond.code y cc maxL ret :: ws') (hav : (lg_sl av).length ≤ maxL)
    (body : ∀ p e s m below meth c ls A, zAt p s m meth c av cc maxL ret ws y D cI cZ cJ A → va_P D vwCl w s.heap → va_D A w → va_S A s.heap s.heap [] → lv_has ls maxL (lv_args 0 av) →
      W p l e rm s m av.toArray below meth c s.heap [] 0 0 (MQ below (Qc A) av.toArray s mc ms A) (F0 m 0 ls [])) :
    Met l y ws rm (zP D cI cZ cJ w sz av) (Qc (va_A w sz)) mc ms (va_A w sz) := by
  refine va_MetF (cc := cc) (maxL := maxL) (ret := ret) hy hw ?_
  intro p e s m args below meth c s₁ B hml hv
  obtain ⟨rfl, hsz, hP, hK, hE, hD0⟩ := hv
  subst hsz
  have hl := lv_entry av (n := maxL) hav
  rw [lg_entry_eq]
  generalize (lg_sl av ++ List.replicate (maxL - (lg_sl av).length) Slot.unset).toArray = ls at hl ⊢
  exact body p e s m below meth c ls (va_A w s.heap.size) ⟨B.exec, B.bytes, B.returns, hml, B.notSynchronized, atoms_spec (ws := ws) B.pre, findClass_of_methodNamed B.named, (name_of_methodNamed B.named B.method).1, hK, hE, fun q h => Or.inr h⟩ hP hD0.self va_S.rf hl
/-- a world with the places 'is' filled anew -/
def zput (w : va_W) : List Nat → va_W → va_W
  | i :: is, x :: xs => zput (w.set i x) is xs
  | _, _ => w
theorem zput_fst : ∀ (is : List Nat) (xs w : va_W), (is.map (fun i => (w[i]?).map (·.1)) = xs.map (fun x => some x.1)) → (zput w is xs).map (·.1) = w.map (·.1)
  | [], _, _, _ => by simp [zput]
  | _ :: _, [], _, _ => by simp [zput]
  | i :: is, x :: xs, w, h => by
    simp only [List.map_cons, List.cons.injEq] at h
    obtain ⟨h1, h2⟩ := h
    have hs : (w.set i x).map (·.1) = w.map (·.1) := by
      rw [List.map_set]
      obtain ⟨y, hy, he⟩ := Option.map_eq_some_iff.mp h1
      apply List.ext_getElem?
      intro j
      rw [List.getElem?_set]
      by_cases hij : i = j
      · subst hij
        have hlt : i < w.length := (List.getElem?_eq_some_iff.mp hy).1
        have hw : w[i] = y := (List.getElem?_eq_some_iff.mp hy).2
        simp [hlt, hw, he]
      · simp [hij]
    show (zput (w.set i x) is xs).map (·.1) = w.map (·.1)
    rw [zput_fst is xs (w.set i x), hs]
    rw [← h2]
    apply List.map_congr_left
    intro j _
    have e1 : ((w.set i x)[j]?).map (·.1) = ((w.set i x).map (·.1))[j]? := by rw [List.getElem?_map]
    have e2 : (w[j]?).map (·.1) = (w.map (·.1))[j]? := by rw [List.getElem?_map]
    rw [e1, e2, hs]
theorem zD_congr {A : Nat → Prop} {w w' : va_W} (h : w'.map (·.1) = w.map (·.1)) (hD : va_D A w) : va_D A w' := by
  have key : ∀ (k : Nat) (q : Nat × va_E), w'[k]? = some q → ∃ q', w[k]? = some q' ∧ q'.1 = q.1 := by
    intro k q hq
    have e1 : (w'.map (·.1))[k]? = some q.1 := by rw [List.getElem?_map, hq]; rfl
    rw [h, List.getElem?_map] at e1
    exact Option.map_eq_some_iff.mp e1
  refine ⟨fun i j a b ha hb hab => ?_, fun k q hq => ?_⟩
  · obtain ⟨a', h1, h2⟩ := key i a ha
    obtain ⟨b', h3, h4⟩ := key j b hb
    exact hD.1 i j a' b' h1 h3 (by rw [h2, h4, hab])
  · obtain ⟨q', h1, h2⟩ := key k q hq
    rw [← h2]
    exact hD.2 k q' h1
theorem zput_get : ∀ (is : List Nat) (xs w : va_W) (k : Nat) (q : Nat × va_E), (zput w is xs)[k]? = some q → (∃ j : Nat, is[j]? = some k ∧ xs[j]? = some q) ∨ (w[k]? = some q ∧ ∀ j : Nat, j < xs.length → is[j]? ≠ some k)
  | [], xs, w, k, q, h => Or.inr ⟨by simpa [zput] using h, fun j _ => by simp⟩
  | i :: is, [], w, k, q, h => Or.inr ⟨by simpa [zput] using h, fun j hj => absurd hj (Nat.not_lt_zero j)⟩
  | i :: is, x :: xs, w, k, q, h => by
    have h' : (zput (w.set i x) is xs)[k]? = some q := h
    rcases zput_get is xs (w.set i x) k q h' with ⟨j, h1, h2⟩ | ⟨h1, h2⟩
    · exact Or.inl ⟨j + 1, by simpa using h1, by simpa using h2⟩
    · rw [List.getElem?_set] at h1
      by_cases hik : i = k
      · subst hik
        rw [if_pos rfl] at h1
        by_cases hl : i < w.length
        · rw [if_pos hl] at h1
          exact Or.inl ⟨0, rfl, h1⟩
        · rw [if_neg hl] at h1; cases h1
      · rw [if_neg hik] at h1
        refine Or.inr ⟨h1, fun j hj => ?_⟩
        cases j with
        | zero => simp [hik]
        | succ j => simpa using h2 j (by simpa using hj)
theorem zjoin {A0 : Nat → Prop} {D : va_G} {cl : List vw_C} {w wc w1 : va_W} {H H1 : Heap} (hP : va_P D cl w H) (hD : va_D A0 w) (isC : List Nat) (hC : isC.map (fun i => w[i]?) = wc.map some) (h1 : w1.map (·.1) = wc.map (·.1))
    (hk : ∀ q : Nat, q < H.size → ¬ va_A wc H.size q → H1[q]? = H[q]?) (hP1 : va_P D cl w1 H1) : va_P D cl (zput w isC w1) H1 ∧ va_D A0 (zput w isC w1) := by
  have hlen : isC.length = wc.length := by have := congrArg List.length hC; simpa using this
  have hlen1 : w1.length = wc.length := by have := congrArg List.length h1; simpa using this
  have atC : ∀ (j : Nat) (q : Nat × va_E), wc[j]? = some q → ∃ i, isC[j]? = some i ∧ w[i]? = some q := by
    intro j q hq
    have e : (isC.map (fun i => w[i]?))[j]? = some (some q) := by rw [hC, List.getElem?_map, hq]; rfl
    rw [List.getElem?_map] at e
    obtain ⟨i, hi, he⟩ := Option.map_eq_some_iff.mp e
    exact ⟨i, hi, he⟩
  refine ⟨fun k q hq => ?_, zD_congr (zput_fst isC w1 w ?_) hD⟩
  · rcases zput_get isC w1 w k q hq with ⟨j, -, hj⟩ | ⟨hq, hn⟩
    · exact hP1 j q hj
    · have hl := (hP k q hq).lt
      refine (hP k q hq).kept (hk q.1 hl fun hz => ?_)
      rcases hz with ⟨j, e, he⟩ | hz
      · obtain ⟨i, hi, hwi⟩ := atC j (q.1, e) he
        have hik := hD.1 i k (q.1, e) q hwi hq rfl
        subst hik
        exact hn j (by rw [hlen1]; exact (List.getElem?_eq_some_iff.mp he).1) hi
      · omega
  · have e1 : isC.map (fun i => (w[i]?).map (·.1)) = (isC.map (fun i => w[i]?)).map (fun o => o.map (·.1)) := by rw [List.map_map]; rfl
    rw [e1, hC, List.map_map]
    have e2 : w1.map (fun x => some x.1) = (w1.map (·.1)).map some := by rw [List.map_map]; rfl
    rw [e2, h1, List.map_map]
    rfl
theorem zsub {D : va_G} {cl : List vw_C} {w wc : va_W} {H : Heap} (hP : va_P D cl w H) {isC : List Nat} (hC : isC.map (fun i => w[i]?) = wc.map some) : va_P D cl wc H := by
  intro k q hq
  have e : (isC.map (fun i => w[i]?))[k]? = some (some q) := by rw [hC, List.getElem?_map, hq]; rfl
  rw [List.getElem?_map] at e
  obtain ⟨i, hi, he⟩ := Option.map_eq_some_iff.mp e
  exact hP i q he
/-- truth as a number -/
def bI (b : Bool) : Int32 := if b = true then 1 else 0
theorem bI_01 (b : Bool) : bI b = 0 ∨ bI b = 1 := by cases b <;> simp [bI]
theorem bI_t : bI true = 1 := rfl
theorem bI_f : bI false = 0 := rfl
theorem bI_eq0 {b : Bool} : bI b = 0 ↔ b = false := by cases b <;> simp [bI]
theorem bI_ne0 {b : Bool} : ¬ bI b = 0 ↔ b = true := by cases b <;> simp [bI]
section ZZ
variable {p : Program} {l : Launch} {e : Env} {R : Room} {s : State} {m : MethodId} {args : Array Value} {below : List Frame} {meth : Method} {c : Code} {H : Heap} {locs : List Loc} {cells slots : Nat} {Q : State → Prop}
variable {cc : ByteArray} {pc : Nat} {ls : Array Slot} {st0 rest : List Value} {D : va_G} {A : Nat → Prop} {cI cZ cJ : ClassId} {w wc : va_W} {H0 : Heap} {a : Array Value}
/-- behind a call that answers an int -/
theorem z_backi {P : Int32 → va_W → Prop} (hr : va_Run p l e R s m args below meth c H locs cells slots 0 0 (F0 m pc ls st0) rest (zQi D wc P (va_A wc H.size) a) (va_A wc H.size)) (hP : va_P D vwCl w H) (hD : va_D A w) (hS : va_S A H0 H locs) (hA : ∀ q, H0.size ≤ q → A q) (isC : List Nat) (hC : isC.map (fun i => w[i]?) = wc.map some)
    (kk : ∀ (r : Int32) (w1 : va_W) (H1 : Heap) (locs1 : List Loc), P r w1 → va_P D vwCl (zput w isC w1) H1 → va_D A (zput w isC w1) → va_S A H0 H1 locs1 → W p l e R s m args below meth c H1 locs1 cells slots Q (F0 m (pc + 3) ls (.int r :: rest))) : W p l e R s m args below meth c H locs cells slots Q (F0 m pc ls st0) := by
  have hFc := va_free (wc := wc) hD hS hA isC hC
  refine va_calli hr hS (fun q _ h => hFc q h) hFc (fun r w1 t H1 locs1 ht _ hpost hB _ hk hS1 => ?_)
  have hP1 : va_P D vwCl w1 H1 := by rw [← ht]; exact hB
  obtain ⟨j1, j2⟩ := zjoin hP hD isC hC hpost.2 hk hP1
  exact kk r w1 H1 locs1 hpost.1 j1 j2 hS1
theorem z_backv {P : va_W → Prop} (hr : va_Run p l e R s m args below meth c H locs cells slots 0 0 (F0 m pc ls st0) rest (zQv D wc P (va_A wc H.size) a) (va_A wc H.size)) (hP : va_P D vwCl w H) (hD : va_D A w) (hS : va_S A H0 H locs) (hA : ∀ q, H0.size ≤ q → A q) (isC : List Nat) (hC : isC.map (fun i => w[i]?) = wc.map some)
    (kk : ∀ (w1 : va_W) (H1 : Heap) (locs1 : List Loc), P w1 → va_P D vwCl (zput w isC w1) H1 → va_D A (zput w isC w1) → va_S A H0 H1 locs1 → W p l e R s m args below meth c H1 locs1 cells slots Q (F0 m (pc + 3) ls rest)) : W p l e R s m args below meth c H locs cells slots Q (F0 m pc ls st0) := by
  have hFc := va_free (wc := wc) hD hS hA isC hC
  refine va_callv hr hS (fun q _ h => hFc q h) hFc (fun w1 t H1 locs1 ht _ hpost hB _ hk hS1 => ?_)
  have hP1 : va_P D vwCl w1 H1 := by rw [← ht]; exact hB
  obtain ⟨j1, j2⟩ := zjoin hP hD isC hC hpost.2 hk hP1
  exact kk w1 H1 locs1 hpost.1 j1 j2 hS1
/-- the same where the callee's world is the caller's -/
theorem z_backiA {P : Int32 → va_W → Prop} (hr : va_Run p l e R s m args below meth c H locs cells slots 0 0 (F0 m pc ls st0) rest (zQi D w P (va_A w H.size) a) (va_A w H.size)) (hD : va_D A w) (hS : va_S A H0 H locs) (hA : ∀ q, H0.size ≤ q → A q)
    (kk : ∀ (r : Int32) (w1 : va_W) (H1 : Heap) (locs1 : List Loc), P r w1 → va_P D vwCl w1 H1 → va_D A w1 → va_S A H0 H1 locs1 → W p l e R s m args below meth c H1 locs1 cells slots Q (F0 m (pc + 3) ls (.int r :: rest))) : W p l e R s m args below meth c H locs cells slots Q (F0 m pc ls st0) := by
  have hFc : ∀ q, va_A w H.size q → A q := fun q h => by
    rcases h with ⟨k, e, h⟩ | h
    · exact hD.2 k (q, e) h
    · exact hA q (Nat.le_trans hS.1 h)
  refine va_calli hr hS (fun q _ h => hFc q h) hFc (fun r w1 t H1 locs1 ht _ hpost hB _ hk hS1 => ?_)
  exact kk r w1 H1 locs1 hpost.1 (by rw [← ht]; exact hB) (zD_congr hpost.2 hD) hS1
theorem z_backvA {P : va_W → Prop} (hr : va_Run p l e R s m args below meth c H locs cells slots 0 0 (F0 m pc ls st0) rest (zQv D w P (va_A w H.size) a) (va_A w H.size)) (hD : va_D A w) (hS : va_S A H0 H locs) (hA : ∀ q, H0.size ≤ q → A q)
    (kk : ∀ (w1 : va_W) (H1 : Heap) (locs1 : List Loc), P w1 → va_P D vwCl w1 H1 → va_D A w1 → va_S A H0 H1 locs1 → W p l e R s m args below meth c H1 locs1 cells slots Q (F0 m (pc + 3) ls rest)) : W p l e R s m args below meth c H locs cells slots Q (F0 m pc ls st0) := by
  have hFc : ∀ q, va_A w H.size q → A q := fun q h => by
    rcases h with ⟨k, e, h⟩ | h
    · exact hD.2 k (q, e) h
    · exact hA q (Nat.le_trans hS.1 h)
  refine va_callv hr hS (fun q _ h => hFc q h) hFc (fun w1 t H1 locs1 ht _ hpost hB _ hk hS1 => ?_)
  exact kk w1 H1 locs1 hpost.1 (by rw [← ht]; exact hB) (zD_congr hpost.2 hD) hS1
/-- what a callee of ours asks of the state at the call -/
theorem z_pre (hK : va_K D vwCl (zT cI cZ cJ) s) (hE : zE s) (hPc : va_P D vwCl wc H) (hDc : va_D A wc) (As : List Value) : ∀ U : State, U.heap = H → s.WarmedH U.vm → zP D cI cZ cJ wc H.size As As.toArray U :=
  fun U hU hW => ⟨rfl, by rw [hU], by rw [hU]; exact hPc, va_K.moved hW.alike hK, hE.warm hW, hDc.weaken (fun _ _ _ _ => trivial)⟩
variable {y : MethodName} {ws ws' Ts : List Cond} {rm : Room} {bytes : ByteArray} {maxL nL index n ci N : Nat} {ret : Option FieldType} {own C host : String} {b : Addr} {As : List Value} {T : u_T} {fs : List Value} {Qc : Array Value → State → Outcome → State → Prop} {free : Addr → Prop}
/-- invokevirtual, same class -/
theorem z_runV (hx : p.tables.exec = Jvm.exec) (hb : c.code = cc) (hml : c.maxLocals = nL) (hown : s.vm.findClass own = some m.cls) (hts : ∀ w ∈ Ts, w.before args s = true) (hK : va_K D vwCl (zT cI cZ cJ) s) (hE : zE s)
    (hP : va_P D vwCl w H) (hD : va_D A w) (isC : List Nat) (hC : isC.map (fun i => w[i]?) = wc.map some) (hnd : va_nd isC = true)
    (hM : Met l y ws rm (zP D cI cZ cJ wc H.size (.ref b :: As)) Qc 0 0 free) (hG : GoodIn Ts (wsV own index C y ws)) (hw : ws = Cond.code y bytes maxL ret :: ws') (hrc : rm.cells = 0) (hrs : rm.slots = 0)
    (hd : y.cls = C ∧ y.cls ≠ "java/lang/invoke/MethodHandle" ∧ y.cls ≠ "java/lang/invoke/VarHandle" ∧ (parseMethodDescriptor y.desc).map (fun d => d.parameters.length) = some n) (hR : rm.frames + 1 ≤ R.frames ∧ 8 + (maxL + 11) + rm.locals ≤ R.locals)
    (hci : vwCl[ci]? = some (C, T, N)) (hq0 : wc[0]? = some (b, .inr (ci, fs))) (hn : As.length = n) (hls : ls.size = nL) (hst : st0 = As.reverse ++ .ref b :: rest) (hW : (rest.map fun v => v.category).sum ≤ 8) (hdg : decode cc pc = .ok (.invokevirtual index, 3)) (hf : cells ≤ R.cells ∧ slots ≤ R.slots) :
    va_Run p l e R s m args below meth c H locs cells slots 0 0 (F0 m pc ls st0) rest (Qc (Value.ref b :: As).toArray) free :=
  va_runV (As := As) ⟨hx, hb, hml, hown, hts⟩ hM (cwV n hts hG hw hrc hrs hd hR) ⟨zP.blind, va_recv hK (zsub hP hC) hci hq0, z_pre hK hE (zsub hP hC) (hD.sub isC hnd hC) (.ref b :: As)⟩ rfl hn hls hst (lv_room hW) hdg hf
/-- .. on the caller's own world -/
theorem z_runVA (hx : p.tables.exec = Jvm.exec) (hb : c.code = cc) (hml : c.maxLocals = nL) (hown : s.vm.findClass own = some m.cls) (hts : ∀ w ∈ Ts, w.before args s = true) (hK : va_K D vwCl (zT cI cZ cJ) s) (hE : zE s)
    (hP : va_P D vwCl w H) (hD : va_D A w) 
    (hM : Met l y ws rm (zP D cI cZ cJ w H.size (.ref b :: As)) Qc 0 0 free) (hG : GoodIn Ts (wsV own index C y ws)) (hw : ws = Cond.code y bytes maxL ret :: ws') (hrc : rm.cells = 0) (hrs : rm.slots = 0)
    (hd : y.cls = C ∧ y.cls ≠ "java/lang/invoke/MethodHandle" ∧ y.cls ≠ "java/lang/invoke/VarHandle" ∧ (parseMethodDescriptor y.desc).map (fun d => d.parameters.length) = some n) (hR : rm.frames + 1 ≤ R.frames ∧ 8 + (maxL + 11) + rm.locals ≤ R.locals)
    (hci : vwCl[ci]? = some (C, T, N)) (hq0 : w[0]? = some (b, .inr (ci, fs))) (hn : As.length = n) (hls : ls.size = nL) (hst : st0 = As.reverse ++ .ref b :: rest) (hW : (rest.map fun v => v.category).sum ≤ 8) (hdg : decode cc pc = .ok (.invokevirtual index, 3)) (hf : cells ≤ R.cells ∧ slots ≤ R.slots) :
    va_Run p l e R s m args below meth c H locs cells slots 0 0 (F0 m pc ls st0) rest (Qc (Value.ref b :: As).toArray) free :=
  va_runV (As := As) ⟨hx, hb, hml, hown, hts⟩ hM (cwV n hts hG hw hrc hrs hd hR) ⟨zP.blind, va_recv hK hP hci hq0, z_pre hK hE hP hD (.ref b :: As)⟩ rfl hn hls hst (lv_room hW) hdg hf
/-- invokevirtual of a nest mate's private method -/
theorem z_runVN (hx : p.tables.exec = Jvm.exec) (hb : c.code = cc) (hml : c.maxLocals = nL) (hown : s.vm.findClass own = some m.cls) (hts : ∀ w ∈ Ts, w.before args s = true) (hK : va_K D vwCl (zT cI cZ cJ) s) (hE : zE s)
    (hP : va_P D vwCl w H) (hD : va_D A w) (isC : List Nat) (hC : isC.map (fun i => w[i]?) = wc.map some) (hnd : va_nd isC = true)
    (hM : Met l y ws rm (zP D cI cZ cJ wc H.size (.ref b :: As)) Qc 0 0 free) (hG : GoodIn Ts ws) (hw : ws = Cond.code y bytes maxL ret :: ws') (hrc : rm.cells = 0) (hrs : rm.slots = 0)
    (hl : Cond.methodLinkNest own index y host ∈ zNest) (hini : Cond.initialized y.cls ∈ Ts) (hin : Cond.instanceMethod y ∈ Ts) (hse : Cond.selects C y y ∈ Ts)
    (hd : y.cls ≠ "java/lang/invoke/MethodHandle" ∧ y.cls ≠ "java/lang/invoke/VarHandle" ∧ (parseMethodDescriptor y.desc).map (fun d => d.parameters.length) = some n) (hR : rm.frames + 1 ≤ R.frames ∧ 8 + (maxL + 11) + rm.locals ≤ R.locals)
    (hci : vwCl[ci]? = some (C, T, N)) (hq0 : wc[0]? = some (b, .inr (ci, fs))) (hn : As.length = n) (hls : ls.size = nL) (hst : st0 = As.reverse ++ .ref b :: rest) (hW : (rest.map fun v => v.category).sum ≤ 8) (hdg : decode cc pc = .ok (.invokevirtual index, 3)) (hf : cells ≤ R.cells ∧ slots ≤ R.slots) :
    va_Run p l e R s m args below meth c H locs cells slots 0 0 (F0 m pc ls st0) rest (Qc (Value.ref b :: As).toArray) free :=
  va_runVN (As := As) ⟨hx, hb, hml, hown, hts⟩ hM ⟨va_cnB n hts hG hw hrc hrs (hE _ hl) (hts _ hini) hd hR, hts _ hin, hts _ hse⟩ ⟨zP.blind, va_recv hK (zsub hP hC) hci hq0, z_pre hK hE (zsub hP hC) (hD.sub isC hnd hC) (.ref b :: As)⟩ rfl hn hls hst (lv_room hW) hdg hf
/-- invokestatic -/
theorem z_runS (hx : p.tables.exec = Jvm.exec) (hb : c.code = cc) (hml : c.maxLocals = nL) (hown : s.vm.findClass own = some m.cls) (hts : ∀ w ∈ Ts, w.before args s = true) (hK : va_K D vwCl (zT cI cZ cJ) s) (hE : zE s)
    (hP : va_P D vwCl w H) (hD : va_D A w) (isC : List Nat) (hC : isC.map (fun i => w[i]?) = wc.map some) (hnd : va_nd isC = true)
    (hM : Met l y ws rm (zP D cI cZ cJ wc H.size As) Qc 0 0 free) (hG : GoodIn Ts (va_wsS own index y ws)) (hw : ws = Cond.code y bytes maxL ret :: ws') (hrc : rm.cells = 0) (hrs : rm.slots = 0)
    (hd : y.cls ≠ "java/lang/invoke/MethodHandle" ∧ y.cls ≠ "java/lang/invoke/VarHandle" ∧ (parseMethodDescriptor y.desc).map (fun d => d.parameters.length) = some n) (hR : rm.frames + 1 ≤ R.frames ∧ 8 + (maxL + 11) + rm.locals ≤ R.locals)
    (hn : As.length = n) (hls : ls.size = nL) (hst : st0 = As.reverse ++ rest) (hW : (rest.map fun v => v.category).sum ≤ 8) (hdg : decode cc pc = .ok (.invokestatic index, 3)) (hf : cells ≤ R.cells ∧ slots ≤ R.slots) :
    va_Run p l e R s m args below meth c H locs cells slots 0 0 (F0 m pc ls st0) rest (Qc As.toArray) free :=
  va_runS (As := As) ⟨hx, hb, hml, hown, hts⟩ hM (va_cwS n hts hG hw hrc hrs hd hR) ⟨zP.blind, z_pre hK hE (zsub hP hC) (hD.sub isC hnd hC) As⟩ rfl hn hls hst (lv_room hW) hdg hf
/-- .. on the caller's own world -/
theorem z_runSA (hx : p.tables.exec = Jvm.exec) (hb : c.code = cc) (hml : c.maxLocals = nL) (hown : s.vm.findClass own = some m.cls) (hts : ∀ w ∈ Ts, w.before args s = true) (hK : va_K D vwCl (zT cI cZ cJ) s) (hE : zE s)
    (hP : va_P D vwCl w H) (hD : va_D A w) 
    (hM : Met l y ws rm (zP D cI cZ cJ w H.size As) Qc 0 0 free) (hG : GoodIn Ts (va_wsS own index y ws)) (hw : ws = Cond.code y bytes maxL ret :: ws') (hrc : rm.cells = 0) (hrs : rm.slots = 0)
    (hd : y.cls ≠ "java/lang/invoke/MethodHandle" ∧ y.cls ≠ "java/lang/invoke/VarHandle" ∧ (parseMethodDescriptor y.desc).map (fun d => d.parameters.length) = some n) (hR : rm.frames + 1 ≤ R.frames ∧ 8 + (maxL + 11) + rm.locals ≤ R.locals)
    (hn : As.length = n) (hls : ls.size = nL) (hst : st0 = As.reverse ++ rest) (hW : (rest.map fun v => v.category).sum ≤ 8) (hdg : decode cc pc = .ok (.invokestatic index, 3)) (hf : cells ≤ R.cells ∧ slots ≤ R.slots) :
    va_Run p l e R s m args below meth c H locs cells slots 0 0 (F0 m pc ls st0) rest (Qc As.toArray) free :=
  va_runS (As := As) ⟨hx, hb, hml, hown, hts⟩ hM (va_cwS n hts hG hw hrc hrs hd hR) ⟨zP.blind, z_pre hK hE hP hD As⟩ rfl hn hls hst (lv_room hW) hdg hf
/-- invokestatic of a nest mate's private method -/
theorem z_runSN (hx : p.tables.exec = Jvm.exec) (hb : c.code = cc) (hml : c.maxLocals = nL) (hown : s.vm.findClass own = some m.cls) (hts : ∀ w ∈ Ts, w.before args s = true) (hK : va_K D vwCl (zT cI cZ cJ) s) (hE : zE s)
    (hP : va_P D vwCl w H) (hD : va_D A w) (isC : List Nat) (hC : isC.map (fun i => w[i]?) = wc.map some) (hnd : va_nd isC = true)
    (hM : Met l y ws rm (zP D cI cZ cJ wc H.size As) Qc 0 0 free) (hG : GoodIn Ts ws) (hw : ws = Cond.code y bytes maxL ret :: ws') (hrc : rm.cells = 0) (hrs : rm.slots = 0)
    (hl : Cond.methodLinkNest own index y host ∈ zNest) (hini : Cond.initialized y.cls ∈ Ts) (hstt : Cond.static y ∈ Ts)
    (hd : y.cls ≠ "java/lang/invoke/MethodHandle" ∧ y.cls ≠ "java/lang/invoke/VarHandle" ∧ (parseMethodDescriptor y.desc).map (fun d => d.parameters.length) = some n) (hR : rm.frames + 1 ≤ R.frames ∧ 8 + (maxL + 11) + rm.locals ≤ R.locals)
    (hn : As.length = n) (hls : ls.size = nL) (hst : st0 = As.reverse ++ rest) (hW : (rest.map fun v => v.category).sum ≤ 8) (hdg : decode cc pc = .ok (.invokestatic index, 3)) (hf : cells ≤ R.cells ∧ slots ≤ R.slots) :
    va_Run p l e R s m args below meth c H locs cells slots 0 0 (F0 m pc ls st0) rest (Qc As.toArray) free :=
  va_runSN (As := As) ⟨hx, hb, hml, hown, hts⟩ hM ⟨va_cnB n hts hG hw hrc hrs (hE _ hl) (hts _ hini) hd hR, hts _ hstt, trivial⟩ ⟨zP.blind, z_pre hK hE (zsub hP hC) (hD.sub isC hnd hC) As⟩ rfl hn hls hst (lv_room hW) hdg hf
/-- ends -/
theorem z_iret {P : Int32 → va_W → Prop} {w' : va_W} {v : Int32} (hx : p.tables.exec = Jvm.exec) (hb : c.code = cc) (hr : meth.sig.returnType = some .int) (hlocks : meth.locks = false) (hS : va_S A s.heap H locs) (hP : va_P D vwCl w' H) (hm : w'.map (·.1) = w.map (·.1)) (hdg : decode cc pc = .ok (.ireturn, 1)) (hp : P v w') :
    W p l e R s m args below meth c H locs cells slots (MQ below (zQi D w P A) args s cells slots A) (F0 m pc ls [.int v]) :=
  W.iret hx hb hr (fun t ht hW => ⟨⟨v, w', rfl, ⟨hp, hm⟩, by show va_P D vwCl w' t.heap; rw [ht]; exact hP⟩, hS.F ht⟩) hS.2.2 hdg hlocks
theorem z_zret {P : Int32 → va_W → Prop} {w' : va_W} {v : Int32} (hx : p.tables.exec = Jvm.exec) (hb : c.code = cc) (hr : meth.sig.returnType = some .boolean) (hlocks : meth.locks = false) (hS : va_S A s.heap H locs) (hP : va_P D vwCl w' H) (hm : w'.map (·.1) = w.map (·.1)) (hv : v = 0 ∨ v = 1) (hdg : decode cc pc = .ok (.ireturn, 1)) (hp : P v w') :
    W p l e R s m args below meth c H locs cells slots (MQ below (zQi D w P A) args s cells slots A) (F0 m pc ls [.int v]) :=
  W.zret hx hb hr (by rcases hv with rfl | rfl <;> decide) (fun t ht hW => ⟨⟨v, w', rfl, ⟨hp, hm⟩, by show va_P D vwCl w' t.heap; rw [ht]; exact hP⟩, hS.F ht⟩) hS.2.2 hdg hlocks
theorem z_vret {P : va_W → Prop} {w' : va_W} (hx : p.tables.exec = Jvm.exec) (hb : c.code = cc) (hr : meth.sig.returnType = none) (hlocks : meth.locks = false) (hS : va_S A s.heap H locs) (hP : va_P D vwCl w' H) (hm : w'.map (·.1) = w.map (·.1)) (hdg : decode cc pc = .ok (.return_, 1)) (hp : P w') :
    W p l e R s m args below meth c H locs cells slots (MQ below (zQv D w P A) args s cells slots A) (F0 m pc ls []) :=
  W.vret hx hb hr (fun t ht hW => ⟨⟨w', rfl, ⟨hp, hm⟩, by show va_P D vwCl w' t.heap; rw [ht]; exact hP⟩, hS.F ht⟩) hS.2.2 hdg hlocks
/-- rows of ints and of booleans, by numbers -/
theorem z_iald (hx : p.tables.exec = Jvm.exec) (hb : c.code = cc) (hK : va_K D vwCl (zT cI cZ cJ) s) (hP : va_P D vwCl w H) (q0 : Nat) {q n k : Nat} {f : Nat → Int32} (ha : w[q0]? = some (q, .inl (cI, n, .inl f))) {v : Int32} (hn : n < 2 ^ 31) (hk : k < n) (hv : f k = v) (hdg : decode cc pc = .ok (.iaload, 1))
    (kk : W p l e R s m args below meth c H locs cells slots Q (F0 m (pc + 1) ls (.int v :: rest))) : W p l e R s m args below meth c H locs cells slots Q (F0 m pc ls (.int (nI k) :: .ref q :: rest)) := by
  refine va_iald hx hb hK hP q0 0 ha rfl (vp_in_nI hk hn) hdg ?_
  rw [nI_clamp (Nat.lt_trans hk hn), hv]; exact kk
theorem z_zald (hx : p.tables.exec = Jvm.exec) (hb : c.code = cc) (hK : va_K D vwCl (zT cI cZ cJ) s) (hP : va_P D vwCl w H) (q0 : Nat) {q n k : Nat} {f : Nat → Int32} (ha : w[q0]? = some (q, .inl (cZ, n, .inl f))) {v : Int32} (hn : n < 2 ^ 31) (hk : k < n) (hv : f k = v) (hdg : decode cc pc = .ok (.baload, 1))
    (kk : W p l e R s m args below meth c H locs cells slots Q (F0 m (pc + 1) ls (.int v :: rest))) : W p l e R s m args below meth c H locs cells slots Q (F0 m pc ls (.int (nI k) :: .ref q :: rest)) := by
  refine va_zald hx hb hK hP q0 1 ha rfl (vp_in_nI hk hn) hdg ?_
  rw [nI_clamp (Nat.lt_trans hk hn), hv]; exact kk
theorem z_iast (hx : p.tables.exec = Jvm.exec) (hb : c.code = cc) (hK : va_K D vwCl (zT cI cZ cJ) s) (hP : va_P D vwCl w H) (hD : va_D A w) (hS : va_S A H0 H locs) (q0 : Nat) {q n k : Nat} {f : Nat → Int32} {x : Int32} (ha : w[q0]? = some (q, .inl (cI, n, .inl f))) (hn : n < 2 ^ 31) (hk : k < n) (hdg : decode cc pc = .ok (.iastore, 1))
    (kk : ∀ (H1 : Heap) (locs1 : List Loc), va_P D vwCl (w.set q0 (q, .inl (cI, n, .inl (upd f k x)))) H1 → va_D A (w.set q0 (q, .inl (cI, n, .inl (upd f k x)))) → va_S A H0 H1 locs1 → W p l e R s m args below meth c H1 locs1 cells slots Q (F0 m (pc + 1) ls rest)) : W p l e R s m args below meth c H locs cells slots Q (F0 m pc ls (.int x :: .int (nI k) :: .ref q :: rest)) := by
  refine va_iast hx hb hK hP hD hS q0 0 ha rfl (vp_in_nI hk hn) hdg ?_
  rw [nI_clamp (Nat.lt_trans hk hn)]; exact kk
theorem z_zast (hx : p.tables.exec = Jvm.exec) (hb : c.code = cc) (hK : va_K D vwCl (zT cI cZ cJ) s) (hP : va_P D vwCl w H) (hD : va_D A w) (hS : va_S A H0 H locs) (q0 : Nat) {q n k : Nat} {f : Nat → Int32} {x : Int32} (ha : w[q0]? = some (q, .inl (cZ, n, .inl f))) (hn : n < 2 ^ 31) (hk : k < n) (hv : x = 0 ∨ x = 1) (hdg : decode cc pc = .ok (.bastore, 1))
    (kk : ∀ (H1 : Heap) (locs1 : List Loc), va_P D vwCl (w.set q0 (q, .inl (cZ, n, .inl (upd f k x)))) H1 → va_D A (w.set q0 (q, .inl (cZ, n, .inl (upd f k x)))) → va_S A H0 H1 locs1 → W p l e R s m args below meth c H1 locs1 cells slots Q (F0 m (pc + 1) ls rest)) : W p l e R s m args below meth c H locs cells slots Q (F0 m pc ls (.int x :: .int (nI k) :: .ref q :: rest)) := by
  refine va_zast hx hb hK hP hD hS q0 1 ha rfl (vp_in_nI hk hn) hdg ?_
  rw [nI_clamp (Nat.lt_trans hk hn), show vp_nar .boolean x = x by rcases hv with rfl | rfl <;> decide]; exact kk
/-- branches by numbers -/
theorem zn_ge (hx : p.tables.exec = Jvm.exec) (hb : c.code = cc) {i j : Nat} {off : Int} {tgt : Nat} (hi : i < 2 ^ 31) (hj : j < 2 ^ 31) (hdg : decode cc pc = .ok (.if_icmp .ge off, 3)) (ht : (pc : Int) + off = (tgt : Int))
    (kt : j ≤ i → W p l e R s m args below meth c H locs cells slots Q (F0 m tgt ls rest)) (kf : i < j → W p l e R s m args below meth c H locs cells slots Q (F0 m (pc + 3) ls rest)) : W p l e R s m args below meth c H locs cells slots Q (F0 m pc ls (.int (nI j) :: .int (nI i) :: rest)) :=
  lv_icmp_ge hx hb hdg ht (fun h => kt ((nI_leI hj hi).mp h)) (fun h => kf (Nat.lt_of_not_le fun q => h ((nI_leI hj hi).mpr q)))
theorem zn_lt (hx : p.tables.exec = Jvm.exec) (hb : c.code = cc) {i j : Nat} {off : Int} {tgt : Nat} (hi : i < 2 ^ 31) (hj : j < 2 ^ 31) (hdg : decode cc pc = .ok (.if_icmp .lt off, 3)) (ht : (pc : Int) + off = (tgt : Int))
    (kt : i < j → W p l e R s m args below meth c H locs cells slots Q (F0 m tgt ls rest)) (kf : j ≤ i → W p l e R s m args below meth c H locs cells slots Q (F0 m (pc + 3) ls rest)) : W p l e R s m args below meth c H locs cells slots Q (F0 m pc ls (.int (nI j) :: .int (nI i) :: rest)) :=
  lv_icmp_lt hx hb hdg ht (fun h => kt ((nI_ltI hi hj).mp h)) (fun h => kf (Nat.le_of_not_lt fun q => h ((nI_ltI hi hj).mpr q)))
theorem zn_gt (hx : p.tables.exec = Jvm.exec) (hb : c.code = cc) {i j : Nat} {off : Int} {tgt : Nat} (hi : i < 2 ^ 31) (hj : j < 2 ^ 31) (hdg : decode cc pc = .ok (.if_icmp .gt off, 3)) (ht : (pc : Int) + off = (tgt : Int))
    (kt : j < i → W p l e R s m args below meth c H locs cells slots Q (F0 m tgt ls rest)) (kf : i ≤ j → W p l e R s m args below meth c H locs cells slots Q (F0 m (pc + 3) ls rest)) : W p l e R s m args below meth c H locs cells slots Q (F0 m pc ls (.int (nI j) :: .int (nI i) :: rest)) :=
  lv_icmp_gt hx hb hdg ht (fun h => kt ((nI_ltI hj hi).mp h)) (fun h => kf (Nat.le_of_not_lt fun q => h ((nI_ltI hj hi).mpr q)))
theorem zn_le (hx : p.tables.exec = Jvm.exec) (hb : c.code = cc) {i j : Nat} {off : Int} {tgt : Nat} (hi : i < 2 ^ 31) (hj : j < 2 ^ 31) (hdg : decode cc pc = .ok (.if_icmp .le off, 3)) (ht : (pc : Int) + off = (tgt : Int))
    (kt : i ≤ j → W p l e R s m args below meth c H locs cells slots Q (F0 m tgt ls rest)) (kf : j < i → W p l e R s m args below meth c H locs cells slots Q (F0 m (pc + 3) ls rest)) : W p l e R s m args below meth c H locs cells slots Q (F0 m pc ls (.int (nI j) :: .int (nI i) :: rest)) :=
  lv_icmp_le hx hb hdg ht (fun h => kt ((nI_leI hi hj).mp h)) (fun h => kf (Nat.lt_of_not_le fun q => h ((nI_leI hi hj).mpr q)))
theorem zn_eq (hx : p.tables.exec = Jvm.exec) (hb : c.code = cc) {i j : Nat} {off : Int} {tgt : Nat} (hi : i < 2 ^ 31) (hj : j < 2 ^ 31) (hdg : decode cc pc = .ok (.if_icmp .eq off, 3)) (ht : (pc : Int) + off = (tgt : Int))
    (kt : i = j → W p l e R s m args below meth c H locs cells slots Q (F0 m tgt ls rest)) (kf : ¬ i = j → W p l e R s m args below meth c H locs cells slots Q (F0 m (pc + 3) ls rest)) : W p l e R s m args below meth c H locs cells slots Q (F0 m pc ls (.int (nI j) :: .int (nI i) :: rest)) :=
  lv_icmp_eq hx hb hdg ht (fun h => kt ((nI_eq hi hj).mp h)) (fun h => kf fun q => h ((nI_eq hi hj).mpr q))
theorem zn_ne (hx : p.tables.exec = Jvm.exec) (hb : c.code = cc) {i j : Nat} {off : Int} {tgt : Nat} (hi : i < 2 ^ 31) (hj : j < 2 ^ 31) (hdg : decode cc pc = .ok (.if_icmp .ne off, 3)) (ht : (pc : Int) + off = (tgt : Int))
    (kt : ¬ i = j → W p l e R s m args below meth c H locs cells slots Q (F0 m tgt ls rest)) (kf : i = j → W p l e R s m args below meth c H locs cells slots Q (F0 m (pc + 3) ls rest)) : W p l e R s m args below meth c H locs cells slots Q (F0 m pc ls (.int (nI j) :: .int (nI i) :: rest)) :=
  lv_icmp_ne hx hb hdg ht (fun h => kt fun q => h ((nI_eq hi hj).mpr q)) (fun h => kf ((nI_eq hi hj).mp h))
/-- a truth decides -/
theorem zb_eq (hx : p.tables.exec = Jvm.exec) (hb : c.code = cc) {b : Bool} {off : Int} {tgt : Nat} (hdg : decode cc pc = .ok (.ifCond .eq off, 3)) (ht : (pc : Int) + off = (tgt : Int))
    (kt : b = false → W p l e R s m args below meth c H locs cells slots Q (F0 m tgt ls rest)) (kf : b = true → W p l e R s m args below meth c H locs cells slots Q (F0 m (pc + 3) ls rest)) : W p l e R s m args below meth c H locs cells slots Q (F0 m pc ls (.int (bI b) :: rest)) :=
  lv_if_eq hx hb hdg ht (fun h => kt (bI_eq0.mp h)) (fun h => kf (bI_ne0.mp h))
theorem zb_ne (hx : p.tables.exec = Jvm.exec) (hb : c.code = cc) {b : Bool} {off : Int} {tgt : Nat} (hdg : decode cc pc = .ok (.ifCond .ne off, 3)) (ht : (pc : Int) + off = (tgt : Int))
    (kt : b = true → W p l e R s m args below meth c H locs cells slots Q (F0 m tgt ls rest)) (kf : b = false → W p l e R s m args below meth c H locs cells slots Q (F0 m (pc + 3) ls rest)) : W p l e R s m args below meth c H locs cells slots Q (F0 m pc ls (.int (bI b) :: rest)) :=
  lv_if_ne hx hb hdg ht (fun h => kt (bI_ne0.mp h)) (fun h => kf (bI_eq0.mp h))
theorem zn_add (hx : p.tables.exec = Jvm.exec) (hb : c.code = cc) {i j : Nat} (hdg : decode cc pc = .ok (.iadd, 1)) (k : W p l e R s m args below meth c H locs cells slots Q (F0 m (pc + 1) ls (.int (nI (i + j)) :: rest))) : W p l e R s m args below meth c H locs cells slots Q (F0 m pc ls (.int (nI j) :: .int (nI i) :: rest)) :=
  lv_iadd hx hb hdg (by rw [nI_add]; exact k)
theorem zn_mul (hx : p.tables.exec = Jvm.exec) (hb : c.code = cc) {i j : Nat} (hdg : decode cc pc = .ok (.imul, 1)) (k : W p l e R s m args below meth c H locs cells slots Q (F0 m (pc + 1) ls (.int (nI (i * j)) :: rest))) : W p l e R s m args below meth c H locs cells slots Q (F0 m pc ls (.int (nI j) :: .int (nI i) :: rest)) :=
  lv_imul hx hb hdg (by rw [pk_mul]; exact k)
end ZZ
end
section
/-! Own words for the state: rows of rows, the worlds, what the methods compute. -/
/-- row j gets x at place k -/
def upC (C : Nat → Nat → Int32) (j k : Nat) (x : Int32) : Nat → Nat → Int32 := fun q => if q = j then upd (C j) k x else C q
theorem upC_s {C : Nat → Nat → Int32} {j k : Nat} {x : Int32} : upC C j k x j k = x := by simp [upC, upd]
theorem upC_n {C : Nat → Nat → Int32} {j k q : Nat} {x : Int32} (h : q ≠ j) : upC C j k x q = C q := by simp [upC, h]
/-- LiftRows2$Calls: 0 from, 1 to, 2 rank, 3 load, 4 state, 5 by, 6 cameAt, 7 boardedAt, 8 servedAt -/
abbrev wC (cI : ClassId) (h : Nat → Nat) (n : Nat) (C : Nat → Nat → Int32) : va_W :=
  [(h 0, .inr (1, [.ref (h 1), .ref (h 2), .ref (h 3), .ref (h 4), .ref (h 5), .ref (h 6), .ref (h 7), .ref (h 8), .ref (h 9), .int (nI n)])),
   (h 1, .inl (cI, 24, .inl (C 0))), (h 2, .inl (cI, 24, .inl (C 1))), (h 3, .inl (cI, 24, .inl (C 2))), (h 4, .inl (cI, 24, .inl (C 3))), (h 5, .inl (cI, 24, .inl (C 4))), (h 6, .inl (cI, 24, .inl (C 5))), (h 7, .inl (cI, 24, .inl (C 6))), (h 8, .inl (cI, 24, .inl (C 7))), (h 9, .inl (cI, 24, .inl (C 8)))]
/-- LiftRows2$Lifts: L 0 at, 1 capacity, 2 direction, 3 openFor; B 0 isStuck, 1 isReserved, 2 isKept -/
abbrev wL (cI cZ : ClassId) (h : Nat → Nat) (n : Nat) (gn : Int32) (L B : Nat → Nat → Int32) : va_W :=
  [(h 0, .inr (3, [.ref (h 1), .ref (h 2), .ref (h 3), .ref (h 4), .ref (h 5), .ref (h 6), .ref (h 7), .int (nI n), .int gn])),
   (h 1, .inl (cI, 4, .inl (L 0))), (h 2, .inl (cI, 4, .inl (L 1))), (h 3, .inl (cI, 4, .inl (L 2))), (h 4, .inl (cI, 4, .inl (L 3))), (h 5, .inl (cZ, 4, .inl (B 0))), (h 6, .inl (cZ, 4, .inl (B 1))), (h 7, .inl (cZ, 4, .inl (B 2)))]
/-- LiftRows2$Events: 0 second, 1 lift, 2 call, 3 kind -/
abbrev wE (cI : ClassId) (h : Nat → Nat) (n : Nat) (E : Nat → Nat → Int32) : va_W :=
  [(h 0, .inr (2, [.ref (h 1), .ref (h 2), .ref (h 3), .ref (h 4), .int (nI n)])), (h 1, .inl (cI, 48, .inl (E 0))), (h 2, .inl (cI, 48, .inl (E 1))), (h 3, .inl (cI, 48, .inl (E 2))), (h 4, .inl (cI, 48, .inl (E 3)))]
/-- is: in a state, given to a lift -/
def isB (C : Nat → Nat → Int32) (i : Nat) (st lf : Int32) : Bool := decide (C 4 i = st) && decide (C 5 i = lf)
def outB (C : Nat → Nat → Int32) (i : Nat) (lf hr : Int32) : Bool := isB C i 1 lf && decide (C 1 i = hr)
def fitB (C : Nat → Nat → Int32) (i : Nat) (lf hr rm : Int32) : Bool := (isB C i 0 lf && decide (C 0 i = hr)) && decide (C 3 i ≤ rm)
/-- a set of bits g k, of those k below n with f k -/
def setG (f : Nat → Bool) (g : Nat → Int32) : Nat → Int32
  | 0 => 0
  | k + 1 => if f k = true then setG f g k ||| ((1 : Int32) <<< (g k &&& 31)) else setG f g k
theorem setG_t {f : Nat → Bool} {g : Nat → Int32} {k : Nat} (h : f k = true) : setG f g (k + 1) = setG f g k ||| ((1 : Int32) <<< (g k &&& 31)) := by simp [setG, h]
theorem setG_f {f : Nat → Bool} {g : Nat → Int32} {k : Nat} (h : f k = false) : setG f g (k + 1) = setG f g k := by simp [setG, h]
/-- a sum of g k, of those k below n with f k -/
def sumW (f : Nat → Bool) (g : Nat → Int32) : Nat → Int32
  | 0 => 0
  | k + 1 => if f k = true then sumW f g k + g k else sumW f g k
theorem sumW_t {f : Nat → Bool} {g : Nat → Int32} {k : Nat} (h : f k = true) : sumW f g (k + 1) = sumW f g k + g k := by simp [sumW, h]
theorem sumW_f {f : Nat → Bool} {g : Nat → Int32} {k : Nat} (h : f k = false) : sumW f g (k + 1) = sumW f g k := by simp [sumW, h]
/-- how many k below n have f k -/
def cntW (f : Nat → Bool) : Nat → Nat
  | 0 => 0
  | k + 1 => if f k = true then cntW f k + 1 else cntW f k
theorem cntW_t {f : Nat → Bool} {k : Nat} (h : f k = true) : cntW f (k + 1) = cntW f k + 1 := by simp [cntW, h]
theorem cntW_f {f : Nat → Bool} {k : Nat} (h : f k = false) : cntW f (k + 1) = cntW f k := by simp [cntW, h]
theorem cntW_le (f : Nat → Bool) : ∀ n, cntW f n ≤ n
  | 0 => Nat.le_refl 0
  | n + 1 => by
    have := cntW_le f n
    unfold cntW
    split <;> omega
/-- one of the first n has f -/
def anyW (f : Nat → Bool) : Nat → Bool
  | 0 => false
  | k + 1 => anyW f k || f k
theorem anyW_s (f : Nat → Bool) (k : Nat) : anyW f (k + 1) = (anyW f k || f k) := rfl
theorem anyW_iff {f : Nat → Bool} : ∀ {n : Nat}, anyW f n = true ↔ ∃ k, k < n ∧ f k = true
  | 0 => by simp [anyW]
  | n + 1 => by
    rw [anyW, Bool.or_eq_true, anyW_iff]
    constructor
    · rintro (⟨k, h1, h2⟩ | h)
      · exact ⟨k, by omega, h2⟩
      · exact ⟨n, by omega, h⟩
    · rintro ⟨k, h1, h2⟩
      by_cases e : k = n
      · subst e; exact Or.inr h2
      · exact Or.inl ⟨k, by omega, h2⟩
/-- bit k of a set -/
def bitB (x : Int32) (k : Nat) : Bool := decide ((x >>> (nI k &&& 31)) &&& 1 = 1)
/-- the nearest stop so far, and how far it is -/
def nsF (C : Nat → Nat → Int32) (a sd wt ab : Int32) : Nat → Int32 × Int32
  | 0 => (-1, 20)
  | k + 1 => if ((bitB wt k || bitB ab k) && decide (0 < ((if bitB wt k = true then C 0 k else C 1 k) - a) * sd) && decide (((if bitB wt k = true then C 0 k else C 1 k) - a) * sd < (nsF C a sd wt ab k).2)) = true
      then (if bitB wt k = true then C 0 k else C 1 k, ((if bitB wt k = true then C 0 k else C 1 k) - a) * sd) else nsF C a sd wt ab k
theorem nsF_s {C : Nat → Nat → Int32} {a sd wt ab x y so : Int32} {k : Nat} {bw ba : Bool} (ex : (x, y) = nsF C a sd wt ab k) (ew : bw = bitB wt k) (ea : ba = bitB ab k) (eo : so = if bw = true then C 0 k else C 1 k) :
    nsF C a sd wt ab (k + 1) = if ((bw || ba) && decide (0 < (so - a) * sd) && decide ((so - a) * sd < y)) = true then (so, (so - a) * sd) else (x, y) := by
  rw [nsF, ← ex, ← ew, ← ea, ← eo]
/-- one more call -/
def addC (C : Nat → Nat → Int32) (n : Nat) (a b r q t : Int32) : Nat → Nat → Int32 :=
  upC (upC (upC (upC (upC (upC (upC (upC (upC C 0 n a) 1 n b) 2 n r) 3 n q) 4 n 0) 5 n (-1)) 6 n t) 7 n (-1)) 8 n (-1)
/-- how far, as Math.abs says it -/
def absI (x : Int32) : Int32 := if 0 ≤ x then x else 0 - x
/-- LiftRows2$Lifts: what may get a call; a second with the door open; a second on the way -/
def getB (L B : Nat → Nat → Int32) (i : Nat) (ld : Int32) : Bool := (decide (B 0 i = 0) && decide (B 1 i = 0)) && !decide (L 1 i < ld)
def kpI (B : Nat → Nat → Int32) (i : Nat) : Int32 := if B 2 i = 0 then 0 else 1
def pasL (L B : Nat → Nat → Int32) (i : Nat) : Nat → Nat → Int32 := upC L 3 i (if kpI B i < L 3 i - 1 then L 3 i - 1 else kpI B i)
def dirF (d : Int32) (up dn : Bool) : Int32 := if (up && !(decide (d = -1) && dn)) = true then 1 else if dn = true then -1 else 0
def goL (L : Nat → Nat → Int32) (i : Nat) (d : Int32) : Nat → Nat → Int32 := upC (upC L 2 i d) 0 i (L 0 i + d)
/-- one more event -/
def addE (E : Nat → Nat → Int32) (n : Nat) (a b q k : Int32) : Nat → Nat → Int32 := upC (upC (upC (upC E 0 n a) 1 n b) 2 n q) 3 n k
def evN (n : Nat) : Nat := if n < 48 then n + 1 else n
def evE (E : Nat → Nat → Int32) (n : Nat) (a b q k : Int32) : Nat → Nat → Int32 := if n < 48 then addE E n a b q k else E
theorem cnt_add (f : Nat → Bool) (i : Nat) : nI (cntW f i) + bI (f i) = nI (cntW f (i + 1)) := by
  by_cases h : f i = true
  · rw [cntW_t h, h, bI_t]; exact nI_1 _
  · have h' : f i = false := by simpa using h
    rw [cntW_f h', h', bI_f, Int32.add_zero]
/-- Integer.bitCount, as it reckons -/
def bc1 (x : Int32) : Int32 := x - ((x.toUInt32 >>> ((1 : Int32).toUInt32 &&& Int32.toUInt32 31)).toInt32 &&& 1431655765)
def bc2 (x : Int32) : Int32 := (x &&& 858993459) + ((x.toUInt32 >>> ((2 : Int32).toUInt32 &&& Int32.toUInt32 31)).toInt32 &&& 858993459)
def bc3 (x : Int32) : Int32 := (x + (x.toUInt32 >>> ((4 : Int32).toUInt32 &&& Int32.toUInt32 31)).toInt32) &&& 252645135
def bc4 (x : Int32) : Int32 := x + (x.toUInt32 >>> ((8 : Int32).toUInt32 &&& Int32.toUInt32 31)).toInt32
def bc5 (x : Int32) : Int32 := x + (x.toUInt32 >>> ((16 : Int32).toUInt32 &&& Int32.toUInt32 31)).toInt32
def bcI (x : Int32) : Int32 := bc5 (bc4 (bc3 (bc2 (bc1 x)))) &&& 63
end
section
/-! Integer.bitCount of a set of calls is how many they are. -/
theorem bt_split (k : Nat) {a m b q : Nat} (ha : a < 2 ^ k) (hm : m < 2 ^ k) : (2 ^ k * b + a) &&& (2 ^ k * q + m) = 2 ^ k * (b &&& q) + (a &&& m) := by
  have hz : a &&& m < 2 ^ k := Nat.lt_of_le_of_lt Nat.and_le_left ha
  apply Nat.eq_of_testBit_eq
  intro j
  rw [Nat.testBit_and, Nat.testBit_two_pow_mul_add b ha, Nat.testBit_two_pow_mul_add q hm, Nat.testBit_two_pow_mul_add (b &&& q) hz]
  by_cases h : j < k <;> simp [h, Nat.testBit_and]
theorem bt8 {a m b q : Nat} (ha : a < 256) (hm : m < 256) : (256 * b + a) &&& (256 * q + m) = 256 * (b &&& q) + (a &&& m) := bt_split 8 ha hm
def g1 (a : Nat) : Nat := a - (a / 2 &&& 85)
def g2 (a : Nat) : Nat := (a &&& 51) + (a / 4 &&& 51)
def g3 (a : Nat) : Nat := (a + a / 16) % 16
def pop8 (a : Nat) : Nat := g3 (g2 (g1 a))
theorem by_1 : ∀ a, a < 256 → (a / 2 &&& 85) ≤ a ∧ ((128 + a / 2) &&& 85) = (a / 2 &&& 85) := by decide +kernel
theorem by_2 : ∀ a, a < 256 → ((64 + a / 4) &&& 51) = (a / 4 &&& 51) ∧ ((128 + a / 4) &&& 51) = (a / 4 &&& 51) ∧ ((192 + a / 4) &&& 51) = (a / 4 &&& 51) := by decide +kernel
theorem by_g1 : ∀ a, a < 256 → g1 a < 256 ∧ g2 (g1 a) ≤ 68 ∧ g2 (g1 a) % 16 ≤ 4 ∧ g2 (g1 a) / 16 ≤ 4 ∧ (g2 (g1 a) + g2 (g1 a) / 16) &&& 15 = pop8 a ∧ pop8 a ≤ 8 := by decide +kernel
theorem by_m15 : ∀ t, t < 16 → ∀ a, a < 90 → (16 * t + a) &&& 15 = a &&& 15 := by decide +kernel
/-- stage one, byte by byte -/
theorem st_1 (a B M : Nat) (ha : a < 256) : (256 * B + a) / 2 &&& (256 * M + 85) = 256 * (B / 2 &&& M) + (a / 2 &&& 85) := by
  obtain ⟨-, h2⟩ := by_1 a ha
  have e : (256 * B + a) / 2 = 256 * (B / 2) + (128 * (B % 2) + a / 2) := by omega
  rw [e, bt8 (by omega) (by decide)]
  congr 1
  rcases Nat.mod_two_eq_zero_or_one B with h | h <;> rw [h]
  · simp
  · exact h2
theorem st_2 (a B M : Nat) (ha : a < 256) : (256 * B + a) / 4 &&& (256 * M + 51) = 256 * (B / 4 &&& M) + (a / 4 &&& 51) := by
  obtain ⟨h1, h2, h3⟩ := by_2 a ha
  have e : (256 * B + a) / 4 = 256 * (B / 4) + (64 * (B % 4) + a / 4) := by omega
  rw [e, bt8 (by omega) (by decide)]
  congr 1
  have hB : B % 4 = 0 ∨ B % 4 = 1 ∨ B % 4 = 2 ∨ B % 4 = 3 := by omega
  rcases hB with h | h | h | h <;> rw [h]
  · simp
  · exact h1
  · exact h2
  · exact h3
theorem bcN1 (a b d : Nat) (ha : a < 256) (hb : b < 256) (hd : d < 256) : (256 * (256 * d + b) + a) - ((256 * (256 * d + b) + a) / 2 &&& 1431655765) = 256 * (256 * g1 d + g1 b) + g1 a := by
  rw [show (1431655765 : Nat) = 256 * (256 * (256 * 85 + 85) + 85) + 85 by decide, st_1 a _ _ ha, st_1 b _ _ hb]
  have e : d / 2 &&& (256 * 85 + 85) = d / 2 &&& 85 := by
    have := st_1 d 0 85 hd
    simpa using this
  rw [e]
  have h1 := (by_1 a ha).1
  have h2 := (by_1 b hb).1
  have h3 := (by_1 d hd).1
  simp only [g1]
  omega
theorem bcN2 (a b d : Nat) (ha : a < 256) (hb : b < 256) (hd : d < 256) : ((256 * (256 * d + b) + a) &&& 858993459) + ((256 * (256 * d + b) + a) / 4 &&& 858993459) = 256 * (256 * g2 d + g2 b) + g2 a := by
  rw [show (858993459 : Nat) = 256 * (256 * (256 * 51 + 51) + 51) + 51 by decide, st_2 a _ _ ha, st_2 b _ _ hb, bt8 ha (by decide), bt8 hb (by decide)]
  have e : d / 4 &&& (256 * 51 + 51) = d / 4 &&& 51 := by
    have := st_2 d 0 51 hd
    simpa using this
  have e2 : d &&& (256 * 51 + 51) = d &&& 51 := by
    have := bt8 (a := d) (m := 51) (b := 0) (q := 51) hd (by decide)
    simpa using this
  rw [e, e2]
  simp only [g2]
  omega
theorem bcN3 (a b d : Nat) (ha : a ≤ 68 ∧ a % 16 ≤ 4 ∧ a / 16 ≤ 4) (hb : b ≤ 68 ∧ b % 16 ≤ 4 ∧ b / 16 ≤ 4) (hd : d ≤ 68 ∧ d % 16 ≤ 4 ∧ d / 16 ≤ 4) :
    ((256 * (256 * d + b) + a) + (256 * (256 * d + b) + a) / 16) &&& 252645135 = 256 * (256 * ((d + d / 16) &&& 15) + ((b + b / 16) &&& 15)) + ((a + a / 16) &&& 15) := by
  have e : (256 * (256 * d + b) + a) + (256 * (256 * d + b) + a) / 16 = 256 * (256 * (d + d / 16) + (16 * (d % 16) + (b + b / 16))) + (16 * (b % 16) + (a + a / 16)) := by omega
  rw [e, show (252645135 : Nat) = 256 * (256 * (256 * 15 + 15) + 15) + 15 by decide, bt8 (by omega) (by decide), bt8 (by omega) (by decide)]
  have e2 : (d + d / 16) &&& (256 * 15 + 15) = (d + d / 16) &&& 15 := by
    have := bt8 (a := d + d / 16) (m := 15) (b := 0) (q := 15) (by omega) (by decide)
    simpa using this
  rw [e2, by_m15 (b % 16) (by omega) (a + a / 16) (by omega), by_m15 (d % 16) (by omega) (b + b / 16) (by omega)]
def pop (x : Nat) : Nat := pop8 (x % 256) + pop8 (x / 256 % 256) + pop8 (x / 65536)
theorem nx_and' (a b : Nat) : nI a &&& nI b = nI (a &&& b) := by
  apply Int32.toBitVec_inj.mp
  show BitVec.ofNat 32 a &&& BitVec.ofNat 32 b = BitVec.ofNat 32 (a &&& b)
  apply BitVec.eq_of_getLsbD_eq
  intro i hi
  simp [BitVec.getLsbD_ofNat, hi, Nat.testBit_and]
theorem bcI_nI {x : Nat} (hx : x < 16777216) : bcI (nI x) = nI (pop x) := by
  have hA : x % 256 < 256 := by omega
  have hB : x / 256 % 256 < 256 := by omega
  have hC : x / 65536 < 256 := by omega
  have ex : x = 256 * (256 * (x / 65536) + x / 256 % 256) + x % 256 := by omega
  obtain ⟨a1, a2, a3, a4, a5, a6⟩ := by_g1 _ hA
  obtain ⟨b1, b2, b3, b4, b5, b6⟩ := by_g1 _ hB
  obtain ⟨d1, d2, d3, d4, d5, d6⟩ := by_g1 _ hC
  unfold pop
  generalize x % 256 = a at *
  generalize x / 256 % 256 = b at *
  generalize x / 65536 = d at *
  subst ex
  have k1 : ((1 : Int32).toUInt32 &&& Int32.toUInt32 31).toBitVec % 32 = 1#32 := by decide
  have s1 : bc1 (nI (256 * (256 * d + b) + a)) = nI (256 * (256 * g1 d + g1 b) + g1 a) := by
    unfold bc1
    rw [pk_ushrN (by omega) 1 1 (by decide), show (1431655765 : Int32) = nI 1431655765 from rfl, nx_and', show 2 ^ 1 = 2 from rfl, pk_sub (by have := bcN1 a b d hA hB hC; have h9 : ((256 * (256 * d + b) + a) / 2 &&& 1431655765) ≤ (256 * (256 * d + b) + a) / 2 := Nat.and_le_left; omega), bcN1 a b d hA hB hC]
  have s2 : bc2 (nI (256 * (256 * g1 d + g1 b) + g1 a)) = nI (256 * (256 * g2 (g1 d) + g2 (g1 b)) + g2 (g1 a)) := by
    unfold bc2
    rw [pk_ushrN (by omega) 2 2 (by decide), show (858993459 : Int32) = nI 858993459 from rfl, nx_and', nx_and', show 2 ^ 2 = 4 from rfl, nI_add, bcN2 _ _ _ a1 b1 d1]
  have s3 : bc3 (nI (256 * (256 * g2 (g1 d) + g2 (g1 b)) + g2 (g1 a))) = nI (256 * (256 * pop8 d + pop8 b) + pop8 a) := by
    unfold bc3
    rw [pk_ushrN (by omega) 4 4 (by decide), show (252645135 : Int32) = nI 252645135 from rfl, show 2 ^ 4 = 16 from rfl, nI_add, nx_and', bcN3 _ _ _ ⟨a2, a3, a4⟩ ⟨b2, b3, b4⟩ ⟨d2, d3, d4⟩, a5, b5, d5]
  have s4 : bc4 (nI (256 * (256 * pop8 d + pop8 b) + pop8 a)) = nI (65536 * pop8 d + 256 * (pop8 b + pop8 d) + (pop8 a + pop8 b)) := by
    unfold bc4
    rw [pk_ushrN (by omega) 8 8 (by decide), nI_add]
    congr 1
    omega
  have s5 : bc5 (nI (65536 * pop8 d + 256 * (pop8 b + pop8 d) + (pop8 a + pop8 b))) = nI (65536 * pop8 d + 256 * (pop8 b + pop8 d) + (pop8 a + pop8 b + pop8 d)) := by
    unfold bc5
    rw [pk_ushrN (by omega) 16 16 (by decide), nI_add]
    congr 1
    omega
  unfold bcI
  rw [s1, s2, s3, s4, s5, show (63 : Int32) = nI 63 from rfl, pk_andN (by omega) 6 (by decide)]
  congr 1
  omega
/-- the set as a number -/
def setN (f : Nat → Bool) : Nat → Nat
  | 0 => 0
  | k + 1 => if f k = true then setN f k + 2 ^ k else setN f k
theorem setN_lt (f : Nat → Bool) : ∀ n, setN f n < 2 ^ n
  | 0 => by simp [setN]
  | n + 1 => by
    have := setN_lt f n
    have e : 2 ^ (n + 1) = 2 ^ n + 2 ^ n := by rw [Nat.pow_succ]; omega
    unfold setN
    split <;> omega
theorem nI_or (a b : Nat) : nI a ||| nI b = nI (a ||| b) := by
  apply Int32.toBitVec_inj.mp
  show BitVec.ofNat 32 a ||| BitVec.ofNat 32 b = BitVec.ofNat 32 (a ||| b)
  apply BitVec.eq_of_getLsbD_eq
  intro i hi
  simp [BitVec.getLsbD_ofNat, hi, Nat.testBit_or]
theorem nI_bit : ∀ k, k < 31 → (1 : Int32) <<< (nI k &&& 31) = nI (2 ^ k) := by decide +kernel
theorem or_top {y k : Nat} (h : y < 2 ^ k) : y ||| 2 ^ k = y + 2 ^ k := by
  rw [Nat.or_comm, Nat.add_comm]
  have := Nat.two_pow_add_eq_or_of_lt (b := y) (i := k) h 1
  simpa using this.symm
theorem setG_N (f : Nat → Bool) : ∀ n, n ≤ 31 → setG f nI n = nI (setN f n)
  | 0, _ => rfl
  | n + 1, h => by
    have ih := setG_N f n (by omega)
    unfold setG setN
    split
    · rw [ih, nI_bit n (by omega), nI_or, or_top (setN_lt f n)]
    · exact ih
theorem pop_low : ∀ k, k < 8 → ∀ y, y < 2 ^ k → pop8 (y + 2 ^ k) = pop8 y + 1 := by decide +kernel
theorem pop_top {k y : Nat} (hk : k < 24) (hy : y < 2 ^ k) : pop (y + 2 ^ k) = pop y + 1 := by
  unfold pop
  by_cases h1 : k < 8
  · have hp : 2 ^ k ≤ 128 := by
      have : 2 ^ k ≤ 2 ^ 7 := Nat.pow_le_pow_right (by decide) (by omega)
      simpa using this
    have e1 : (y + 2 ^ k) % 256 = y + 2 ^ k := Nat.mod_eq_of_lt (by omega)
    have e2 : y % 256 = y := Nat.mod_eq_of_lt (by omega)
    have e3 : (y + 2 ^ k) / 256 = 0 := by omega
    have e4 : y / 256 = 0 := by omega
    have e5 : (y + 2 ^ k) / 65536 = 0 := by omega
    have e6 : y / 65536 = 0 := by omega
    rw [e1, e2, e3, e4, e5, e6, pop_low k h1 y hy]
    omega
  · by_cases h2 : k < 16
    · obtain ⟨j, rfl⟩ : ∃ j, k = j + 8 := ⟨k - 8, by omega⟩
      have e0 : 2 ^ (j + 8) = 256 * 2 ^ j := by rw [Nat.pow_add]; omega
      have hp : 2 ^ j ≤ 128 := by
        have : 2 ^ j ≤ 2 ^ 7 := Nat.pow_le_pow_right (by decide) (by omega)
        simpa using this
      have hl := pop_low j (by omega) (y / 256) (by omega)
      generalize 2 ^ j = z at *
      rw [e0] at hy ⊢
      have e1 : (y + 256 * z) % 256 = y % 256 := by omega
      have e2 : (y + 256 * z) / 256 % 256 = y / 256 + z := by omega
      have e3 : y / 256 % 256 = y / 256 := by omega
      have e5 : (y + 256 * z) / 65536 = 0 := by omega
      have e6 : y / 65536 = 0 := by omega
      rw [e1, e2, e3, e5, e6, hl]
      omega
    · obtain ⟨j, rfl⟩ : ∃ j, k = j + 16 := ⟨k - 16, by omega⟩
      have e0 : 2 ^ (j + 16) = 65536 * 2 ^ j := by rw [Nat.pow_add]; omega
      have hp : 2 ^ j ≤ 128 := by
        have : 2 ^ j ≤ 2 ^ 7 := Nat.pow_le_pow_right (by decide) (by omega)
        simpa using this
      have hl := pop_low j (by omega) (y / 65536) (by omega)
      generalize 2 ^ j = z at *
      rw [e0] at hy ⊢
      have e1 : (y + 65536 * z) % 256 = y % 256 := by omega
      have e2 : (y + 65536 * z) / 256 % 256 = y / 256 % 256 := by omega
      have e5 : (y + 65536 * z) / 65536 = y / 65536 + z := by omega
      rw [e1, e2, e5, hl]
      omega
theorem pop_set (f : Nat → Bool) : ∀ n, n ≤ 24 → pop (setN f n) = cntW f n
  | 0, _ => by show pop 0 = 0; decide
  | n + 1, h => by
    have ih := pop_set f n (by omega)
    unfold setN cntW
    split
    · rw [pop_top (by omega) (setN_lt f n), ih]
    · exact ih
theorem setN_16 (f : Nat → Bool) {n : Nat} (h : n ≤ 24) : setN f n < 16777216 := Nat.lt_of_lt_of_le (setN_lt f n) (by have : 2 ^ n ≤ 2 ^ 24 := Nat.pow_le_pow_right (by decide) h; simpa using this)
theorem bcI_setG (f : Nat → Bool) {n : Nat} (h : n ≤ 24) : bcI (setG f nI n) = nI (cntW f n) := by
  rw [setG_N f n (by omega), bcI_nI (setN_16 f h), pop_set f n h]
end
section

set_option maxHeartbeats 4000000 in
set_option maxRecDepth 100000 in
theorem tX3_asNumber (l : Launch) (D : va_G) (cI cZ cJ : ClassId) (b : Bool) : ∀ sz : Nat, zMi l yX3_asNumber wsX3_asNumber ({ frames := 0, cells := 0, slots := 0, locals := 0 } : Room) D cI cZ cJ ([]) sz [.int (bI b)] (fun r w' => r = bI b ∧ w' = []) := by
  intro sz
  refine z_head (y := yX3_asNumber) (av := [.int (bI b)]) (w := ([])) (Qc := fun A => zQi D ([]) (fun r w' => r = bI b ∧ w' = []) A) (cc := cX3_asNumber) (maxL := 1) (ret := (some .int)) (by decide) rfl (Nat.le_of_ble_eq_true rfl) ?_
  intro p e s m below meth c ls A hat hP hD hS hl
  obtain ⟨hx, hb, hr, hml, hlocks, hts, hown, hin, hK, hE, hA⟩ := hat
  have hP : va_P D vwCl [] s.heap := hP
  have hD : va_D A [] := hD
  have hl : lv_has ls 1 [(0, .int (bI b))] := hl
  refine lv_iload_n hx hb dX3_asNumber_0 rfl (lv_at hl 0 rfl) ?_
  refine zb_eq (b := b) (tgt := 8) hx hb dX3_asNumber_1 (by decide) (fun c1 => ?_) (fun c1 => ?_)
  · skip
    refine lv_iconst (v := 0) hx hb dX3_asNumber_8 (by decide) ?_
    exact z_iret hx hb hr hlocks hS hP rfl dX3_asNumber_9 (⟨by simp [bI, c1], rfl⟩)
  · skip
    refine lv_iconst (v := 1) hx hb dX3_asNumber_4 (by decide) ?_
    refine lv_goto (tgt := 9) hx hb dX3_asNumber_5 (by decide) ?_
    exact z_iret hx hb hr hlocks hS hP rfl dX3_asNumber_9 (⟨by simp [bI, c1], rfl⟩)

theorem kX0_is_inX0 : ∀ w ∈ wsX00, w ∈ wsX0_is := by decide +kernel
theorem kX0_is_f24 : Cond.fieldLink RX0 24 "LiftRows2$Calls" "state" "[I" ∈ wsX0_is := by decide +kernel
theorem kX0_is_f27 : Cond.fieldLink RX0 27 "LiftRows2$Calls" "by" "[I" ∈ wsX0_is := by decide +kernel
set_option maxHeartbeats 4000000 in
set_option maxRecDepth 100000 in
theorem tX0_is (l : Launch) (D : va_G) (cI cZ cJ : ClassId) (h : Nat → Nat) (n : Nat) (C : Nat → Nat → Int32) (i : Nat) (st lf : Int32) (hi : i < 24) : ∀ sz : Nat, zMi l yX0_is wsX0_is ({ frames := 0, cells := 0, slots := 0, locals := 0 } : Room) D cI cZ cJ (wC cI h n C) sz [.ref (h 0), .int (nI i), .int st, .int lf] (fun r w' => r = bI (isB C i st lf) ∧ w' = wC cI h n C) := by
  intro sz
  refine z_head (y := yX0_is) (av := [.ref (h 0), .int (nI i), .int st, .int lf]) (w := (wC cI h n C)) (Qc := fun A => zQi D (wC cI h n C) (fun r w' => r = bI (isB C i st lf) ∧ w' = wC cI h n C) A) (cc := cX0_is) (maxL := 4) (ret := (some .boolean)) (by decide) rfl (Nat.le_of_ble_eq_true rfl) ?_
  intro p e s m below meth c ls A hat hP hD hS hl
  obtain ⟨hx, hb, hr, hml, hlocks, hts, hown, hin, hK, hE, hA⟩ := hat
  have hP : va_P D vwCl (wC cI h n C) s.heap := hP
  have hD : va_D A (wC cI h n C) := hD
  have hl : lv_has ls 4 [(0, .ref (h 0)), (1, .int (nI i)), (2, .int st), (3, .int lf)] := hl
  refine lv_aload_n hx hb dX0_is_0 rfl (lv_at hl 0 rfl) ?_
  refine va_get (D := D) (ci := 1) (v := .ref (h 5)) (C := RX0) (T := TX0) (N := 10) hx hb hts kX0_is_inX0 hown hK hP 0 rfl rfl 4 (by decide) (hts _ kX0_is_f24) (fun _ h9 => h9) rfl dX0_is_1 ?_
  refine lv_iload_n hx hb dX0_is_4 rfl (lv_at hl 1 rfl) ?_
  refine z_iald (k := i) (v := C 4 i) hx hb hK hP 5 rfl (by decide) (by omega) (rfl) dX0_is_5 ?_
  refine lv_iload_n hx hb dX0_is_6 rfl (lv_at hl 2 rfl) ?_
  refine lv_icmp_ne (x := C 4 i) (y := st) (tgt := 24) hx hb dX0_is_7 (by decide) (fun c7 => ?_) (fun c7 => ?_)
  · skip
    refine lv_iconst (v := 0) hx hb dX0_is_24 (by decide) ?_
    exact z_zret hx hb hr hlocks hS hP rfl (Or.inl rfl) dX0_is_25 (⟨by simp [isB, bI, c7], rfl⟩)
  · skip
    refine lv_aload_n hx hb dX0_is_10 rfl (lv_at hl 0 rfl) ?_
    refine va_get (D := D) (ci := 1) (v := .ref (h 6)) (C := RX0) (T := TX0) (N := 10) hx hb hts kX0_is_inX0 hown hK hP 0 rfl rfl 5 (by decide) (hts _ kX0_is_f27) (fun _ h9 => h9) rfl dX0_is_11 ?_
    refine lv_iload_n hx hb dX0_is_14 rfl (lv_at hl 1 rfl) ?_
    refine z_iald (k := i) (v := C 5 i) hx hb hK hP 6 rfl (by decide) (by omega) (rfl) dX0_is_15 ?_
    refine lv_iload_n hx hb dX0_is_16 rfl (lv_at hl 3 rfl) ?_
    refine lv_icmp_ne (x := C 5 i) (y := lf) (tgt := 24) hx hb dX0_is_17 (by decide) (fun c17 => ?_) (fun c17 => ?_)
    · skip
      refine lv_iconst (v := 0) hx hb dX0_is_24 (by decide) ?_
      exact z_zret hx hb hr hlocks hS hP rfl (Or.inl rfl) dX0_is_25 (⟨by simp [isB, bI, c7, c17], rfl⟩)
    · skip
      refine lv_iconst (v := 1) hx hb dX0_is_20 (by decide) ?_
      refine lv_goto (tgt := 25) hx hb dX0_is_21 (by decide) ?_
      exact z_zret hx hb hr hlocks hS hP rfl (Or.inr rfl) dX0_is_25 (⟨by simp [isB, bI, c7, c17], rfl⟩)

theorem kX0_getsOut_inX0 : ∀ w ∈ wsX00, w ∈ wsX0_getsOut := by decide +kernel
theorem kX0_getsOut_f15 : Cond.fieldLink RX0 15 "LiftRows2$Calls" "to" "[I" ∈ wsX0_getsOut := by decide +kernel
set_option maxHeartbeats 4000000 in
set_option maxRecDepth 100000 in
theorem tX0_getsOut (l : Launch) (D : va_G) (cI cZ cJ : ClassId) (h : Nat → Nat) (n : Nat) (C : Nat → Nat → Int32) (i : Nat) (lf hv : Int32) (hi : i < 24) : ∀ sz : Nat, zMi l yX0_getsOut wsX0_getsOut ({ frames := 1, cells := 0, slots := 0, locals := 23 } : Room) D cI cZ cJ (wC cI h n C) sz [.ref (h 0), .int (nI i), .int lf, .int hv] (fun r w' => r = bI (outB C i lf hv) ∧ w' = wC cI h n C) := by
  intro sz
  refine z_head (y := yX0_getsOut) (av := [.ref (h 0), .int (nI i), .int lf, .int hv]) (w := (wC cI h n C)) (Qc := fun A => zQi D (wC cI h n C) (fun r w' => r = bI (outB C i lf hv) ∧ w' = wC cI h n C) A) (cc := cX0_getsOut) (maxL := 4) (ret := (some .boolean)) (by decide) rfl (Nat.le_of_ble_eq_true rfl) ?_
  intro p e s m below meth c ls A hat hP hD hS hl
  obtain ⟨hx, hb, hr, hml, hlocks, hts, hown, hin, hK, hE, hA⟩ := hat
  have hP : va_P D vwCl (wC cI h n C) s.heap := hP
  have hD : va_D A (wC cI h n C) := hD
  have hl : lv_has ls 4 [(0, .ref (h 0)), (1, .int (nI i)), (2, .int lf), (3, .int hv)] := hl
  refine lv_aload_n hx hb dX0_getsOut_0 rfl (lv_at hl 0 rfl) ?_
  refine lv_iload_n hx hb dX0_getsOut_1 rfl (lv_at hl 1 rfl) ?_
  refine lv_iconst (v := 1) hx hb dX0_getsOut_2 (by decide) ?_
  refine lv_iload_n hx hb dX0_getsOut_3 rfl (lv_at hl 2 rfl) ?_
  refine z_backiA (z_runVA (n := 3) (As := [.int (nI i), .int 1, .int lf]) (ci := 1) (rest := []) hx hb hml hown hts hK hE hP hD (tX0_is l D cI cZ cJ h n C i 1 lf (by omega) _) gX0_getsOut_X0_is rfl rfl rfl (by decide +kernel) ⟨Nat.le_of_ble_eq_true rfl, Nat.le_of_ble_eq_true rfl⟩ rfl rfl rfl hl.1 rfl (Nat.le_of_ble_eq_true rfl) dX0_getsOut_4 ⟨Nat.zero_le _, Nat.zero_le _⟩) hD hS hA (fun r1 w1 H locs hp1 hP hD hS => ?_)
  obtain ⟨rfl, rfl⟩ := hp1
  have hP : va_P D vwCl (wC cI h n C) H := hP
  have hD : va_D A (wC cI h n C) := hD
  refine zb_eq (b := (isB C i 1 lf)) (tgt := 24) hx hb dX0_getsOut_7 (by decide) (fun c7 => ?_) (fun c7 => ?_)
  · skip
    refine lv_iconst (v := 0) hx hb dX0_getsOut_24 (by decide) ?_
    exact z_zret hx hb hr hlocks hS hP rfl (Or.inl rfl) dX0_getsOut_25 (⟨by simp [outB, bI, c7], rfl⟩)
  · skip
    refine lv_aload_n hx hb dX0_getsOut_10 rfl (lv_at hl 0 rfl) ?_
    refine va_get (D := D) (ci := 1) (v := .ref (h 2)) (C := RX0) (T := TX0) (N := 10) hx hb hts kX0_getsOut_inX0 hown hK hP 0 rfl rfl 1 (by decide) (hts _ kX0_getsOut_f15) (fun _ h9 => h9) rfl dX0_getsOut_11 ?_
    refine lv_iload_n hx hb dX0_getsOut_14 rfl (lv_at hl 1 rfl) ?_
    refine z_iald (k := i) (v := C 1 i) hx hb hK hP 2 rfl (by decide) (by omega) (rfl) dX0_getsOut_15 ?_
    refine lv_iload_n hx hb dX0_getsOut_16 rfl (lv_at hl 3 rfl) ?_
    refine lv_icmp_ne (x := C 1 i) (y := hv) (tgt := 24) hx hb dX0_getsOut_17 (by decide) (fun c17 => ?_) (fun c17 => ?_)
    · skip
      refine lv_iconst (v := 0) hx hb dX0_getsOut_24 (by decide) ?_
      exact z_zret hx hb hr hlocks hS hP rfl (Or.inl rfl) dX0_getsOut_25 (⟨by simp [outB, bI, c7, c17], rfl⟩)
    · skip
      refine lv_iconst (v := 1) hx hb dX0_getsOut_20 (by decide) ?_
      refine lv_goto (tgt := 25) hx hb dX0_getsOut_21 (by decide) ?_
      exact z_zret hx hb hr hlocks hS hP rfl (Or.inr rfl) dX0_getsOut_25 (⟨by simp [outB, bI, c7, c17], rfl⟩)

theorem kX0_fitsIn_inX0 : ∀ w ∈ wsX00, w ∈ wsX0_fitsIn := by decide +kernel
theorem kX0_fitsIn_f9 : Cond.fieldLink RX0 9 "LiftRows2$Calls" "from" "[I" ∈ wsX0_fitsIn := by decide +kernel
theorem kX0_fitsIn_f21 : Cond.fieldLink RX0 21 "LiftRows2$Calls" "load" "[I" ∈ wsX0_fitsIn := by decide +kernel
set_option maxHeartbeats 4000000 in
set_option maxRecDepth 100000 in
theorem tX0_fitsIn (l : Launch) (D : va_G) (cI cZ cJ : ClassId) (h : Nat → Nat) (n : Nat) (C : Nat → Nat → Int32) (i : Nat) (lf hv rr : Int32) (hi : i < 24) : ∀ sz : Nat, zMi l yX0_fitsIn wsX0_fitsIn ({ frames := 1, cells := 0, slots := 0, locals := 23 } : Room) D cI cZ cJ (wC cI h n C) sz [.ref (h 0), .int (nI i), .int lf, .int hv, .int rr] (fun r w' => r = bI (fitB C i lf hv rr) ∧ w' = wC cI h n C) := by
  intro sz
  refine z_head (y := yX0_fitsIn) (av := [.ref (h 0), .int (nI i), .int lf, .int hv, .int rr]) (w := (wC cI h n C)) (Qc := fun A => zQi D (wC cI h n C) (fun r w' => r = bI (fitB C i lf hv rr) ∧ w' = wC cI h n C) A) (cc := cX0_fitsIn) (maxL := 5) (ret := (some .boolean)) (by decide) rfl (Nat.le_of_ble_eq_true rfl) ?_
  intro p e s m below meth c ls A hat hP hD hS hl
  obtain ⟨hx, hb, hr, hml, hlocks, hts, hown, hin, hK, hE, hA⟩ := hat
  have hP : va_P D vwCl (wC cI h n C) s.heap := hP
  have hD : va_D A (wC cI h n C) := hD
  have hl : lv_has ls 5 [(0, .ref (h 0)), (1, .int (nI i)), (2, .int lf), (3, .int hv), (4, .int rr)] := hl
  refine lv_aload_n hx hb dX0_fitsIn_0 rfl (lv_at hl 0 rfl) ?_
  refine lv_iload_n hx hb dX0_fitsIn_1 rfl (lv_at hl 1 rfl) ?_
  refine lv_iconst (v := 0) hx hb dX0_fitsIn_2 (by decide) ?_
  refine lv_iload_n hx hb dX0_fitsIn_3 rfl (lv_at hl 2 rfl) ?_
  refine z_backiA (z_runVA (n := 3) (As := [.int (nI i), .int 0, .int lf]) (ci := 1) (rest := []) hx hb hml hown hts hK hE hP hD (tX0_is l D cI cZ cJ h n C i 0 lf (by omega) _) gX0_fitsIn_X0_is rfl rfl rfl (by decide +kernel) ⟨Nat.le_of_ble_eq_true rfl, Nat.le_of_ble_eq_true rfl⟩ rfl rfl rfl hl.1 rfl (Nat.le_of_ble_eq_true rfl) dX0_fitsIn_4 ⟨Nat.zero_le _, Nat.zero_le _⟩) hD hS hA (fun r1 w1 H locs hp1 hP hD hS => ?_)
  obtain ⟨rfl, rfl⟩ := hp1
  have hP : va_P D vwCl (wC cI h n C) H := hP
  have hD : va_D A (wC cI h n C) := hD
  refine zb_eq (b := (isB C i 0 lf)) (tgt := 35) hx hb dX0_fitsIn_7 (by decide) (fun c7 => ?_) (fun c7 => ?_)
  · skip
    refine lv_iconst (v := 0) hx hb dX0_fitsIn_35 (by decide) ?_
    exact z_zret hx hb hr hlocks hS hP rfl (Or.inl rfl) dX0_fitsIn_36 (⟨by simp [fitB, bI, c7], rfl⟩)
  · skip
    refine lv_aload_n hx hb dX0_fitsIn_10 rfl (lv_at hl 0 rfl) ?_
    refine va_get (D := D) (ci := 1) (v := .ref (h 1)) (C := RX0) (T := TX0) (N := 10) hx hb hts kX0_fitsIn_inX0 hown hK hP 0 rfl rfl 0 (by decide) (hts _ kX0_fitsIn_f9) (fun _ h9 => h9) rfl dX0_fitsIn_11 ?_
    refine lv_iload_n hx hb dX0_fitsIn_14 rfl (lv_at hl 1 rfl) ?_
    refine z_iald (k := i) (v := C 0 i) hx hb hK hP 1 rfl (by decide) (by omega) (rfl) dX0_fitsIn_15 ?_
    refine lv_iload_n hx hb dX0_fitsIn_16 rfl (lv_at hl 3 rfl) ?_
    refine lv_icmp_ne (x := C 0 i) (y := hv) (tgt := 35) hx hb dX0_fitsIn_17 (by decide) (fun c17 => ?_) (fun c17 => ?_)
    · skip
      refine lv_iconst (v := 0) hx hb dX0_fitsIn_35 (by decide) ?_
      exact z_zret hx hb hr hlocks hS hP rfl (Or.inl rfl) dX0_fitsIn_36 (⟨by simp [fitB, bI, c7, c17], rfl⟩)
    · skip
      refine lv_aload_n hx hb dX0_fitsIn_20 rfl (lv_at hl 0 rfl) ?_
      refine va_get (D := D) (ci := 1) (v := .ref (h 4)) (C := RX0) (T := TX0) (N := 10) hx hb hts kX0_fitsIn_inX0 hown hK hP 0 rfl rfl 3 (by decide) (hts _ kX0_fitsIn_f21) (fun _ h9 => h9) rfl dX0_fitsIn_21 ?_
      refine lv_iload_n hx hb dX0_fitsIn_24 rfl (lv_at hl 1 rfl) ?_
      refine z_iald (k := i) (v := C 3 i) hx hb hK hP 4 rfl (by decide) (by omega) (rfl) dX0_fitsIn_25 ?_
      refine lv_iload hx hb dX0_fitsIn_26 (lv_at hl 4 rfl) ?_
      refine lv_icmp_gt (x := C 3 i) (y := rr) (tgt := 35) hx hb dX0_fitsIn_28 (by decide) (fun c28 => ?_) (fun c28 => ?_)
      · skip
        refine lv_iconst (v := 0) hx hb dX0_fitsIn_35 (by decide) ?_
        exact z_zret hx hb hr hlocks hS hP rfl (Or.inl rfl) dX0_fitsIn_36 (⟨by simp [fitB, bI, c7, c17, c28], rfl⟩)
      · skip
        refine lv_iconst (v := 1) hx hb dX0_fitsIn_31 (by decide) ?_
        refine lv_goto (tgt := 36) hx hb dX0_fitsIn_32 (by decide) ?_
        exact z_zret hx hb hr hlocks hS hP rfl (Or.inr rfl) dX0_fitsIn_36 (⟨by simp [fitB, bI, c7, c17, c28], rfl⟩)

theorem kX0_setOf_inX0 : ∀ w ∈ wsX00, w ∈ wsX0_setOf := by decide +kernel
theorem kX0_setOf_f39 : Cond.fieldLink RX0 39 "LiftRows2$Calls" "size" "I" ∈ wsX0_setOf := by decide +kernel
set_option maxHeartbeats 4000000 in
set_option maxRecDepth 100000 in
theorem tX0_setOf (l : Launch) (D : va_G) (cI cZ cJ : ClassId) (h : Nat → Nat) (n : Nat) (C : Nat → Nat → Int32) (st lf : Int32) (hn : n ≤ 24) : ∀ sz : Nat, zMi l yX0_setOf wsX0_setOf ({ frames := 1, cells := 0, slots := 0, locals := 23 } : Room) D cI cZ cJ (wC cI h n C) sz [.ref (h 0), .int st, .int lf] (fun r w' => r = setG (fun k => isB C k st lf) nI n ∧ w' = wC cI h n C) := by
  intro sz
  refine z_head (y := yX0_setOf) (av := [.ref (h 0), .int st, .int lf]) (w := (wC cI h n C)) (Qc := fun A => zQi D (wC cI h n C) (fun r w' => r = setG (fun k => isB C k st lf) nI n ∧ w' = wC cI h n C) A) (cc := cX0_setOf) (maxL := 5) (ret := (some .int)) (by decide) rfl (Nat.le_of_ble_eq_true rfl) ?_
  intro p e s m below meth c ls A hat hP hD hS hl
  obtain ⟨hx, hb, hr, hml, hlocks, hts, hown, hin, hK, hE, hA⟩ := hat
  have hP : va_P D vwCl (wC cI h n C) s.heap := hP
  have hD : va_D A (wC cI h n C) := hD
  have hl : lv_has ls 5 [(0, .ref (h 0)), (1, .int st), (2, .int lf)] := hl
  have L5 : ∀ (fu : Nat) (i : Nat) (x : Int32), i ≤ n → n + 1 ≤ i + fu → (x = setG (fun k => isB C k st lf) nI i) → ∀ (H : Heap) (locs : List Loc) (ls : Array Slot), lv_has ls 5 [(0, .ref (h 0)), (1, .int st), (2, .int lf), (3, .int x), (4, .int (nI i))] → va_P D vwCl (wC cI h n C) H → va_D A (wC cI h n C) → va_S A s.heap H locs → W p l e ({ frames := 1, cells := 0, slots := 0, locals := 23 } : Room) s m ([.ref (h 0), .int st, .int lf] : List Value).toArray below meth c H locs 0 0 (MQ below (zQi D (wC cI h n C) (fun r w' => r = setG (fun k => isB C k st lf) nI n ∧ w' = wC cI h n C) A) ([.ref (h 0), .int st, .int lf] : List Value).toArray s 0 0 A) (F0 m 5 ls []) := by
    intro fu
    induction fu with
    | zero =>
      intro i x h1 h2
      exact absurd h2 (by omega)
    | succ fu ih5 =>
      intro i x hle hfu ex H locs ls hl hP hD hS
      refine lv_iload hx hb dX0_setOf_5 (lv_at hl 4 rfl) ?_
      refine lv_aload_n hx hb dX0_setOf_7 rfl (lv_at hl 0 rfl) ?_
      refine va_get (D := D) (ci := 1) (v := .int (nI n)) (C := RX0) (T := TX0) (N := 10) hx hb hts kX0_setOf_inX0 hown hK hP 0 rfl rfl 9 (by decide) (hts _ kX0_setOf_f39) (fun _ h9 => h9) rfl dX0_setOf_8 ?_
      refine zn_ge (i := i) (j := n) (tgt := 38) hx hb (by omega) (by omega) dX0_setOf_11 (by decide) (fun c11 => ?_) (fun c11 => ?_)
      · skip
        refine lv_iload_n hx hb dX0_setOf_38 rfl (lv_at hl 3 rfl) ?_
        exact z_iret hx hb hr hlocks hS hP rfl dX0_setOf_39 (⟨by rw [ex, show i = n by omega], rfl⟩)
      · skip
        refine lv_aload_n hx hb dX0_setOf_14 rfl (lv_at hl 0 rfl) ?_
        refine lv_iload hx hb dX0_setOf_15 (lv_at hl 4 rfl) ?_
        refine lv_iload_n hx hb dX0_setOf_17 rfl (lv_at hl 1 rfl) ?_
        refine lv_iload_n hx hb dX0_setOf_18 rfl (lv_at hl 2 rfl) ?_
        refine z_backiA (z_runVA (n := 3) (As := [.int (nI i), .int st, .int lf]) (ci := 1) (rest := []) hx hb hml hown hts hK hE hP hD (tX0_is l D cI cZ cJ h n C i st lf (by omega) _) gX0_setOf_X0_is rfl rfl rfl (by decide +kernel) ⟨Nat.le_of_ble_eq_true rfl, Nat.le_of_ble_eq_true rfl⟩ rfl rfl rfl hl.1 rfl (Nat.le_of_ble_eq_true rfl) dX0_setOf_19 ⟨Nat.zero_le _, Nat.zero_le _⟩) hD hS hA (fun r1 w1 H locs hp1 hP hD hS => ?_)
        obtain ⟨rfl, rfl⟩ := hp1
        have hP : va_P D vwCl (wC cI h n C) H := hP
        have hD : va_D A (wC cI h n C) := hD
        refine zb_eq (b := (isB C i st lf)) (tgt := 32) hx hb dX0_setOf_22 (by decide) (fun c22 => ?_) (fun c22 => ?_)
        · skip
          refine lv_iinc (v := nI (i + 1)) (lv' := [(4, .int (nI (i + 1))), (0, .ref (h 0)), (1, .int st), (2, .int lf), (3, .int x)]) hx hb dX0_setOf_32 hl (k := 4) rfl (by rw [show Int32.ofInt 1 = nI 1 from rfl, nI_add]) (by decide) rfl (fun ls hl => ?_)
          refine lv_goto (tgt := 5) hx hb dX0_setOf_35 (by decide) ?_
          exact ih5 (i + 1) x (by omega) (by omega) (ex.trans (setG_f c22).symm) H locs ls (lv_sub hl [1, 2, 3, 4, 0] rfl) hP hD hS
        · skip
          refine lv_iload_n hx hb dX0_setOf_25 rfl (lv_at hl 3 rfl) ?_
          refine lv_iconst (v := 1) hx hb dX0_setOf_26 (by decide) ?_
          refine lv_iload hx hb dX0_setOf_27 (lv_at hl 4 rfl) ?_
          refine lv_ishl hx hb dX0_setOf_29 ?_
          refine lv_ior (x := x) (y := 1 <<< ((nI i) &&& 31)) hx hb dX0_setOf_30 ?_
          refine lv_istore_n (lv' := [(3, .int (x ||| (1 <<< ((nI i) &&& 31)))), (0, .ref (h 0)), (1, .int st), (2, .int lf), (4, .int (nI i))]) hx hb dX0_setOf_31 rfl hl (by decide) rfl (fun ls hl => ?_)
          refine lv_iinc (v := nI (i + 1)) (lv' := [(4, .int (nI (i + 1))), (3, .int (x ||| (1 <<< ((nI i) &&& 31)))), (0, .ref (h 0)), (1, .int st), (2, .int lf)]) hx hb dX0_setOf_32 hl (k := 4) rfl (by rw [show Int32.ofInt 1 = nI 1 from rfl, nI_add]) (by decide) rfl (fun ls hl => ?_)
          refine lv_goto (tgt := 5) hx hb dX0_setOf_35 (by decide) ?_
          exact ih5 (i + 1) (x ||| (1 <<< ((nI i) &&& 31))) (by omega) (by omega) (by rw [ex]; exact (setG_t c22).symm) H locs ls (lv_sub hl [2, 3, 4, 1, 0] rfl) hP hD hS
  refine lv_iconst (v := 0) hx hb dX0_setOf_0 (by decide) ?_
  refine lv_istore_n (lv' := [(3, .int 0), (0, .ref (h 0)), (1, .int st), (2, .int lf)]) hx hb dX0_setOf_1 rfl hl (by decide) rfl (fun ls hl => ?_)
  refine lv_iconst (v := 0) hx hb dX0_setOf_2 (by decide) ?_
  refine lv_istore (lv' := [(4, .int 0), (3, .int 0), (0, .ref (h 0)), (1, .int st), (2, .int lf)]) hx hb dX0_setOf_3 hl (by decide) rfl (fun ls hl => ?_)
  exact L5 (n + 1) 0 0 (by omega) (by omega) (rfl) s.heap [] ls (lv_sub hl [2, 3, 4, 1, 0] rfl) hP hD hS

theorem kX0_setFrom_inX0 : ∀ w ∈ wsX00, w ∈ wsX0_setFrom := by decide +kernel
theorem kX0_setFrom_f39 : Cond.fieldLink RX0 39 "LiftRows2$Calls" "size" "I" ∈ wsX0_setFrom := by decide +kernel
theorem kX0_setFrom_f9 : Cond.fieldLink RX0 9 "LiftRows2$Calls" "from" "[I" ∈ wsX0_setFrom := by decide +kernel
set_option maxHeartbeats 4000000 in
set_option maxRecDepth 100000 in
theorem tX0_setFrom (l : Launch) (D : va_G) (cI cZ cJ : ClassId) (h : Nat → Nat) (n : Nat) (C : Nat → Nat → Int32) (hv : Int32) (hn : n ≤ 24) : ∀ sz : Nat, zMi l yX0_setFrom wsX0_setFrom ({ frames := 0, cells := 0, slots := 0, locals := 0 } : Room) D cI cZ cJ (wC cI h n C) sz [.ref (h 0), .int hv] (fun r w' => r = setG (fun k => decide (C 0 k = hv)) nI n ∧ w' = wC cI h n C) := by
  intro sz
  refine z_head (y := yX0_setFrom) (av := [.ref (h 0), .int hv]) (w := (wC cI h n C)) (Qc := fun A => zQi D (wC cI h n C) (fun r w' => r = setG (fun k => decide (C 0 k = hv)) nI n ∧ w' = wC cI h n C) A) (cc := cX0_setFrom) (maxL := 4) (ret := (some .int)) (by decide) rfl (Nat.le_of_ble_eq_true rfl) ?_
  intro p e s m below meth c ls A hat hP hD hS hl
  obtain ⟨hx, hb, hr, hml, hlocks, hts, hown, hin, hK, hE, hA⟩ := hat
  have hP : va_P D vwCl (wC cI h n C) s.heap := hP
  have hD : va_D A (wC cI h n C) := hD
  have hl : lv_has ls 4 [(0, .ref (h 0)), (1, .int hv)] := hl
  have L4 : ∀ (fu : Nat) (i : Nat) (x : Int32), i ≤ n → n + 1 ≤ i + fu → (x = setG (fun k => decide (C 0 k = hv)) nI i) → ∀ (H : Heap) (locs : List Loc) (ls : Array Slot), lv_has ls 4 [(0, .ref (h 0)), (1, .int hv), (2, .int x), (3, .int (nI i))] → va_P D vwCl (wC cI h n C) H → va_D A (wC cI h n C) → va_S A s.heap H locs → W p l e ({ frames := 0, cells := 0, slots := 0, locals := 0 } : Room) s m ([.ref (h 0), .int hv] : List Value).toArray below meth c H locs 0 0 (MQ below (zQi D (wC cI h n C) (fun r w' => r = setG (fun k => decide (C 0 k = hv)) nI n ∧ w' = wC cI h n C) A) ([.ref (h 0), .int hv] : List Value).toArray s 0 0 A) (F0 m 4 ls []) := by
    intro fu
    induction fu with
    | zero =>
      intro i x h1 h2
      exact absurd h2 (by omega)
    | succ fu ih4 =>
      intro i x hle hfu ex H locs ls hl hP hD hS
      refine lv_iload_n hx hb dX0_setFrom_4 rfl (lv_at hl 3 rfl) ?_
      refine lv_aload_n hx hb dX0_setFrom_5 rfl (lv_at hl 0 rfl) ?_
      refine va_get (D := D) (ci := 1) (v := .int (nI n)) (C := RX0) (T := TX0) (N := 10) hx hb hts kX0_setFrom_inX0 hown hK hP 0 rfl rfl 9 (by decide) (hts _ kX0_setFrom_f39) (fun _ h9 => h9) rfl dX0_setFrom_6 ?_
      refine zn_ge (i := i) (j := n) (tgt := 34) hx hb (by omega) (by omega) dX0_setFrom_9 (by decide) (fun c9 => ?_) (fun c9 => ?_)
      · skip
        refine lv_iload_n hx hb dX0_setFrom_34 rfl (lv_at hl 2 rfl) ?_
        exact z_iret hx hb hr hlocks hS hP rfl dX0_setFrom_35 (⟨by rw [ex, show i = n by omega], rfl⟩)
      · skip
        refine lv_aload_n hx hb dX0_setFrom_12 rfl (lv_at hl 0 rfl) ?_
        refine va_get (D := D) (ci := 1) (v := .ref (h 1)) (C := RX0) (T := TX0) (N := 10) hx hb hts kX0_setFrom_inX0 hown hK hP 0 rfl rfl 0 (by decide) (hts _ kX0_setFrom_f9) (fun _ h9 => h9) rfl dX0_setFrom_13 ?_
        refine lv_iload_n hx hb dX0_setFrom_16 rfl (lv_at hl 3 rfl) ?_
        refine z_iald (k := i) (v := C 0 i) hx hb hK hP 1 rfl (by decide) (by omega) (rfl) dX0_setFrom_17 ?_
        refine lv_iload_n hx hb dX0_setFrom_18 rfl (lv_at hl 1 rfl) ?_
        refine lv_icmp_ne (x := C 0 i) (y := hv) (tgt := 28) hx hb dX0_setFrom_19 (by decide) (fun c19 => ?_) (fun c19 => ?_)
        · skip
          refine lv_iinc (v := nI (i + 1)) (lv' := [(3, .int (nI (i + 1))), (0, .ref (h 0)), (1, .int hv), (2, .int x)]) hx hb dX0_setFrom_28 hl (k := 3) rfl (by rw [show Int32.ofInt 1 = nI 1 from rfl, nI_add]) (by decide) rfl (fun ls hl => ?_)
          refine lv_goto (tgt := 4) hx hb dX0_setFrom_31 (by decide) ?_
          exact ih4 (i + 1) x (by omega) (by omega) (ex.trans (setG_f (decide_eq_false c19)).symm) H locs ls (lv_sub hl [1, 2, 3, 0] rfl) hP hD hS
        · skip
          refine lv_iload_n hx hb dX0_setFrom_22 rfl (lv_at hl 2 rfl) ?_
          refine lv_iconst (v := 1) hx hb dX0_setFrom_23 (by decide) ?_
          refine lv_iload_n hx hb dX0_setFrom_24 rfl (lv_at hl 3 rfl) ?_
          refine lv_ishl hx hb dX0_setFrom_25 ?_
          refine lv_ior (x := x) (y := 1 <<< ((nI i) &&& 31)) hx hb dX0_setFrom_26 ?_
          refine lv_istore_n (lv' := [(2, .int (x ||| (1 <<< ((nI i) &&& 31)))), (0, .ref (h 0)), (1, .int hv), (3, .int (nI i))]) hx hb dX0_setFrom_27 rfl hl (by decide) rfl (fun ls hl => ?_)
          refine lv_iinc (v := nI (i + 1)) (lv' := [(3, .int (nI (i + 1))), (2, .int (x ||| (1 <<< ((nI i) &&& 31)))), (0, .ref (h 0)), (1, .int hv)]) hx hb dX0_setFrom_28 hl (k := 3) rfl (by rw [show Int32.ofInt 1 = nI 1 from rfl, nI_add]) (by decide) rfl (fun ls hl => ?_)
          refine lv_goto (tgt := 4) hx hb dX0_setFrom_31 (by decide) ?_
          exact ih4 (i + 1) (x ||| (1 <<< ((nI i) &&& 31))) (by omega) (by omega) (by rw [ex]; exact (setG_t (decide_eq_true c19)).symm) H locs ls (lv_sub hl [2, 3, 1, 0] rfl) hP hD hS
  refine lv_iconst (v := 0) hx hb dX0_setFrom_0 (by decide) ?_
  refine lv_istore_n (lv' := [(2, .int 0), (0, .ref (h 0)), (1, .int hv)]) hx hb dX0_setFrom_1 rfl hl (by decide) rfl (fun ls hl => ?_)
  refine lv_iconst (v := 0) hx hb dX0_setFrom_2 (by decide) ?_
  refine lv_istore_n (lv' := [(3, .int 0), (2, .int 0), (0, .ref (h 0)), (1, .int hv)]) hx hb dX0_setFrom_3 rfl hl (by decide) rfl (fun ls hl => ?_)
  exact L4 (n + 1) 0 0 (by omega) (by omega) (rfl) s.heap [] ls (lv_sub hl [2, 3, 1, 0] rfl) hP hD hS

theorem kX0_setTo_inX0 : ∀ w ∈ wsX00, w ∈ wsX0_setTo := by decide +kernel
theorem kX0_setTo_f39 : Cond.fieldLink RX0 39 "LiftRows2$Calls" "size" "I" ∈ wsX0_setTo := by decide +kernel
theorem kX0_setTo_f15 : Cond.fieldLink RX0 15 "LiftRows2$Calls" "to" "[I" ∈ wsX0_setTo := by decide +kernel
set_option maxHeartbeats 4000000 in
set_option maxRecDepth 100000 in
theorem tX0_setTo (l : Launch) (D : va_G) (cI cZ cJ : ClassId) (h : Nat → Nat) (n : Nat) (C : Nat → Nat → Int32) (hv : Int32) (hn : n ≤ 24) : ∀ sz : Nat, zMi l yX0_setTo wsX0_setTo ({ frames := 0, cells := 0, slots := 0, locals := 0 } : Room) D cI cZ cJ (wC cI h n C) sz [.ref (h 0), .int hv] (fun r w' => r = setG (fun k => decide (C 1 k = hv)) nI n ∧ w' = wC cI h n C) := by
  intro sz
  refine z_head (y := yX0_setTo) (av := [.ref (h 0), .int hv]) (w := (wC cI h n C)) (Qc := fun A => zQi D (wC cI h n C) (fun r w' => r = setG (fun k => decide (C 1 k = hv)) nI n ∧ w' = wC cI h n C) A) (cc := cX0_setTo) (maxL := 4) (ret := (some .int)) (by decide) rfl (Nat.le_of_ble_eq_true rfl) ?_
  intro p e s m below meth c ls A hat hP hD hS hl
  obtain ⟨hx, hb, hr, hml, hlocks, hts, hown, hin, hK, hE, hA⟩ := hat
  have hP : va_P D vwCl (wC cI h n C) s.heap := hP
  have hD : va_D A (wC cI h n C) := hD
  have hl : lv_has ls 4 [(0, .ref (h 0)), (1, .int hv)] := hl
  have L4 : ∀ (fu : Nat) (i : Nat) (x : Int32), i ≤ n → n + 1 ≤ i + fu → (x = setG (fun k => decide (C 1 k = hv)) nI i) → ∀ (H : Heap) (locs : List Loc) (ls : Array Slot), lv_has ls 4 [(0, .ref (h 0)), (1, .int hv), (2, .int x), (3, .int (nI i))] → va_P D vwCl (wC cI h n C) H → va_D A (wC cI h n C) → va_S A s.heap H locs → W p l e ({ frames := 0, cells := 0, slots := 0, locals := 0 } : Room) s m ([.ref (h 0), .int hv] : List Value).toArray below meth c H locs 0 0 (MQ below (zQi D (wC cI h n C) (fun r w' => r = setG (fun k => decide (C 1 k = hv)) nI n ∧ w' = wC cI h n C) A) ([.ref (h 0), .int hv] : List Value).toArray s 0 0 A) (F0 m 4 ls []) := by
    intro fu
    induction fu with
    | zero =>
      intro i x h1 h2
      exact absurd h2 (by omega)
    | succ fu ih4 =>
      intro i x hle hfu ex H locs ls hl hP hD hS
      refine lv_iload_n hx hb dX0_setTo_4 rfl (lv_at hl 3 rfl) ?_
      refine lv_aload_n hx hb dX0_setTo_5 rfl (lv_at hl 0 rfl) ?_
      refine va_get (D := D) (ci := 1) (v := .int (nI n)) (C := RX0) (T := TX0) (N := 10) hx hb hts kX0_setTo_inX0 hown hK hP 0 rfl rfl 9 (by decide) (hts _ kX0_setTo_f39) (fun _ h9 => h9) rfl dX0_setTo_6 ?_
      refine zn_ge (i := i) (j := n) (tgt := 34) hx hb (by omega) (by omega) dX0_setTo_9 (by decide) (fun c9 => ?_) (fun c9 => ?_)
      · skip
        refine lv_iload_n hx hb dX0_setTo_34 rfl (lv_at hl 2 rfl) ?_
        exact z_iret hx hb hr hlocks hS hP rfl dX0_setTo_35 (⟨by rw [ex, show i = n by omega], rfl⟩)
      · skip
        refine lv_aload_n hx hb dX0_setTo_12 rfl (lv_at hl 0 rfl) ?_
        refine va_get (D := D) (ci := 1) (v := .ref (h 2)) (C := RX0) (T := TX0) (N := 10) hx hb hts kX0_setTo_inX0 hown hK hP 0 rfl rfl 1 (by decide) (hts _ kX0_setTo_f15) (fun _ h9 => h9) rfl dX0_setTo_13 ?_
        refine lv_iload_n hx hb dX0_setTo_16 rfl (lv_at hl 3 rfl) ?_
        refine z_iald (k := i) (v := C 1 i) hx hb hK hP 2 rfl (by decide) (by omega) (rfl) dX0_setTo_17 ?_
        refine lv_iload_n hx hb dX0_setTo_18 rfl (lv_at hl 1 rfl) ?_
        refine lv_icmp_ne (x := C 1 i) (y := hv) (tgt := 28) hx hb dX0_setTo_19 (by decide) (fun c19 => ?_) (fun c19 => ?_)
        · skip
          refine lv_iinc (v := nI (i + 1)) (lv' := [(3, .int (nI (i + 1))), (0, .ref (h 0)), (1, .int hv), (2, .int x)]) hx hb dX0_setTo_28 hl (k := 3) rfl (by rw [show Int32.ofInt 1 = nI 1 from rfl, nI_add]) (by decide) rfl (fun ls hl => ?_)
          refine lv_goto (tgt := 4) hx hb dX0_setTo_31 (by decide) ?_
          exact ih4 (i + 1) x (by omega) (by omega) (ex.trans (setG_f (decide_eq_false c19)).symm) H locs ls (lv_sub hl [1, 2, 3, 0] rfl) hP hD hS
        · skip
          refine lv_iload_n hx hb dX0_setTo_22 rfl (lv_at hl 2 rfl) ?_
          refine lv_iconst (v := 1) hx hb dX0_setTo_23 (by decide) ?_
          refine lv_iload_n hx hb dX0_setTo_24 rfl (lv_at hl 3 rfl) ?_
          refine lv_ishl hx hb dX0_setTo_25 ?_
          refine lv_ior (x := x) (y := 1 <<< ((nI i) &&& 31)) hx hb dX0_setTo_26 ?_
          refine lv_istore_n (lv' := [(2, .int (x ||| (1 <<< ((nI i) &&& 31)))), (0, .ref (h 0)), (1, .int hv), (3, .int (nI i))]) hx hb dX0_setTo_27 rfl hl (by decide) rfl (fun ls hl => ?_)
          refine lv_iinc (v := nI (i + 1)) (lv' := [(3, .int (nI (i + 1))), (2, .int (x ||| (1 <<< ((nI i) &&& 31)))), (0, .ref (h 0)), (1, .int hv)]) hx hb dX0_setTo_28 hl (k := 3) rfl (by rw [show Int32.ofInt 1 = nI 1 from rfl, nI_add]) (by decide) rfl (fun ls hl => ?_)
          refine lv_goto (tgt := 4) hx hb dX0_setTo_31 (by decide) ?_
          exact ih4 (i + 1) (x ||| (1 <<< ((nI i) &&& 31))) (by omega) (by omega) (by rw [ex]; exact (setG_t (decide_eq_true c19)).symm) H locs ls (lv_sub hl [2, 3, 1, 0] rfl) hP hD hS
  refine lv_iconst (v := 0) hx hb dX0_setTo_0 (by decide) ?_
  refine lv_istore_n (lv' := [(2, .int 0), (0, .ref (h 0)), (1, .int hv)]) hx hb dX0_setTo_1 rfl hl (by decide) rfl (fun ls hl => ?_)
  refine lv_iconst (v := 0) hx hb dX0_setTo_2 (by decide) ?_
  refine lv_istore_n (lv' := [(3, .int 0), (2, .int 0), (0, .ref (h 0)), (1, .int hv)]) hx hb dX0_setTo_3 rfl hl (by decide) rfl (fun ls hl => ?_)
  exact L4 (n + 1) 0 0 (by omega) (by omega) (rfl) s.heap [] ls (lv_sub hl [2, 3, 1, 0] rfl) hP hD hS

theorem kX0_loadStaying_inX0 : ∀ w ∈ wsX00, w ∈ wsX0_loadStaying := by decide +kernel
theorem kX0_loadStaying_f39 : Cond.fieldLink RX0 39 "LiftRows2$Calls" "size" "I" ∈ wsX0_loadStaying := by decide +kernel
theorem kX0_loadStaying_f15 : Cond.fieldLink RX0 15 "LiftRows2$Calls" "to" "[I" ∈ wsX0_loadStaying := by decide +kernel
theorem kX0_loadStaying_f21 : Cond.fieldLink RX0 21 "LiftRows2$Calls" "load" "[I" ∈ wsX0_loadStaying := by decide +kernel
set_option maxHeartbeats 4000000 in
set_option maxRecDepth 100000 in
theorem tX0_loadStaying (l : Launch) (D : va_G) (cI cZ cJ : ClassId) (h : Nat → Nat) (n : Nat) (C : Nat → Nat → Int32) (lf hv : Int32) (hn : n ≤ 24) : ∀ sz : Nat, zMi l yX0_loadStaying wsX0_loadStaying ({ frames := 1, cells := 0, slots := 0, locals := 23 } : Room) D cI cZ cJ (wC cI h n C) sz [.ref (h 0), .int lf, .int hv] (fun r w' => r = sumW (fun k => isB C k 1 lf && !decide (C 1 k = hv)) (C 3) n ∧ w' = wC cI h n C) := by
  intro sz
  refine z_head (y := yX0_loadStaying) (av := [.ref (h 0), .int lf, .int hv]) (w := (wC cI h n C)) (Qc := fun A => zQi D (wC cI h n C) (fun r w' => r = sumW (fun k => isB C k 1 lf && !decide (C 1 k = hv)) (C 3) n ∧ w' = wC cI h n C) A) (cc := cX0_loadStaying) (maxL := 5) (ret := (some .int)) (by decide) rfl (Nat.le_of_ble_eq_true rfl) ?_
  intro p e s m below meth c ls A hat hP hD hS hl
  obtain ⟨hx, hb, hr, hml, hlocks, hts, hown, hin, hK, hE, hA⟩ := hat
  have hP : va_P D vwCl (wC cI h n C) s.heap := hP
  have hD : va_D A (wC cI h n C) := hD
  have hl : lv_has ls 5 [(0, .ref (h 0)), (1, .int lf), (2, .int hv)] := hl
  have L5 : ∀ (fu : Nat) (i : Nat) (x : Int32), i ≤ n → n + 1 ≤ i + fu → (x = sumW (fun k => isB C k 1 lf && !decide (C 1 k = hv)) (C 3) i) → ∀ (H : Heap) (locs : List Loc) (ls : Array Slot), lv_has ls 5 [(0, .ref (h 0)), (1, .int lf), (2, .int hv), (3, .int x), (4, .int (nI i))] → va_P D vwCl (wC cI h n C) H → va_D A (wC cI h n C) → va_S A s.heap H locs → W p l e ({ frames := 1, cells := 0, slots := 0, locals := 23 } : Room) s m ([.ref (h 0), .int lf, .int hv] : List Value).toArray below meth c H locs 0 0 (MQ below (zQi D (wC cI h n C) (fun r w' => r = sumW (fun k => isB C k 1 lf && !decide (C 1 k = hv)) (C 3) n ∧ w' = wC cI h n C) A) ([.ref (h 0), .int lf, .int hv] : List Value).toArray s 0 0 A) (F0 m 5 ls []) := by
    intro fu
    induction fu with
    | zero =>
      intro i x h1 h2
      exact absurd h2 (by omega)
    | succ fu ih5 =>
      intro i x hle hfu ex H locs ls hl hP hD hS
      refine lv_iload hx hb dX0_loadStaying_5 (lv_at hl 4 rfl) ?_
      refine lv_aload_n hx hb dX0_loadStaying_7 rfl (lv_at hl 0 rfl) ?_
      refine va_get (D := D) (ci := 1) (v := .int (nI n)) (C := RX0) (T := TX0) (N := 10) hx hb hts kX0_loadStaying_inX0 hown hK hP 0 rfl rfl 9 (by decide) (hts _ kX0_loadStaying_f39) (fun _ h9 => h9) rfl dX0_loadStaying_8 ?_
      refine zn_ge (i := i) (j := n) (tgt := 52) hx hb (by omega) (by omega) dX0_loadStaying_11 (by decide) (fun c11 => ?_) (fun c11 => ?_)
      · skip
        refine lv_iload_n hx hb dX0_loadStaying_52 rfl (lv_at hl 3 rfl) ?_
        exact z_iret hx hb hr hlocks hS hP rfl dX0_loadStaying_53 (⟨by rw [ex, show i = n by omega], rfl⟩)
      · skip
        refine lv_aload_n hx hb dX0_loadStaying_14 rfl (lv_at hl 0 rfl) ?_
        refine lv_iload hx hb dX0_loadStaying_15 (lv_at hl 4 rfl) ?_
        refine lv_iconst (v := 1) hx hb dX0_loadStaying_17 (by decide) ?_
        refine lv_iload_n hx hb dX0_loadStaying_18 rfl (lv_at hl 1 rfl) ?_
        refine z_backiA (z_runVA (n := 3) (As := [.int (nI i), .int 1, .int lf]) (ci := 1) (rest := []) hx hb hml hown hts hK hE hP hD (tX0_is l D cI cZ cJ h n C i 1 lf (by omega) _) gX0_loadStaying_X0_is rfl rfl rfl (by decide +kernel) ⟨Nat.le_of_ble_eq_true rfl, Nat.le_of_ble_eq_true rfl⟩ rfl rfl rfl hl.1 rfl (Nat.le_of_ble_eq_true rfl) dX0_loadStaying_19 ⟨Nat.zero_le _, Nat.zero_le _⟩) hD hS hA (fun r1 w1 H locs hp1 hP hD hS => ?_)
        obtain ⟨rfl, rfl⟩ := hp1
        have hP : va_P D vwCl (wC cI h n C) H := hP
        have hD : va_D A (wC cI h n C) := hD
        refine zb_eq (b := (isB C i 1 lf)) (tgt := 46) hx hb dX0_loadStaying_22 (by decide) (fun c22 => ?_) (fun c22 => ?_)
        · skip
          refine lv_iinc (v := nI (i + 1)) (lv' := [(4, .int (nI (i + 1))), (0, .ref (h 0)), (1, .int lf), (2, .int hv), (3, .int x)]) hx hb dX0_loadStaying_46 hl (k := 4) rfl (by rw [show Int32.ofInt 1 = nI 1 from rfl, nI_add]) (by decide) rfl (fun ls hl => ?_)
          refine lv_goto (tgt := 5) hx hb dX0_loadStaying_49 (by decide) ?_
          exact ih5 (i + 1) x (by omega) (by omega) (ex.trans (sumW_f (by simp [c22])).symm) H locs ls (lv_sub hl [1, 2, 3, 4, 0] rfl) hP hD hS
        · skip
          refine lv_aload_n hx hb dX0_loadStaying_25 rfl (lv_at hl 0 rfl) ?_
          refine va_get (D := D) (ci := 1) (v := .ref (h 2)) (C := RX0) (T := TX0) (N := 10) hx hb hts kX0_loadStaying_inX0 hown hK hP 0 rfl rfl 1 (by decide) (hts _ kX0_loadStaying_f15) (fun _ h9 => h9) rfl dX0_loadStaying_26 ?_
          refine lv_iload hx hb dX0_loadStaying_29 (lv_at hl 4 rfl) ?_
          refine z_iald (k := i) (v := C 1 i) hx hb hK hP 2 rfl (by decide) (by omega) (rfl) dX0_loadStaying_31 ?_
          refine lv_iload_n hx hb dX0_loadStaying_32 rfl (lv_at hl 2 rfl) ?_
          refine lv_icmp_eq (x := C 1 i) (y := hv) (tgt := 46) hx hb dX0_loadStaying_33 (by decide) (fun c33 => ?_) (fun c33 => ?_)
          · skip
            refine lv_iinc (v := nI (i + 1)) (lv' := [(4, .int (nI (i + 1))), (0, .ref (h 0)), (1, .int lf), (2, .int hv), (3, .int x)]) hx hb dX0_loadStaying_46 hl (k := 4) rfl (by rw [show Int32.ofInt 1 = nI 1 from rfl, nI_add]) (by decide) rfl (fun ls hl => ?_)
            refine lv_goto (tgt := 5) hx hb dX0_loadStaying_49 (by decide) ?_
            exact ih5 (i + 1) x (by omega) (by omega) (ex.trans (sumW_f (by simp [c22, c33])).symm) H locs ls (lv_sub hl [1, 2, 3, 4, 0] rfl) hP hD hS
          · skip
            refine lv_iload_n hx hb dX0_loadStaying_36 rfl (lv_at hl 3 rfl) ?_
            refine lv_aload_n hx hb dX0_loadStaying_37 rfl (lv_at hl 0 rfl) ?_
            refine va_get (D := D) (ci := 1) (v := .ref (h 4)) (C := RX0) (T := TX0) (N := 10) hx hb hts kX0_loadStaying_inX0 hown hK hP 0 rfl rfl 3 (by decide) (hts _ kX0_loadStaying_f21) (fun _ h9 => h9) rfl dX0_loadStaying_38 ?_
            refine lv_iload hx hb dX0_loadStaying_41 (lv_at hl 4 rfl) ?_
            refine z_iald (k := i) (v := C 3 i) hx hb hK hP 4 rfl (by decide) (by omega) (rfl) dX0_loadStaying_43 ?_
            refine lv_iadd (x := x) (y := C 3 i) hx hb dX0_loadStaying_44 ?_
            refine lv_istore_n (lv' := [(3, .int (x + (C 3 i))), (0, .ref (h 0)), (1, .int lf), (2, .int hv), (4, .int (nI i))]) hx hb dX0_loadStaying_45 rfl hl (by decide) rfl (fun ls hl => ?_)
            refine lv_iinc (v := nI (i + 1)) (lv' := [(4, .int (nI (i + 1))), (3, .int (x + (C 3 i))), (0, .ref (h 0)), (1, .int lf), (2, .int hv)]) hx hb dX0_loadStaying_46 hl (k := 4) rfl (by rw [show Int32.ofInt 1 = nI 1 from rfl, nI_add]) (by decide) rfl (fun ls hl => ?_)
            refine lv_goto (tgt := 5) hx hb dX0_loadStaying_49 (by decide) ?_
            exact ih5 (i + 1) (x + (C 3 i)) (by omega) (by omega) (by rw [ex]; exact (sumW_t (by simp [c22, c33])).symm) H locs ls (lv_sub hl [2, 3, 4, 1, 0] rfl) hP hD hS
  refine lv_iconst (v := 0) hx hb dX0_loadStaying_0 (by decide) ?_
  refine lv_istore_n (lv' := [(3, .int 0), (0, .ref (h 0)), (1, .int lf), (2, .int hv)]) hx hb dX0_loadStaying_1 rfl hl (by decide) rfl (fun ls hl => ?_)
  refine lv_iconst (v := 0) hx hb dX0_loadStaying_2 (by decide) ?_
  refine lv_istore (lv' := [(4, .int 0), (3, .int 0), (0, .ref (h 0)), (1, .int lf), (2, .int hv)]) hx hb dX0_loadStaying_3 hl (by decide) rfl (fun ls hl => ?_)
  exact L5 (n + 1) 0 0 (by omega) (by omega) (rfl) s.heap [] ls (lv_sub hl [2, 3, 4, 1, 0] rfl) hP hD hS


set_option maxHeartbeats 4000000 in
set_option maxRecDepth 100000 in
theorem tX0_loadAboard (l : Launch) (D : va_G) (cI cZ cJ : ClassId) (h : Nat → Nat) (n : Nat) (C : Nat → Nat → Int32) (lf : Int32) (hn : n ≤ 24) : ∀ sz : Nat, zMi l yX0_loadAboard wsX0_loadAboard ({ frames := 2, cells := 0, slots := 0, locals := 47 } : Room) D cI cZ cJ (wC cI h n C) sz [.ref (h 0), .int lf] (fun r w' => r = sumW (fun k => isB C k 1 lf && !decide (C 1 k = -1)) (C 3) n ∧ w' = wC cI h n C) := by
  intro sz
  refine z_head (y := yX0_loadAboard) (av := [.ref (h 0), .int lf]) (w := (wC cI h n C)) (Qc := fun A => zQi D (wC cI h n C) (fun r w' => r = sumW (fun k => isB C k 1 lf && !decide (C 1 k = -1)) (C 3) n ∧ w' = wC cI h n C) A) (cc := cX0_loadAboard) (maxL := 2) (ret := (some .int)) (by decide) rfl (Nat.le_of_ble_eq_true rfl) ?_
  intro p e s m below meth c ls A hat hP hD hS hl
  obtain ⟨hx, hb, hr, hml, hlocks, hts, hown, hin, hK, hE, hA⟩ := hat
  have hP : va_P D vwCl (wC cI h n C) s.heap := hP
  have hD : va_D A (wC cI h n C) := hD
  have hl : lv_has ls 2 [(0, .ref (h 0)), (1, .int lf)] := hl
  refine lv_aload_n hx hb dX0_loadAboard_0 rfl (lv_at hl 0 rfl) ?_
  refine lv_iload_n hx hb dX0_loadAboard_1 rfl (lv_at hl 1 rfl) ?_
  refine lv_iconst (v := (-1)) hx hb dX0_loadAboard_2 (by decide) ?_
  refine z_backiA (z_runVA (n := 2) (As := [.int lf, .int (-1)]) (ci := 1) (rest := []) hx hb hml hown hts hK hE hP hD (tX0_loadStaying l D cI cZ cJ h n C lf (-1) (by omega) _) gX0_loadAboard_X0_loadStaying rfl rfl rfl (by decide +kernel) ⟨Nat.le_of_ble_eq_true rfl, Nat.le_of_ble_eq_true rfl⟩ rfl rfl rfl hl.1 rfl (Nat.le_of_ble_eq_true rfl) dX0_loadAboard_3 ⟨Nat.zero_le _, Nat.zero_le _⟩) hD hS hA (fun r1 w1 H locs hp1 hP hD hS => ?_)
  obtain ⟨rfl, rfl⟩ := hp1
  have hP : va_P D vwCl (wC cI h n C) H := hP
  have hD : va_D A (wC cI h n C) := hD
  exact z_iret hx hb hr hlocks hS hP rfl dX0_loadAboard_6 (⟨rfl, rfl⟩)

theorem kX0_levelsWithWaiting_inX0 : ∀ w ∈ wsX00, w ∈ wsX0_levelsWithWaiting := by decide +kernel
theorem kX0_levelsWithWaiting_f39 : Cond.fieldLink RX0 39 "LiftRows2$Calls" "size" "I" ∈ wsX0_levelsWithWaiting := by decide +kernel
theorem kX0_levelsWithWaiting_f24 : Cond.fieldLink RX0 24 "LiftRows2$Calls" "state" "[I" ∈ wsX0_levelsWithWaiting := by decide +kernel
theorem kX0_levelsWithWaiting_f9 : Cond.fieldLink RX0 9 "LiftRows2$Calls" "from" "[I" ∈ wsX0_levelsWithWaiting := by decide +kernel
set_option maxHeartbeats 4000000 in
set_option maxRecDepth 100000 in
theorem tX0_levelsWithWaiting (l : Launch) (D : va_G) (cI cZ cJ : ClassId) (h : Nat → Nat) (n : Nat) (C : Nat → Nat → Int32) (hn : n ≤ 24) : ∀ sz : Nat, zMi l yX0_levelsWithWaiting wsX0_levelsWithWaiting ({ frames := 0, cells := 0, slots := 0, locals := 0 } : Room) D cI cZ cJ (wC cI h n C) sz [.ref (h 0)] (fun r w' => r = setG (fun k => decide (C 4 k = 0)) (C 0) n ∧ w' = wC cI h n C) := by
  intro sz
  refine z_head (y := yX0_levelsWithWaiting) (av := [.ref (h 0)]) (w := (wC cI h n C)) (Qc := fun A => zQi D (wC cI h n C) (fun r w' => r = setG (fun k => decide (C 4 k = 0)) (C 0) n ∧ w' = wC cI h n C) A) (cc := cX0_levelsWithWaiting) (maxL := 3) (ret := (some .int)) (by decide) rfl (Nat.le_of_ble_eq_true rfl) ?_
  intro p e s m below meth c ls A hat hP hD hS hl
  obtain ⟨hx, hb, hr, hml, hlocks, hts, hown, hin, hK, hE, hA⟩ := hat
  have hP : va_P D vwCl (wC cI h n C) s.heap := hP
  have hD : va_D A (wC cI h n C) := hD
  have hl : lv_has ls 3 [(0, .ref (h 0))] := hl
  have L4 : ∀ (fu : Nat) (i : Nat) (x : Int32), i ≤ n → n + 1 ≤ i + fu → (x = setG (fun k => decide (C 4 k = 0)) (C 0) i) → ∀ (H : Heap) (locs : List Loc) (ls : Array Slot), lv_has ls 3 [(0, .ref (h 0)), (1, .int x), (2, .int (nI i))] → va_P D vwCl (wC cI h n C) H → va_D A (wC cI h n C) → va_S A s.heap H locs → W p l e ({ frames := 0, cells := 0, slots := 0, locals := 0 } : Room) s m ([.ref (h 0)] : List Value).toArray below meth c H locs 0 0 (MQ below (zQi D (wC cI h n C) (fun r w' => r = setG (fun k => decide (C 4 k = 0)) (C 0) n ∧ w' = wC cI h n C) A) ([.ref (h 0)] : List Value).toArray s 0 0 A) (F0 m 4 ls []) := by
    intro fu
    induction fu with
    | zero =>
      intro i x h1 h2
      exact absurd h2 (by omega)
    | succ fu ih4 =>
      intro i x hle hfu ex H locs ls hl hP hD hS
      refine lv_iload_n hx hb dX0_levelsWithWaiting_4 rfl (lv_at hl 2 rfl) ?_
      refine lv_aload_n hx hb dX0_levelsWithWaiting_5 rfl (lv_at hl 0 rfl) ?_
      refine va_get (D := D) (ci := 1) (v := .int (nI n)) (C := RX0) (T := TX0) (N := 10) hx hb hts kX0_levelsWithWaiting_inX0 hown hK hP 0 rfl rfl 9 (by decide) (hts _ kX0_levelsWithWaiting_f39) (fun _ h9 => h9) rfl dX0_levelsWithWaiting_6 ?_
      refine zn_ge (i := i) (j := n) (tgt := 38) hx hb (by omega) (by omega) dX0_levelsWithWaiting_9 (by decide) (fun c9 => ?_) (fun c9 => ?_)
      · skip
        refine lv_iload_n hx hb dX0_levelsWithWaiting_38 rfl (lv_at hl 1 rfl) ?_
        exact z_iret hx hb hr hlocks hS hP rfl dX0_levelsWithWaiting_39 (⟨by rw [ex, show i = n by omega], rfl⟩)
      · skip
        refine lv_aload_n hx hb dX0_levelsWithWaiting_12 rfl (lv_at hl 0 rfl) ?_
        refine va_get (D := D) (ci := 1) (v := .ref (h 5)) (C := RX0) (T := TX0) (N := 10) hx hb hts kX0_levelsWithWaiting_inX0 hown hK hP 0 rfl rfl 4 (by decide) (hts _ kX0_levelsWithWaiting_f24) (fun _ h9 => h9) rfl dX0_levelsWithWaiting_13 ?_
        refine lv_iload_n hx hb dX0_levelsWithWaiting_16 rfl (lv_at hl 2 rfl) ?_
        refine z_iald (k := i) (v := C 4 i) hx hb hK hP 5 rfl (by decide) (by omega) (rfl) dX0_levelsWithWaiting_17 ?_
        refine lv_if_ne (x := C 4 i) (tgt := 32) hx hb dX0_levelsWithWaiting_18 (by decide) (fun c18 => ?_) (fun c18 => ?_)
        · skip
          refine lv_iinc (v := nI (i + 1)) (lv' := [(2, .int (nI (i + 1))), (0, .ref (h 0)), (1, .int x)]) hx hb dX0_levelsWithWaiting_32 hl (k := 2) rfl (by rw [show Int32.ofInt 1 = nI 1 from rfl, nI_add]) (by decide) rfl (fun ls hl => ?_)
          refine lv_goto (tgt := 4) hx hb dX0_levelsWithWaiting_35 (by decide) ?_
          exact ih4 (i + 1) x (by omega) (by omega) (ex.trans (setG_f (decide_eq_false c18)).symm) H locs ls (lv_sub hl [1, 2, 0] rfl) hP hD hS
        · skip
          refine lv_iload_n hx hb dX0_levelsWithWaiting_21 rfl (lv_at hl 1 rfl) ?_
          refine lv_iconst (v := 1) hx hb dX0_levelsWithWaiting_22 (by decide) ?_
          refine lv_aload_n hx hb dX0_levelsWithWaiting_23 rfl (lv_at hl 0 rfl) ?_
          refine va_get (D := D) (ci := 1) (v := .ref (h 1)) (C := RX0) (T := TX0) (N := 10) hx hb hts kX0_levelsWithWaiting_inX0 hown hK hP 0 rfl rfl 0 (by decide) (hts _ kX0_levelsWithWaiting_f9) (fun _ h9 => h9) rfl dX0_levelsWithWaiting_24 ?_
          refine lv_iload_n hx hb dX0_levelsWithWaiting_27 rfl (lv_at hl 2 rfl) ?_
          refine z_iald (k := i) (v := C 0 i) hx hb hK hP 1 rfl (by decide) (by omega) (rfl) dX0_levelsWithWaiting_28 ?_
          refine lv_ishl hx hb dX0_levelsWithWaiting_29 ?_
          refine lv_ior (x := x) (y := 1 <<< ((C 0 i) &&& 31)) hx hb dX0_levelsWithWaiting_30 ?_
          refine lv_istore_n (lv' := [(1, .int (x ||| (1 <<< ((C 0 i) &&& 31)))), (0, .ref (h 0)), (2, .int (nI i))]) hx hb dX0_levelsWithWaiting_31 rfl hl (by decide) rfl (fun ls hl => ?_)
          refine lv_iinc (v := nI (i + 1)) (lv' := [(2, .int (nI (i + 1))), (1, .int (x ||| (1 <<< ((C 0 i) &&& 31)))), (0, .ref (h 0))]) hx hb dX0_levelsWithWaiting_32 hl (k := 2) rfl (by rw [show Int32.ofInt 1 = nI 1 from rfl, nI_add]) (by decide) rfl (fun ls hl => ?_)
          refine lv_goto (tgt := 4) hx hb dX0_levelsWithWaiting_35 (by decide) ?_
          exact ih4 (i + 1) (x ||| (1 <<< ((C 0 i) &&& 31))) (by omega) (by omega) (by rw [ex]; exact (setG_t (decide_eq_true c18)).symm) H locs ls (lv_sub hl [2, 1, 0] rfl) hP hD hS
  refine lv_iconst (v := 0) hx hb dX0_levelsWithWaiting_0 (by decide) ?_
  refine lv_istore_n (lv' := [(1, .int 0), (0, .ref (h 0))]) hx hb dX0_levelsWithWaiting_1 rfl hl (by decide) rfl (fun ls hl => ?_)
  refine lv_iconst (v := 0) hx hb dX0_levelsWithWaiting_2 (by decide) ?_
  refine lv_istore_n (lv' := [(2, .int 0), (1, .int 0), (0, .ref (h 0))]) hx hb dX0_levelsWithWaiting_3 rfl hl (by decide) rfl (fun ls hl => ?_)
  exact L4 (n + 1) 0 0 (by omega) (by omega) (rfl) s.heap [] ls (lv_sub hl [2, 1, 0] rfl) hP hD hS

theorem kX0_numberWaiting_iRX3 : Cond.initialized yX3_asNumber.cls ∈ wsX0_numberWaiting := by decide +kernel
theorem kX0_numberWaiting_tX3_asNumber : Cond.static yX3_asNumber ∈ wsX0_numberWaiting := by decide +kernel
theorem kX0_numberWaiting_inX0 : ∀ w ∈ wsX00, w ∈ wsX0_numberWaiting := by decide +kernel
theorem kX0_numberWaiting_f39 : Cond.fieldLink RX0 39 "LiftRows2$Calls" "size" "I" ∈ wsX0_numberWaiting := by decide +kernel
theorem kX0_numberWaiting_f24 : Cond.fieldLink RX0 24 "LiftRows2$Calls" "state" "[I" ∈ wsX0_numberWaiting := by decide +kernel
set_option maxHeartbeats 4000000 in
set_option maxRecDepth 100000 in
theorem tX0_numberWaiting (l : Launch) (D : va_G) (cI cZ cJ : ClassId) (h : Nat → Nat) (n : Nat) (C : Nat → Nat → Int32) (hn : n ≤ 24) : ∀ sz : Nat, zMi l yX0_numberWaiting wsX0_numberWaiting ({ frames := 1, cells := 0, slots := 0, locals := 20 } : Room) D cI cZ cJ (wC cI h n C) sz [.ref (h 0)] (fun r w' => r = nI (cntW (fun k => decide (C 4 k = 0)) n) ∧ w' = wC cI h n C) := by
  intro sz
  refine z_head (y := yX0_numberWaiting) (av := [.ref (h 0)]) (w := (wC cI h n C)) (Qc := fun A => zQi D (wC cI h n C) (fun r w' => r = nI (cntW (fun k => decide (C 4 k = 0)) n) ∧ w' = wC cI h n C) A) (cc := cX0_numberWaiting) (maxL := 3) (ret := (some .int)) (by decide) rfl (Nat.le_of_ble_eq_true rfl) ?_
  intro p e s m below meth c ls A hat hP hD hS hl
  obtain ⟨hx, hb, hr, hml, hlocks, hts, hown, hin, hK, hE, hA⟩ := hat
  have hP : va_P D vwCl (wC cI h n C) s.heap := hP
  have hD : va_D A (wC cI h n C) := hD
  have hl : lv_has ls 3 [(0, .ref (h 0))] := hl
  have L4 : ∀ (fu : Nat) (i : Nat) (x : Int32), i ≤ n → n + 1 ≤ i + fu → (x = nI (cntW (fun k => decide (C 4 k = 0)) i)) → ∀ (H : Heap) (locs : List Loc) (ls : Array Slot), lv_has ls 3 [(0, .ref (h 0)), (1, .int x), (2, .int (nI i))] → va_P D vwCl (wC cI h n C) H → va_D A (wC cI h n C) → va_S A s.heap H locs → W p l e ({ frames := 1, cells := 0, slots := 0, locals := 20 } : Room) s m ([.ref (h 0)] : List Value).toArray below meth c H locs 0 0 (MQ below (zQi D (wC cI h n C) (fun r w' => r = nI (cntW (fun k => decide (C 4 k = 0)) n) ∧ w' = wC cI h n C) A) ([.ref (h 0)] : List Value).toArray s 0 0 A) (F0 m 4 ls []) := by
    intro fu
    induction fu with
    | zero =>
      intro i x h1 h2
      exact absurd h2 (by omega)
    | succ fu ih4 =>
      intro i x hle hfu ex H locs ls hl hP hD hS
      have L27 : ∀ (bz : Bool), (i < n) → (bz = decide (C 4 i = 0)) → ∀ (H : Heap) (locs : List Loc) (ls : Array Slot), lv_has ls 3 [(0, .ref (h 0)), (1, .int x), (2, .int (nI i))] → va_P D vwCl (wC cI h n C) H → va_D A (wC cI h n C) → va_S A s.heap H locs → W p l e ({ frames := 1, cells := 0, slots := 0, locals := 20 } : Room) s m ([.ref (h 0)] : List Value).toArray below meth c H locs 0 0 (MQ below (zQi D (wC cI h n C) (fun r w' => r = nI (cntW (fun k => decide (C 4 k = 0)) n) ∧ w' = wC cI h n C) A) ([.ref (h 0)] : List Value).toArray s 0 0 A) (F0 m 27 ls [.int (bI bz), .int x]) := by
        intro bz hlt ez H locs ls hl hP hD hS
        refine z_backi (z_runSN (n := 1) (As := [.int (bI bz)]) (rest := [.int x]) hx hb hml hown hts hK hE hP hD [] rfl (by decide) (tX3_asNumber l D cI cZ cJ bz _) gX0_numberWaiting_X3_asNumber_n60 rfl rfl rfl zl_RX0_60 kX0_numberWaiting_iRX3 kX0_numberWaiting_tX3_asNumber (by decide +kernel) ⟨Nat.le_of_ble_eq_true rfl, Nat.le_of_ble_eq_true rfl⟩ rfl hl.1 rfl (Nat.le_of_ble_eq_true rfl) dX0_numberWaiting_27 ⟨Nat.zero_le _, Nat.zero_le _⟩) hP hD hS hA [] rfl (fun r1 w1 H locs hp1 hP hD hS => ?_)
        obtain ⟨rfl, rfl⟩ := hp1
        have hP : va_P D vwCl (wC cI h n C) H := hP
        have hD : va_D A (wC cI h n C) := hD
        refine lv_iadd (x := x) (y := bI bz) hx hb dX0_numberWaiting_30 ?_
        refine lv_istore_n (lv' := [(1, .int (x + (bI bz))), (0, .ref (h 0)), (2, .int (nI i))]) hx hb dX0_numberWaiting_31 rfl hl (by decide) rfl (fun ls hl => ?_)
        refine lv_iinc (v := nI (i + 1)) (lv' := [(2, .int (nI (i + 1))), (1, .int (x + (bI bz))), (0, .ref (h 0))]) hx hb dX0_numberWaiting_32 hl (k := 2) rfl (by rw [show Int32.ofInt 1 = nI 1 from rfl, nI_add]) (by decide) rfl (fun ls hl => ?_)
        refine lv_goto (tgt := 4) hx hb dX0_numberWaiting_35 (by decide) ?_
        exact ih4 (i + 1) (x + (bI bz)) (by omega) (by omega) (by rw [ex, ez]; exact cnt_add _ i) H locs ls (lv_sub hl [2, 1, 0] rfl) hP hD hS
      refine lv_iload_n hx hb dX0_numberWaiting_4 rfl (lv_at hl 2 rfl) ?_
      refine lv_aload_n hx hb dX0_numberWaiting_5 rfl (lv_at hl 0 rfl) ?_
      refine va_get (D := D) (ci := 1) (v := .int (nI n)) (C := RX0) (T := TX0) (N := 10) hx hb hts kX0_numberWaiting_inX0 hown hK hP 0 rfl rfl 9 (by decide) (hts _ kX0_numberWaiting_f39) (fun _ h9 => h9) rfl dX0_numberWaiting_6 ?_
      refine zn_ge (i := i) (j := n) (tgt := 38) hx hb (by omega) (by omega) dX0_numberWaiting_9 (by decide) (fun c9 => ?_) (fun c9 => ?_)
      · skip
        refine lv_iload_n hx hb dX0_numberWaiting_38 rfl (lv_at hl 1 rfl) ?_
        exact z_iret hx hb hr hlocks hS hP rfl dX0_numberWaiting_39 (⟨by rw [ex, show i = n by omega], rfl⟩)
      · skip
        refine lv_iload_n hx hb dX0_numberWaiting_12 rfl (lv_at hl 1 rfl) ?_
        refine lv_aload_n hx hb dX0_numberWaiting_13 rfl (lv_at hl 0 rfl) ?_
        refine va_get (D := D) (ci := 1) (v := .ref (h 5)) (C := RX0) (T := TX0) (N := 10) hx hb hts kX0_numberWaiting_inX0 hown hK hP 0 rfl rfl 4 (by decide) (hts _ kX0_numberWaiting_f24) (fun _ h9 => h9) rfl dX0_numberWaiting_14 ?_
        refine lv_iload_n hx hb dX0_numberWaiting_17 rfl (lv_at hl 2 rfl) ?_
        refine z_iald (k := i) (v := C 4 i) hx hb hK hP 5 rfl (by decide) (by omega) (rfl) dX0_numberWaiting_18 ?_
        refine lv_if_ne (x := C 4 i) (tgt := 26) hx hb dX0_numberWaiting_19 (by decide) (fun c19 => ?_) (fun c19 => ?_)
        · skip
          refine lv_iconst (v := 0) hx hb dX0_numberWaiting_26 (by decide) ?_
          exact L27 false (by omega) ((decide_eq_false c19).symm) H locs ls (lv_sub hl [0, 1, 2] rfl) hP hD hS
        · skip
          refine lv_iconst (v := 1) hx hb dX0_numberWaiting_22 (by decide) ?_
          refine lv_goto (tgt := 27) hx hb dX0_numberWaiting_23 (by decide) ?_
          exact L27 true (by omega) ((decide_eq_true c19).symm) H locs ls (lv_sub hl [0, 1, 2] rfl) hP hD hS
  refine lv_iconst (v := 0) hx hb dX0_numberWaiting_0 (by decide) ?_
  refine lv_istore_n (lv' := [(1, .int 0), (0, .ref (h 0))]) hx hb dX0_numberWaiting_1 rfl hl (by decide) rfl (fun ls hl => ?_)
  refine lv_iconst (v := 0) hx hb dX0_numberWaiting_2 (by decide) ?_
  refine lv_istore_n (lv' := [(2, .int 0), (1, .int 0), (0, .ref (h 0))]) hx hb dX0_numberWaiting_3 rfl hl (by decide) rfl (fun ls hl => ?_)
  exact L4 (n + 1) 0 0 (by omega) (by omega) (rfl) s.heap [] ls (lv_sub hl [2, 1, 0] rfl) hP hD hS

theorem kX0_nearestStop_inX0 : ∀ w ∈ wsX00, w ∈ wsX0_nearestStop := by decide +kernel
theorem kX0_nearestStop_f15 : Cond.fieldLink RX0 15 "LiftRows2$Calls" "to" "[I" ∈ wsX0_nearestStop := by decide +kernel
theorem kX0_nearestStop_f9 : Cond.fieldLink RX0 9 "LiftRows2$Calls" "from" "[I" ∈ wsX0_nearestStop := by decide +kernel
theorem kX0_nearestStop_f39 : Cond.fieldLink RX0 39 "LiftRows2$Calls" "size" "I" ∈ wsX0_nearestStop := by decide +kernel
set_option maxHeartbeats 4000000 in
set_option maxRecDepth 100000 in
theorem tX0_nearestStop (l : Launch) (D : va_G) (cI cZ cJ : ClassId) (h : Nat → Nat) (n : Nat) (C : Nat → Nat → Int32) (a sd wt ab : Int32) (hn : n ≤ 24) : ∀ sz : Nat, zMi l yX0_nearestStop wsX0_nearestStop ({ frames := 0, cells := 0, slots := 0, locals := 0 } : Room) D cI cZ cJ (wC cI h n C) sz [.ref (h 0), .int a, .int sd, .int wt, .int ab] (fun r w' => r = (nsF C a sd wt ab n).1 ∧ w' = wC cI h n C) := by
  intro sz
  refine z_head (y := yX0_nearestStop) (av := [.ref (h 0), .int a, .int sd, .int wt, .int ab]) (w := (wC cI h n C)) (Qc := fun A => zQi D (wC cI h n C) (fun r w' => r = (nsF C a sd wt ab n).1 ∧ w' = wC cI h n C) A) (cc := cX0_nearestStop) (maxL := 12) (ret := (some .int)) (by decide) rfl (Nat.le_of_ble_eq_true rfl) ?_
  intro p e s m below meth c ls A hat hP hD hS hl
  obtain ⟨hx, hb, hr, hml, hlocks, hts, hown, hin, hK, hE, hA⟩ := hat
  have hP : va_P D vwCl (wC cI h n C) s.heap := hP
  have hD : va_D A (wC cI h n C) := hD
  have hl : lv_has ls 12 [(0, .ref (h 0)), (1, .int a), (2, .int sd), (3, .int wt), (4, .int ab)] := hl
  have L10 : ∀ (fu : Nat) (i : Nat) (x : Int32) (y : Int32), i ≤ n → n + 1 ≤ i + fu → ((x, y) = nsF C a sd wt ab i) → ∀ (H : Heap) (locs : List Loc) (ls : Array Slot), lv_has ls 12 [(0, .ref (h 0)), (1, .int a), (2, .int sd), (3, .int wt), (4, .int ab), (5, .int x), (6, .int y), (7, .int (nI i))] → va_P D vwCl (wC cI h n C) H → va_D A (wC cI h n C) → va_S A s.heap H locs → W p l e ({ frames := 0, cells := 0, slots := 0, locals := 0 } : Room) s m ([.ref (h 0), .int a, .int sd, .int wt, .int ab] : List Value).toArray below meth c H locs 0 0 (MQ below (zQi D (wC cI h n C) (fun r w' => r = (nsF C a sd wt ab n).1 ∧ w' = wC cI h n C) A) ([.ref (h 0), .int a, .int sd, .int wt, .int ab] : List Value).toArray s 0 0 A) (F0 m 10 ls []) := by
    intro fu
    induction fu with
    | zero =>
      intro i x y h1 h2
      exact absurd h2 (by omega)
    | succ fu ih10 =>
      intro i x y hle hfu ex H locs ls hl hP hD hS
      have L34 : ∀ (bw : Bool), (i < n) → (bw = bitB wt i) → ∀ (H : Heap) (locs : List Loc) (ls : Array Slot), lv_has ls 12 [(0, .ref (h 0)), (1, .int a), (2, .int sd), (3, .int wt), (4, .int ab), (5, .int x), (6, .int y), (7, .int (nI i))] → va_P D vwCl (wC cI h n C) H → va_D A (wC cI h n C) → va_S A s.heap H locs → W p l e ({ frames := 0, cells := 0, slots := 0, locals := 0 } : Room) s m ([.ref (h 0), .int a, .int sd, .int wt, .int ab] : List Value).toArray below meth c H locs 0 0 (MQ below (zQi D (wC cI h n C) (fun r w' => r = (nsF C a sd wt ab n).1 ∧ w' = wC cI h n C) A) ([.ref (h 0), .int a, .int sd, .int wt, .int ab] : List Value).toArray s 0 0 A) (F0 m 34 ls [.int (bI bw)]) := by
        intro bw hlt ew H locs ls hl hP hD hS
        have L52 : ∀ (ba : Bool), (ba = bitB ab i) → ∀ (H : Heap) (locs : List Loc) (ls : Array Slot), lv_has ls 12 [(0, .ref (h 0)), (1, .int a), (2, .int sd), (3, .int wt), (4, .int ab), (5, .int x), (6, .int y), (7, .int (nI i)), (8, .int (bI bw))] → va_P D vwCl (wC cI h n C) H → va_D A (wC cI h n C) → va_S A s.heap H locs → W p l e ({ frames := 0, cells := 0, slots := 0, locals := 0 } : Room) s m ([.ref (h 0), .int a, .int sd, .int wt, .int ab] : List Value).toArray below meth c H locs 0 0 (MQ below (zQi D (wC cI h n C) (fun r w' => r = (nsF C a sd wt ab n).1 ∧ w' = wC cI h n C) A) ([.ref (h 0), .int a, .int sd, .int wt, .int ab] : List Value).toArray s 0 0 A) (F0 m 52 ls [.int (bI ba)]) := by
          intro ba ea H locs ls hl hP hD hS
          have L76 : ∀ (so : Int32), (so = (if bw = true then C 0 i else C 1 i)) → ∀ (H : Heap) (locs : List Loc) (ls : Array Slot), lv_has ls 12 [(0, .ref (h 0)), (1, .int a), (2, .int sd), (3, .int wt), (4, .int ab), (5, .int x), (6, .int y), (7, .int (nI i)), (8, .int (bI bw)), (9, .int (bI ba))] → va_P D vwCl (wC cI h n C) H → va_D A (wC cI h n C) → va_S A s.heap H locs → W p l e ({ frames := 0, cells := 0, slots := 0, locals := 0 } : Room) s m ([.ref (h 0), .int a, .int sd, .int wt, .int ab] : List Value).toArray below meth c H locs 0 0 (MQ below (zQi D (wC cI h n C) (fun r w' => r = (nsF C a sd wt ab n).1 ∧ w' = wC cI h n C) A) ([.ref (h 0), .int a, .int sd, .int wt, .int ab] : List Value).toArray s 0 0 A) (F0 m 76 ls [.int so]) := by
            intro so eo H locs ls hl hP hD hS
            refine lv_istore (lv' := [(10, .int so), (0, .ref (h 0)), (1, .int a), (2, .int sd), (3, .int wt), (4, .int ab), (5, .int x), (6, .int y), (7, .int (nI i)), (8, .int (bI bw)), (9, .int (bI ba))]) hx hb dX0_nearestStop_76 hl (by decide) rfl (fun ls hl => ?_)
            refine lv_iload hx hb dX0_nearestStop_78 (lv_at hl 0 rfl) ?_
            refine lv_iload_n hx hb dX0_nearestStop_80 rfl (lv_at hl 2 rfl) ?_
            refine lv_isub (x := so) (y := a) hx hb dX0_nearestStop_81 ?_
            refine lv_iload_n hx hb dX0_nearestStop_82 rfl (lv_at hl 3 rfl) ?_
            refine lv_imul (x := so - a) (y := sd) hx hb dX0_nearestStop_83 ?_
            refine lv_istore (lv' := [(11, .int ((so - a) * sd)), (10, .int so), (0, .ref (h 0)), (1, .int a), (2, .int sd), (3, .int wt), (4, .int ab), (5, .int x), (6, .int y), (7, .int (nI i)), (8, .int (bI bw)), (9, .int (bI ba))]) hx hb dX0_nearestStop_84 hl (by decide) rfl (fun ls hl => ?_)
            refine lv_iload hx hb dX0_nearestStop_86 (lv_at hl 10 rfl) ?_
            refine zb_ne (b := bw) (tgt := 96) hx hb dX0_nearestStop_88 (by decide) (fun c88 => ?_) (fun c88 => ?_)
            · skip
              refine lv_iload hx hb dX0_nearestStop_96 (lv_at hl 0 rfl) ?_
              refine lv_if_le (x := (so - a) * sd) (tgt := 116) hx hb dX0_nearestStop_98 (by decide) (fun c98 => ?_) (fun c98 => ?_)
              · skip
                refine lv_iinc (v := nI (i + 1)) (lv' := [(7, .int (nI (i + 1))), (11, .int ((so - a) * sd)), (10, .int so), (0, .ref (h 0)), (1, .int a), (2, .int sd), (3, .int wt), (4, .int ab), (5, .int x), (6, .int y), (8, .int (bI bw)), (9, .int (bI ba))]) hx hb dX0_nearestStop_116 hl (k := 9) rfl (by rw [show Int32.ofInt 1 = nI 1 from rfl, nI_add]) (by decide) rfl (fun ls hl => ?_)
                refine lv_goto (tgt := 10) hx hb dX0_nearestStop_119 (by decide) ?_
                exact ih10 (i + 1) x y (by omega) (by omega) (by rw [nsF_s ex ew ea eo]; simp [c88, Int32.not_lt.mpr c98]) H locs ls (lv_sub hl [3, 4, 5, 6, 7, 8, 9, 0] rfl) hP hD hS
              · skip
                refine lv_iload hx hb dX0_nearestStop_101 (lv_at hl 0 rfl) ?_
                refine lv_iload hx hb dX0_nearestStop_103 (lv_at hl 8 rfl) ?_
                refine lv_icmp_ge (x := (so - a) * sd) (y := y) (tgt := 116) hx hb dX0_nearestStop_105 (by decide) (fun c105 => ?_) (fun c105 => ?_)
                · skip
                  refine lv_iinc (v := nI (i + 1)) (lv' := [(7, .int (nI (i + 1))), (11, .int ((so - a) * sd)), (10, .int so), (0, .ref (h 0)), (1, .int a), (2, .int sd), (3, .int wt), (4, .int ab), (5, .int x), (6, .int y), (8, .int (bI bw)), (9, .int (bI ba))]) hx hb dX0_nearestStop_116 hl (k := 9) rfl (by rw [show Int32.ofInt 1 = nI 1 from rfl, nI_add]) (by decide) rfl (fun ls hl => ?_)
                  refine lv_goto (tgt := 10) hx hb dX0_nearestStop_119 (by decide) ?_
                  exact ih10 (i + 1) x y (by omega) (by omega) (by rw [nsF_s ex ew ea eo]; simp [c88, Int32.not_le.mp c98, Int32.not_lt.mpr c105]) H locs ls (lv_sub hl [3, 4, 5, 6, 7, 8, 9, 0] rfl) hP hD hS
                · skip
                  refine lv_iload hx hb dX0_nearestStop_108 (lv_at hl 1 rfl) ?_
                  refine lv_istore (lv' := [(5, .int so), (11, .int ((so - a) * sd)), (10, .int so), (0, .ref (h 0)), (1, .int a), (2, .int sd), (3, .int wt), (4, .int ab), (6, .int y), (7, .int (nI i)), (8, .int (bI bw)), (9, .int (bI ba))]) hx hb dX0_nearestStop_110 hl (by decide) rfl (fun ls hl => ?_)
                  refine lv_iload hx hb dX0_nearestStop_112 (lv_at hl 1 rfl) ?_
                  refine lv_istore (lv' := [(6, .int ((so - a) * sd)), (5, .int so), (11, .int ((so - a) * sd)), (10, .int so), (0, .ref (h 0)), (1, .int a), (2, .int sd), (3, .int wt), (4, .int ab), (7, .int (nI i)), (8, .int (bI bw)), (9, .int (bI ba))]) hx hb dX0_nearestStop_114 hl (by decide) rfl (fun ls hl => ?_)
                  refine lv_iinc (v := nI (i + 1)) (lv' := [(7, .int (nI (i + 1))), (6, .int ((so - a) * sd)), (5, .int so), (11, .int ((so - a) * sd)), (10, .int so), (0, .ref (h 0)), (1, .int a), (2, .int sd), (3, .int wt), (4, .int ab), (8, .int (bI bw)), (9, .int (bI ba))]) hx hb dX0_nearestStop_116 hl (k := 9) rfl (by rw [show Int32.ofInt 1 = nI 1 from rfl, nI_add]) (by decide) rfl (fun ls hl => ?_)
                  refine lv_goto (tgt := 10) hx hb dX0_nearestStop_119 (by decide) ?_
                  exact ih10 (i + 1) so ((so - a) * sd) (by omega) (by omega) (by rw [nsF_s ex ew ea eo]; simp [c88, Int32.not_le.mp c98, Int32.not_le.mp c105]) H locs ls (lv_sub hl [5, 6, 7, 8, 9, 2, 1, 0] rfl) hP hD hS
            · skip
              refine lv_iload hx hb dX0_nearestStop_91 (lv_at hl 11 rfl) ?_
              refine zb_eq (b := ba) (tgt := 116) hx hb dX0_nearestStop_93 (by decide) (fun c93 => ?_) (fun c93 => ?_)
              · skip
                refine lv_iinc (v := nI (i + 1)) (lv' := [(7, .int (nI (i + 1))), (11, .int ((so - a) * sd)), (10, .int so), (0, .ref (h 0)), (1, .int a), (2, .int sd), (3, .int wt), (4, .int ab), (5, .int x), (6, .int y), (8, .int (bI bw)), (9, .int (bI ba))]) hx hb dX0_nearestStop_116 hl (k := 9) rfl (by rw [show Int32.ofInt 1 = nI 1 from rfl, nI_add]) (by decide) rfl (fun ls hl => ?_)
                refine lv_goto (tgt := 10) hx hb dX0_nearestStop_119 (by decide) ?_
                exact ih10 (i + 1) x y (by omega) (by omega) (by rw [nsF_s ex ew ea eo]; simp [c88, c93]) H locs ls (lv_sub hl [3, 4, 5, 6, 7, 8, 9, 0] rfl) hP hD hS
              · skip
                refine lv_iload hx hb dX0_nearestStop_96 (lv_at hl 0 rfl) ?_
                refine lv_if_le (x := (so - a) * sd) (tgt := 116) hx hb dX0_nearestStop_98 (by decide) (fun c98 => ?_) (fun c98 => ?_)
                · skip
                  refine lv_iinc (v := nI (i + 1)) (lv' := [(7, .int (nI (i + 1))), (11, .int ((so - a) * sd)), (10, .int so), (0, .ref (h 0)), (1, .int a), (2, .int sd), (3, .int wt), (4, .int ab), (5, .int x), (6, .int y), (8, .int (bI bw)), (9, .int (bI ba))]) hx hb dX0_nearestStop_116 hl (k := 9) rfl (by rw [show Int32.ofInt 1 = nI 1 from rfl, nI_add]) (by decide) rfl (fun ls hl => ?_)
                  refine lv_goto (tgt := 10) hx hb dX0_nearestStop_119 (by decide) ?_
                  exact ih10 (i + 1) x y (by omega) (by omega) (by rw [nsF_s ex ew ea eo]; simp [c88, c93, Int32.not_lt.mpr c98]) H locs ls (lv_sub hl [3, 4, 5, 6, 7, 8, 9, 0] rfl) hP hD hS
                · skip
                  refine lv_iload hx hb dX0_nearestStop_101 (lv_at hl 0 rfl) ?_
                  refine lv_iload hx hb dX0_nearestStop_103 (lv_at hl 8 rfl) ?_
                  refine lv_icmp_ge (x := (so - a) * sd) (y := y) (tgt := 116) hx hb dX0_nearestStop_105 (by decide) (fun c105 => ?_) (fun c105 => ?_)
                  · skip
                    refine lv_iinc (v := nI (i + 1)) (lv' := [(7, .int (nI (i + 1))), (11, .int ((so - a) * sd)), (10, .int so), (0, .ref (h 0)), (1, .int a), (2, .int sd), (3, .int wt), (4, .int ab), (5, .int x), (6, .int y), (8, .int (bI bw)), (9, .int (bI ba))]) hx hb dX0_nearestStop_116 hl (k := 9) rfl (by rw [show Int32.ofInt 1 = nI 1 from rfl, nI_add]) (by decide) rfl (fun ls hl => ?_)
                    refine lv_goto (tgt := 10) hx hb dX0_nearestStop_119 (by decide) ?_
                    exact ih10 (i + 1) x y (by omega) (by omega) (by rw [nsF_s ex ew ea eo]; simp [c88, c93, Int32.not_le.mp c98, Int32.not_lt.mpr c105]) H locs ls (lv_sub hl [3, 4, 5, 6, 7, 8, 9, 0] rfl) hP hD hS
                  · skip
                    refine lv_iload hx hb dX0_nearestStop_108 (lv_at hl 1 rfl) ?_
                    refine lv_istore (lv' := [(5, .int so), (11, .int ((so - a) * sd)), (10, .int so), (0, .ref (h 0)), (1, .int a), (2, .int sd), (3, .int wt), (4, .int ab), (6, .int y), (7, .int (nI i)), (8, .int (bI bw)), (9, .int (bI ba))]) hx hb dX0_nearestStop_110 hl (by decide) rfl (fun ls hl => ?_)
                    refine lv_iload hx hb dX0_nearestStop_112 (lv_at hl 1 rfl) ?_
                    refine lv_istore (lv' := [(6, .int ((so - a) * sd)), (5, .int so), (11, .int ((so - a) * sd)), (10, .int so), (0, .ref (h 0)), (1, .int a), (2, .int sd), (3, .int wt), (4, .int ab), (7, .int (nI i)), (8, .int (bI bw)), (9, .int (bI ba))]) hx hb dX0_nearestStop_114 hl (by decide) rfl (fun ls hl => ?_)
                    refine lv_iinc (v := nI (i + 1)) (lv' := [(7, .int (nI (i + 1))), (6, .int ((so - a) * sd)), (5, .int so), (11, .int ((so - a) * sd)), (10, .int so), (0, .ref (h 0)), (1, .int a), (2, .int sd), (3, .int wt), (4, .int ab), (8, .int (bI bw)), (9, .int (bI ba))]) hx hb dX0_nearestStop_116 hl (k := 9) rfl (by rw [show Int32.ofInt 1 = nI 1 from rfl, nI_add]) (by decide) rfl (fun ls hl => ?_)
                    refine lv_goto (tgt := 10) hx hb dX0_nearestStop_119 (by decide) ?_
                    exact ih10 (i + 1) so ((so - a) * sd) (by omega) (by omega) (by rw [nsF_s ex ew ea eo]; simp [c88, c93, Int32.not_le.mp c98, Int32.not_le.mp c105]) H locs ls (lv_sub hl [5, 6, 7, 8, 9, 2, 1, 0] rfl) hP hD hS
          refine lv_istore (lv' := [(9, .int (bI ba)), (0, .ref (h 0)), (1, .int a), (2, .int sd), (3, .int wt), (4, .int ab), (5, .int x), (6, .int y), (7, .int (nI i)), (8, .int (bI bw))]) hx hb dX0_nearestStop_52 hl (by decide) rfl (fun ls hl => ?_)
          refine lv_iload hx hb dX0_nearestStop_54 (lv_at hl 9 rfl) ?_
          refine zb_eq (b := bw) (tgt := 69) hx hb dX0_nearestStop_56 (by decide) (fun c56 => ?_) (fun c56 => ?_)
          · skip
            refine lv_aload_n hx hb dX0_nearestStop_69 rfl (lv_at hl 1 rfl) ?_
            refine va_get (D := D) (ci := 1) (v := .ref (h 2)) (C := RX0) (T := TX0) (N := 10) hx hb hts kX0_nearestStop_inX0 hown hK hP 0 rfl rfl 1 (by decide) (hts _ kX0_nearestStop_f15) (fun _ h9 => h9) rfl dX0_nearestStop_70 ?_
            refine lv_iload hx hb dX0_nearestStop_73 (lv_at hl 8 rfl) ?_
            refine z_iald (k := i) (v := C 1 i) hx hb hK hP 2 rfl (by decide) (by omega) (rfl) dX0_nearestStop_75 ?_
            exact L76 (C 1 i) (by simp [c56]) H locs ls (lv_sub hl [1, 2, 3, 4, 5, 6, 7, 8, 9, 0] rfl) hP hD hS
          · skip
            refine lv_aload_n hx hb dX0_nearestStop_59 rfl (lv_at hl 1 rfl) ?_
            refine va_get (D := D) (ci := 1) (v := .ref (h 1)) (C := RX0) (T := TX0) (N := 10) hx hb hts kX0_nearestStop_inX0 hown hK hP 0 rfl rfl 0 (by decide) (hts _ kX0_nearestStop_f9) (fun _ h9 => h9) rfl dX0_nearestStop_60 ?_
            refine lv_iload hx hb dX0_nearestStop_63 (lv_at hl 8 rfl) ?_
            refine z_iald (k := i) (v := C 0 i) hx hb hK hP 1 rfl (by decide) (by omega) (rfl) dX0_nearestStop_65 ?_
            refine lv_goto (tgt := 76) hx hb dX0_nearestStop_66 (by decide) ?_
            exact L76 (C 0 i) (by simp [c56]) H locs ls (lv_sub hl [1, 2, 3, 4, 5, 6, 7, 8, 9, 0] rfl) hP hD hS
        refine lv_istore (lv' := [(8, .int (bI bw)), (0, .ref (h 0)), (1, .int a), (2, .int sd), (3, .int wt), (4, .int ab), (5, .int x), (6, .int y), (7, .int (nI i))]) hx hb dX0_nearestStop_34 hl (by decide) rfl (fun ls hl => ?_)
        refine lv_iload hx hb dX0_nearestStop_36 (lv_at hl 5 rfl) ?_
        refine lv_iload hx hb dX0_nearestStop_38 (lv_at hl 8 rfl) ?_
        refine lv_ishr hx hb dX0_nearestStop_40 ?_
        refine lv_iconst (v := 1) hx hb dX0_nearestStop_41 (by decide) ?_
        refine lv_iand (x := ab >>> ((nI i) &&& 31)) (y := 1) hx hb dX0_nearestStop_42 ?_
        refine lv_iconst (v := 1) hx hb dX0_nearestStop_43 (by decide) ?_
        refine lv_icmp_ne (x := (ab >>> ((nI i) &&& 31)) &&& 1) (y := 1) (tgt := 51) hx hb dX0_nearestStop_44 (by decide) (fun c44 => ?_) (fun c44 => ?_)
        · skip
          refine lv_iconst (v := 0) hx hb dX0_nearestStop_51 (by decide) ?_
          exact L52 false (by simp [bitB, c44]) H locs ls (lv_sub hl [1, 2, 3, 4, 5, 6, 7, 8, 0] rfl) hP hD hS
        · skip
          refine lv_iconst (v := 1) hx hb dX0_nearestStop_47 (by decide) ?_
          refine lv_goto (tgt := 52) hx hb dX0_nearestStop_48 (by decide) ?_
          exact L52 true (by simp [bitB, c44]) H locs ls (lv_sub hl [1, 2, 3, 4, 5, 6, 7, 8, 0] rfl) hP hD hS
      refine lv_iload hx hb dX0_nearestStop_10 (lv_at hl 7 rfl) ?_
      refine lv_aload_n hx hb dX0_nearestStop_12 rfl (lv_at hl 0 rfl) ?_
      refine va_get (D := D) (ci := 1) (v := .int (nI n)) (C := RX0) (T := TX0) (N := 10) hx hb hts kX0_nearestStop_inX0 hown hK hP 0 rfl rfl 9 (by decide) (hts _ kX0_nearestStop_f39) (fun _ h9 => h9) rfl dX0_nearestStop_13 ?_
      refine zn_ge (i := i) (j := n) (tgt := 122) hx hb (by omega) (by omega) dX0_nearestStop_16 (by decide) (fun c16 => ?_) (fun c16 => ?_)
      · skip
        refine lv_iload hx hb dX0_nearestStop_122 (lv_at hl 5 rfl) ?_
        exact z_iret hx hb hr hlocks hS hP rfl dX0_nearestStop_124 (⟨by rw [← show i = n by omega, ← ex], rfl⟩)
      · skip
        refine lv_iload_n hx hb dX0_nearestStop_19 rfl (lv_at hl 3 rfl) ?_
        refine lv_iload hx hb dX0_nearestStop_20 (lv_at hl 7 rfl) ?_
        refine lv_ishr hx hb dX0_nearestStop_22 ?_
        refine lv_iconst (v := 1) hx hb dX0_nearestStop_23 (by decide) ?_
        refine lv_iand (x := wt >>> ((nI i) &&& 31)) (y := 1) hx hb dX0_nearestStop_24 ?_
        refine lv_iconst (v := 1) hx hb dX0_nearestStop_25 (by decide) ?_
        refine lv_icmp_ne (x := (wt >>> ((nI i) &&& 31)) &&& 1) (y := 1) (tgt := 33) hx hb dX0_nearestStop_26 (by decide) (fun c26 => ?_) (fun c26 => ?_)
        · skip
          refine lv_iconst (v := 0) hx hb dX0_nearestStop_33 (by decide) ?_
          exact L34 false (by omega) (by simp [bitB, c26]) H locs ls (lv_sub hl [0, 1, 2, 3, 4, 5, 6, 7] rfl) hP hD hS
        · skip
          refine lv_iconst (v := 1) hx hb dX0_nearestStop_29 (by decide) ?_
          refine lv_goto (tgt := 34) hx hb dX0_nearestStop_30 (by decide) ?_
          exact L34 true (by omega) (by simp [bitB, c26]) H locs ls (lv_sub hl [0, 1, 2, 3, 4, 5, 6, 7] rfl) hP hD hS
  refine lv_iconst (v := (-1)) hx hb dX0_nearestStop_0 (by decide) ?_
  refine lv_istore (lv' := [(5, .int (-1)), (0, .ref (h 0)), (1, .int a), (2, .int sd), (3, .int wt), (4, .int ab)]) hx hb dX0_nearestStop_1 hl (by decide) rfl (fun ls hl => ?_)
  refine lv_bipush (v := 20) hx hb dX0_nearestStop_3 (by decide) ?_
  refine lv_istore (lv' := [(6, .int 20), (5, .int (-1)), (0, .ref (h 0)), (1, .int a), (2, .int sd), (3, .int wt), (4, .int ab)]) hx hb dX0_nearestStop_5 hl (by decide) rfl (fun ls hl => ?_)
  refine lv_iconst (v := 0) hx hb dX0_nearestStop_7 (by decide) ?_
  refine lv_istore (lv' := [(7, .int 0), (6, .int 20), (5, .int (-1)), (0, .ref (h 0)), (1, .int a), (2, .int sd), (3, .int wt), (4, .int ab)]) hx hb dX0_nearestStop_8 hl (by decide) rfl (fun ls hl => ?_)
  exact L10 (n + 1) 0 (-1) 20 (by omega) (by omega) (rfl) s.heap [] ls (lv_sub hl [3, 4, 5, 6, 7, 2, 1, 0] rfl) hP hD hS


set_option maxHeartbeats 4000000 in
set_option maxRecDepth 100000 in
theorem tX0_hasWork (l : Launch) (D : va_G) (cI cZ cJ : ClassId) (h : Nat → Nat) (n : Nat) (C : Nat → Nat → Int32) (lf a sd : Int32) (hn : n ≤ 24) : ∀ sz : Nat, zMi l yX0_hasWork wsX0_hasWork ({ frames := 2, cells := 0, slots := 0, locals := 47 } : Room) D cI cZ cJ (wC cI h n C) sz [.ref (h 0), .int lf, .int a, .int sd] (fun r w' => r = bI (!decide ((nsF C a sd (setG (fun k => isB C k 0 lf) nI n) (setG (fun k => isB C k 1 lf) nI n) n).1 = -1)) ∧ w' = wC cI h n C) := by
  intro sz
  refine z_head (y := yX0_hasWork) (av := [.ref (h 0), .int lf, .int a, .int sd]) (w := (wC cI h n C)) (Qc := fun A => zQi D (wC cI h n C) (fun r w' => r = bI (!decide ((nsF C a sd (setG (fun k => isB C k 0 lf) nI n) (setG (fun k => isB C k 1 lf) nI n) n).1 = -1)) ∧ w' = wC cI h n C) A) (cc := cX0_hasWork) (maxL := 4) (ret := (some .boolean)) (by decide) rfl (Nat.le_of_ble_eq_true rfl) ?_
  intro p e s m below meth c ls A hat hP hD hS hl
  obtain ⟨hx, hb, hr, hml, hlocks, hts, hown, hin, hK, hE, hA⟩ := hat
  have hP : va_P D vwCl (wC cI h n C) s.heap := hP
  have hD : va_D A (wC cI h n C) := hD
  have hl : lv_has ls 4 [(0, .ref (h 0)), (1, .int lf), (2, .int a), (3, .int sd)] := hl
  refine lv_aload_n hx hb dX0_hasWork_0 rfl (lv_at hl 0 rfl) ?_
  refine lv_iload_n hx hb dX0_hasWork_1 rfl (lv_at hl 2 rfl) ?_
  refine lv_iload_n hx hb dX0_hasWork_2 rfl (lv_at hl 3 rfl) ?_
  refine lv_aload_n hx hb dX0_hasWork_3 rfl (lv_at hl 0 rfl) ?_
  refine lv_iconst (v := 0) hx hb dX0_hasWork_4 (by decide) ?_
  refine lv_iload_n hx hb dX0_hasWork_5 rfl (lv_at hl 1 rfl) ?_
  refine z_backiA (z_runVA (n := 2) (As := [.int 0, .int lf]) (ci := 1) (rest := [.int sd, .int a, .ref (h 0)]) hx hb hml hown hts hK hE hP hD (tX0_setOf l D cI cZ cJ h n C 0 lf (by omega) _) gX0_hasWork_X0_setOf rfl rfl rfl (by decide +kernel) ⟨Nat.le_of_ble_eq_true rfl, Nat.le_of_ble_eq_true rfl⟩ rfl rfl rfl hl.1 rfl (Nat.le_of_ble_eq_true rfl) dX0_hasWork_6 ⟨Nat.zero_le _, Nat.zero_le _⟩) hD hS hA (fun r1 w1 H locs hp1 hP hD hS => ?_)
  obtain ⟨rfl, rfl⟩ := hp1
  have hP : va_P D vwCl (wC cI h n C) H := hP
  have hD : va_D A (wC cI h n C) := hD
  refine lv_aload_n hx hb dX0_hasWork_9 rfl (lv_at hl 0 rfl) ?_
  refine lv_iconst (v := 1) hx hb dX0_hasWork_10 (by decide) ?_
  refine lv_iload_n hx hb dX0_hasWork_11 rfl (lv_at hl 1 rfl) ?_
  refine z_backiA (z_runVA (n := 2) (As := [.int 1, .int lf]) (ci := 1) (rest := [.int (setG (fun k => isB C k 0 lf) nI n), .int sd, .int a, .ref (h 0)]) hx hb hml hown hts hK hE hP hD (tX0_setOf l D cI cZ cJ h n C 1 lf (by omega) _) gX0_hasWork_X0_setOf rfl rfl rfl (by decide +kernel) ⟨Nat.le_of_ble_eq_true rfl, Nat.le_of_ble_eq_true rfl⟩ rfl rfl rfl hl.1 rfl (Nat.le_of_ble_eq_true rfl) dX0_hasWork_12 ⟨Nat.zero_le _, Nat.zero_le _⟩) hD hS hA (fun r2 w1 H locs hp2 hP hD hS => ?_)
  obtain ⟨rfl, rfl⟩ := hp2
  have hP : va_P D vwCl (wC cI h n C) H := hP
  have hD : va_D A (wC cI h n C) := hD
  refine z_backiA (z_runVA (n := 4) (As := [.int a, .int sd, .int (setG (fun k => isB C k 0 lf) nI n), .int (setG (fun k => isB C k 1 lf) nI n)]) (ci := 1) (rest := []) hx hb hml hown hts hK hE hP hD (tX0_nearestStop l D cI cZ cJ h n C a sd (setG (fun k => isB C k 0 lf) nI n) (setG (fun k => isB C k 1 lf) nI n) (by omega) _) gX0_hasWork_X0_nearestStop rfl rfl rfl (by decide +kernel) ⟨Nat.le_of_ble_eq_true rfl, Nat.le_of_ble_eq_true rfl⟩ rfl rfl rfl hl.1 rfl (Nat.le_of_ble_eq_true rfl) dX0_hasWork_15 ⟨Nat.zero_le _, Nat.zero_le _⟩) hD hS hA (fun r3 w1 H locs hp3 hP hD hS => ?_)
  obtain ⟨rfl, rfl⟩ := hp3
  have hP : va_P D vwCl (wC cI h n C) H := hP
  have hD : va_D A (wC cI h n C) := hD
  refine lv_iconst (v := (-1)) hx hb dX0_hasWork_18 (by decide) ?_
  refine lv_icmp_eq (x := (nsF C a sd (setG (fun k => isB C k 0 lf) nI n) (setG (fun k => isB C k 1 lf) nI n) n).1) (y := (-1)) (tgt := 26) hx hb dX0_hasWork_19 (by decide) (fun c19 => ?_) (fun c19 => ?_)
  · skip
    refine lv_iconst (v := 0) hx hb dX0_hasWork_26 (by decide) ?_
    exact z_zret hx hb hr hlocks hS hP rfl (Or.inl rfl) dX0_hasWork_27 (⟨by simp [bI, c19], rfl⟩)
  · skip
    refine lv_iconst (v := 1) hx hb dX0_hasWork_22 (by decide) ?_
    refine lv_goto (tgt := 27) hx hb dX0_hasWork_23 (by decide) ?_
    exact z_zret hx hb hr hlocks hS hP rfl (Or.inr rfl) dX0_hasWork_27 (⟨by simp [bI, c19], rfl⟩)

theorem kJ6_bitCount_0f7a4_c265 : Cond.constant RJ6 265 (1431655765) ∈ wsJ6_bitCount_0f7a4 := by decide +kernel
theorem kJ6_bitCount_0f7a4_c266 : Cond.constant RJ6 266 (858993459) ∈ wsJ6_bitCount_0f7a4 := by decide +kernel
theorem kJ6_bitCount_0f7a4_c267 : Cond.constant RJ6 267 (252645135) ∈ wsJ6_bitCount_0f7a4 := by decide +kernel
set_option maxHeartbeats 4000000 in
set_option maxRecDepth 100000 in
theorem tJ6_bitCount_0f7a4 (l : Launch) (D : va_G) (cI cZ cJ : ClassId) (x : Int32) : ∀ sz : Nat, zMi l yJ6_bitCount_0f7a4 wsJ6_bitCount_0f7a4 ({ frames := 0, cells := 0, slots := 0, locals := 0 } : Room) D cI cZ cJ ([]) sz [.int x] (fun r w' => r = bcI x ∧ w' = []) := by
  intro sz
  refine z_headF (y := yJ6_bitCount_0f7a4) (av := [.int x]) (w := ([])) (Qc := fun A => zQi D ([]) (fun r w' => r = bcI x ∧ w' = []) A) (cc := cJ6_bitCount_0f7a4) (maxL := 1) (ret := (some .int)) (by decide) rfl (Nat.le_of_ble_eq_true rfl) ?_
  intro p e s m below meth c ls A hat hP hD hS hl
  obtain ⟨hx, hb, hr, hml, hlocks, hts, hown, hin, hK, hE, hA⟩ := hat
  have hP : va_P D vwCl [] s.heap := hP
  have hD : va_D A [] := hD
  have hl : lv_has ls 1 [(0, .int x)] := hl
  refine lv_iload_n hx hb dJ6_bitCount_0f7a4_0 rfl (lv_at hl 0 rfl) ?_
  refine lv_iload_n hx hb dJ6_bitCount_0f7a4_1 rfl (lv_at hl 0 rfl) ?_
  refine lv_iconst (v := 1) hx hb dJ6_bitCount_0f7a4_2 (by decide) ?_
  refine lv_iushr (v := (x.toUInt32 >>> ((1 : Int32).toUInt32 &&& Int32.toUInt32 31)).toInt32) hx hb dJ6_bitCount_0f7a4_3 rfl ?_
  refine lv_ldcw (v := 1431655765) hx hb hown (hts _ kJ6_bitCount_0f7a4_c265) dJ6_bitCount_0f7a4_4 ?_
  refine lv_iand (x := (x.toUInt32 >>> ((1 : Int32).toUInt32 &&& Int32.toUInt32 31)).toInt32) (y := 1431655765) hx hb dJ6_bitCount_0f7a4_7 ?_
  refine lv_isub (x := x) (y := ((x.toUInt32 >>> ((1 : Int32).toUInt32 &&& Int32.toUInt32 31)).toInt32) &&& 1431655765) hx hb dJ6_bitCount_0f7a4_8 ?_
  refine lv_istore_n (lv' := [(0, .int (x - (((x.toUInt32 >>> ((1 : Int32).toUInt32 &&& Int32.toUInt32 31)).toInt32) &&& 1431655765)))]) hx hb dJ6_bitCount_0f7a4_9 rfl hl (by decide) rfl (fun ls hl => ?_)
  have hl : lv_has ls 1 [(0, .int (bc1 x))] := hl
  refine lv_iload_n hx hb dJ6_bitCount_0f7a4_10 rfl (lv_at hl 0 rfl) ?_
  refine lv_ldcw (v := 858993459) hx hb hown (hts _ kJ6_bitCount_0f7a4_c266) dJ6_bitCount_0f7a4_11 ?_
  refine lv_iand (x := bc1 x) (y := 858993459) hx hb dJ6_bitCount_0f7a4_14 ?_
  refine lv_iload_n hx hb dJ6_bitCount_0f7a4_15 rfl (lv_at hl 0 rfl) ?_
  refine lv_iconst (v := 2) hx hb dJ6_bitCount_0f7a4_16 (by decide) ?_
  refine lv_iushr (v := ((bc1 x).toUInt32 >>> ((2 : Int32).toUInt32 &&& Int32.toUInt32 31)).toInt32) hx hb dJ6_bitCount_0f7a4_17 rfl ?_
  refine lv_ldcw (v := 858993459) hx hb hown (hts _ kJ6_bitCount_0f7a4_c266) dJ6_bitCount_0f7a4_18 ?_
  refine lv_iand (x := ((bc1 x).toUInt32 >>> ((2 : Int32).toUInt32 &&& Int32.toUInt32 31)).toInt32) (y := 858993459) hx hb dJ6_bitCount_0f7a4_21 ?_
  refine lv_iadd (x := (bc1 x) &&& 858993459) (y := (((bc1 x).toUInt32 >>> ((2 : Int32).toUInt32 &&& Int32.toUInt32 31)).toInt32) &&& 858993459) hx hb dJ6_bitCount_0f7a4_22 ?_
  refine lv_istore_n (lv' := [(0, .int (((bc1 x) &&& 858993459) + ((((bc1 x).toUInt32 >>> ((2 : Int32).toUInt32 &&& Int32.toUInt32 31)).toInt32) &&& 858993459)))]) hx hb dJ6_bitCount_0f7a4_23 rfl hl (by decide) rfl (fun ls hl => ?_)
  have hl : lv_has ls 1 [(0, .int (bc2 (bc1 x)))] := hl
  refine lv_iload_n hx hb dJ6_bitCount_0f7a4_24 rfl (lv_at hl 0 rfl) ?_
  refine lv_iload_n hx hb dJ6_bitCount_0f7a4_25 rfl (lv_at hl 0 rfl) ?_
  refine lv_iconst (v := 4) hx hb dJ6_bitCount_0f7a4_26 (by decide) ?_
  refine lv_iushr (v := ((bc2 (bc1 x)).toUInt32 >>> ((4 : Int32).toUInt32 &&& Int32.toUInt32 31)).toInt32) hx hb dJ6_bitCount_0f7a4_27 rfl ?_
  refine lv_iadd (x := bc2 (bc1 x)) (y := ((bc2 (bc1 x)).toUInt32 >>> ((4 : Int32).toUInt32 &&& Int32.toUInt32 31)).toInt32) hx hb dJ6_bitCount_0f7a4_28 ?_
  refine lv_ldcw (v := 252645135) hx hb hown (hts _ kJ6_bitCount_0f7a4_c267) dJ6_bitCount_0f7a4_29 ?_
  refine lv_iand (x := (bc2 (bc1 x)) + (((bc2 (bc1 x)).toUInt32 >>> ((4 : Int32).toUInt32 &&& Int32.toUInt32 31)).toInt32)) (y := 252645135) hx hb dJ6_bitCount_0f7a4_32 ?_
  refine lv_istore_n (lv' := [(0, .int (((bc2 (bc1 x)) + (((bc2 (bc1 x)).toUInt32 >>> ((4 : Int32).toUInt32 &&& Int32.toUInt32 31)).toInt32)) &&& 252645135))]) hx hb dJ6_bitCount_0f7a4_33 rfl hl (by decide) rfl (fun ls hl => ?_)
  have hl : lv_has ls 1 [(0, .int (bc3 (bc2 (bc1 x))))] := hl
  refine lv_iload_n hx hb dJ6_bitCount_0f7a4_34 rfl (lv_at hl 0 rfl) ?_
  refine lv_iload_n hx hb dJ6_bitCount_0f7a4_35 rfl (lv_at hl 0 rfl) ?_
  refine lv_bipush (v := 8) hx hb dJ6_bitCount_0f7a4_36 (by decide) ?_
  refine lv_iushr (v := ((bc3 (bc2 (bc1 x))).toUInt32 >>> ((8 : Int32).toUInt32 &&& Int32.toUInt32 31)).toInt32) hx hb dJ6_bitCount_0f7a4_38 rfl ?_
  refine lv_iadd (x := bc3 (bc2 (bc1 x))) (y := ((bc3 (bc2 (bc1 x))).toUInt32 >>> ((8 : Int32).toUInt32 &&& Int32.toUInt32 31)).toInt32) hx hb dJ6_bitCount_0f7a4_39 ?_
  refine lv_istore_n (lv' := [(0, .int ((bc3 (bc2 (bc1 x))) + (((bc3 (bc2 (bc1 x))).toUInt32 >>> ((8 : Int32).toUInt32 &&& Int32.toUInt32 31)).toInt32)))]) hx hb dJ6_bitCount_0f7a4_40 rfl hl (by decide) rfl (fun ls hl => ?_)
  have hl : lv_has ls 1 [(0, .int (bc4 (bc3 (bc2 (bc1 x)))))] := hl
  refine lv_iload_n hx hb dJ6_bitCount_0f7a4_41 rfl (lv_at hl 0 rfl) ?_
  refine lv_iload_n hx hb dJ6_bitCount_0f7a4_42 rfl (lv_at hl 0 rfl) ?_
  refine lv_bipush (v := 16) hx hb dJ6_bitCount_0f7a4_43 (by decide) ?_
  refine lv_iushr (v := ((bc4 (bc3 (bc2 (bc1 x)))).toUInt32 >>> ((16 : Int32).toUInt32 &&& Int32.toUInt32 31)).toInt32) hx hb dJ6_bitCount_0f7a4_45 rfl ?_
  refine lv_iadd (x := bc4 (bc3 (bc2 (bc1 x)))) (y := ((bc4 (bc3 (bc2 (bc1 x)))).toUInt32 >>> ((16 : Int32).toUInt32 &&& Int32.toUInt32 31)).toInt32) hx hb dJ6_bitCount_0f7a4_46 ?_
  refine lv_istore_n (lv' := [(0, .int ((bc4 (bc3 (bc2 (bc1 x)))) + (((bc4 (bc3 (bc2 (bc1 x)))).toUInt32 >>> ((16 : Int32).toUInt32 &&& Int32.toUInt32 31)).toInt32)))]) hx hb dJ6_bitCount_0f7a4_47 rfl hl (by decide) rfl (fun ls hl => ?_)
  have hl : lv_has ls 1 [(0, .int (bc5 (bc4 (bc3 (bc2 (bc1 x))))))] := hl
  refine lv_iload_n hx hb dJ6_bitCount_0f7a4_48 rfl (lv_at hl 0 rfl) ?_
  refine lv_bipush (v := 63) hx hb dJ6_bitCount_0f7a4_49 (by decide) ?_
  refine lv_iand (x := bc5 (bc4 (bc3 (bc2 (bc1 x))))) (y := 63) hx hb dJ6_bitCount_0f7a4_51 ?_
  exact z_iret hx hb hr hlocks hS hP rfl dJ6_bitCount_0f7a4_52 (⟨rfl, rfl⟩)


set_option maxHeartbeats 4000000 in
set_option maxRecDepth 100000 in
theorem tX0_number (l : Launch) (D : va_G) (cI cZ cJ : ClassId) (h : Nat → Nat) (n : Nat) (C : Nat → Nat → Int32) (st lf : Int32) (hn : n ≤ 24) : ∀ sz : Nat, zMi l yX0_number wsX0_number ({ frames := 2, cells := 0, slots := 0, locals := 47 } : Room) D cI cZ cJ (wC cI h n C) sz [.ref (h 0), .int st, .int lf] (fun r w' => r = nI (cntW (fun k => isB C k st lf) n) ∧ w' = wC cI h n C) := by
  intro sz
  refine z_head (y := yX0_number) (av := [.ref (h 0), .int st, .int lf]) (w := (wC cI h n C)) (Qc := fun A => zQi D (wC cI h n C) (fun r w' => r = nI (cntW (fun k => isB C k st lf) n) ∧ w' = wC cI h n C) A) (cc := cX0_number) (maxL := 3) (ret := (some .int)) (by decide) rfl (Nat.le_of_ble_eq_true rfl) ?_
  intro p e s m below meth c ls A hat hP hD hS hl
  obtain ⟨hx, hb, hr, hml, hlocks, hts, hown, hin, hK, hE, hA⟩ := hat
  have hP : va_P D vwCl (wC cI h n C) s.heap := hP
  have hD : va_D A (wC cI h n C) := hD
  have hl : lv_has ls 3 [(0, .ref (h 0)), (1, .int st), (2, .int lf)] := hl
  refine lv_aload_n hx hb dX0_number_0 rfl (lv_at hl 0 rfl) ?_
  refine lv_iload_n hx hb dX0_number_1 rfl (lv_at hl 1 rfl) ?_
  refine lv_iload_n hx hb dX0_number_2 rfl (lv_at hl 2 rfl) ?_
  refine z_backiA (z_runVA (n := 2) (As := [.int st, .int lf]) (ci := 1) (rest := []) hx hb hml hown hts hK hE hP hD (tX0_setOf l D cI cZ cJ h n C st lf (by omega) _) gX0_number_X0_setOf rfl rfl rfl (by decide +kernel) ⟨Nat.le_of_ble_eq_true rfl, Nat.le_of_ble_eq_true rfl⟩ rfl rfl rfl hl.1 rfl (Nat.le_of_ble_eq_true rfl) dX0_number_3 ⟨Nat.zero_le _, Nat.zero_le _⟩) hD hS hA (fun r1 w1 H locs hp1 hP hD hS => ?_)
  obtain ⟨rfl, rfl⟩ := hp1
  have hP : va_P D vwCl (wC cI h n C) H := hP
  have hD : va_D A (wC cI h n C) := hD
  refine z_backi (z_runS (n := 1) (As := [.int (setG (fun k => isB C k st lf) nI n)]) (rest := []) hx hb hml hown hts hK hE hP hD [] rfl (by decide) (tJ6_bitCount_0f7a4 l D cI cZ cJ (setG (fun k => isB C k st lf) nI n) _) gX0_number_J6_bitCount_0f7a4 rfl rfl rfl (by decide +kernel) ⟨Nat.le_of_ble_eq_true rfl, Nat.le_of_ble_eq_true rfl⟩ rfl hl.1 rfl (Nat.le_of_ble_eq_true rfl) dX0_number_6 ⟨Nat.zero_le _, Nat.zero_le _⟩) hP hD hS hA [] rfl (fun r2 w1 H locs hp2 hP hD hS => ?_)
  obtain ⟨rfl, rfl⟩ := hp2
  have hP : va_P D vwCl (wC cI h n C) H := hP
  have hD : va_D A (wC cI h n C) := hD
  exact z_iret hx hb hr hlocks hS hP rfl dX0_number_9 (⟨bcI_setG _ hn, rfl⟩)

theorem kX0_add_inX0 : ∀ w ∈ wsX00, w ∈ wsX0_add := by decide +kernel
theorem kX0_add_f39 : Cond.fieldLink RX0 39 "LiftRows2$Calls" "size" "I" ∈ wsX0_add := by decide +kernel
theorem kX0_add_f9 : Cond.fieldLink RX0 9 "LiftRows2$Calls" "from" "[I" ∈ wsX0_add := by decide +kernel
theorem kX0_add_f15 : Cond.fieldLink RX0 15 "LiftRows2$Calls" "to" "[I" ∈ wsX0_add := by decide +kernel
theorem kX0_add_f18 : Cond.fieldLink RX0 18 "LiftRows2$Calls" "rank" "[I" ∈ wsX0_add := by decide +kernel
theorem kX0_add_f21 : Cond.fieldLink RX0 21 "LiftRows2$Calls" "load" "[I" ∈ wsX0_add := by decide +kernel
theorem kX0_add_f24 : Cond.fieldLink RX0 24 "LiftRows2$Calls" "state" "[I" ∈ wsX0_add := by decide +kernel
theorem kX0_add_f27 : Cond.fieldLink RX0 27 "LiftRows2$Calls" "by" "[I" ∈ wsX0_add := by decide +kernel
theorem kX0_add_f30 : Cond.fieldLink RX0 30 "LiftRows2$Calls" "cameAt" "[I" ∈ wsX0_add := by decide +kernel
theorem kX0_add_f33 : Cond.fieldLink RX0 33 "LiftRows2$Calls" "boardedAt" "[I" ∈ wsX0_add := by decide +kernel
theorem kX0_add_f36 : Cond.fieldLink RX0 36 "LiftRows2$Calls" "servedAt" "[I" ∈ wsX0_add := by decide +kernel
set_option maxHeartbeats 4000000 in
set_option maxRecDepth 100000 in
theorem tX0_add (l : Launch) (D : va_G) (cI cZ cJ : ClassId) (h : Nat → Nat) (n : Nat) (C : Nat → Nat → Int32) (a b r0 q t : Int32) (hn : n < 24) : ∀ sz : Nat, zMi l yX0_add wsX0_add ({ frames := 0, cells := 0, slots := 0, locals := 0 } : Room) D cI cZ cJ (wC cI h n C) sz [.ref (h 0), .int a, .int b, .int r0, .int q, .int t] (fun r w' => r = nI n ∧ w' = wC cI h (n + 1) (addC C n a b r0 q t)) := by
  intro sz
  refine z_head (y := yX0_add) (av := [.ref (h 0), .int a, .int b, .int r0, .int q, .int t]) (w := (wC cI h n C)) (Qc := fun A => zQi D (wC cI h n C) (fun r w' => r = nI n ∧ w' = wC cI h (n + 1) (addC C n a b r0 q t)) A) (cc := cX0_add) (maxL := 7) (ret := (some .int)) (by decide) rfl (Nat.le_of_ble_eq_true rfl) ?_
  intro p e s m below meth c ls A hat hP hD hS hl
  obtain ⟨hx, hb, hr, hml, hlocks, hts, hown, hin, hK, hE, hA⟩ := hat
  have hP : va_P D vwCl (wC cI h n C) s.heap := hP
  have hD : va_D A (wC cI h n C) := hD
  have hl : lv_has ls 7 [(0, .ref (h 0)), (1, .int a), (2, .int b), (3, .int r0), (4, .int q), (5, .int t)] := hl
  refine lv_aload_n hx hb dX0_add_0 rfl (lv_at hl 0 rfl) ?_
  refine va_get (D := D) (ci := 1) (v := .int (nI n)) (C := RX0) (T := TX0) (N := 10) hx hb hts kX0_add_inX0 hown hK hP 0 rfl rfl 9 (by decide) (hts _ kX0_add_f39) (fun _ h9 => h9) rfl dX0_add_1 ?_
  refine lv_istore (lv' := [(6, .int (nI n)), (0, .ref (h 0)), (1, .int a), (2, .int b), (3, .int r0), (4, .int q), (5, .int t)]) hx hb dX0_add_4 hl (by decide) rfl (fun ls hl => ?_)
  refine lv_iload hx hb dX0_add_6 (lv_at hl 0 rfl) ?_
  refine lv_bipush (v := 24) hx hb dX0_add_8 (by decide) ?_
  refine zn_ge (i := n) (j := 24) (tgt := 97) hx hb (by omega) (by omega) dX0_add_10 (by decide) (fun c10 => ?_) (fun c10 => ?_)
  · skip
    exact absurd hn (by omega)
  · skip
    refine lv_aload_n hx hb dX0_add_13 rfl (lv_at hl 1 rfl) ?_
    refine va_get (D := D) (ci := 1) (v := .ref (h 1)) (C := RX0) (T := TX0) (N := 10) hx hb hts kX0_add_inX0 hown hK hP 0 rfl rfl 0 (by decide) (hts _ kX0_add_f9) (fun _ h9 => h9) rfl dX0_add_14 ?_
    refine lv_iload hx hb dX0_add_17 (lv_at hl 0 rfl) ?_
    refine lv_iload_n hx hb dX0_add_19 rfl (lv_at hl 2 rfl) ?_
    refine z_iast (k := n) (x := a) hx hb hK hP hD hS 1 rfl (by decide) (by omega) dX0_add_20 (fun H locs hP hD hS => ?_)
    have hP : va_P D vwCl (wC cI h n (upC C 0 n a)) H := hP
    have hD : va_D A (wC cI h n (upC C 0 n a)) := hD
    refine lv_aload_n hx hb dX0_add_21 rfl (lv_at hl 1 rfl) ?_
    refine va_get (D := D) (ci := 1) (v := .ref (h 2)) (C := RX0) (T := TX0) (N := 10) hx hb hts kX0_add_inX0 hown hK hP 0 rfl rfl 1 (by decide) (hts _ kX0_add_f15) (fun _ h9 => h9) rfl dX0_add_22 ?_
    refine lv_iload hx hb dX0_add_25 (lv_at hl 0 rfl) ?_
    refine lv_iload_n hx hb dX0_add_27 rfl (lv_at hl 3 rfl) ?_
    refine z_iast (k := n) (x := b) hx hb hK hP hD hS 2 rfl (by decide) (by omega) dX0_add_28 (fun H locs hP hD hS => ?_)
    have hP : va_P D vwCl (wC cI h n (upC (upC C 0 n a) 1 n b)) H := hP
    have hD : va_D A (wC cI h n (upC (upC C 0 n a) 1 n b)) := hD
    refine lv_aload_n hx hb dX0_add_29 rfl (lv_at hl 1 rfl) ?_
    refine va_get (D := D) (ci := 1) (v := .ref (h 3)) (C := RX0) (T := TX0) (N := 10) hx hb hts kX0_add_inX0 hown hK hP 0 rfl rfl 2 (by decide) (hts _ kX0_add_f18) (fun _ h9 => h9) rfl dX0_add_30 ?_
    refine lv_iload hx hb dX0_add_33 (lv_at hl 0 rfl) ?_
    refine lv_iload_n hx hb dX0_add_35 rfl (lv_at hl 4 rfl) ?_
    refine z_iast (k := n) (x := r0) hx hb hK hP hD hS 3 rfl (by decide) (by omega) dX0_add_36 (fun H locs hP hD hS => ?_)
    have hP : va_P D vwCl (wC cI h n (upC (upC (upC C 0 n a) 1 n b) 2 n r0)) H := hP
    have hD : va_D A (wC cI h n (upC (upC (upC C 0 n a) 1 n b) 2 n r0)) := hD
    refine lv_aload_n hx hb dX0_add_37 rfl (lv_at hl 1 rfl) ?_
    refine va_get (D := D) (ci := 1) (v := .ref (h 4)) (C := RX0) (T := TX0) (N := 10) hx hb hts kX0_add_inX0 hown hK hP 0 rfl rfl 3 (by decide) (hts _ kX0_add_f21) (fun _ h9 => h9) rfl dX0_add_38 ?_
    refine lv_iload hx hb dX0_add_41 (lv_at hl 0 rfl) ?_
    refine lv_iload hx hb dX0_add_43 (lv_at hl 5 rfl) ?_
    refine z_iast (k := n) (x := q) hx hb hK hP hD hS 4 rfl (by decide) (by omega) dX0_add_45 (fun H locs hP hD hS => ?_)
    have hP : va_P D vwCl (wC cI h n (upC (upC (upC (upC C 0 n a) 1 n b) 2 n r0) 3 n q)) H := hP
    have hD : va_D A (wC cI h n (upC (upC (upC (upC C 0 n a) 1 n b) 2 n r0) 3 n q)) := hD
    refine lv_aload_n hx hb dX0_add_46 rfl (lv_at hl 1 rfl) ?_
    refine va_get (D := D) (ci := 1) (v := .ref (h 5)) (C := RX0) (T := TX0) (N := 10) hx hb hts kX0_add_inX0 hown hK hP 0 rfl rfl 4 (by decide) (hts _ kX0_add_f24) (fun _ h9 => h9) rfl dX0_add_47 ?_
    refine lv_iload hx hb dX0_add_50 (lv_at hl 0 rfl) ?_
    refine lv_iconst (v := 0) hx hb dX0_add_52 (by decide) ?_
    refine z_iast (k := n) (x := 0) hx hb hK hP hD hS 5 rfl (by decide) (by omega) dX0_add_53 (fun H locs hP hD hS => ?_)
    have hP : va_P D vwCl (wC cI h n (upC (upC (upC (upC (upC C 0 n a) 1 n b) 2 n r0) 3 n q) 4 n 0)) H := hP
    have hD : va_D A (wC cI h n (upC (upC (upC (upC (upC C 0 n a) 1 n b) 2 n r0) 3 n q) 4 n 0)) := hD
    refine lv_aload_n hx hb dX0_add_54 rfl (lv_at hl 1 rfl) ?_
    refine va_get (D := D) (ci := 1) (v := .ref (h 6)) (C := RX0) (T := TX0) (N := 10) hx hb hts kX0_add_inX0 hown hK hP 0 rfl rfl 5 (by decide) (hts _ kX0_add_f27) (fun _ h9 => h9) rfl dX0_add_55 ?_
    refine lv_iload hx hb dX0_add_58 (lv_at hl 0 rfl) ?_
    refine lv_iconst (v := (-1)) hx hb dX0_add_60 (by decide) ?_
    refine z_iast (k := n) (x := (-1)) hx hb hK hP hD hS 6 rfl (by decide) (by omega) dX0_add_61 (fun H locs hP hD hS => ?_)
    have hP : va_P D vwCl (wC cI h n (upC (upC (upC (upC (upC (upC C 0 n a) 1 n b) 2 n r0) 3 n q) 4 n 0) 5 n (-1))) H := hP
    have hD : va_D A (wC cI h n (upC (upC (upC (upC (upC (upC C 0 n a) 1 n b) 2 n r0) 3 n q) 4 n 0) 5 n (-1))) := hD
    refine lv_aload_n hx hb dX0_add_62 rfl (lv_at hl 1 rfl) ?_
    refine va_get (D := D) (ci := 1) (v := .ref (h 7)) (C := RX0) (T := TX0) (N := 10) hx hb hts kX0_add_inX0 hown hK hP 0 rfl rfl 6 (by decide) (hts _ kX0_add_f30) (fun _ h9 => h9) rfl dX0_add_63 ?_
    refine lv_iload hx hb dX0_add_66 (lv_at hl 0 rfl) ?_
    refine lv_iload hx hb dX0_add_68 (lv_at hl 6 rfl) ?_
    refine z_iast (k := n) (x := t) hx hb hK hP hD hS 7 rfl (by decide) (by omega) dX0_add_70 (fun H locs hP hD hS => ?_)
    have hP : va_P D vwCl (wC cI h n (upC (upC (upC (upC (upC (upC (upC C 0 n a) 1 n b) 2 n r0) 3 n q) 4 n 0) 5 n (-1)) 6 n t)) H := hP
    have hD : va_D A (wC cI h n (upC (upC (upC (upC (upC (upC (upC C 0 n a) 1 n b) 2 n r0) 3 n q) 4 n 0) 5 n (-1)) 6 n t)) := hD
    refine lv_aload_n hx hb dX0_add_71 rfl (lv_at hl 1 rfl) ?_
    refine va_get (D := D) (ci := 1) (v := .ref (h 8)) (C := RX0) (T := TX0) (N := 10) hx hb hts kX0_add_inX0 hown hK hP 0 rfl rfl 7 (by decide) (hts _ kX0_add_f33) (fun _ h9 => h9) rfl dX0_add_72 ?_
    refine lv_iload hx hb dX0_add_75 (lv_at hl 0 rfl) ?_
    refine lv_iconst (v := (-1)) hx hb dX0_add_77 (by decide) ?_
    refine z_iast (k := n) (x := (-1)) hx hb hK hP hD hS 8 rfl (by decide) (by omega) dX0_add_78 (fun H locs hP hD hS => ?_)
    have hP : va_P D vwCl (wC cI h n (upC (upC (upC (upC (upC (upC (upC (upC C 0 n a) 1 n b) 2 n r0) 3 n q) 4 n 0) 5 n (-1)) 6 n t) 7 n (-1))) H := hP
    have hD : va_D A (wC cI h n (upC (upC (upC (upC (upC (upC (upC (upC C 0 n a) 1 n b) 2 n r0) 3 n q) 4 n 0) 5 n (-1)) 6 n t) 7 n (-1))) := hD
    refine lv_aload_n hx hb dX0_add_79 rfl (lv_at hl 1 rfl) ?_
    refine va_get (D := D) (ci := 1) (v := .ref (h 9)) (C := RX0) (T := TX0) (N := 10) hx hb hts kX0_add_inX0 hown hK hP 0 rfl rfl 8 (by decide) (hts _ kX0_add_f36) (fun _ h9 => h9) rfl dX0_add_80 ?_
    refine lv_iload hx hb dX0_add_83 (lv_at hl 0 rfl) ?_
    refine lv_iconst (v := (-1)) hx hb dX0_add_85 (by decide) ?_
    refine z_iast (k := n) (x := (-1)) hx hb hK hP hD hS 9 rfl (by decide) (by omega) dX0_add_86 (fun H locs hP hD hS => ?_)
    have hP : va_P D vwCl (wC cI h n (upC (upC (upC (upC (upC (upC (upC (upC (upC C 0 n a) 1 n b) 2 n r0) 3 n q) 4 n 0) 5 n (-1)) 6 n t) 7 n (-1)) 8 n (-1))) H := hP
    have hD : va_D A (wC cI h n (upC (upC (upC (upC (upC (upC (upC (upC (upC C 0 n a) 1 n b) 2 n r0) 3 n q) 4 n 0) 5 n (-1)) 6 n t) 7 n (-1)) 8 n (-1))) := hD
    refine lv_aload_n hx hb dX0_add_87 rfl (lv_at hl 1 rfl) ?_
    refine lv_dup hx hb dX0_add_88 rfl ?_
    refine va_get (D := D) (ci := 1) (v := .int (nI n)) (C := RX0) (T := TX0) (N := 10) hx hb hts kX0_add_inX0 hown hK hP 0 rfl rfl 9 (by decide) (hts _ kX0_add_f39) (fun _ h9 => h9) rfl dX0_add_89 ?_
    refine lv_iconst (v := 1) hx hb dX0_add_92 (by decide) ?_
    refine zn_add (i := n) (j := 1) hx hb dX0_add_93 ?_
    refine va_put (D := D) (ci := 1) (v := .int (nI (n + 1))) (ty := .int) (C := RX0) (T := TX0) (N := 10) hx hb hts kX0_add_inX0 tyX0 tyX0_ok nmX0 hown hK hP hD hS 0 rfl rfl 9 (by decide) (hts _ kX0_add_f39) (fun _ h9 => h9) rfl (by decide +kernel) rfl rfl (Nat.le_of_ble_eq_true rfl) dX0_add_94 (fun H locs hP hD hS => ?_)
    have hP : va_P D vwCl (wC cI h (n + 1) (upC (upC (upC (upC (upC (upC (upC (upC (upC C 0 n a) 1 n b) 2 n r0) 3 n q) 4 n 0) 5 n (-1)) 6 n t) 7 n (-1)) 8 n (-1))) H := hP
    have hD : va_D A (wC cI h (n + 1) (upC (upC (upC (upC (upC (upC (upC (upC (upC C 0 n a) 1 n b) 2 n r0) 3 n q) 4 n 0) 5 n (-1)) 6 n t) 7 n (-1)) 8 n (-1))) := hD
    refine lv_iload hx hb dX0_add_97 (lv_at hl 0 rfl) ?_
    exact z_iret hx hb hr hlocks hS hP rfl dX0_add_99 (⟨rfl, rfl⟩)
end
section
theorem kX2_mayGet_inX2 : ∀ w ∈ wsX20, w ∈ wsX2_mayGet := by decide +kernel
theorem kX2_mayGet_f24 : Cond.fieldLink RX2 24 "LiftRows2$Lifts" "isStuck" "[Z" ∈ wsX2_mayGet := by decide +kernel
theorem kX2_mayGet_f28 : Cond.fieldLink RX2 28 "LiftRows2$Lifts" "isReserved" "[Z" ∈ wsX2_mayGet := by decide +kernel
theorem kX2_mayGet_f15 : Cond.fieldLink RX2 15 "LiftRows2$Lifts" "capacity" "[I" ∈ wsX2_mayGet := by decide +kernel
set_option maxHeartbeats 4000000 in
set_option maxRecDepth 100000 in
theorem tX2_mayGet (l : Launch) (D : va_G) (cI cZ cJ : ClassId) (h : Nat → Nat) (n : Nat) (gn : Int32) (L B : Nat → Nat → Int32) (i : Nat) (ld : Int32) (hi : i < 4) : ∀ sz : Nat, zMi l yX2_mayGet wsX2_mayGet ({ frames := 0, cells := 0, slots := 0, locals := 0 } : Room) D cI cZ cJ (wL cI cZ h n gn L B) sz [.ref (h 0), .int (nI i), .int ld] (fun r w' => r = bI (getB L B i ld) ∧ w' = wL cI cZ h n gn L B) := by
  intro sz
  refine z_head (y := yX2_mayGet) (av := [.ref (h 0), .int (nI i), .int ld]) (w := (wL cI cZ h n gn L B)) (Qc := fun A => zQi D (wL cI cZ h n gn L B) (fun r w' => r = bI (getB L B i ld) ∧ w' = wL cI cZ h n gn L B) A) (cc := cX2_mayGet) (maxL := 3) (ret := (some .boolean)) (by decide) rfl (Nat.le_of_ble_eq_true rfl) ?_
  intro p e s m below meth c ls A hat hP hD hS hl
  obtain ⟨hx, hb, hr, hml, hlocks, hts, hown, hin, hK, hE, hA⟩ := hat
  have hP : va_P D vwCl (wL cI cZ h n gn L B) s.heap := hP
  have hD : va_D A (wL cI cZ h n gn L B) := hD
  have hl : lv_has ls 3 [(0, .ref (h 0)), (1, .int (nI i)), (2, .int ld)] := hl
  refine lv_aload_n hx hb dX2_mayGet_0 rfl (lv_at hl 0 rfl) ?_
  refine va_get (D := D) (ci := 3) (v := .ref (h 5)) (C := RX2) (T := TX2) (N := 9) hx hb hts kX2_mayGet_inX2 hown hK hP 0 rfl rfl 4 (by decide) (hts _ kX2_mayGet_f24) (fun _ h9 => h9) rfl dX2_mayGet_1 ?_
  refine lv_iload_n hx hb dX2_mayGet_4 rfl (lv_at hl 1 rfl) ?_
  refine z_zald (k := i) (v := B 0 i) hx hb hK hP 5 rfl (by decide) (by omega) (rfl) dX2_mayGet_5 ?_
  refine lv_if_ne (x := B 0 i) (tgt := 32) hx hb dX2_mayGet_6 (by decide) (fun c6 => ?_) (fun c6 => ?_)
  · skip
    refine lv_iconst (v := 0) hx hb dX2_mayGet_32 (by decide) ?_
    exact z_zret hx hb hr hlocks hS hP rfl (Or.inl rfl) dX2_mayGet_33 (⟨by simp [getB, bI, c6], rfl⟩)
  · skip
    refine lv_aload_n hx hb dX2_mayGet_9 rfl (lv_at hl 0 rfl) ?_
    refine va_get (D := D) (ci := 3) (v := .ref (h 6)) (C := RX2) (T := TX2) (N := 9) hx hb hts kX2_mayGet_inX2 hown hK hP 0 rfl rfl 5 (by decide) (hts _ kX2_mayGet_f28) (fun _ h9 => h9) rfl dX2_mayGet_10 ?_
    refine lv_iload_n hx hb dX2_mayGet_13 rfl (lv_at hl 1 rfl) ?_
    refine z_zald (k := i) (v := B 1 i) hx hb hK hP 6 rfl (by decide) (by omega) (rfl) dX2_mayGet_14 ?_
    refine lv_if_ne (x := B 1 i) (tgt := 32) hx hb dX2_mayGet_15 (by decide) (fun c15 => ?_) (fun c15 => ?_)
    · skip
      refine lv_iconst (v := 0) hx hb dX2_mayGet_32 (by decide) ?_
      exact z_zret hx hb hr hlocks hS hP rfl (Or.inl rfl) dX2_mayGet_33 (⟨by simp [getB, bI, c6, c15], rfl⟩)
    · skip
      refine lv_aload_n hx hb dX2_mayGet_18 rfl (lv_at hl 0 rfl) ?_
      refine va_get (D := D) (ci := 3) (v := .ref (h 2)) (C := RX2) (T := TX2) (N := 9) hx hb hts kX2_mayGet_inX2 hown hK hP 0 rfl rfl 1 (by decide) (hts _ kX2_mayGet_f15) (fun _ h9 => h9) rfl dX2_mayGet_19 ?_
      refine lv_iload_n hx hb dX2_mayGet_22 rfl (lv_at hl 1 rfl) ?_
      refine z_iald (k := i) (v := L 1 i) hx hb hK hP 2 rfl (by decide) (by omega) (rfl) dX2_mayGet_23 ?_
      refine lv_iload_n hx hb dX2_mayGet_24 rfl (lv_at hl 2 rfl) ?_
      refine lv_icmp_lt (x := L 1 i) (y := ld) (tgt := 32) hx hb dX2_mayGet_25 (by decide) (fun c25 => ?_) (fun c25 => ?_)
      · skip
        refine lv_iconst (v := 0) hx hb dX2_mayGet_32 (by decide) ?_
        exact z_zret hx hb hr hlocks hS hP rfl (Or.inl rfl) dX2_mayGet_33 (⟨by simp [getB, bI, c6, c15, c25], rfl⟩)
      · skip
        refine lv_iconst (v := 1) hx hb dX2_mayGet_28 (by decide) ?_
        refine lv_goto (tgt := 33) hx hb dX2_mayGet_29 (by decide) ?_
        exact z_zret hx hb hr hlocks hS hP rfl (Or.inr rfl) dX2_mayGet_33 (⟨by simp [getB, bI, c6, c15, c25], rfl⟩)

theorem kX2_passOpenSecond_inX2 : ∀ w ∈ wsX20, w ∈ wsX2_passOpenSecond := by decide +kernel
theorem kX2_passOpenSecond_f21 : Cond.fieldLink RX2 21 "LiftRows2$Lifts" "openFor" "[I" ∈ wsX2_passOpenSecond := by decide +kernel
theorem kX2_passOpenSecond_m41 : Cond.methodLink RX2 41 Lib.Math.max.name ∈ wsX2_passOpenSecond := by decide +kernel
theorem kX2_passOpenSecond_smax : Cond.static Lib.Math.max.name ∈ wsX2_passOpenSecond := by decide +kernel
theorem kX2_passOpenSecond_iMath : Cond.initialized "java/lang/Math" ∈ wsX2_passOpenSecond := by decide +kernel
theorem kX2_passOpenSecond_cmax : Cond.code Lib.Math.max.name Lib.Math.max.code 2 (some .int) ∈ wsX2_passOpenSecond := by decide +kernel
theorem kX2_passOpenSecond_f31 : Cond.fieldLink RX2 31 "LiftRows2$Lifts" "isKept" "[Z" ∈ wsX2_passOpenSecond := by decide +kernel
set_option maxHeartbeats 4000000 in
set_option maxRecDepth 100000 in
theorem tX2_passOpenSecond (l : Launch) (D : va_G) (cI cZ cJ : ClassId) (h : Nat → Nat) (n : Nat) (gn : Int32) (L B : Nat → Nat → Int32) (i : Nat) (hi : i < 4) : ∀ sz : Nat, zMv l yX2_passOpenSecond wsX2_passOpenSecond ({ frames := 1, cells := 0, slots := 0, locals := 16 } : Room) D cI cZ cJ (wL cI cZ h n gn L B) sz [.ref (h 0), .int (nI i)] (fun w' => w' = wL cI cZ h n gn (pasL L B i) B) := by
  intro sz
  refine z_head (y := yX2_passOpenSecond) (av := [.ref (h 0), .int (nI i)]) (w := (wL cI cZ h n gn L B)) (Qc := fun A => zQv D (wL cI cZ h n gn L B) (fun w' => w' = wL cI cZ h n gn (pasL L B i) B) A) (cc := cX2_passOpenSecond) (maxL := 3) (ret := none) (by decide) rfl (Nat.le_of_ble_eq_true rfl) ?_
  intro p e s m below meth c ls A hat hP hD hS hl
  obtain ⟨hx, hb, hr, hml, hlocks, hts, hown, hin, hK, hE, hA⟩ := hat
  have hP : va_P D vwCl (wL cI cZ h n gn L B) s.heap := hP
  have hD : va_D A (wL cI cZ h n gn L B) := hD
  have hl : lv_has ls 3 [(0, .ref (h 0)), (1, .int (nI i))] := hl
  have L14 : ∀ (fw : Int32), (fw = kpI B i) → ∀ (H : Heap) (locs : List Loc) (ls : Array Slot), lv_has ls 3 [(0, .ref (h 0)), (1, .int (nI i))] → va_P D vwCl (wL cI cZ h n gn L B) H → va_D A (wL cI cZ h n gn L B) → va_S A s.heap H locs → W p l e ({ frames := 1, cells := 0, slots := 0, locals := 16 } : Room) s m ([.ref (h 0), .int (nI i)] : List Value).toArray below meth c H locs 0 0 (MQ below (zQv D (wL cI cZ h n gn L B) (fun w' => w' = wL cI cZ h n gn (pasL L B i) B) A) ([.ref (h 0), .int (nI i)] : List Value).toArray s 0 0 A) (F0 m 14 ls [.int fw]) := by
    intro fw ef H locs ls hl hP hD hS
    subst ef
    refine lv_istore_n (lv' := [(2, .int (kpI B i)), (0, .ref (h 0)), (1, .int (nI i))]) hx hb dX2_passOpenSecond_14 rfl hl (by decide) rfl (fun ls hl => ?_)
    refine lv_aload_n hx hb dX2_passOpenSecond_15 rfl (lv_at hl 1 rfl) ?_
    refine va_get (D := D) (ci := 3) (v := .ref (h 4)) (C := RX2) (T := TX2) (N := 9) hx hb hts kX2_passOpenSecond_inX2 hown hK hP 0 rfl rfl 3 (by decide) (hts _ kX2_passOpenSecond_f21) (fun _ h9 => h9) rfl dX2_passOpenSecond_16 ?_
    refine lv_iload_n hx hb dX2_passOpenSecond_19 rfl (lv_at hl 2 rfl) ?_
    refine lv_iload_n hx hb dX2_passOpenSecond_20 rfl (lv_at hl 0 rfl) ?_
    refine lv_aload_n hx hb dX2_passOpenSecond_21 rfl (lv_at hl 1 rfl) ?_
    refine va_get (D := D) (ci := 3) (v := .ref (h 4)) (C := RX2) (T := TX2) (N := 9) hx hb hts kX2_passOpenSecond_inX2 hown hK hP 0 rfl rfl 3 (by decide) (hts _ kX2_passOpenSecond_f21) (fun _ h9 => h9) rfl dX2_passOpenSecond_22 ?_
    refine lv_iload_n hx hb dX2_passOpenSecond_25 rfl (lv_at hl 2 rfl) ?_
    refine z_iald (k := i) (v := L 3 i) hx hb hK hP 4 rfl (by decide) (by omega) (rfl) dX2_passOpenSecond_26 ?_
    refine lv_iconst (v := 1) hx hb dX2_passOpenSecond_27 (by decide) ?_
    refine lv_isub (x := L 3 i) (y := 1) hx hb dX2_passOpenSecond_28 ?_
    refine va_mmax hx hb (hml.trans hl.1.symm) hown (hts _ kX2_passOpenSecond_m41) (hts _ kX2_passOpenSecond_smax) (hts _ kX2_passOpenSecond_iMath) (hts _ kX2_passOpenSecond_cmax) (Nat.le_of_ble_eq_true rfl) (Nat.le_of_ble_eq_true rfl) (Nat.zero_le _) (Nat.zero_le _) dX2_passOpenSecond_29 ?_
    refine z_iast (k := i) (x := if kpI B i < (L 3 i) - 1 then (L 3 i) - 1 else kpI B i) hx hb hK hP hD hS 4 rfl (by decide) (by omega) dX2_passOpenSecond_32 (fun H locs hP hD hS => ?_)
    have hP : va_P D vwCl (wL cI cZ h n gn (upC L 3 i (if kpI B i < (L 3 i) - 1 then (L 3 i) - 1 else kpI B i)) B) H := hP
    have hD : va_D A (wL cI cZ h n gn (upC L 3 i (if kpI B i < (L 3 i) - 1 then (L 3 i) - 1 else kpI B i)) B) := hD
    exact z_vret hx hb hr hlocks hS hP rfl dX2_passOpenSecond_33 (rfl)
  refine lv_aload_n hx hb dX2_passOpenSecond_0 rfl (lv_at hl 0 rfl) ?_
  refine va_get (D := D) (ci := 3) (v := .ref (h 7)) (C := RX2) (T := TX2) (N := 9) hx hb hts kX2_passOpenSecond_inX2 hown hK hP 0 rfl rfl 6 (by decide) (hts _ kX2_passOpenSecond_f31) (fun _ h9 => h9) rfl dX2_passOpenSecond_1 ?_
  refine lv_iload_n hx hb dX2_passOpenSecond_4 rfl (lv_at hl 1 rfl) ?_
  refine z_zald (k := i) (v := B 2 i) hx hb hK hP 7 rfl (by decide) (by omega) (rfl) dX2_passOpenSecond_5 ?_
  refine lv_if_eq (x := B 2 i) (tgt := 13) hx hb dX2_passOpenSecond_6 (by decide) (fun c6 => ?_) (fun c6 => ?_)
  · skip
    refine lv_iconst (v := 0) hx hb dX2_passOpenSecond_13 (by decide) ?_
    exact L14 0 (by simp [kpI, c6]) s.heap [] ls (lv_sub hl [0, 1] rfl) hP hD hS
  · skip
    refine lv_iconst (v := 1) hx hb dX2_passOpenSecond_9 (by decide) ?_
    refine lv_goto (tgt := 14) hx hb dX2_passOpenSecond_10 (by decide) ?_
    exact L14 1 (by simp [kpI, c6]) s.heap [] ls (lv_sub hl [0, 1] rfl) hP hD hS

theorem kX2_go_inX2 : ∀ w ∈ wsX20, w ∈ wsX2_go := by decide +kernel
theorem kX2_go_f9 : Cond.fieldLink RX2 9 "LiftRows2$Lifts" "at" "[I" ∈ wsX2_go := by decide +kernel
theorem kX2_go_f18 : Cond.fieldLink RX2 18 "LiftRows2$Lifts" "direction" "[I" ∈ wsX2_go := by decide +kernel
theorem kX2_go_f38 : Cond.fieldLink RX2 38 "LiftRows2$Lifts" "gone" "I" ∈ wsX2_go := by decide +kernel
theorem kX2_go_m47 : Cond.methodLink RX2 47 Lib.Math.abs.name ∈ wsX2_go := by decide +kernel
theorem kX2_go_sabs : Cond.static Lib.Math.abs.name ∈ wsX2_go := by decide +kernel
theorem kX2_go_iMath : Cond.initialized "java/lang/Math" ∈ wsX2_go := by decide +kernel
theorem kX2_go_cabs : Cond.code Lib.Math.abs.name Lib.Math.abs.code 1 (some .int) ∈ wsX2_go := by decide +kernel
set_option maxHeartbeats 4000000 in
set_option maxRecDepth 100000 in
theorem tX2_go (l : Launch) (D : va_G) (cI cZ cJ : ClassId) (h : Nat → Nat) (n : Nat) (gn : Int32) (L B : Nat → Nat → Int32) (i : Nat) (up dn : Bool) (hi : i < 4) : ∀ sz : Nat, zMv l yX2_go wsX2_go ({ frames := 1, cells := 0, slots := 0, locals := 16 } : Room) D cI cZ cJ (wL cI cZ h n gn L B) sz [.ref (h 0), .int (nI i), .int (bI up), .int (bI dn)] (fun w' => w' = wL cI cZ h n (gn + (absI (dirF (L 2 i) up dn))) (goL L i (dirF (L 2 i) up dn)) B) := by
  intro sz
  refine z_head (y := yX2_go) (av := [.ref (h 0), .int (nI i), .int (bI up), .int (bI dn)]) (w := (wL cI cZ h n gn L B)) (Qc := fun A => zQv D (wL cI cZ h n gn L B) (fun w' => w' = wL cI cZ h n (gn + (absI (dirF (L 2 i) up dn))) (goL L i (dirF (L 2 i) up dn)) B) A) (cc := cX2_go) (maxL := 5) (ret := none) (by decide) rfl (Nat.le_of_ble_eq_true rfl) ?_
  intro p e s m below meth c ls A hat hP hD hS hl
  obtain ⟨hx, hb, hr, hml, hlocks, hts, hown, hin, hK, hE, hA⟩ := hat
  have hP : va_P D vwCl (wL cI cZ h n gn L B) s.heap := hP
  have hD : va_D A (wL cI cZ h n gn L B) := hD
  have hl : lv_has ls 5 [(0, .ref (h 0)), (1, .int (nI i)), (2, .int (bI up)), (3, .int (bI dn))] := hl
  have L61 : ∀ (d : Int32), (d = dirF (L 2 i) up dn) → ∀ (H : Heap) (locs : List Loc) (ls : Array Slot), lv_has ls 5 [(0, .ref (h 0)), (1, .int (nI i))] → va_P D vwCl (wL cI cZ h n gn (upC L 2 i d) B) H → va_D A (wL cI cZ h n gn (upC L 2 i d) B) → va_S A s.heap H locs → W p l e ({ frames := 1, cells := 0, slots := 0, locals := 16 } : Room) s m ([.ref (h 0), .int (nI i), .int (bI up), .int (bI dn)] : List Value).toArray below meth c H locs 0 0 (MQ below (zQv D (wL cI cZ h n gn L B) (fun w' => w' = wL cI cZ h n (gn + (absI (dirF (L 2 i) up dn))) (goL L i (dirF (L 2 i) up dn)) B) A) ([.ref (h 0), .int (nI i), .int (bI up), .int (bI dn)] : List Value).toArray s 0 0 A) (F0 m 61 ls []) := by
    intro d ed H locs ls hl hP hD hS
    refine lv_aload_n hx hb dX2_go_61 rfl (lv_at hl 0 rfl) ?_
    refine va_get (D := D) (ci := 3) (v := .ref (h 1)) (C := RX2) (T := TX2) (N := 9) hx hb hts kX2_go_inX2 hown hK hP 0 rfl rfl 0 (by decide) (hts _ kX2_go_f9) (fun _ h9 => h9) rfl dX2_go_62 ?_
    refine lv_iload_n hx hb dX2_go_65 rfl (lv_at hl 1 rfl) ?_
    refine lv_dup2_11 hx hb dX2_go_66 rfl rfl ?_
    refine z_iald (k := i) (v := L 0 i) hx hb hK hP 1 rfl (by decide) (by omega) (by rw [upC_n (by decide)]) dX2_go_67 ?_
    refine lv_aload_n hx hb dX2_go_68 rfl (lv_at hl 0 rfl) ?_
    refine va_get (D := D) (ci := 3) (v := .ref (h 3)) (C := RX2) (T := TX2) (N := 9) hx hb hts kX2_go_inX2 hown hK hP 0 rfl rfl 2 (by decide) (hts _ kX2_go_f18) (fun _ h9 => h9) rfl dX2_go_69 ?_
    refine lv_iload_n hx hb dX2_go_72 rfl (lv_at hl 1 rfl) ?_
    refine z_iald (k := i) (v := d) hx hb hK hP 3 rfl (by decide) (by omega) (by rw [upC_s]) dX2_go_73 ?_
    refine lv_iadd (x := L 0 i) (y := d) hx hb dX2_go_74 ?_
    refine z_iast (k := i) (x := (L 0 i) + d) hx hb hK hP hD hS 1 rfl (by decide) (by omega) dX2_go_75 (fun H locs hP hD hS => ?_)
    have hP : va_P D vwCl (wL cI cZ h n gn (upC (upC L 2 i d) 0 i ((L 0 i) + d)) B) H := hP
    have hD : va_D A (wL cI cZ h n gn (upC (upC L 2 i d) 0 i ((L 0 i) + d)) B) := hD
    refine lv_aload_n hx hb dX2_go_76 rfl (lv_at hl 0 rfl) ?_
    refine lv_dup hx hb dX2_go_77 rfl ?_
    refine va_get (D := D) (ci := 3) (v := .int gn) (C := RX2) (T := TX2) (N := 9) hx hb hts kX2_go_inX2 hown hK hP 0 rfl rfl 8 (by decide) (hts _ kX2_go_f38) (fun _ h9 => h9) rfl dX2_go_78 ?_
    refine lv_aload_n hx hb dX2_go_81 rfl (lv_at hl 0 rfl) ?_
    refine va_get (D := D) (ci := 3) (v := .ref (h 3)) (C := RX2) (T := TX2) (N := 9) hx hb hts kX2_go_inX2 hown hK hP 0 rfl rfl 2 (by decide) (hts _ kX2_go_f18) (fun _ h9 => h9) rfl dX2_go_82 ?_
    refine lv_iload_n hx hb dX2_go_85 rfl (lv_at hl 1 rfl) ?_
    refine z_iald (k := i) (v := d) hx hb hK hP 3 rfl (by decide) (by omega) (by rw [upC_n (by decide), upC_s]) dX2_go_86 ?_
    refine va_mabs hx hb (hml.trans hl.1.symm) hown (hts _ kX2_go_m47) (hts _ kX2_go_sabs) (hts _ kX2_go_iMath) (hts _ kX2_go_cabs) (Nat.le_of_ble_eq_true rfl) (Nat.le_of_ble_eq_true rfl) (Nat.zero_le _) (Nat.zero_le _) dX2_go_87 ?_
    refine lv_iadd (x := gn) (y := absI d) hx hb dX2_go_90 ?_
    refine va_put (D := D) (ci := 3) (v := .int (gn + (absI d))) (ty := .int) (C := RX2) (T := TX2) (N := 9) hx hb hts kX2_go_inX2 tyX2 tyX2_ok nmX2 hown hK hP hD hS 0 rfl rfl 8 (by decide) (hts _ kX2_go_f38) (fun _ h9 => h9) rfl (by decide +kernel) rfl rfl (Nat.le_of_ble_eq_true rfl) dX2_go_91 (fun H locs hP hD hS => ?_)
    have hP : va_P D vwCl (wL cI cZ h n (gn + (absI d)) (upC (upC L 2 i d) 0 i ((L 0 i) + d)) B) H := hP
    have hD : va_D A (wL cI cZ h n (gn + (absI d)) (upC (upC L 2 i d) 0 i ((L 0 i) + d)) B) := hD
    exact z_vret hx hb hr hlocks hS hP rfl dX2_go_94 (by subst ed; rfl)
  have L19 : ∀ (v4 : Bool), (v4 = (decide (L 2 i = -1) && dn)) → ∀ (H : Heap) (locs : List Loc) (ls : Array Slot), lv_has ls 5 [(0, .ref (h 0)), (1, .int (nI i)), (2, .int (bI up)), (3, .int (bI dn))] → va_P D vwCl (wL cI cZ h n gn L B) H → va_D A (wL cI cZ h n gn L B) → va_S A s.heap H locs → W p l e ({ frames := 1, cells := 0, slots := 0, locals := 16 } : Room) s m ([.ref (h 0), .int (nI i), .int (bI up), .int (bI dn)] : List Value).toArray below meth c H locs 0 0 (MQ below (zQv D (wL cI cZ h n gn L B) (fun w' => w' = wL cI cZ h n (gn + (absI (dirF (L 2 i) up dn))) (goL L i (dirF (L 2 i) up dn)) B) A) ([.ref (h 0), .int (nI i), .int (bI up), .int (bI dn)] : List Value).toArray s 0 0 A) (F0 m 19 ls [.int (bI v4)]) := by
    intro v4 ev H locs ls hl hP hD hS
    refine lv_istore (lv' := [(4, .int (bI v4)), (0, .ref (h 0)), (1, .int (nI i)), (2, .int (bI up)), (3, .int (bI dn))]) hx hb dX2_go_19 hl (by decide) rfl (fun ls hl => ?_)
    refine lv_iload_n hx hb dX2_go_21 rfl (lv_at hl 3 rfl) ?_
    refine zb_eq (b := up) (tgt := 40) hx hb dX2_go_22 (by decide) (fun c22 => ?_) (fun c22 => ?_)
    · skip
      refine lv_iload_n hx hb dX2_go_40 rfl (lv_at hl 4 rfl) ?_
      refine zb_eq (b := dn) (tgt := 54) hx hb dX2_go_41 (by decide) (fun c41 => ?_) (fun c41 => ?_)
      · skip
        refine lv_aload_n hx hb dX2_go_54 rfl (lv_at hl 1 rfl) ?_
        refine va_get (D := D) (ci := 3) (v := .ref (h 3)) (C := RX2) (T := TX2) (N := 9) hx hb hts kX2_go_inX2 hown hK hP 0 rfl rfl 2 (by decide) (hts _ kX2_go_f18) (fun _ h9 => h9) rfl dX2_go_55 ?_
        refine lv_iload_n hx hb dX2_go_58 rfl (lv_at hl 2 rfl) ?_
        refine lv_iconst (v := 0) hx hb dX2_go_59 (by decide) ?_
        refine z_iast (k := i) (x := 0) hx hb hK hP hD hS 3 rfl (by decide) (by omega) dX2_go_60 (fun H locs hP hD hS => ?_)
        have hP : va_P D vwCl (wL cI cZ h n gn (upC L 2 i 0) B) H := hP
        have hD : va_D A (wL cI cZ h n gn (upC L 2 i 0) B) := hD
        exact L61 0 (by unfold dirF; rw [← ev]; simp [c22, c41]) H locs ls (lv_sub hl [1, 2] rfl) hP hD hS
      · skip
        refine lv_aload_n hx hb dX2_go_44 rfl (lv_at hl 1 rfl) ?_
        refine va_get (D := D) (ci := 3) (v := .ref (h 3)) (C := RX2) (T := TX2) (N := 9) hx hb hts kX2_go_inX2 hown hK hP 0 rfl rfl 2 (by decide) (hts _ kX2_go_f18) (fun _ h9 => h9) rfl dX2_go_45 ?_
        refine lv_iload_n hx hb dX2_go_48 rfl (lv_at hl 2 rfl) ?_
        refine lv_iconst (v := (-1)) hx hb dX2_go_49 (by decide) ?_
        refine z_iast (k := i) (x := (-1)) hx hb hK hP hD hS 3 rfl (by decide) (by omega) dX2_go_50 (fun H locs hP hD hS => ?_)
        have hP : va_P D vwCl (wL cI cZ h n gn (upC L 2 i (-1)) B) H := hP
        have hD : va_D A (wL cI cZ h n gn (upC L 2 i (-1)) B) := hD
        refine lv_goto (tgt := 61) hx hb dX2_go_51 (by decide) ?_
        exact L61 (-1) (by unfold dirF; rw [← ev]; simp [c22, c41]) H locs ls (lv_sub hl [1, 2] rfl) hP hD hS
    · skip
      refine lv_iload hx hb dX2_go_25 (lv_at hl 0 rfl) ?_
      refine zb_ne (b := v4) (tgt := 40) hx hb dX2_go_27 (by decide) (fun c27 => ?_) (fun c27 => ?_)
      · skip
        refine lv_iload_n hx hb dX2_go_40 rfl (lv_at hl 4 rfl) ?_
        refine zb_eq (b := dn) (tgt := 54) hx hb dX2_go_41 (by decide) (fun c41 => ?_) (fun c41 => ?_)
        · skip
          refine lv_aload_n hx hb dX2_go_54 rfl (lv_at hl 1 rfl) ?_
          refine va_get (D := D) (ci := 3) (v := .ref (h 3)) (C := RX2) (T := TX2) (N := 9) hx hb hts kX2_go_inX2 hown hK hP 0 rfl rfl 2 (by decide) (hts _ kX2_go_f18) (fun _ h9 => h9) rfl dX2_go_55 ?_
          refine lv_iload_n hx hb dX2_go_58 rfl (lv_at hl 2 rfl) ?_
          refine lv_iconst (v := 0) hx hb dX2_go_59 (by decide) ?_
          refine z_iast (k := i) (x := 0) hx hb hK hP hD hS 3 rfl (by decide) (by omega) dX2_go_60 (fun H locs hP hD hS => ?_)
          have hP : va_P D vwCl (wL cI cZ h n gn (upC L 2 i 0) B) H := hP
          have hD : va_D A (wL cI cZ h n gn (upC L 2 i 0) B) := hD
          exact L61 0 (by unfold dirF; rw [← ev]; simp [c22, c27, c41]) H locs ls (lv_sub hl [1, 2] rfl) hP hD hS
        · skip
          refine lv_aload_n hx hb dX2_go_44 rfl (lv_at hl 1 rfl) ?_
          refine va_get (D := D) (ci := 3) (v := .ref (h 3)) (C := RX2) (T := TX2) (N := 9) hx hb hts kX2_go_inX2 hown hK hP 0 rfl rfl 2 (by decide) (hts _ kX2_go_f18) (fun _ h9 => h9) rfl dX2_go_45 ?_
          refine lv_iload_n hx hb dX2_go_48 rfl (lv_at hl 2 rfl) ?_
          refine lv_iconst (v := (-1)) hx hb dX2_go_49 (by decide) ?_
          refine z_iast (k := i) (x := (-1)) hx hb hK hP hD hS 3 rfl (by decide) (by omega) dX2_go_50 (fun H locs hP hD hS => ?_)
          have hP : va_P D vwCl (wL cI cZ h n gn (upC L 2 i (-1)) B) H := hP
          have hD : va_D A (wL cI cZ h n gn (upC L 2 i (-1)) B) := hD
          refine lv_goto (tgt := 61) hx hb dX2_go_51 (by decide) ?_
          exact L61 (-1) (by unfold dirF; rw [← ev]; simp [c22, c27, c41]) H locs ls (lv_sub hl [1, 2] rfl) hP hD hS
      · skip
        refine lv_aload_n hx hb dX2_go_30 rfl (lv_at hl 1 rfl) ?_
        refine va_get (D := D) (ci := 3) (v := .ref (h 3)) (C := RX2) (T := TX2) (N := 9) hx hb hts kX2_go_inX2 hown hK hP 0 rfl rfl 2 (by decide) (hts _ kX2_go_f18) (fun _ h9 => h9) rfl dX2_go_31 ?_
        refine lv_iload_n hx hb dX2_go_34 rfl (lv_at hl 2 rfl) ?_
        refine lv_iconst (v := 1) hx hb dX2_go_35 (by decide) ?_
        refine z_iast (k := i) (x := 1) hx hb hK hP hD hS 3 rfl (by decide) (by omega) dX2_go_36 (fun H locs hP hD hS => ?_)
        have hP : va_P D vwCl (wL cI cZ h n gn (upC L 2 i 1) B) H := hP
        have hD : va_D A (wL cI cZ h n gn (upC L 2 i 1) B) := hD
        refine lv_goto (tgt := 61) hx hb dX2_go_37 (by decide) ?_
        exact L61 1 (by unfold dirF; rw [← ev]; simp [c22, c27]) H locs ls (lv_sub hl [1, 2] rfl) hP hD hS
  refine lv_aload_n hx hb dX2_go_0 rfl (lv_at hl 0 rfl) ?_
  refine va_get (D := D) (ci := 3) (v := .ref (h 3)) (C := RX2) (T := TX2) (N := 9) hx hb hts kX2_go_inX2 hown hK hP 0 rfl rfl 2 (by decide) (hts _ kX2_go_f18) (fun _ h9 => h9) rfl dX2_go_1 ?_
  refine lv_iload_n hx hb dX2_go_4 rfl (lv_at hl 1 rfl) ?_
  refine z_iald (k := i) (v := L 2 i) hx hb hK hP 3 rfl (by decide) (by omega) (rfl) dX2_go_5 ?_
  refine lv_iconst (v := (-1)) hx hb dX2_go_6 (by decide) ?_
  refine lv_icmp_ne (x := L 2 i) (y := (-1)) (tgt := 18) hx hb dX2_go_7 (by decide) (fun c7 => ?_) (fun c7 => ?_)
  · skip
    refine lv_iconst (v := 0) hx hb dX2_go_18 (by decide) ?_
    exact L19 false (by simp [c7]) s.heap [] ls (lv_sub hl [0, 1, 2, 3] rfl) hP hD hS
  · skip
    refine lv_iload_n hx hb dX2_go_10 rfl (lv_at hl 3 rfl) ?_
    refine zb_eq (b := dn) (tgt := 18) hx hb dX2_go_11 (by decide) (fun c11 => ?_) (fun c11 => ?_)
    · skip
      refine lv_iconst (v := 0) hx hb dX2_go_18 (by decide) ?_
      exact L19 false (by simp [c7, c11]) s.heap [] ls (lv_sub hl [0, 1, 2, 3] rfl) hP hD hS
    · skip
      refine lv_iconst (v := 1) hx hb dX2_go_14 (by decide) ?_
      refine lv_goto (tgt := 19) hx hb dX2_go_15 (by decide) ?_
      exact L19 true (by simp [c7, c11]) s.heap [] ls (lv_sub hl [0, 1, 2, 3] rfl) hP hD hS

theorem kX2_add_inX2 : ∀ w ∈ wsX20, w ∈ wsX2_add := by decide +kernel
theorem kX2_add_f34 : Cond.fieldLink RX2 34 "LiftRows2$Lifts" "size" "I" ∈ wsX2_add := by decide +kernel
theorem kX2_add_f9 : Cond.fieldLink RX2 9 "LiftRows2$Lifts" "at" "[I" ∈ wsX2_add := by decide +kernel
theorem kX2_add_f15 : Cond.fieldLink RX2 15 "LiftRows2$Lifts" "capacity" "[I" ∈ wsX2_add := by decide +kernel
set_option maxHeartbeats 4000000 in
set_option maxRecDepth 100000 in
theorem tX2_add (l : Launch) (D : va_G) (cI cZ cJ : ClassId) (h : Nat → Nat) (n : Nat) (gn : Int32) (L B : Nat → Nat → Int32) (a q : Int32) (hn : n < 4) : ∀ sz : Nat, zMi l yX2_add wsX2_add ({ frames := 0, cells := 0, slots := 0, locals := 0 } : Room) D cI cZ cJ (wL cI cZ h n gn L B) sz [.ref (h 0), .int a, .int q] (fun r w' => r = nI n ∧ w' = wL cI cZ h (n + 1) gn (upC (upC L 0 n a) 1 n q) B) := by
  intro sz
  refine z_head (y := yX2_add) (av := [.ref (h 0), .int a, .int q]) (w := (wL cI cZ h n gn L B)) (Qc := fun A => zQi D (wL cI cZ h n gn L B) (fun r w' => r = nI n ∧ w' = wL cI cZ h (n + 1) gn (upC (upC L 0 n a) 1 n q) B) A) (cc := cX2_add) (maxL := 4) (ret := (some .int)) (by decide) rfl (Nat.le_of_ble_eq_true rfl) ?_
  intro p e s m below meth c ls A hat hP hD hS hl
  obtain ⟨hx, hb, hr, hml, hlocks, hts, hown, hin, hK, hE, hA⟩ := hat
  have hP : va_P D vwCl (wL cI cZ h n gn L B) s.heap := hP
  have hD : va_D A (wL cI cZ h n gn L B) := hD
  have hl : lv_has ls 4 [(0, .ref (h 0)), (1, .int a), (2, .int q)] := hl
  refine lv_aload_n hx hb dX2_add_0 rfl (lv_at hl 0 rfl) ?_
  refine va_get (D := D) (ci := 3) (v := .int (nI n)) (C := RX2) (T := TX2) (N := 9) hx hb hts kX2_add_inX2 hown hK hP 0 rfl rfl 7 (by decide) (hts _ kX2_add_f34) (fun _ h9 => h9) rfl dX2_add_1 ?_
  refine lv_istore_n (lv' := [(3, .int (nI n)), (0, .ref (h 0)), (1, .int a), (2, .int q)]) hx hb dX2_add_4 rfl hl (by decide) rfl (fun ls hl => ?_)
  refine lv_iload_n hx hb dX2_add_5 rfl (lv_at hl 0 rfl) ?_
  refine lv_iconst (v := 4) hx hb dX2_add_6 (by decide) ?_
  refine zn_ge (i := n) (j := 4) (tgt := 34) hx hb (by omega) (by omega) dX2_add_7 (by decide) (fun c7 => ?_) (fun c7 => ?_)
  · skip
    exact absurd hn (by omega)
  · skip
    refine lv_aload_n hx hb dX2_add_10 rfl (lv_at hl 1 rfl) ?_
    refine va_get (D := D) (ci := 3) (v := .ref (h 1)) (C := RX2) (T := TX2) (N := 9) hx hb hts kX2_add_inX2 hown hK hP 0 rfl rfl 0 (by decide) (hts _ kX2_add_f9) (fun _ h9 => h9) rfl dX2_add_11 ?_
    refine lv_iload_n hx hb dX2_add_14 rfl (lv_at hl 0 rfl) ?_
    refine lv_iload_n hx hb dX2_add_15 rfl (lv_at hl 2 rfl) ?_
    refine z_iast (k := n) (x := a) hx hb hK hP hD hS 1 rfl (by decide) (by omega) dX2_add_16 (fun H locs hP hD hS => ?_)
    have hP : va_P D vwCl (wL cI cZ h n gn (upC L 0 n a) B) H := hP
    have hD : va_D A (wL cI cZ h n gn (upC L 0 n a) B) := hD
    refine lv_aload_n hx hb dX2_add_17 rfl (lv_at hl 1 rfl) ?_
    refine va_get (D := D) (ci := 3) (v := .ref (h 2)) (C := RX2) (T := TX2) (N := 9) hx hb hts kX2_add_inX2 hown hK hP 0 rfl rfl 1 (by decide) (hts _ kX2_add_f15) (fun _ h9 => h9) rfl dX2_add_18 ?_
    refine lv_iload_n hx hb dX2_add_21 rfl (lv_at hl 0 rfl) ?_
    refine lv_iload_n hx hb dX2_add_22 rfl (lv_at hl 3 rfl) ?_
    refine z_iast (k := n) (x := q) hx hb hK hP hD hS 2 rfl (by decide) (by omega) dX2_add_23 (fun H locs hP hD hS => ?_)
    have hP : va_P D vwCl (wL cI cZ h n gn (upC (upC L 0 n a) 1 n q) B) H := hP
    have hD : va_D A (wL cI cZ h n gn (upC (upC L 0 n a) 1 n q) B) := hD
    refine lv_aload_n hx hb dX2_add_24 rfl (lv_at hl 1 rfl) ?_
    refine lv_dup hx hb dX2_add_25 rfl ?_
    refine va_get (D := D) (ci := 3) (v := .int (nI n)) (C := RX2) (T := TX2) (N := 9) hx hb hts kX2_add_inX2 hown hK hP 0 rfl rfl 7 (by decide) (hts _ kX2_add_f34) (fun _ h9 => h9) rfl dX2_add_26 ?_
    refine lv_iconst (v := 1) hx hb dX2_add_29 (by decide) ?_
    refine zn_add (i := n) (j := 1) hx hb dX2_add_30 ?_
    refine va_put (D := D) (ci := 3) (v := .int (nI (n + 1))) (ty := .int) (C := RX2) (T := TX2) (N := 9) hx hb hts kX2_add_inX2 tyX2 tyX2_ok nmX2 hown hK hP hD hS 0 rfl rfl 7 (by decide) (hts _ kX2_add_f34) (fun _ h9 => h9) rfl (by decide +kernel) rfl rfl (Nat.le_of_ble_eq_true rfl) dX2_add_31 (fun H locs hP hD hS => ?_)
    have hP : va_P D vwCl (wL cI cZ h (n + 1) gn (upC (upC L 0 n a) 1 n q) B) H := hP
    have hD : va_D A (wL cI cZ h (n + 1) gn (upC (upC L 0 n a) 1 n q) B) := hD
    refine lv_iload_n hx hb dX2_add_34 rfl (lv_at hl 0 rfl) ?_
    exact z_iret hx hb hr hlocks hS hP rfl dX2_add_35 (⟨rfl, rfl⟩)

theorem kX1_add_inX1 : ∀ w ∈ wsX10, w ∈ wsX1_add := by decide +kernel
theorem kX1_add_f24 : Cond.fieldLink RX1 24 "LiftRows2$Events" "size" "I" ∈ wsX1_add := by decide +kernel
theorem kX1_add_f9 : Cond.fieldLink RX1 9 "LiftRows2$Events" "second" "[I" ∈ wsX1_add := by decide +kernel
theorem kX1_add_f15 : Cond.fieldLink RX1 15 "LiftRows2$Events" "lift" "[I" ∈ wsX1_add := by decide +kernel
theorem kX1_add_f18 : Cond.fieldLink RX1 18 "LiftRows2$Events" "call" "[I" ∈ wsX1_add := by decide +kernel
theorem kX1_add_f21 : Cond.fieldLink RX1 21 "LiftRows2$Events" "kind" "[I" ∈ wsX1_add := by decide +kernel
set_option maxHeartbeats 4000000 in
set_option maxRecDepth 100000 in
theorem tX1_add (l : Launch) (D : va_G) (cI cZ cJ : ClassId) (h : Nat → Nat) (n : Nat) (E : Nat → Nat → Int32) (a b q k : Int32) (hn : n < 2 ^ 31) : ∀ sz : Nat, zMv l yX1_add wsX1_add ({ frames := 0, cells := 0, slots := 0, locals := 0 } : Room) D cI cZ cJ (wE cI h n E) sz [.ref (h 0), .int a, .int b, .int q, .int k] (fun w' => w' = wE cI h (evN n) (evE E n a b q k)) := by
  intro sz
  refine z_head (y := yX1_add) (av := [.ref (h 0), .int a, .int b, .int q, .int k]) (w := (wE cI h n E)) (Qc := fun A => zQv D (wE cI h n E) (fun w' => w' = wE cI h (evN n) (evE E n a b q k)) A) (cc := cX1_add) (maxL := 5) (ret := none) (by decide) rfl (Nat.le_of_ble_eq_true rfl) ?_
  intro p e s m below meth c ls A hat hP hD hS hl
  obtain ⟨hx, hb, hr, hml, hlocks, hts, hown, hin, hK, hE, hA⟩ := hat
  have hP : va_P D vwCl (wE cI h n E) s.heap := hP
  have hD : va_D A (wE cI h n E) := hD
  have hl : lv_has ls 5 [(0, .ref (h 0)), (1, .int a), (2, .int b), (3, .int q), (4, .int k)] := hl
  refine lv_aload_n hx hb dX1_add_0 rfl (lv_at hl 0 rfl) ?_
  refine va_get (D := D) (ci := 2) (v := .int (nI n)) (C := RX1) (T := TX1) (N := 5) hx hb hts kX1_add_inX1 hown hK hP 0 rfl rfl 4 (by decide) (hts _ kX1_add_f24) (fun _ h9 => h9) rfl dX1_add_1 ?_
  refine lv_bipush (v := 48) hx hb dX1_add_4 (by decide) ?_
  refine zn_ge (i := n) (j := 48) (tgt := 60) hx hb (by omega) (by omega) dX1_add_6 (by decide) (fun c6 => ?_) (fun c6 => ?_)
  · skip
    exact z_vret hx hb hr hlocks hS hP rfl dX1_add_60 (by rw [evN, if_neg (by omega), evE, if_neg (by omega)])
  · skip
    refine lv_aload_n hx hb dX1_add_9 rfl (lv_at hl 0 rfl) ?_
    refine va_get (D := D) (ci := 2) (v := .ref (h 1)) (C := RX1) (T := TX1) (N := 5) hx hb hts kX1_add_inX1 hown hK hP 0 rfl rfl 0 (by decide) (hts _ kX1_add_f9) (fun _ h9 => h9) rfl dX1_add_10 ?_
    refine lv_aload_n hx hb dX1_add_13 rfl (lv_at hl 0 rfl) ?_
    refine va_get (D := D) (ci := 2) (v := .int (nI n)) (C := RX1) (T := TX1) (N := 5) hx hb hts kX1_add_inX1 hown hK hP 0 rfl rfl 4 (by decide) (hts _ kX1_add_f24) (fun _ h9 => h9) rfl dX1_add_14 ?_
    refine lv_iload_n hx hb dX1_add_17 rfl (lv_at hl 1 rfl) ?_
    refine z_iast (k := n) (x := a) hx hb hK hP hD hS 1 rfl (by decide) (by omega) dX1_add_18 (fun H locs hP hD hS => ?_)
    have hP : va_P D vwCl (wE cI h n (upC E 0 n a)) H := hP
    have hD : va_D A (wE cI h n (upC E 0 n a)) := hD
    refine lv_aload_n hx hb dX1_add_19 rfl (lv_at hl 0 rfl) ?_
    refine va_get (D := D) (ci := 2) (v := .ref (h 2)) (C := RX1) (T := TX1) (N := 5) hx hb hts kX1_add_inX1 hown hK hP 0 rfl rfl 1 (by decide) (hts _ kX1_add_f15) (fun _ h9 => h9) rfl dX1_add_20 ?_
    refine lv_aload_n hx hb dX1_add_23 rfl (lv_at hl 0 rfl) ?_
    refine va_get (D := D) (ci := 2) (v := .int (nI n)) (C := RX1) (T := TX1) (N := 5) hx hb hts kX1_add_inX1 hown hK hP 0 rfl rfl 4 (by decide) (hts _ kX1_add_f24) (fun _ h9 => h9) rfl dX1_add_24 ?_
    refine lv_iload_n hx hb dX1_add_27 rfl (lv_at hl 2 rfl) ?_
    refine z_iast (k := n) (x := b) hx hb hK hP hD hS 2 rfl (by decide) (by omega) dX1_add_28 (fun H locs hP hD hS => ?_)
    have hP : va_P D vwCl (wE cI h n (upC (upC E 0 n a) 1 n b)) H := hP
    have hD : va_D A (wE cI h n (upC (upC E 0 n a) 1 n b)) := hD
    refine lv_aload_n hx hb dX1_add_29 rfl (lv_at hl 0 rfl) ?_
    refine va_get (D := D) (ci := 2) (v := .ref (h 3)) (C := RX1) (T := TX1) (N := 5) hx hb hts kX1_add_inX1 hown hK hP 0 rfl rfl 2 (by decide) (hts _ kX1_add_f18) (fun _ h9 => h9) rfl dX1_add_30 ?_
    refine lv_aload_n hx hb dX1_add_33 rfl (lv_at hl 0 rfl) ?_
    refine va_get (D := D) (ci := 2) (v := .int (nI n)) (C := RX1) (T := TX1) (N := 5) hx hb hts kX1_add_inX1 hown hK hP 0 rfl rfl 4 (by decide) (hts _ kX1_add_f24) (fun _ h9 => h9) rfl dX1_add_34 ?_
    refine lv_iload_n hx hb dX1_add_37 rfl (lv_at hl 3 rfl) ?_
    refine z_iast (k := n) (x := q) hx hb hK hP hD hS 3 rfl (by decide) (by omega) dX1_add_38 (fun H locs hP hD hS => ?_)
    have hP : va_P D vwCl (wE cI h n (upC (upC (upC E 0 n a) 1 n b) 2 n q)) H := hP
    have hD : va_D A (wE cI h n (upC (upC (upC E 0 n a) 1 n b) 2 n q)) := hD
    refine lv_aload_n hx hb dX1_add_39 rfl (lv_at hl 0 rfl) ?_
    refine va_get (D := D) (ci := 2) (v := .ref (h 4)) (C := RX1) (T := TX1) (N := 5) hx hb hts kX1_add_inX1 hown hK hP 0 rfl rfl 3 (by decide) (hts _ kX1_add_f21) (fun _ h9 => h9) rfl dX1_add_40 ?_
    refine lv_aload_n hx hb dX1_add_43 rfl (lv_at hl 0 rfl) ?_
    refine va_get (D := D) (ci := 2) (v := .int (nI n)) (C := RX1) (T := TX1) (N := 5) hx hb hts kX1_add_inX1 hown hK hP 0 rfl rfl 4 (by decide) (hts _ kX1_add_f24) (fun _ h9 => h9) rfl dX1_add_44 ?_
    refine lv_iload hx hb dX1_add_47 (lv_at hl 4 rfl) ?_
    refine z_iast (k := n) (x := k) hx hb hK hP hD hS 4 rfl (by decide) (by omega) dX1_add_49 (fun H locs hP hD hS => ?_)
    have hP : va_P D vwCl (wE cI h n (upC (upC (upC (upC E 0 n a) 1 n b) 2 n q) 3 n k)) H := hP
    have hD : va_D A (wE cI h n (upC (upC (upC (upC E 0 n a) 1 n b) 2 n q) 3 n k)) := hD
    refine lv_aload_n hx hb dX1_add_50 rfl (lv_at hl 0 rfl) ?_
    refine lv_dup hx hb dX1_add_51 rfl ?_
    refine va_get (D := D) (ci := 2) (v := .int (nI n)) (C := RX1) (T := TX1) (N := 5) hx hb hts kX1_add_inX1 hown hK hP 0 rfl rfl 4 (by decide) (hts _ kX1_add_f24) (fun _ h9 => h9) rfl dX1_add_52 ?_
    refine lv_iconst (v := 1) hx hb dX1_add_55 (by decide) ?_
    refine zn_add (i := n) (j := 1) hx hb dX1_add_56 ?_
    refine va_put (D := D) (ci := 2) (v := .int (nI (n + 1))) (ty := .int) (C := RX1) (T := TX1) (N := 5) hx hb hts kX1_add_inX1 tyX1 tyX1_ok nmX1 hown hK hP hD hS 0 rfl rfl 4 (by decide) (hts _ kX1_add_f24) (fun _ h9 => h9) rfl (by decide +kernel) rfl rfl (Nat.le_of_ble_eq_true rfl) dX1_add_57 (fun H locs hP hD hS => ?_)
    have hP : va_P D vwCl (wE cI h (n + 1) (upC (upC (upC (upC E 0 n a) 1 n b) 2 n q) 3 n k)) H := hP
    have hD : va_D A (wE cI h (n + 1) (upC (upC (upC (upC E 0 n a) 1 n b) 2 n q) 3 n k)) := hD
    exact z_vret hx hb hr hlocks hS hP rfl dX1_add_60 (by rw [evN, if_pos c6, evE, if_pos c6]; rfl)
end
section
/-! LiftRows2: its world, and what its private methods compute. -/
abbrev wX (cI cZ : ClassId) (h : Nat → Nat) (lev tm : Nat) (gn : Int32) (nL nC nE : Nat) (L B C E : Nat → Nat → Int32) : va_W :=
  [(h 0, .inr (4, [.int (nI lev), .ref (h 1), .ref (h 9), .ref (h 19), .int (nI tm)])),
   (h 1, .inr (3, [.ref (h 2), .ref (h 3), .ref (h 4), .ref (h 5), .ref (h 6), .ref (h 7), .ref (h 8), .int (nI nL), .int gn])),
   (h 2, .inl (cI, 4, .inl (L 0))), (h 3, .inl (cI, 4, .inl (L 1))), (h 4, .inl (cI, 4, .inl (L 2))), (h 5, .inl (cI, 4, .inl (L 3))), (h 6, .inl (cZ, 4, .inl (B 0))), (h 7, .inl (cZ, 4, .inl (B 1))), (h 8, .inl (cZ, 4, .inl (B 2))),
   (h 9, .inr (1, [.ref (h 10), .ref (h 11), .ref (h 12), .ref (h 13), .ref (h 14), .ref (h 15), .ref (h 16), .ref (h 17), .ref (h 18), .int (nI nC)])),
   (h 10, .inl (cI, 24, .inl (C 0))), (h 11, .inl (cI, 24, .inl (C 1))), (h 12, .inl (cI, 24, .inl (C 2))), (h 13, .inl (cI, 24, .inl (C 3))), (h 14, .inl (cI, 24, .inl (C 4))), (h 15, .inl (cI, 24, .inl (C 5))), (h 16, .inl (cI, 24, .inl (C 6))), (h 17, .inl (cI, 24, .inl (C 7))), (h 18, .inl (cI, 24, .inl (C 8))),
   (h 19, .inr (2, [.ref (h 20), .ref (h 21), .ref (h 22), .ref (h 23), .int (nI nE)])), (h 20, .inl (cI, 48, .inl (E 0))), (h 21, .inl (cI, 48, .inl (E 1))), (h 22, .inl (cI, 48, .inl (E 2))), (h 23, .inl (cI, 48, .inl (E 3)))]
/-- the nearest lift so far, and how far it is -/
def nlF (L B : Nat → Nat → Int32) (fr ld : Int32) : Nat → Int32 × Int32
  | 0 => (-1, 20)
  | k + 1 => if (getB L B k ld && decide (absI (L 0 k - fr) < (nlF L B fr ld k).2)) = true then (nI k, absI (L 0 k - fr)) else nlF L B fr ld k
/-- calls given anew, and how many found a lift -/
def gaF (L B : Nat → Nat → Int32) (nL : Nat) (lf : Int32) (C : Nat → Nat → Int32) : Nat → (Nat → Nat → Int32) × Int32
  | 0 => (C, 0)
  | k + 1 => if isB (gaF L B nL lf C k).1 k 0 lf = true then
      (upC (gaF L B nL lf C k).1 5 k (nlF L B ((gaF L B nL lf C k).1 0 k) ((gaF L B nL lf C k).1 3 k) nL).1, (gaF L B nL lf C k).2 + bI (!decide ((nlF L B ((gaF L B nL lf C k).1 0 k) ((gaF L B nL lf C k).1 3 k) nL).1 = -1)))
    else gaF L B nL lf C k
/-- events, calls, events' rows -/
abbrev Z3 : Type := Nat × (Nat → Nat → Int32) × (Nat → Nat → Int32)
/-- call c gets out, if it does -/
def outS (tm lf : Nat) (hr : Int32) (z : Z3) (c : Nat) : Z3 :=
  if outB z.2.1 c (nI lf) hr = true then (evN z.1, upC (upC z.2.1 4 c 2) 8 c (nI tm), evE z.2.2 z.1 (nI tm) (nI lf) (nI c) 1) else z
def outZ (tm lf : Nat) (hr : Int32) (z : Z3) : Nat → Z3
  | 0 => z
  | c + 1 => outS tm lf hr (outZ tm lf hr z c) c
/-- call c of rank r comes aboard, if it does -/
def inS (tm lf : Nat) (hr r : Int32) (z : Z3 × Int32) (c : Nat) : Z3 × Int32 :=
  if (decide (z.1.2.1 2 c = r) && fitB z.1.2.1 c (nI lf) hr z.2) = true then ((evN z.1.1, upC (upC z.1.2.1 4 c 1) 7 c (nI tm), evE z.1.2.2 z.1.1 (nI tm) (nI lf) (nI c) 0), z.2 - z.1.2.1 3 c) else z
def inZ (tm lf : Nat) (hr r : Int32) (z : Z3 × Int32) : Nat → Z3 × Int32
  | 0 => z
  | c + 1 => inS tm lf hr r (inZ tm lf hr r z c) c
def inAll (tm lf : Nat) (hr : Int32) (n : Nat) (z : Z3 × Int32) : Nat → Z3 × Int32
  | 0 => z
  | q + 1 => inZ tm lf hr (nI (q + 1)) (inAll tm lf hr n z q) n
/-- whether the door opens here -/
def opnB (L C : Nat → Nat → Int32) (lf nC k : Nat) : Bool :=
  anyW (fun c => outB C c (nI lf) (L 0 lf) || fitB C c (nI lf) (L 0 lf) (L 1 lf - sumW (fun k => isB C k 1 (nI lf) && !decide (C 1 k = L 0 lf)) (C 3) nC)) k
theorem anyW_of {f : Nat → Bool} {n i : Nat} (h : i < n) (hf : f i = true) : anyW f n = true := anyW_iff.mpr ⟨i, h, hf⟩
/-- work above (1) or below (-1) -/
def wrkB (L C : Nat → Nat → Int32) (lf nC : Nat) (sd : Int32) : Bool :=
  !decide ((nsF C (L 0 lf) sd (setG (fun k => isB C k 0 (nI lf)) nI nC) (setG (fun k => isB C k 1 (nI lf)) nI nC) nC).1 = -1)
/-- gone, events, lifts' rows, calls' rows, events' rows -/
abbrev Z5 : Type := Int32 × Nat × (Nat → Nat → Int32) × (Nat → Nat → Int32) × (Nat → Nat → Int32)
abbrev wZ (cI cZ : ClassId) (h : Nat → Nat) (lev tm nL nC : Nat) (B : Nat → Nat → Int32) (z : Z5) : va_W := wX cI cZ h lev tm z.1 nL nC z.2.1 z.2.2.1 B z.2.2.2.1 z.2.2.2.2
def exZ (tm lf nC : Nat) (L : Nat → Nat → Int32) (z : Z3) : Z3 :=
  (inAll tm lf (L 0 lf) nC (outZ tm lf (L 0 lf) z nC, L 1 lf - sumW (fun k => isB (outZ tm lf (L 0 lf) z nC).2.1 k 1 (nI lf) && !decide ((outZ tm lf (L 0 lf) z nC).2.1 1 k = -1)) ((outZ tm lf (L 0 lf) z nC).2.1 3) nC) 3).1
/-- a lift's second -/
def oneZ (tm lf nC : Nat) (B : Nat → Nat → Int32) (z : Z5) : Z5 :=
  if z.2.2.1 3 lf ≤ 0 then
    if opnB z.2.2.1 z.2.2.2.1 lf nC nC = true then (z.1, (exZ tm lf nC z.2.2.1 (z.2.1, z.2.2.2)).1, upC z.2.2.1 3 lf 3, (exZ tm lf nC z.2.2.1 (z.2.1, z.2.2.2)).2)
    else (z.1 + absI (dirF (z.2.2.1 2 lf) (wrkB z.2.2.1 z.2.2.2.1 lf nC 1) (wrkB z.2.2.1 z.2.2.2.1 lf nC (-1))), z.2.1, goL z.2.2.1 lf (dirF (z.2.2.1 2 lf) (wrkB z.2.2.1 z.2.2.2.1 lf nC 1) (wrkB z.2.2.1 z.2.2.2.1 lf nC (-1))), z.2.2.2)
  else (z.1, z.2.1, pasL z.2.2.1 B lf, z.2.2.2)
def secZ (tm nC : Nat) (B : Nat → Nat → Int32) (z : Z5) : Nat → Z5
  | 0 => z
  | k + 1 => if B 0 k = 0 then oneZ tm k nC B (secZ tm nC B z k) else secZ tm nC B z k
theorem evN_le {n : Nat} (h : n ≤ 48) : evN n ≤ 48 := by unfold evN; split <;> omega
theorem outZ_le {tm lf : Nat} {hr : Int32} {z : Z3} (h : z.1 ≤ 48) : ∀ {n : Nat}, (outZ tm lf hr z n).1 ≤ 48
  | 0 => h
  | n + 1 => by
    have ih := outZ_le (tm := tm) (lf := lf) (hr := hr) h (n := n)
    unfold outZ outS
    split
    · exact evN_le ih
    · exact ih
theorem inZ_le {tm lf : Nat} {hr r : Int32} {z : Z3 × Int32} (h : z.1.1 ≤ 48) : ∀ {n : Nat}, (inZ tm lf hr r z n).1.1 ≤ 48
  | 0 => h
  | n + 1 => by
    have ih := inZ_le (tm := tm) (lf := lf) (hr := hr) (r := r) h (n := n)
    unfold inZ inS
    split
    · exact evN_le ih
    · exact ih
theorem inAll_le {tm lf : Nat} {hr : Int32} {m : Nat} {z : Z3 × Int32} (h : z.1.1 ≤ 48) : ∀ {n : Nat}, (inAll tm lf hr m z n).1.1 ≤ 48
  | 0 => h
  | n + 1 => by unfold inAll; exact inZ_le (inAll_le h)
theorem oneZ_le {tm lf nC : Nat} {B : Nat → Nat → Int32} {z : Z5} (h : z.2.1 ≤ 48) : (oneZ tm lf nC B z).2.1 ≤ 48 := by
  unfold oneZ
  split
  · split
    · exact inAll_le (outZ_le h)
    · exact h
  · exact h
theorem secZ_le {tm nC : Nat} {B : Nat → Nat → Int32} {z : Z5} (h : z.2.1 ≤ 48) : ∀ {n : Nat}, (secZ tm nC B z n).2.1 ≤ 48
  | 0 => h
  | n + 1 => by
    unfold secZ
    split
    · exact oneZ_le (secZ_le h)
    · exact secZ_le h
end
section
theorem kX3_nearestLift_inX3 : ∀ w ∈ wsX30, w ∈ wsX3_nearestLift := by decide +kernel
theorem kX3_nearestLift_f25 : Cond.fieldLink RX3 25 "LiftRows2" "lifts" "LLiftRows2$Lifts;" ∈ wsX3_nearestLift := by decide +kernel
theorem kX3_nearestLift_inX2 : ∀ w ∈ wsX20, w ∈ wsX3_nearestLift := by decide +kernel
theorem kX3_nearestLift_m212 : Cond.methodLink RX3 212 Lib.Math.abs.name ∈ wsX3_nearestLift := by decide +kernel
theorem kX3_nearestLift_sabs : Cond.static Lib.Math.abs.name ∈ wsX3_nearestLift := by decide +kernel
theorem kX3_nearestLift_iMath : Cond.initialized "java/lang/Math" ∈ wsX3_nearestLift := by decide +kernel
theorem kX3_nearestLift_cabs : Cond.code Lib.Math.abs.name Lib.Math.abs.code 1 (some .int) ∈ wsX3_nearestLift := by decide +kernel
theorem kX3_nearestLift_iRX2 : Cond.initialized yX2_mayGet.cls ∈ wsX3_nearestLift := by decide +kernel
theorem kX3_nearestLift_nX2_mayGet : Cond.instanceMethod yX2_mayGet ∈ wsX3_nearestLift := by decide +kernel
theorem kX3_nearestLift_eX2_mayGet : Cond.selects RX2 yX2_mayGet yX2_mayGet ∈ wsX3_nearestLift := by decide +kernel
set_option maxHeartbeats 4000000 in
set_option maxRecDepth 100000 in
theorem tX3_nearestLift (l : Launch) (D : va_G) (cI cZ cJ : ClassId) (h : Nat → Nat) (lev tm : Nat) (gn : Int32) (nL nC nE : Nat) (L B C E : Nat → Nat → Int32) (fr ld : Int32) (hL : nL ≤ 4)  : ∀ sz : Nat, zMi l yX3_nearestLift wsX3_nearestLift ({ frames := 1, cells := 0, slots := 0, locals := 22 } : Room) D cI cZ cJ (wX cI cZ h lev tm gn nL nC nE L B C E) sz [.ref (h 0), .int fr, .int ld] (fun r w' => r = (nlF L B fr ld nL).1 ∧ w' = wX cI cZ h lev tm gn nL nC nE L B C E) := by
  intro sz
  refine z_head (y := yX3_nearestLift) (av := [.ref (h 0), .int fr, .int ld]) (w := (wX cI cZ h lev tm gn nL nC nE L B C E)) (Qc := fun A => zQi D (wX cI cZ h lev tm gn nL nC nE L B C E) (fun r w' => r = (nlF L B fr ld nL).1 ∧ w' = wX cI cZ h lev tm gn nL nC nE L B C E) A) (cc := cX3_nearestLift) (maxL := 7) (ret := (some .int)) (by decide) rfl (Nat.le_of_ble_eq_true rfl) ?_
  intro p e s m below meth c ls A hat hP hD hS hl
  obtain ⟨hx, hb, hr, hml, hlocks, hts, hown, hin, hK, hE, hA⟩ := hat
  have hP : va_P D vwCl (wX cI cZ h lev tm gn nL nC nE L B C E) s.heap := hP
  have hD : va_D A (wX cI cZ h lev tm gn nL nC nE L B C E) := hD
  have hl : lv_has ls 7 [(0, .ref (h 0)), (1, .int fr), (2, .int ld)] := hl
  have L9 : ∀ (fu : Nat) (i : Nat) (x : Int32) (y : Int32), i ≤ nL → nL + 1 ≤ i + fu → ((x, y) = nlF L B fr ld i) → ∀ (H : Heap) (locs : List Loc) (ls : Array Slot), lv_has ls 7 [(0, .ref (h 0)), (1, .int fr), (2, .int ld), (3, .int x), (4, .int y), (5, .int (nI i))] → va_P D vwCl (wX cI cZ h lev tm gn nL nC nE L B C E) H → va_D A (wX cI cZ h lev tm gn nL nC nE L B C E) → va_S A s.heap H locs → W p l e ({ frames := 1, cells := 0, slots := 0, locals := 22 } : Room) s m ([.ref (h 0), .int fr, .int ld] : List Value).toArray below meth c H locs 0 0 (MQ below (zQi D (wX cI cZ h lev tm gn nL nC nE L B C E) (fun r w' => r = (nlF L B fr ld nL).1 ∧ w' = wX cI cZ h lev tm gn nL nC nE L B C E) A) ([.ref (h 0), .int fr, .int ld] : List Value).toArray s 0 0 A) (F0 m 9 ls []) := by
    intro fu
    induction fu with
    | zero =>
      intro i x y h1 h2
      exact absurd h2 (by omega)
    | succ fu ih9 =>
      intro i x y hle hfu ex H locs ls hl hP hD hS
      refine lv_iload hx hb dX3_nearestLift_9 (lv_at hl 5 rfl) ?_
      refine lv_aload_n hx hb dX3_nearestLift_11 rfl (lv_at hl 0 rfl) ?_
      refine va_get (D := D) (ci := 4) (v := .ref (h 1)) (C := RX3) (T := TX3) (N := 5) hx hb hts kX3_nearestLift_inX3 hown hK hP 0 rfl rfl 1 (by decide) (hts _ kX3_nearestLift_f25) (fun _ h9 => h9) rfl dX3_nearestLift_12 ?_
      refine va_getN (D := D) (ci := 3) (v := .int (nI nL)) (C := RX2) (T := TX2) (N := 9) hx hb hts kX3_nearestLift_inX2 hown hK hP 1 rfl rfl 7 (by decide) (va_Nw.use rfl (hE _ zl_RX3_50)) (fun _ h9 => h9) rfl dX3_nearestLift_15 ?_
      refine zn_ge (i := i) (j := nL) (tgt := 71) hx hb (by omega) (by omega) dX3_nearestLift_18 (by decide) (fun c18 => ?_) (fun c18 => ?_)
      · skip
        refine lv_iload_n hx hb dX3_nearestLift_71 rfl (lv_at hl 3 rfl) ?_
        exact z_iret hx hb hr hlocks hS hP rfl dX3_nearestLift_72 (⟨by rw [← show i = nL by omega, ← ex], rfl⟩)
      · skip
        refine lv_aload_n hx hb dX3_nearestLift_21 rfl (lv_at hl 0 rfl) ?_
        refine va_get (D := D) (ci := 4) (v := .ref (h 1)) (C := RX3) (T := TX3) (N := 5) hx hb hts kX3_nearestLift_inX3 hown hK hP 0 rfl rfl 1 (by decide) (hts _ kX3_nearestLift_f25) (fun _ h9 => h9) rfl dX3_nearestLift_22 ?_
        refine va_getN (D := D) (ci := 3) (v := .ref (h 2)) (C := RX2) (T := TX2) (N := 9) hx hb hts kX3_nearestLift_inX2 hown hK hP 1 rfl rfl 0 (by decide) (va_Nw.use rfl (hE _ zl_RX3_111)) (fun _ h9 => h9) rfl dX3_nearestLift_25 ?_
        refine lv_iload hx hb dX3_nearestLift_28 (lv_at hl 5 rfl) ?_
        refine z_iald (k := i) (v := L 0 i) hx hb hK hP 2 rfl (by decide) (by omega) (rfl) dX3_nearestLift_30 ?_
        refine lv_iload_n hx hb dX3_nearestLift_31 rfl (lv_at hl 1 rfl) ?_
        refine lv_isub (x := L 0 i) (y := fr) hx hb dX3_nearestLift_32 ?_
        refine va_mabs hx hb (hml.trans hl.1.symm) hown (hts _ kX3_nearestLift_m212) (hts _ kX3_nearestLift_sabs) (hts _ kX3_nearestLift_iMath) (hts _ kX3_nearestLift_cabs) (Nat.le_of_ble_eq_true rfl) (Nat.le_of_ble_eq_true rfl) (Nat.zero_le _) (Nat.zero_le _) dX3_nearestLift_33 ?_
        refine lv_istore (lv' := [(6, .int (absI ((L 0 i) - fr))), (0, .ref (h 0)), (1, .int fr), (2, .int ld), (3, .int x), (4, .int y), (5, .int (nI i))]) hx hb dX3_nearestLift_36 hl (by decide) rfl (fun ls hl => ?_)
        refine lv_aload_n hx hb dX3_nearestLift_38 rfl (lv_at hl 1 rfl) ?_
        refine va_get (D := D) (ci := 4) (v := .ref (h 1)) (C := RX3) (T := TX3) (N := 5) hx hb hts kX3_nearestLift_inX3 hown hK hP 0 rfl rfl 1 (by decide) (hts _ kX3_nearestLift_f25) (fun _ h9 => h9) rfl dX3_nearestLift_39 ?_
        refine lv_iload hx hb dX3_nearestLift_42 (lv_at hl 6 rfl) ?_
        refine lv_iload_n hx hb dX3_nearestLift_44 rfl (lv_at hl 3 rfl) ?_
        refine z_backi (z_runVN (n := 2) (As := [.int (nI i), .int ld]) (ci := 3) (rest := []) hx hb hml hown hts hK hE hP hD [1, 2, 3, 4, 5, 6, 7, 8] rfl (by decide) (tX2_mayGet l D cI cZ cJ (fun k => h (1 + k)) nL gn L B i ld (by omega) _) gX3_nearestLift_X2_mayGet_n215 rfl rfl rfl zl_RX3_215 kX3_nearestLift_iRX2 kX3_nearestLift_nX2_mayGet kX3_nearestLift_eX2_mayGet (by decide +kernel) ⟨Nat.le_of_ble_eq_true rfl, Nat.le_of_ble_eq_true rfl⟩ rfl rfl rfl hl.1 rfl (Nat.le_of_ble_eq_true rfl) dX3_nearestLift_45 ⟨Nat.zero_le _, Nat.zero_le _⟩) hP hD hS hA [1, 2, 3, 4, 5, 6, 7, 8] rfl (fun r1 w1 H locs hp1 hP hD hS => ?_)
        obtain ⟨rfl, rfl⟩ := hp1
        have hP : va_P D vwCl (wX cI cZ h lev tm gn nL nC nE L B C E) H := hP
        have hD : va_D A (wX cI cZ h lev tm gn nL nC nE L B C E) := hD
        refine zb_eq (b := (getB L B i ld)) (tgt := 65) hx hb dX3_nearestLift_48 (by decide) (fun c48 => ?_) (fun c48 => ?_)
        · skip
          refine lv_iinc (v := nI (i + 1)) (lv' := [(5, .int (nI (i + 1))), (6, .int (absI ((L 0 i) - fr))), (0, .ref (h 0)), (1, .int fr), (2, .int ld), (3, .int x), (4, .int y)]) hx hb dX3_nearestLift_65 hl (k := 6) rfl (by rw [show Int32.ofInt 1 = nI 1 from rfl, nI_add]) (by decide) rfl (fun ls hl => ?_)
          refine lv_goto (tgt := 9) hx hb dX3_nearestLift_68 (by decide) ?_
          exact ih9 (i + 1) x y (by omega) (by omega) (by rw [nlF, ← ex]; simp [c18, c48]) H locs ls (lv_sub hl [2, 3, 4, 5, 6, 0] rfl) hP hD hS
        · skip
          refine lv_iload hx hb dX3_nearestLift_51 (lv_at hl 0 rfl) ?_
          refine lv_iload hx hb dX3_nearestLift_53 (lv_at hl 5 rfl) ?_
          refine lv_icmp_ge (x := absI ((L 0 i) - fr)) (y := y) (tgt := 65) hx hb dX3_nearestLift_55 (by decide) (fun c55 => ?_) (fun c55 => ?_)
          · skip
            refine lv_iinc (v := nI (i + 1)) (lv' := [(5, .int (nI (i + 1))), (6, .int (absI ((L 0 i) - fr))), (0, .ref (h 0)), (1, .int fr), (2, .int ld), (3, .int x), (4, .int y)]) hx hb dX3_nearestLift_65 hl (k := 6) rfl (by rw [show Int32.ofInt 1 = nI 1 from rfl, nI_add]) (by decide) rfl (fun ls hl => ?_)
            refine lv_goto (tgt := 9) hx hb dX3_nearestLift_68 (by decide) ?_
            exact ih9 (i + 1) x y (by omega) (by omega) (by rw [nlF, ← ex]; simp [c18, c48, Int32.not_lt.mpr c55]) H locs ls (lv_sub hl [2, 3, 4, 5, 6, 0] rfl) hP hD hS
          · skip
            refine lv_iload hx hb dX3_nearestLift_58 (lv_at hl 6 rfl) ?_
            refine lv_istore_n (lv' := [(3, .int (nI i)), (6, .int (absI ((L 0 i) - fr))), (0, .ref (h 0)), (1, .int fr), (2, .int ld), (4, .int y), (5, .int (nI i))]) hx hb dX3_nearestLift_60 rfl hl (by decide) rfl (fun ls hl => ?_)
            refine lv_iload hx hb dX3_nearestLift_61 (lv_at hl 1 rfl) ?_
            refine lv_istore (lv' := [(4, .int (absI ((L 0 i) - fr))), (3, .int (nI i)), (6, .int (absI ((L 0 i) - fr))), (0, .ref (h 0)), (1, .int fr), (2, .int ld), (5, .int (nI i))]) hx hb dX3_nearestLift_63 hl (by decide) rfl (fun ls hl => ?_)
            refine lv_iinc (v := nI (i + 1)) (lv' := [(5, .int (nI (i + 1))), (4, .int (absI ((L 0 i) - fr))), (3, .int (nI i)), (6, .int (absI ((L 0 i) - fr))), (0, .ref (h 0)), (1, .int fr), (2, .int ld)]) hx hb dX3_nearestLift_65 hl (k := 6) rfl (by rw [show Int32.ofInt 1 = nI 1 from rfl, nI_add]) (by decide) rfl (fun ls hl => ?_)
            refine lv_goto (tgt := 9) hx hb dX3_nearestLift_68 (by decide) ?_
            exact ih9 (i + 1) (nI i) (absI ((L 0 i) - fr)) (by omega) (by omega) (by rw [nlF, ← ex]; simp [c18, c48, Int32.not_le.mp c55]) H locs ls (lv_sub hl [4, 5, 6, 2, 1, 0] rfl) hP hD hS
  refine lv_iconst (v := (-1)) hx hb dX3_nearestLift_0 (by decide) ?_
  refine lv_istore_n (lv' := [(3, .int (-1)), (0, .ref (h 0)), (1, .int fr), (2, .int ld)]) hx hb dX3_nearestLift_1 rfl hl (by decide) rfl (fun ls hl => ?_)
  refine lv_bipush (v := 20) hx hb dX3_nearestLift_2 (by decide) ?_
  refine lv_istore (lv' := [(4, .int 20), (3, .int (-1)), (0, .ref (h 0)), (1, .int fr), (2, .int ld)]) hx hb dX3_nearestLift_4 hl (by decide) rfl (fun ls hl => ?_)
  refine lv_iconst (v := 0) hx hb dX3_nearestLift_6 (by decide) ?_
  refine lv_istore (lv' := [(5, .int 0), (4, .int 20), (3, .int (-1)), (0, .ref (h 0)), (1, .int fr), (2, .int ld)]) hx hb dX3_nearestLift_7 hl (by decide) rfl (fun ls hl => ?_)
  exact L9 (nL + 1) 0 (-1) 20 (by omega) (by omega) (rfl) s.heap [] ls (lv_sub hl [3, 4, 5, 2, 1, 0] rfl) hP hD hS

theorem kX3_giveAnew_inX3 : ∀ w ∈ wsX30, w ∈ wsX3_giveAnew := by decide +kernel
theorem kX3_giveAnew_f32 : Cond.fieldLink RX3 32 "LiftRows2" "calls" "LLiftRows2$Calls;" ∈ wsX3_giveAnew := by decide +kernel
theorem kX3_giveAnew_inX0 : ∀ w ∈ wsX00, w ∈ wsX3_giveAnew := by decide +kernel
theorem kX3_giveAnew_iRX0 : Cond.initialized yX0_is.cls ∈ wsX3_giveAnew := by decide +kernel
theorem kX3_giveAnew_nX0_is : Cond.instanceMethod yX0_is ∈ wsX3_giveAnew := by decide +kernel
theorem kX3_giveAnew_eX0_is : Cond.selects RX0 yX0_is yX0_is ∈ wsX3_giveAnew := by decide +kernel
set_option maxHeartbeats 4000000 in
set_option maxRecDepth 100000 in
theorem tX3_giveAnew (l : Launch) (D : va_G) (cI cZ cJ : ClassId) (h : Nat → Nat) (lev tm : Nat) (gn : Int32) (nL nC nE : Nat) (L B C E : Nat → Nat → Int32) (lf : Int32) (hL : nL ≤ 4) (hC : nC ≤ 24)  : ∀ sz : Nat, zMi l yX3_giveAnew wsX3_giveAnew ({ frames := 2, cells := 0, slots := 0, locals := 48 } : Room) D cI cZ cJ (wX cI cZ h lev tm gn nL nC nE L B C E) sz [.ref (h 0), .int lf] (fun r w' => r = (gaF L B nL lf C nC).2 ∧ w' = wX cI cZ h lev tm gn nL nC nE L B (gaF L B nL lf C nC).1 E) := by
  intro sz
  refine z_head (y := yX3_giveAnew) (av := [.ref (h 0), .int lf]) (w := (wX cI cZ h lev tm gn nL nC nE L B C E)) (Qc := fun A => zQi D (wX cI cZ h lev tm gn nL nC nE L B C E) (fun r w' => r = (gaF L B nL lf C nC).2 ∧ w' = wX cI cZ h lev tm gn nL nC nE L B (gaF L B nL lf C nC).1 E) A) (cc := cX3_giveAnew) (maxL := 4) (ret := (some .int)) (by decide) rfl (Nat.le_of_ble_eq_true rfl) ?_
  intro p e s m below meth c ls A hat hP hD hS hl
  obtain ⟨hx, hb, hr, hml, hlocks, hts, hown, hin, hK, hE, hA⟩ := hat
  have hP : va_P D vwCl (wX cI cZ h lev tm gn nL nC nE L B C E) s.heap := hP
  have hD : va_D A (wX cI cZ h lev tm gn nL nC nE L B C E) := hD
  have hl : lv_has ls 4 [(0, .ref (h 0)), (1, .int lf)] := hl
  have L4 : ∀ (fu : Nat) (i : Nat) (C1 : Nat → Nat → Int32) (x : Int32), i ≤ nC → nC + 1 ≤ i + fu → ((C1, x) = gaF L B nL lf C i) → ∀ (H : Heap) (locs : List Loc) (ls : Array Slot), lv_has ls 4 [(0, .ref (h 0)), (1, .int lf), (2, .int x), (3, .int (nI i))] → va_P D vwCl (wX cI cZ h lev tm gn nL nC nE L B C1 E) H → va_D A (wX cI cZ h lev tm gn nL nC nE L B C1 E) → va_S A s.heap H locs → W p l e ({ frames := 2, cells := 0, slots := 0, locals := 48 } : Room) s m ([.ref (h 0), .int lf] : List Value).toArray below meth c H locs 0 0 (MQ below (zQi D (wX cI cZ h lev tm gn nL nC nE L B C E) (fun r w' => r = (gaF L B nL lf C nC).2 ∧ w' = wX cI cZ h lev tm gn nL nC nE L B (gaF L B nL lf C nC).1 E) A) ([.ref (h 0), .int lf] : List Value).toArray s 0 0 A) (F0 m 4 ls []) := by
    intro fu
    induction fu with
    | zero =>
      intro i C1 x h1 h2
      exact absurd h2 (by omega)
    | succ fu ih4 =>
      intro i C1 x hle hfu ex H locs ls hl hP hD hS
      have L78 : ∀ (bz : Bool), (i < nC) → (isB C1 i 0 lf = true) → (bz = !decide ((nlF L B (C1 0 i) (C1 3 i) nL).1 = -1)) → ∀ (H : Heap) (locs : List Loc) (ls : Array Slot), lv_has ls 4 [(0, .ref (h 0)), (1, .int lf), (2, .int x), (3, .int (nI i))] → va_P D vwCl (wX cI cZ h lev tm gn nL nC nE L B (upC C1 5 i ((nlF L B (C1 0 i) (C1 3 i) nL).1)) E) H → va_D A (wX cI cZ h lev tm gn nL nC nE L B (upC C1 5 i ((nlF L B (C1 0 i) (C1 3 i) nL).1)) E) → va_S A s.heap H locs → W p l e ({ frames := 2, cells := 0, slots := 0, locals := 48 } : Room) s m ([.ref (h 0), .int lf] : List Value).toArray below meth c H locs 0 0 (MQ below (zQi D (wX cI cZ h lev tm gn nL nC nE L B C E) (fun r w' => r = (gaF L B nL lf C nC).2 ∧ w' = wX cI cZ h lev tm gn nL nC nE L B (gaF L B nL lf C nC).1 E) A) ([.ref (h 0), .int lf] : List Value).toArray s 0 0 A) (F0 m 78 ls [.int (bI bz), .int x]) := by
        intro bz hlt c25 ez H locs ls hl hP hD hS
        refine z_backi (z_runS (n := 1) (As := [.int (bI bz)]) (rest := [.int x]) hx hb hml hown hts hK hE hP hD [] rfl (by decide) (tX3_asNumber l D cI cZ cJ bz _) gX3_giveAnew_X3_asNumber rfl rfl rfl (by decide +kernel) ⟨Nat.le_of_ble_eq_true rfl, Nat.le_of_ble_eq_true rfl⟩ rfl hl.1 rfl (Nat.le_of_ble_eq_true rfl) dX3_giveAnew_78 ⟨Nat.zero_le _, Nat.zero_le _⟩) hP hD hS hA [] rfl (fun r1 w1 H locs hp1 hP hD hS => ?_)
        obtain ⟨rfl, rfl⟩ := hp1
        have hP : va_P D vwCl (wX cI cZ h lev tm gn nL nC nE L B (upC C1 5 i ((nlF L B (C1 0 i) (C1 3 i) nL).1)) E) H := hP
        have hD : va_D A (wX cI cZ h lev tm gn nL nC nE L B (upC C1 5 i ((nlF L B (C1 0 i) (C1 3 i) nL).1)) E) := hD
        refine lv_iadd (x := x) (y := bI bz) hx hb dX3_giveAnew_81 ?_
        refine lv_istore_n (lv' := [(2, .int (x + (bI bz))), (0, .ref (h 0)), (1, .int lf), (3, .int (nI i))]) hx hb dX3_giveAnew_82 rfl hl (by decide) rfl (fun ls hl => ?_)
        refine lv_iinc (v := nI (i + 1)) (lv' := [(3, .int (nI (i + 1))), (2, .int (x + (bI bz))), (0, .ref (h 0)), (1, .int lf)]) hx hb dX3_giveAnew_83 hl (k := 3) rfl (by rw [show Int32.ofInt 1 = nI 1 from rfl, nI_add]) (by decide) rfl (fun ls hl => ?_)
        refine lv_goto (tgt := 4) hx hb dX3_giveAnew_86 (by decide) ?_
        exact ih4 (i + 1) (upC C1 5 i ((nlF L B (C1 0 i) (C1 3 i) nL).1)) (x + (bI bz)) (by omega) (by omega) (by rw [gaF, ← ex, ← ez]; simp [c25]) H locs ls (lv_sub hl [2, 3, 1, 0] rfl) hP hD hS
      refine lv_iload_n hx hb dX3_giveAnew_4 rfl (lv_at hl 3 rfl) ?_
      refine lv_aload_n hx hb dX3_giveAnew_5 rfl (lv_at hl 0 rfl) ?_
      refine va_get (D := D) (ci := 4) (v := .ref (h 9)) (C := RX3) (T := TX3) (N := 5) hx hb hts kX3_giveAnew_inX3 hown hK hP 0 rfl rfl 2 (by decide) (hts _ kX3_giveAnew_f32) (fun _ h9 => h9) rfl dX3_giveAnew_6 ?_
      refine va_getN (D := D) (ci := 1) (v := .int (nI nC)) (C := RX0) (T := TX0) (N := 10) hx hb hts kX3_giveAnew_inX0 hown hK hP 9 rfl rfl 9 (by decide) (va_Nw.use rfl (hE _ zl_RX3_68)) (fun _ h9 => h9) rfl dX3_giveAnew_9 ?_
      refine zn_ge (i := i) (j := nC) (tgt := 89) hx hb (by omega) (by omega) dX3_giveAnew_12 (by decide) (fun c12 => ?_) (fun c12 => ?_)
      · skip
        refine lv_iload_n hx hb dX3_giveAnew_89 rfl (lv_at hl 2 rfl) ?_
        exact z_iret hx hb hr hlocks hS hP rfl dX3_giveAnew_90 (⟨by rw [← show i = nC by omega, ← ex], by rw [← show i = nC by omega, ← ex]⟩)
      · skip
        refine lv_aload_n hx hb dX3_giveAnew_15 rfl (lv_at hl 0 rfl) ?_
        refine va_get (D := D) (ci := 4) (v := .ref (h 9)) (C := RX3) (T := TX3) (N := 5) hx hb hts kX3_giveAnew_inX3 hown hK hP 0 rfl rfl 2 (by decide) (hts _ kX3_giveAnew_f32) (fun _ h9 => h9) rfl dX3_giveAnew_16 ?_
        refine lv_iload_n hx hb dX3_giveAnew_19 rfl (lv_at hl 3 rfl) ?_
        refine lv_iconst (v := 0) hx hb dX3_giveAnew_20 (by decide) ?_
        refine lv_iload_n hx hb dX3_giveAnew_21 rfl (lv_at hl 1 rfl) ?_
        refine z_backi (z_runVN (n := 3) (As := [.int (nI i), .int 0, .int lf]) (ci := 1) (rest := []) hx hb hml hown hts hK hE hP hD [9, 10, 11, 12, 13, 14, 15, 16, 17, 18] rfl (by decide) (tX0_is l D cI cZ cJ (fun k => h (9 + k)) nC C1 i 0 lf (by omega) _) gX3_giveAnew_X0_is_n219 rfl rfl rfl zl_RX3_219 kX3_giveAnew_iRX0 kX3_giveAnew_nX0_is kX3_giveAnew_eX0_is (by decide +kernel) ⟨Nat.le_of_ble_eq_true rfl, Nat.le_of_ble_eq_true rfl⟩ rfl rfl rfl hl.1 rfl (Nat.le_of_ble_eq_true rfl) dX3_giveAnew_22 ⟨Nat.zero_le _, Nat.zero_le _⟩) hP hD hS hA [9, 10, 11, 12, 13, 14, 15, 16, 17, 18] rfl (fun r2 w1 H locs hp2 hP hD hS => ?_)
        obtain ⟨rfl, rfl⟩ := hp2
        have hP : va_P D vwCl (wX cI cZ h lev tm gn nL nC nE L B C1 E) H := hP
        have hD : va_D A (wX cI cZ h lev tm gn nL nC nE L B C1 E) := hD
        refine zb_eq (b := (isB C1 i 0 lf)) (tgt := 83) hx hb dX3_giveAnew_25 (by decide) (fun c25 => ?_) (fun c25 => ?_)
        · skip
          refine lv_iinc (v := nI (i + 1)) (lv' := [(3, .int (nI (i + 1))), (0, .ref (h 0)), (1, .int lf), (2, .int x)]) hx hb dX3_giveAnew_83 hl (k := 3) rfl (by rw [show Int32.ofInt 1 = nI 1 from rfl, nI_add]) (by decide) rfl (fun ls hl => ?_)
          refine lv_goto (tgt := 4) hx hb dX3_giveAnew_86 (by decide) ?_
          exact ih4 (i + 1) C1 x (by omega) (by omega) (by rw [gaF, ← ex]; simp [c25]) H locs ls (lv_sub hl [1, 2, 3, 0] rfl) hP hD hS
        · skip
          refine lv_aload_n hx hb dX3_giveAnew_28 rfl (lv_at hl 0 rfl) ?_
          refine va_get (D := D) (ci := 4) (v := .ref (h 9)) (C := RX3) (T := TX3) (N := 5) hx hb hts kX3_giveAnew_inX3 hown hK hP 0 rfl rfl 2 (by decide) (hts _ kX3_giveAnew_f32) (fun _ h9 => h9) rfl dX3_giveAnew_29 ?_
          refine va_getN (D := D) (ci := 1) (v := .ref (h 15)) (C := RX0) (T := TX0) (N := 10) hx hb hts kX3_giveAnew_inX0 hown hK hP 9 rfl rfl 5 (by decide) (va_Nw.use rfl (hE _ zl_RX3_74)) (fun _ h9 => h9) rfl dX3_giveAnew_32 ?_
          refine lv_iload_n hx hb dX3_giveAnew_35 rfl (lv_at hl 3 rfl) ?_
          refine lv_aload_n hx hb dX3_giveAnew_36 rfl (lv_at hl 0 rfl) ?_
          refine lv_aload_n hx hb dX3_giveAnew_37 rfl (lv_at hl 0 rfl) ?_
          refine va_get (D := D) (ci := 4) (v := .ref (h 9)) (C := RX3) (T := TX3) (N := 5) hx hb hts kX3_giveAnew_inX3 hown hK hP 0 rfl rfl 2 (by decide) (hts _ kX3_giveAnew_f32) (fun _ h9 => h9) rfl dX3_giveAnew_38 ?_
          refine va_getN (D := D) (ci := 1) (v := .ref (h 10)) (C := RX0) (T := TX0) (N := 10) hx hb hts kX3_giveAnew_inX0 hown hK hP 9 rfl rfl 0 (by decide) (va_Nw.use rfl (hE _ zl_RX3_182)) (fun _ h9 => h9) rfl dX3_giveAnew_41 ?_
          refine lv_iload_n hx hb dX3_giveAnew_44 rfl (lv_at hl 3 rfl) ?_
          refine z_iald (k := i) (v := C1 0 i) hx hb hK hP 10 rfl (by decide) (by omega) (rfl) dX3_giveAnew_45 ?_
          refine lv_aload_n hx hb dX3_giveAnew_46 rfl (lv_at hl 0 rfl) ?_
          refine va_get (D := D) (ci := 4) (v := .ref (h 9)) (C := RX3) (T := TX3) (N := 5) hx hb hts kX3_giveAnew_inX3 hown hK hP 0 rfl rfl 2 (by decide) (hts _ kX3_giveAnew_f32) (fun _ h9 => h9) rfl dX3_giveAnew_47 ?_
          refine va_getN (D := D) (ci := 1) (v := .ref (h 13)) (C := RX0) (T := TX0) (N := 10) hx hb hts kX3_giveAnew_inX0 hown hK hP 9 rfl rfl 3 (by decide) (va_Nw.use rfl (hE _ zl_RX3_191)) (fun _ h9 => h9) rfl dX3_giveAnew_50 ?_
          refine lv_iload_n hx hb dX3_giveAnew_53 rfl (lv_at hl 3 rfl) ?_
          refine z_iald (k := i) (v := C1 3 i) hx hb hK hP 13 rfl (by decide) (by omega) (rfl) dX3_giveAnew_54 ?_
          refine z_backiA (z_runVA (n := 2) (As := [.int (C1 0 i), .int (C1 3 i)]) (ci := 4) (rest := [.int (nI i), .ref (h 15)]) hx hb hml hown hts hK hE hP hD (tX3_nearestLift l D cI cZ cJ h lev tm gn nL nC nE L B C1 E (C1 0 i) (C1 3 i) (by omega) _) gX3_giveAnew_X3_nearestLift rfl rfl rfl (by decide +kernel) ⟨Nat.le_of_ble_eq_true rfl, Nat.le_of_ble_eq_true rfl⟩ rfl rfl rfl hl.1 rfl (Nat.le_of_ble_eq_true rfl) dX3_giveAnew_55 ⟨Nat.zero_le _, Nat.zero_le _⟩) hD hS hA (fun r3 w1 H locs hp3 hP hD hS => ?_)
          obtain ⟨rfl, rfl⟩ := hp3
          have hP : va_P D vwCl (wX cI cZ h lev tm gn nL nC nE L B C1 E) H := hP
          have hD : va_D A (wX cI cZ h lev tm gn nL nC nE L B C1 E) := hD
          refine z_iast (k := i) (x := (nlF L B (C1 0 i) (C1 3 i) nL).1) hx hb hK hP hD hS 15 rfl (by decide) (by omega) dX3_giveAnew_58 (fun H locs hP hD hS => ?_)
          have hP : va_P D vwCl (wX cI cZ h lev tm gn nL nC nE L B (upC C1 5 i ((nlF L B (C1 0 i) (C1 3 i) nL).1)) E) H := hP
          have hD : va_D A (wX cI cZ h lev tm gn nL nC nE L B (upC C1 5 i ((nlF L B (C1 0 i) (C1 3 i) nL).1)) E) := hD
          refine lv_iload_n hx hb dX3_giveAnew_59 rfl (lv_at hl 2 rfl) ?_
          refine lv_aload_n hx hb dX3_giveAnew_60 rfl (lv_at hl 0 rfl) ?_
          refine va_get (D := D) (ci := 4) (v := .ref (h 9)) (C := RX3) (T := TX3) (N := 5) hx hb hts kX3_giveAnew_inX3 hown hK hP 0 rfl rfl 2 (by decide) (hts _ kX3_giveAnew_f32) (fun _ h9 => h9) rfl dX3_giveAnew_61 ?_
          refine va_getN (D := D) (ci := 1) (v := .ref (h 15)) (C := RX0) (T := TX0) (N := 10) hx hb hts kX3_giveAnew_inX0 hown hK hP 9 rfl rfl 5 (by decide) (va_Nw.use rfl (hE _ zl_RX3_74)) (fun _ h9 => h9) rfl dX3_giveAnew_64 ?_
          refine lv_iload_n hx hb dX3_giveAnew_67 rfl (lv_at hl 3 rfl) ?_
          refine z_iald (k := i) (v := (nlF L B (C1 0 i) (C1 3 i) nL).1) hx hb hK hP 15 rfl (by decide) (by omega) (by rw [upC_s]) dX3_giveAnew_68 ?_
          refine lv_iconst (v := (-1)) hx hb dX3_giveAnew_69 (by decide) ?_
          refine lv_icmp_eq (x := (nlF L B (C1 0 i) (C1 3 i) nL).1) (y := (-1)) (tgt := 77) hx hb dX3_giveAnew_70 (by decide) (fun c70 => ?_) (fun c70 => ?_)
          · skip
            refine lv_iconst (v := 0) hx hb dX3_giveAnew_77 (by decide) ?_
            exact L78 false (by omega) (c25) (by simp [c12, c25, c70]) H locs ls (lv_sub hl [0, 1, 2, 3] rfl) hP hD hS
          · skip
            refine lv_iconst (v := 1) hx hb dX3_giveAnew_73 (by decide) ?_
            refine lv_goto (tgt := 78) hx hb dX3_giveAnew_74 (by decide) ?_
            exact L78 true (by omega) (c25) (by simp [c12, c25, c70]) H locs ls (lv_sub hl [0, 1, 2, 3] rfl) hP hD hS
  refine lv_iconst (v := 0) hx hb dX3_giveAnew_0 (by decide) ?_
  refine lv_istore_n (lv' := [(2, .int 0), (0, .ref (h 0)), (1, .int lf)]) hx hb dX3_giveAnew_1 rfl hl (by decide) rfl (fun ls hl => ?_)
  refine lv_iconst (v := 0) hx hb dX3_giveAnew_2 (by decide) ?_
  refine lv_istore_n (lv' := [(3, .int 0), (2, .int 0), (0, .ref (h 0)), (1, .int lf)]) hx hb dX3_giveAnew_3 rfl hl (by decide) rfl (fun ls hl => ?_)
  exact L4 (nC + 1) 0 C 0 (by omega) (by omega) (rfl) s.heap [] ls (lv_sub hl [2, 3, 1, 0] rfl) hP hD hS

theorem kX3_opensHere_inX3 : ∀ w ∈ wsX30, w ∈ wsX3_opensHere := by decide +kernel
theorem kX3_opensHere_f32 : Cond.fieldLink RX3 32 "LiftRows2" "calls" "LLiftRows2$Calls;" ∈ wsX3_opensHere := by decide +kernel
theorem kX3_opensHere_inX0 : ∀ w ∈ wsX00, w ∈ wsX3_opensHere := by decide +kernel
theorem kX3_opensHere_iRX0 : Cond.initialized yX0_getsOut.cls ∈ wsX3_opensHere := by decide +kernel
theorem kX3_opensHere_nX0_getsOut : Cond.instanceMethod yX0_getsOut ∈ wsX3_opensHere := by decide +kernel
theorem kX3_opensHere_eX0_getsOut : Cond.selects RX0 yX0_getsOut yX0_getsOut ∈ wsX3_opensHere := by decide +kernel
theorem kX3_opensHere_nX0_fitsIn : Cond.instanceMethod yX0_fitsIn ∈ wsX3_opensHere := by decide +kernel
theorem kX3_opensHere_eX0_fitsIn : Cond.selects RX0 yX0_fitsIn yX0_fitsIn ∈ wsX3_opensHere := by decide +kernel
theorem kX3_opensHere_f25 : Cond.fieldLink RX3 25 "LiftRows2" "lifts" "LLiftRows2$Lifts;" ∈ wsX3_opensHere := by decide +kernel
theorem kX3_opensHere_inX2 : ∀ w ∈ wsX20, w ∈ wsX3_opensHere := by decide +kernel
theorem kX3_opensHere_nX0_loadStaying : Cond.instanceMethod yX0_loadStaying ∈ wsX3_opensHere := by decide +kernel
theorem kX3_opensHere_eX0_loadStaying : Cond.selects RX0 yX0_loadStaying yX0_loadStaying ∈ wsX3_opensHere := by decide +kernel
set_option maxHeartbeats 4000000 in
set_option maxRecDepth 100000 in
theorem tX3_opensHere (l : Launch) (D : va_G) (cI cZ cJ : ClassId) (h : Nat → Nat) (lev tm : Nat) (gn : Int32) (nL nC nE : Nat) (L B C E : Nat → Nat → Int32) (lf : Nat) (hlf : lf < 4) (hC : nC ≤ 24)  : ∀ sz : Nat, zMi l yX3_opensHere wsX3_opensHere ({ frames := 2, cells := 0, slots := 0, locals := 47 } : Room) D cI cZ cJ (wX cI cZ h lev tm gn nL nC nE L B C E) sz [.ref (h 0), .int (nI lf)] (fun r w' => r = bI (opnB L C lf nC nC) ∧ w' = wX cI cZ h lev tm gn nL nC nE L B C E) := by
  intro sz
  refine z_head (y := yX3_opensHere) (av := [.ref (h 0), .int (nI lf)]) (w := (wX cI cZ h lev tm gn nL nC nE L B C E)) (Qc := fun A => zQi D (wX cI cZ h lev tm gn nL nC nE L B C E) (fun r w' => r = bI (opnB L C lf nC nC) ∧ w' = wX cI cZ h lev tm gn nL nC nE L B C E) A) (cc := cX3_opensHere) (maxL := 5) (ret := (some .boolean)) (by decide) rfl (Nat.le_of_ble_eq_true rfl) ?_
  intro p e s m below meth c ls A hat hP hD hS hl
  obtain ⟨hx, hb, hr, hml, hlocks, hts, hown, hin, hK, hE, hA⟩ := hat
  have hP : va_P D vwCl (wX cI cZ h lev tm gn nL nC nE L B C E) s.heap := hP
  have hD : va_D A (wX cI cZ h lev tm gn nL nC nE L B C E) := hD
  have hl : lv_has ls 5 [(0, .ref (h 0)), (1, .int (nI lf))] := hl
  have L33 : ∀ (fu : Nat) (i : Nat), i ≤ nC → nC + 1 ≤ i + fu → (opnB L C lf nC i = false) → ∀ (H : Heap) (locs : List Loc) (ls : Array Slot), lv_has ls 5 [(0, .ref (h 0)), (1, .int (nI lf)), (2, .int (L 0 lf)), (3, .int (L 1 lf - sumW (fun k => isB C k 1 (nI lf) && !decide (C 1 k = L 0 lf)) (C 3) nC)), (4, .int (nI i))] → va_P D vwCl (wX cI cZ h lev tm gn nL nC nE L B C E) H → va_D A (wX cI cZ h lev tm gn nL nC nE L B C E) → va_S A s.heap H locs → W p l e ({ frames := 2, cells := 0, slots := 0, locals := 47 } : Room) s m ([.ref (h 0), .int (nI lf)] : List Value).toArray below meth c H locs 0 0 (MQ below (zQi D (wX cI cZ h lev tm gn nL nC nE L B C E) (fun r w' => r = bI (opnB L C lf nC nC) ∧ w' = wX cI cZ h lev tm gn nL nC nE L B C E) A) ([.ref (h 0), .int (nI lf)] : List Value).toArray s 0 0 A) (F0 m 33 ls []) := by
    intro fu
    induction fu with
    | zero =>
      intro i h1 h2
      exact absurd h2 (by omega)
    | succ fu ih33 =>
      intro i hle hfu ex H locs ls hl hP hD hS
      refine lv_iload hx hb dX3_opensHere_33 (lv_at hl 4 rfl) ?_
      refine lv_aload_n hx hb dX3_opensHere_35 rfl (lv_at hl 0 rfl) ?_
      refine va_get (D := D) (ci := 4) (v := .ref (h 9)) (C := RX3) (T := TX3) (N := 5) hx hb hts kX3_opensHere_inX3 hown hK hP 0 rfl rfl 2 (by decide) (hts _ kX3_opensHere_f32) (fun _ h9 => h9) rfl dX3_opensHere_36 ?_
      refine va_getN (D := D) (ci := 1) (v := .int (nI nC)) (C := RX0) (T := TX0) (N := 10) hx hb hts kX3_opensHere_inX0 hown hK hP 9 rfl rfl 9 (by decide) (va_Nw.use rfl (hE _ zl_RX3_68)) (fun _ h9 => h9) rfl dX3_opensHere_39 ?_
      refine zn_ge (i := i) (j := nC) (tgt := 82) hx hb (by omega) (by omega) dX3_opensHere_42 (by decide) (fun c42 => ?_) (fun c42 => ?_)
      · skip
        refine lv_iconst (v := 0) hx hb dX3_opensHere_82 (by decide) ?_
        exact z_zret hx hb hr hlocks hS hP rfl (Or.inl rfl) dX3_opensHere_83 (⟨by rw [← show i = nC by omega]; rw [show opnB L C lf i i = false by rw [← ex, show i = nC by omega]]; rfl, rfl⟩)
      · skip
        refine lv_aload_n hx hb dX3_opensHere_45 rfl (lv_at hl 0 rfl) ?_
        refine va_get (D := D) (ci := 4) (v := .ref (h 9)) (C := RX3) (T := TX3) (N := 5) hx hb hts kX3_opensHere_inX3 hown hK hP 0 rfl rfl 2 (by decide) (hts _ kX3_opensHere_f32) (fun _ h9 => h9) rfl dX3_opensHere_46 ?_
        refine lv_iload hx hb dX3_opensHere_49 (lv_at hl 4 rfl) ?_
        refine lv_iload_n hx hb dX3_opensHere_51 rfl (lv_at hl 1 rfl) ?_
        refine lv_iload_n hx hb dX3_opensHere_52 rfl (lv_at hl 2 rfl) ?_
        refine z_backi (z_runVN (n := 3) (As := [.int (nI i), .int (nI lf), .int (L 0 lf)]) (ci := 1) (rest := []) hx hb hml hown hts hK hE hP hD [9, 10, 11, 12, 13, 14, 15, 16, 17, 18] rfl (by decide) (tX0_getsOut l D cI cZ cJ (fun k => h (9 + k)) nC C i (nI lf) (L 0 lf) (by omega) _) gX3_opensHere_X0_getsOut_n252 rfl rfl rfl zl_RX3_252 kX3_opensHere_iRX0 kX3_opensHere_nX0_getsOut kX3_opensHere_eX0_getsOut (by decide +kernel) ⟨Nat.le_of_ble_eq_true rfl, Nat.le_of_ble_eq_true rfl⟩ rfl rfl rfl hl.1 rfl (Nat.le_of_ble_eq_true rfl) dX3_opensHere_53 ⟨Nat.zero_le _, Nat.zero_le _⟩) hP hD hS hA [9, 10, 11, 12, 13, 14, 15, 16, 17, 18] rfl (fun r1 w1 H locs hp1 hP hD hS => ?_)
        obtain ⟨rfl, rfl⟩ := hp1
        have hP : va_P D vwCl (wX cI cZ h lev tm gn nL nC nE L B C E) H := hP
        have hD : va_D A (wX cI cZ h lev tm gn nL nC nE L B C E) := hD
        refine zb_ne (b := (outB C i (nI lf) (L 0 lf))) (tgt := 74) hx hb dX3_opensHere_56 (by decide) (fun c56 => ?_) (fun c56 => ?_)
        · skip
          refine lv_iconst (v := 1) hx hb dX3_opensHere_74 (by decide) ?_
          exact z_zret hx hb hr hlocks hS hP rfl (Or.inr rfl) dX3_opensHere_75 (⟨by rw [show opnB L C lf nC nC = true from anyW_of (i := i) (by omega) (by simp [c42, c56])]; rfl, rfl⟩)
        · skip
          refine lv_aload_n hx hb dX3_opensHere_59 rfl (lv_at hl 0 rfl) ?_
          refine va_get (D := D) (ci := 4) (v := .ref (h 9)) (C := RX3) (T := TX3) (N := 5) hx hb hts kX3_opensHere_inX3 hown hK hP 0 rfl rfl 2 (by decide) (hts _ kX3_opensHere_f32) (fun _ h9 => h9) rfl dX3_opensHere_60 ?_
          refine lv_iload hx hb dX3_opensHere_63 (lv_at hl 4 rfl) ?_
          refine lv_iload_n hx hb dX3_opensHere_65 rfl (lv_at hl 1 rfl) ?_
          refine lv_iload_n hx hb dX3_opensHere_66 rfl (lv_at hl 2 rfl) ?_
          refine lv_iload_n hx hb dX3_opensHere_67 rfl (lv_at hl 3 rfl) ?_
          refine z_backi (z_runVN (n := 4) (As := [.int (nI i), .int (nI lf), .int (L 0 lf), .int (L 1 lf - sumW (fun k => isB C k 1 (nI lf) && !decide (C 1 k = L 0 lf)) (C 3) nC)]) (ci := 1) (rest := []) hx hb hml hown hts hK hE hP hD [9, 10, 11, 12, 13, 14, 15, 16, 17, 18] rfl (by decide) (tX0_fitsIn l D cI cZ cJ (fun k => h (9 + k)) nC C i (nI lf) (L 0 lf) (L 1 lf - sumW (fun k => isB C k 1 (nI lf) && !decide (C 1 k = L 0 lf)) (C 3) nC) (by omega) _) gX3_opensHere_X0_fitsIn_n255 rfl rfl rfl zl_RX3_255 kX3_opensHere_iRX0 kX3_opensHere_nX0_fitsIn kX3_opensHere_eX0_fitsIn (by decide +kernel) ⟨Nat.le_of_ble_eq_true rfl, Nat.le_of_ble_eq_true rfl⟩ rfl rfl rfl hl.1 rfl (Nat.le_of_ble_eq_true rfl) dX3_opensHere_68 ⟨Nat.zero_le _, Nat.zero_le _⟩) hP hD hS hA [9, 10, 11, 12, 13, 14, 15, 16, 17, 18] rfl (fun r2 w1 H locs hp2 hP hD hS => ?_)
          obtain ⟨rfl, rfl⟩ := hp2
          have hP : va_P D vwCl (wX cI cZ h lev tm gn nL nC nE L B C E) H := hP
          have hD : va_D A (wX cI cZ h lev tm gn nL nC nE L B C E) := hD
          refine zb_eq (b := (fitB C i (nI lf) (L 0 lf) (L 1 lf - sumW (fun k => isB C k 1 (nI lf) && !decide (C 1 k = L 0 lf)) (C 3) nC))) (tgt := 76) hx hb dX3_opensHere_71 (by decide) (fun c71 => ?_) (fun c71 => ?_)
          · skip
            refine lv_iinc (v := nI (i + 1)) (lv' := [(4, .int (nI (i + 1))), (0, .ref (h 0)), (1, .int (nI lf)), (2, .int (L 0 lf)), (3, .int (L 1 lf - sumW (fun k => isB C k 1 (nI lf) && !decide (C 1 k = L 0 lf)) (C 3) nC))]) hx hb dX3_opensHere_76 hl (k := 4) rfl (by rw [show Int32.ofInt 1 = nI 1 from rfl, nI_add]) (by decide) rfl (fun ls hl => ?_)
            refine lv_goto (tgt := 33) hx hb dX3_opensHere_79 (by decide) ?_
            exact ih33 (i + 1) (by omega) (by omega) (by rw [opnB, anyW_s]; exact Bool.or_eq_false_iff.mpr ⟨ex, by simp [c42, c56, c71]⟩) H locs ls (lv_sub hl [1, 2, 3, 4, 0] rfl) hP hD hS
          · skip
            refine lv_iconst (v := 1) hx hb dX3_opensHere_74 (by decide) ?_
            exact z_zret hx hb hr hlocks hS hP rfl (Or.inr rfl) dX3_opensHere_75 (⟨by rw [show opnB L C lf nC nC = true from anyW_of (i := i) (by omega) (by simp [c42, c56, c71])]; rfl, rfl⟩)
  refine lv_aload_n hx hb dX3_opensHere_0 rfl (lv_at hl 0 rfl) ?_
  refine va_get (D := D) (ci := 4) (v := .ref (h 1)) (C := RX3) (T := TX3) (N := 5) hx hb hts kX3_opensHere_inX3 hown hK hP 0 rfl rfl 1 (by decide) (hts _ kX3_opensHere_f25) (fun _ h9 => h9) rfl dX3_opensHere_1 ?_
  refine va_getN (D := D) (ci := 3) (v := .ref (h 2)) (C := RX2) (T := TX2) (N := 9) hx hb hts kX3_opensHere_inX2 hown hK hP 1 rfl rfl 0 (by decide) (va_Nw.use rfl (hE _ zl_RX3_111)) (fun _ h9 => h9) rfl dX3_opensHere_4 ?_
  refine lv_iload_n hx hb dX3_opensHere_7 rfl (lv_at hl 1 rfl) ?_
  refine z_iald (k := lf) (v := L 0 lf) hx hb hK hP 2 rfl (by decide) (by omega) (rfl) dX3_opensHere_8 ?_
  refine lv_istore_n (lv' := [(2, .int (L 0 lf)), (0, .ref (h 0)), (1, .int (nI lf))]) hx hb dX3_opensHere_9 rfl hl (by decide) rfl (fun ls hl => ?_)
  refine lv_aload_n hx hb dX3_opensHere_10 rfl (lv_at hl 1 rfl) ?_
  refine va_get (D := D) (ci := 4) (v := .ref (h 1)) (C := RX3) (T := TX3) (N := 5) hx hb hts kX3_opensHere_inX3 hown hK hP 0 rfl rfl 1 (by decide) (hts _ kX3_opensHere_f25) (fun _ h9 => h9) rfl dX3_opensHere_11 ?_
  refine va_getN (D := D) (ci := 3) (v := .ref (h 3)) (C := RX2) (T := TX2) (N := 9) hx hb hts kX3_opensHere_inX2 hown hK hP 1 rfl rfl 1 (by decide) (va_Nw.use rfl (hE _ zl_RX3_246)) (fun _ h9 => h9) rfl dX3_opensHere_14 ?_
  refine lv_iload_n hx hb dX3_opensHere_17 rfl (lv_at hl 2 rfl) ?_
  refine z_iald (k := lf) (v := L 1 lf) hx hb hK hP 3 rfl (by decide) (by omega) (rfl) dX3_opensHere_18 ?_
  refine lv_aload_n hx hb dX3_opensHere_19 rfl (lv_at hl 1 rfl) ?_
  refine va_get (D := D) (ci := 4) (v := .ref (h 9)) (C := RX3) (T := TX3) (N := 5) hx hb hts kX3_opensHere_inX3 hown hK hP 0 rfl rfl 2 (by decide) (hts _ kX3_opensHere_f32) (fun _ h9 => h9) rfl dX3_opensHere_20 ?_
  refine lv_iload_n hx hb dX3_opensHere_23 rfl (lv_at hl 2 rfl) ?_
  refine lv_iload_n hx hb dX3_opensHere_24 rfl (lv_at hl 0 rfl) ?_
  refine z_backi (z_runVN (n := 2) (As := [.int (nI lf), .int (L 0 lf)]) (ci := 1) (rest := [.int (L 1 lf)]) hx hb hml hown hts hK hE hP hD [9, 10, 11, 12, 13, 14, 15, 16, 17, 18] rfl (by decide) (tX0_loadStaying l D cI cZ cJ (fun k => h (9 + k)) nC C (nI lf) (L 0 lf) (by omega) _) gX3_opensHere_X0_loadStaying_n249 rfl rfl rfl zl_RX3_249 kX3_opensHere_iRX0 kX3_opensHere_nX0_loadStaying kX3_opensHere_eX0_loadStaying (by decide +kernel) ⟨Nat.le_of_ble_eq_true rfl, Nat.le_of_ble_eq_true rfl⟩ rfl rfl rfl hl.1 rfl (Nat.le_of_ble_eq_true rfl) dX3_opensHere_25 ⟨Nat.zero_le _, Nat.zero_le _⟩) hP hD hS hA [9, 10, 11, 12, 13, 14, 15, 16, 17, 18] rfl (fun r3 w1 H locs hp3 hP hD hS => ?_)
  obtain ⟨rfl, rfl⟩ := hp3
  have hP : va_P D vwCl (wX cI cZ h lev tm gn nL nC nE L B C E) H := hP
  have hD : va_D A (wX cI cZ h lev tm gn nL nC nE L B C E) := hD
  refine lv_isub (x := L 1 lf) (y := sumW (fun k => isB C k 1 (nI lf) && !decide (C 1 k = (L 0 lf))) (C 3) nC) hx hb dX3_opensHere_28 ?_
  refine lv_istore_n (lv' := [(3, .int ((L 1 lf) - (sumW (fun k => isB C k 1 (nI lf) && !decide (C 1 k = (L 0 lf))) (C 3) nC))), (2, .int (L 0 lf)), (0, .ref (h 0)), (1, .int (nI lf))]) hx hb dX3_opensHere_29 rfl hl (by decide) rfl (fun ls hl => ?_)
  refine lv_iconst (v := 0) hx hb dX3_opensHere_30 (by decide) ?_
  refine lv_istore (lv' := [(4, .int 0), (3, .int ((L 1 lf) - (sumW (fun k => isB C k 1 (nI lf) && !decide (C 1 k = (L 0 lf))) (C 3) nC))), (2, .int (L 0 lf)), (0, .ref (h 0)), (1, .int (nI lf))]) hx hb dX3_opensHere_31 hl (by decide) rfl (fun ls hl => ?_)
  exact L33 (nC + 1) 0 (by omega) (by omega) (rfl) H locs ls (lv_sub hl [3, 4, 2, 1, 0] rfl) hP hD hS

theorem kX3_letOut_inX3 : ∀ w ∈ wsX30, w ∈ wsX3_letOut := by decide +kernel
theorem kX3_letOut_f32 : Cond.fieldLink RX3 32 "LiftRows2" "calls" "LLiftRows2$Calls;" ∈ wsX3_letOut := by decide +kernel
theorem kX3_letOut_inX0 : ∀ w ∈ wsX00, w ∈ wsX3_letOut := by decide +kernel
theorem kX3_letOut_f25 : Cond.fieldLink RX3 25 "LiftRows2" "lifts" "LLiftRows2$Lifts;" ∈ wsX3_letOut := by decide +kernel
theorem kX3_letOut_inX2 : ∀ w ∈ wsX20, w ∈ wsX3_letOut := by decide +kernel
theorem kX3_letOut_iRX0 : Cond.initialized yX0_getsOut.cls ∈ wsX3_letOut := by decide +kernel
theorem kX3_letOut_nX0_getsOut : Cond.instanceMethod yX0_getsOut ∈ wsX3_letOut := by decide +kernel
theorem kX3_letOut_eX0_getsOut : Cond.selects RX0 yX0_getsOut yX0_getsOut ∈ wsX3_letOut := by decide +kernel
theorem kX3_letOut_f43 : Cond.fieldLink RX3 43 "LiftRows2" "time" "I" ∈ wsX3_letOut := by decide +kernel
theorem kX3_letOut_f39 : Cond.fieldLink RX3 39 "LiftRows2" "events" "LLiftRows2$Events;" ∈ wsX3_letOut := by decide +kernel
theorem kX3_letOut_iRX1 : Cond.initialized yX1_add.cls ∈ wsX3_letOut := by decide +kernel
theorem kX3_letOut_nX1_add : Cond.instanceMethod yX1_add ∈ wsX3_letOut := by decide +kernel
theorem kX3_letOut_eX1_add : Cond.selects RX1 yX1_add yX1_add ∈ wsX3_letOut := by decide +kernel
set_option maxHeartbeats 4000000 in
set_option maxRecDepth 100000 in
theorem tX3_letOut (l : Launch) (D : va_G) (cI cZ cJ : ClassId) (h : Nat → Nat) (lev tm : Nat) (gn : Int32) (nL nC nE : Nat) (L B C E : Nat → Nat → Int32) (lf : Nat) (hlf : lf < 4) (hC : nC ≤ 24) (hNE : nE ≤ 48)  : ∀ sz : Nat, zMv l yX3_letOut wsX3_letOut ({ frames := 2, cells := 0, slots := 0, locals := 46 } : Room) D cI cZ cJ (wX cI cZ h lev tm gn nL nC nE L B C E) sz [.ref (h 0), .int (nI lf)] (fun w' => w' = wX cI cZ h lev tm gn nL nC (outZ tm lf (L 0 lf) (nE, C, E) nC).1 L B (outZ tm lf (L 0 lf) (nE, C, E) nC).2.1 (outZ tm lf (L 0 lf) (nE, C, E) nC).2.2) := by
  intro sz
  refine z_head (y := yX3_letOut) (av := [.ref (h 0), .int (nI lf)]) (w := (wX cI cZ h lev tm gn nL nC nE L B C E)) (Qc := fun A => zQv D (wX cI cZ h lev tm gn nL nC nE L B C E) (fun w' => w' = wX cI cZ h lev tm gn nL nC (outZ tm lf (L 0 lf) (nE, C, E) nC).1 L B (outZ tm lf (L 0 lf) (nE, C, E) nC).2.1 (outZ tm lf (L 0 lf) (nE, C, E) nC).2.2) A) (cc := cX3_letOut) (maxL := 3) (ret := none) (by decide) rfl (Nat.le_of_ble_eq_true rfl) ?_
  intro p e s m below meth c ls A hat hP hD hS hl
  obtain ⟨hx, hb, hr, hml, hlocks, hts, hown, hin, hK, hE, hA⟩ := hat
  have hP : va_P D vwCl (wX cI cZ h lev tm gn nL nC nE L B C E) s.heap := hP
  have hD : va_D A (wX cI cZ h lev tm gn nL nC nE L B C E) := hD
  have hl : lv_has ls 3 [(0, .ref (h 0)), (1, .int (nI lf))] := hl
  have L2 : ∀ (fu : Nat) (i : Nat) (ne : Nat) (C1 : Nat → Nat → Int32) (E1 : Nat → Nat → Int32), i ≤ nC → nC + 1 ≤ i + fu → ((ne, C1, E1) = outZ tm lf (L 0 lf) (nE, C, E) i) → (ne ≤ 48) → ∀ (H : Heap) (locs : List Loc) (ls : Array Slot), lv_has ls 3 [(0, .ref (h 0)), (1, .int (nI lf)), (2, .int (nI i))] → va_P D vwCl (wX cI cZ h lev tm gn nL nC ne L B C1 E1) H → va_D A (wX cI cZ h lev tm gn nL nC ne L B C1 E1) → va_S A s.heap H locs → W p l e ({ frames := 2, cells := 0, slots := 0, locals := 46 } : Room) s m ([.ref (h 0), .int (nI lf)] : List Value).toArray below meth c H locs 0 0 (MQ below (zQv D (wX cI cZ h lev tm gn nL nC nE L B C E) (fun w' => w' = wX cI cZ h lev tm gn nL nC (outZ tm lf (L 0 lf) (nE, C, E) nC).1 L B (outZ tm lf (L 0 lf) (nE, C, E) nC).2.1 (outZ tm lf (L 0 lf) (nE, C, E) nC).2.2) A) ([.ref (h 0), .int (nI lf)] : List Value).toArray s 0 0 A) (F0 m 2 ls []) := by
    intro fu
    induction fu with
    | zero =>
      intro i ne C1 E1 h1 h2
      exact absurd h2 (by omega)
    | succ fu ih2 =>
      intro i ne C1 E1 hle hfu ex hne H locs ls hl hP hD hS
      refine lv_iload_n hx hb dX3_letOut_2 rfl (lv_at hl 2 rfl) ?_
      refine lv_aload_n hx hb dX3_letOut_3 rfl (lv_at hl 0 rfl) ?_
      refine va_get (D := D) (ci := 4) (v := .ref (h 9)) (C := RX3) (T := TX3) (N := 5) hx hb hts kX3_letOut_inX3 hown hK hP 0 rfl rfl 2 (by decide) (hts _ kX3_letOut_f32) (fun _ h9 => h9) rfl dX3_letOut_4 ?_
      refine va_getN (D := D) (ci := 1) (v := .int (nI nC)) (C := RX0) (T := TX0) (N := 10) hx hb hts kX3_letOut_inX0 hown hK hP 9 rfl rfl 9 (by decide) (va_Nw.use rfl (hE _ zl_RX3_68)) (fun _ h9 => h9) rfl dX3_letOut_7 ?_
      refine zn_ge (i := i) (j := nC) (tgt := 77) hx hb (by omega) (by omega) dX3_letOut_10 (by decide) (fun c10 => ?_) (fun c10 => ?_)
      · skip
        exact z_vret hx hb hr hlocks hS hP rfl dX3_letOut_77 (by rw [← show i = nC by omega, ← ex])
      · skip
        refine lv_aload_n hx hb dX3_letOut_13 rfl (lv_at hl 0 rfl) ?_
        refine va_get (D := D) (ci := 4) (v := .ref (h 9)) (C := RX3) (T := TX3) (N := 5) hx hb hts kX3_letOut_inX3 hown hK hP 0 rfl rfl 2 (by decide) (hts _ kX3_letOut_f32) (fun _ h9 => h9) rfl dX3_letOut_14 ?_
        refine lv_iload_n hx hb dX3_letOut_17 rfl (lv_at hl 2 rfl) ?_
        refine lv_iload_n hx hb dX3_letOut_18 rfl (lv_at hl 1 rfl) ?_
        refine lv_aload_n hx hb dX3_letOut_19 rfl (lv_at hl 0 rfl) ?_
        refine va_get (D := D) (ci := 4) (v := .ref (h 1)) (C := RX3) (T := TX3) (N := 5) hx hb hts kX3_letOut_inX3 hown hK hP 0 rfl rfl 1 (by decide) (hts _ kX3_letOut_f25) (fun _ h9 => h9) rfl dX3_letOut_20 ?_
        refine va_getN (D := D) (ci := 3) (v := .ref (h 2)) (C := RX2) (T := TX2) (N := 9) hx hb hts kX3_letOut_inX2 hown hK hP 1 rfl rfl 0 (by decide) (va_Nw.use rfl (hE _ zl_RX3_111)) (fun _ h9 => h9) rfl dX3_letOut_23 ?_
        refine lv_iload_n hx hb dX3_letOut_26 rfl (lv_at hl 1 rfl) ?_
        refine z_iald (k := lf) (v := L 0 lf) hx hb hK hP 2 rfl (by decide) (by omega) (rfl) dX3_letOut_27 ?_
        refine z_backi (z_runVN (n := 3) (As := [.int (nI i), .int (nI lf), .int (L 0 lf)]) (ci := 1) (rest := []) hx hb hml hown hts hK hE hP hD [9, 10, 11, 12, 13, 14, 15, 16, 17, 18] rfl (by decide) (tX0_getsOut l D cI cZ cJ (fun k => h (9 + k)) nC C1 i (nI lf) (L 0 lf) (by omega) _) gX3_letOut_X0_getsOut_n252 rfl rfl rfl zl_RX3_252 kX3_letOut_iRX0 kX3_letOut_nX0_getsOut kX3_letOut_eX0_getsOut (by decide +kernel) ⟨Nat.le_of_ble_eq_true rfl, Nat.le_of_ble_eq_true rfl⟩ rfl rfl rfl hl.1 rfl (Nat.le_of_ble_eq_true rfl) dX3_letOut_28 ⟨Nat.zero_le _, Nat.zero_le _⟩) hP hD hS hA [9, 10, 11, 12, 13, 14, 15, 16, 17, 18] rfl (fun r1 w1 H locs hp1 hP hD hS => ?_)
        obtain ⟨rfl, rfl⟩ := hp1
        have hP : va_P D vwCl (wX cI cZ h lev tm gn nL nC ne L B C1 E1) H := hP
        have hD : va_D A (wX cI cZ h lev tm gn nL nC ne L B C1 E1) := hD
        refine zb_eq (b := (outB C1 i (nI lf) (L 0 lf))) (tgt := 71) hx hb dX3_letOut_31 (by decide) (fun c31 => ?_) (fun c31 => ?_)
        · skip
          refine lv_iinc (v := nI (i + 1)) (lv' := [(2, .int (nI (i + 1))), (0, .ref (h 0)), (1, .int (nI lf))]) hx hb dX3_letOut_71 hl (k := 2) rfl (by rw [show Int32.ofInt 1 = nI 1 from rfl, nI_add]) (by decide) rfl (fun ls hl => ?_)
          refine lv_goto (tgt := 2) hx hb dX3_letOut_74 (by decide) ?_
          exact ih2 (i + 1) ne C1 E1 (by omega) (by omega) (by rw [outZ, ← ex]; simp [outS, c10, c31]) (hne) H locs ls (lv_sub hl [1, 2, 0] rfl) hP hD hS
        · skip
          refine lv_aload_n hx hb dX3_letOut_34 rfl (lv_at hl 0 rfl) ?_
          refine va_get (D := D) (ci := 4) (v := .ref (h 9)) (C := RX3) (T := TX3) (N := 5) hx hb hts kX3_letOut_inX3 hown hK hP 0 rfl rfl 2 (by decide) (hts _ kX3_letOut_f32) (fun _ h9 => h9) rfl dX3_letOut_35 ?_
          refine va_getN (D := D) (ci := 1) (v := .ref (h 14)) (C := RX0) (T := TX0) (N := 10) hx hb hts kX3_letOut_inX0 hown hK hP 9 rfl rfl 4 (by decide) (va_Nw.use rfl (hE _ zl_RX3_159)) (fun _ h9 => h9) rfl dX3_letOut_38 ?_
          refine lv_iload_n hx hb dX3_letOut_41 rfl (lv_at hl 2 rfl) ?_
          refine lv_iconst (v := 2) hx hb dX3_letOut_42 (by decide) ?_
          refine z_iast (k := i) (x := 2) hx hb hK hP hD hS 14 rfl (by decide) (by omega) dX3_letOut_43 (fun H locs hP hD hS => ?_)
          have hP : va_P D vwCl (wX cI cZ h lev tm gn nL nC ne L B (upC C1 4 i 2) E1) H := hP
          have hD : va_D A (wX cI cZ h lev tm gn nL nC ne L B (upC C1 4 i 2) E1) := hD
          refine lv_aload_n hx hb dX3_letOut_44 rfl (lv_at hl 0 rfl) ?_
          refine va_get (D := D) (ci := 4) (v := .ref (h 9)) (C := RX3) (T := TX3) (N := 5) hx hb hts kX3_letOut_inX3 hown hK hP 0 rfl rfl 2 (by decide) (hts _ kX3_letOut_f32) (fun _ h9 => h9) rfl dX3_letOut_45 ?_
          refine va_getN (D := D) (ci := 1) (v := .ref (h 18)) (C := RX0) (T := TX0) (N := 10) hx hb hts kX3_letOut_inX0 hown hK hP 9 rfl rfl 8 (by decide) (va_Nw.use rfl (hE _ zl_RX3_156)) (fun _ h9 => h9) rfl dX3_letOut_48 ?_
          refine lv_iload_n hx hb dX3_letOut_51 rfl (lv_at hl 2 rfl) ?_
          refine lv_aload_n hx hb dX3_letOut_52 rfl (lv_at hl 0 rfl) ?_
          refine va_get (D := D) (ci := 4) (v := .int (nI tm)) (C := RX3) (T := TX3) (N := 5) hx hb hts kX3_letOut_inX3 hown hK hP 0 rfl rfl 4 (by decide) (hts _ kX3_letOut_f43) (fun _ h9 => h9) rfl dX3_letOut_53 ?_
          refine z_iast (k := i) (x := nI tm) hx hb hK hP hD hS 18 rfl (by decide) (by omega) dX3_letOut_56 (fun H locs hP hD hS => ?_)
          have hP : va_P D vwCl (wX cI cZ h lev tm gn nL nC ne L B (upC (upC C1 4 i 2) 8 i (nI tm)) E1) H := hP
          have hD : va_D A (wX cI cZ h lev tm gn nL nC ne L B (upC (upC C1 4 i 2) 8 i (nI tm)) E1) := hD
          refine lv_aload_n hx hb dX3_letOut_57 rfl (lv_at hl 0 rfl) ?_
          refine va_get (D := D) (ci := 4) (v := .ref (h 19)) (C := RX3) (T := TX3) (N := 5) hx hb hts kX3_letOut_inX3 hown hK hP 0 rfl rfl 3 (by decide) (hts _ kX3_letOut_f39) (fun _ h9 => h9) rfl dX3_letOut_58 ?_
          refine lv_aload_n hx hb dX3_letOut_61 rfl (lv_at hl 0 rfl) ?_
          refine va_get (D := D) (ci := 4) (v := .int (nI tm)) (C := RX3) (T := TX3) (N := 5) hx hb hts kX3_letOut_inX3 hown hK hP 0 rfl rfl 4 (by decide) (hts _ kX3_letOut_f43) (fun _ h9 => h9) rfl dX3_letOut_62 ?_
          refine lv_iload_n hx hb dX3_letOut_65 rfl (lv_at hl 1 rfl) ?_
          refine lv_iload_n hx hb dX3_letOut_66 rfl (lv_at hl 2 rfl) ?_
          refine lv_iconst (v := 1) hx hb dX3_letOut_67 (by decide) ?_
          refine z_backv (z_runVN (n := 4) (As := [.int (nI tm), .int (nI lf), .int (nI i), .int 1]) (ci := 2) (rest := []) hx hb hml hown hts hK hE hP hD [19, 20, 21, 22, 23] rfl (by decide) (tX1_add l D cI cZ cJ (fun k => h (19 + k)) ne E1 (nI tm) (nI lf) (nI i) 1 (by omega) _) gX3_letOut_X1_add_n259 rfl rfl rfl zl_RX3_259 kX3_letOut_iRX1 kX3_letOut_nX1_add kX3_letOut_eX1_add (by decide +kernel) ⟨Nat.le_of_ble_eq_true rfl, Nat.le_of_ble_eq_true rfl⟩ rfl rfl rfl hl.1 rfl (Nat.le_of_ble_eq_true rfl) dX3_letOut_68 ⟨Nat.zero_le _, Nat.zero_le _⟩) hP hD hS hA [19, 20, 21, 22, 23] rfl (fun w1 H locs hp2 hP hD hS => ?_)
          obtain rfl := hp2
          have hP : va_P D vwCl (wX cI cZ h lev tm gn nL nC (evN ne) L B (upC (upC C1 4 i 2) 8 i (nI tm)) (evE E1 ne (nI tm) (nI lf) (nI i) 1)) H := hP
          have hD : va_D A (wX cI cZ h lev tm gn nL nC (evN ne) L B (upC (upC C1 4 i 2) 8 i (nI tm)) (evE E1 ne (nI tm) (nI lf) (nI i) 1)) := hD
          refine lv_iinc (v := nI (i + 1)) (lv' := [(2, .int (nI (i + 1))), (0, .ref (h 0)), (1, .int (nI lf))]) hx hb dX3_letOut_71 hl (k := 2) rfl (by rw [show Int32.ofInt 1 = nI 1 from rfl, nI_add]) (by decide) rfl (fun ls hl => ?_)
          refine lv_goto (tgt := 2) hx hb dX3_letOut_74 (by decide) ?_
          exact ih2 (i + 1) (evN ne) (upC (upC C1 4 i 2) 8 i (nI tm)) (evE E1 ne (nI tm) (nI lf) (nI i) 1) (by omega) (by omega) (by rw [outZ, ← ex]; simp [outS, c10, c31]) (evN_le hne) H locs ls (lv_sub hl [1, 2, 0] rfl) hP hD hS
  refine lv_iconst (v := 0) hx hb dX3_letOut_0 (by decide) ?_
  refine lv_istore_n (lv' := [(2, .int 0), (0, .ref (h 0)), (1, .int (nI lf))]) hx hb dX3_letOut_1 rfl hl (by decide) rfl (fun ls hl => ?_)
  exact L2 (nC + 1) 0 nE C E (by omega) (by omega) (rfl) (hNE) s.heap [] ls (lv_sub hl [1, 2, 0] rfl) hP hD hS

theorem kX3_letIn_inX3 : ∀ w ∈ wsX30, w ∈ wsX3_letIn := by decide +kernel
theorem kX3_letIn_f32 : Cond.fieldLink RX3 32 "LiftRows2" "calls" "LLiftRows2$Calls;" ∈ wsX3_letIn := by decide +kernel
theorem kX3_letIn_inX0 : ∀ w ∈ wsX00, w ∈ wsX3_letIn := by decide +kernel
theorem kX3_letIn_f25 : Cond.fieldLink RX3 25 "LiftRows2" "lifts" "LLiftRows2$Lifts;" ∈ wsX3_letIn := by decide +kernel
theorem kX3_letIn_inX2 : ∀ w ∈ wsX20, w ∈ wsX3_letIn := by decide +kernel
theorem kX3_letIn_iRX0 : Cond.initialized yX0_fitsIn.cls ∈ wsX3_letIn := by decide +kernel
theorem kX3_letIn_nX0_fitsIn : Cond.instanceMethod yX0_fitsIn ∈ wsX3_letIn := by decide +kernel
theorem kX3_letIn_eX0_fitsIn : Cond.selects RX0 yX0_fitsIn yX0_fitsIn ∈ wsX3_letIn := by decide +kernel
theorem kX3_letIn_f43 : Cond.fieldLink RX3 43 "LiftRows2" "time" "I" ∈ wsX3_letIn := by decide +kernel
theorem kX3_letIn_f39 : Cond.fieldLink RX3 39 "LiftRows2" "events" "LLiftRows2$Events;" ∈ wsX3_letIn := by decide +kernel
theorem kX3_letIn_iRX1 : Cond.initialized yX1_add.cls ∈ wsX3_letIn := by decide +kernel
theorem kX3_letIn_nX1_add : Cond.instanceMethod yX1_add ∈ wsX3_letIn := by decide +kernel
theorem kX3_letIn_eX1_add : Cond.selects RX1 yX1_add yX1_add ∈ wsX3_letIn := by decide +kernel
theorem kX3_letIn_nX0_loadAboard : Cond.instanceMethod yX0_loadAboard ∈ wsX3_letIn := by decide +kernel
theorem kX3_letIn_eX0_loadAboard : Cond.selects RX0 yX0_loadAboard yX0_loadAboard ∈ wsX3_letIn := by decide +kernel
set_option maxHeartbeats 4000000 in
set_option maxRecDepth 100000 in
theorem tX3_letIn (l : Launch) (D : va_G) (cI cZ cJ : ClassId) (h : Nat → Nat) (lev tm : Nat) (gn : Int32) (nL nC nE : Nat) (L B C E : Nat → Nat → Int32) (lf : Nat) (hlf : lf < 4) (hC : nC ≤ 24) (hNE : nE ≤ 48)  : ∀ sz : Nat, zMv l yX3_letIn wsX3_letIn ({ frames := 3, cells := 0, slots := 0, locals := 68 } : Room) D cI cZ cJ (wX cI cZ h lev tm gn nL nC nE L B C E) sz [.ref (h 0), .int (nI lf)] (fun w' => w' = wX cI cZ h lev tm gn nL nC (inAll tm lf (L 0 lf) nC ((nE, C, E), L 1 lf - sumW (fun k => isB C k 1 (nI lf) && !decide (C 1 k = -1)) (C 3) nC) 3).1.1 L B (inAll tm lf (L 0 lf) nC ((nE, C, E), L 1 lf - sumW (fun k => isB C k 1 (nI lf) && !decide (C 1 k = -1)) (C 3) nC) 3).1.2.1 (inAll tm lf (L 0 lf) nC ((nE, C, E), L 1 lf - sumW (fun k => isB C k 1 (nI lf) && !decide (C 1 k = -1)) (C 3) nC) 3).1.2.2) := by
  intro sz
  refine z_head (y := yX3_letIn) (av := [.ref (h 0), .int (nI lf)]) (w := (wX cI cZ h lev tm gn nL nC nE L B C E)) (Qc := fun A => zQv D (wX cI cZ h lev tm gn nL nC nE L B C E) (fun w' => w' = wX cI cZ h lev tm gn nL nC (inAll tm lf (L 0 lf) nC ((nE, C, E), L 1 lf - sumW (fun k => isB C k 1 (nI lf) && !decide (C 1 k = -1)) (C 3) nC) 3).1.1 L B (inAll tm lf (L 0 lf) nC ((nE, C, E), L 1 lf - sumW (fun k => isB C k 1 (nI lf) && !decide (C 1 k = -1)) (C 3) nC) 3).1.2.1 (inAll tm lf (L 0 lf) nC ((nE, C, E), L 1 lf - sumW (fun k => isB C k 1 (nI lf) && !decide (C 1 k = -1)) (C 3) nC) 3).1.2.2) A) (cc := cX3_letIn) (maxL := 5) (ret := none) (by decide) rfl (Nat.le_of_ble_eq_true rfl) ?_
  intro p e s m below meth c ls A hat hP hD hS hl
  obtain ⟨hx, hb, hr, hml, hlocks, hts, hown, hin, hK, hE, hA⟩ := hat
  have hP : va_P D vwCl (wX cI cZ h lev tm gn nL nC nE L B C E) s.heap := hP
  have hD : va_D A (wX cI cZ h lev tm gn nL nC nE L B C E) := hD
  have hl : lv_has ls 5 [(0, .ref (h 0)), (1, .int (nI lf))] := hl
  have L21 : ∀ (fu : Nat) (q : Nat) (ne : Nat) (C1 : Nat → Nat → Int32) (E1 : Nat → Nat → Int32) (r1 : Int32), q ≤ 3 → 3 + 1 ≤ q + fu → (((ne, C1, E1), r1) = inAll tm lf (L 0 lf) nC ((nE, C, E), L 1 lf - sumW (fun k => isB C k 1 (nI lf) && !decide (C 1 k = -1)) (C 3) nC) q) → (ne ≤ 48) → ∀ (H : Heap) (locs : List Loc) (ls : Array Slot), lv_has ls 5 [(0, .ref (h 0)), (1, .int (nI lf)), (2, .int r1), (3, .int (nI (q + 1)))] → va_P D vwCl (wX cI cZ h lev tm gn nL nC ne L B C1 E1) H → va_D A (wX cI cZ h lev tm gn nL nC ne L B C1 E1) → va_S A s.heap H locs → W p l e ({ frames := 3, cells := 0, slots := 0, locals := 68 } : Room) s m ([.ref (h 0), .int (nI lf)] : List Value).toArray below meth c H locs 0 0 (MQ below (zQv D (wX cI cZ h lev tm gn nL nC nE L B C E) (fun w' => w' = wX cI cZ h lev tm gn nL nC (inAll tm lf (L 0 lf) nC ((nE, C, E), L 1 lf - sumW (fun k => isB C k 1 (nI lf) && !decide (C 1 k = -1)) (C 3) nC) 3).1.1 L B (inAll tm lf (L 0 lf) nC ((nE, C, E), L 1 lf - sumW (fun k => isB C k 1 (nI lf) && !decide (C 1 k = -1)) (C 3) nC) 3).1.2.1 (inAll tm lf (L 0 lf) nC ((nE, C, E), L 1 lf - sumW (fun k => isB C k 1 (nI lf) && !decide (C 1 k = -1)) (C 3) nC) 3).1.2.2) A) ([.ref (h 0), .int (nI lf)] : List Value).toArray s 0 0 A) (F0 m 21 ls []) := by
    intro fu
    induction fu with
    | zero =>
      intro q ne C1 E1 r1 h1 h2
      exact absurd h2 (by omega)
    | succ fu ih21 =>
      intro q ne C1 E1 r1 hle hfu ex hne H locs ls hl hP hD hS
      have L29 : ∀ (fu : Nat) (i : Nat) (n2 : Nat) (C2 : Nat → Nat → Int32) (E2 : Nat → Nat → Int32) (r2 : Int32), i ≤ nC → nC + 1 ≤ i + fu → (q < 3) → (((n2, C2, E2), r2) = inZ tm lf (L 0 lf) (nI (q + 1)) ((ne, C1, E1), r1) i) → (n2 ≤ 48) → ∀ (H : Heap) (locs : List Loc) (ls : Array Slot), lv_has ls 5 [(0, .ref (h 0)), (1, .int (nI lf)), (2, .int r2), (3, .int (nI (q + 1))), (4, .int (nI i))] → va_P D vwCl (wX cI cZ h lev tm gn nL nC n2 L B C2 E2) H → va_D A (wX cI cZ h lev tm gn nL nC n2 L B C2 E2) → va_S A s.heap H locs → W p l e ({ frames := 3, cells := 0, slots := 0, locals := 68 } : Room) s m ([.ref (h 0), .int (nI lf)] : List Value).toArray below meth c H locs 0 0 (MQ below (zQv D (wX cI cZ h lev tm gn nL nC nE L B C E) (fun w' => w' = wX cI cZ h lev tm gn nL nC (inAll tm lf (L 0 lf) nC ((nE, C, E), L 1 lf - sumW (fun k => isB C k 1 (nI lf) && !decide (C 1 k = -1)) (C 3) nC) 3).1.1 L B (inAll tm lf (L 0 lf) nC ((nE, C, E), L 1 lf - sumW (fun k => isB C k 1 (nI lf) && !decide (C 1 k = -1)) (C 3) nC) 3).1.2.1 (inAll tm lf (L 0 lf) nC ((nE, C, E), L 1 lf - sumW (fun k => isB C k 1 (nI lf) && !decide (C 1 k = -1)) (C 3) nC) 3).1.2.2) A) ([.ref (h 0), .int (nI lf)] : List Value).toArray s 0 0 A) (F0 m 29 ls []) := by
        intro fu
        induction fu with
        | zero =>
          intro i n2 C2 E2 r2 h1 h2
          exact absurd h2 (by omega)
        | succ fu ih29 =>
          intro i n2 C2 E2 r2 hle hfu hlt ey hn2 H locs ls hl hP hD hS
          refine lv_iload hx hb dX3_letIn_29 (lv_at hl 4 rfl) ?_
          refine lv_aload_n hx hb dX3_letIn_31 rfl (lv_at hl 0 rfl) ?_
          refine va_get (D := D) (ci := 4) (v := .ref (h 9)) (C := RX3) (T := TX3) (N := 5) hx hb hts kX3_letIn_inX3 hown hK hP 0 rfl rfl 2 (by decide) (hts _ kX3_letIn_f32) (fun _ h9 => h9) rfl dX3_letIn_32 ?_
          refine va_getN (D := D) (ci := 1) (v := .int (nI nC)) (C := RX0) (T := TX0) (N := 10) hx hb hts kX3_letIn_inX0 hown hK hP 9 rfl rfl 9 (by decide) (va_Nw.use rfl (hE _ zl_RX3_68)) (fun _ h9 => h9) rfl dX3_letIn_35 ?_
          refine zn_ge (i := i) (j := nC) (tgt := 137) hx hb (by omega) (by omega) dX3_letIn_38 (by decide) (fun c38 => ?_) (fun c38 => ?_)
          · skip
            refine lv_iinc (v := nI (q + 1 + 1)) (lv' := [(3, .int (nI (q + 1 + 1))), (0, .ref (h 0)), (1, .int (nI lf)), (2, .int r2), (4, .int (nI i))]) hx hb dX3_letIn_137 hl (k := 3) rfl (by rw [show Int32.ofInt 1 = nI 1 from rfl, nI_add]) (by decide) rfl (fun ls hl => ?_)
            refine lv_goto (tgt := 21) hx hb dX3_letIn_140 (by decide) ?_
            exact ih21 (q + 1) n2 C2 E2 r2 (by omega) (by omega) (by rw [inAll, ← ex, ← show i = nC by omega, ← ey]) (hn2) H locs ls (lv_sub hl [1, 2, 3, 0] rfl) hP hD hS
          · skip
            refine lv_aload_n hx hb dX3_letIn_41 rfl (lv_at hl 0 rfl) ?_
            refine va_get (D := D) (ci := 4) (v := .ref (h 9)) (C := RX3) (T := TX3) (N := 5) hx hb hts kX3_letIn_inX3 hown hK hP 0 rfl rfl 2 (by decide) (hts _ kX3_letIn_f32) (fun _ h9 => h9) rfl dX3_letIn_42 ?_
            refine va_getN (D := D) (ci := 1) (v := .ref (h 12)) (C := RX0) (T := TX0) (N := 10) hx hb hts kX3_letIn_inX0 hown hK hP 9 rfl rfl 2 (by decide) (va_Nw.use rfl (hE _ zl_RX3_188)) (fun _ h9 => h9) rfl dX3_letIn_45 ?_
            refine lv_iload hx hb dX3_letIn_48 (lv_at hl 4 rfl) ?_
            refine z_iald (k := i) (v := C2 2 i) hx hb hK hP 12 rfl (by decide) (by omega) (rfl) dX3_letIn_50 ?_
            refine lv_iload_n hx hb dX3_letIn_51 rfl (lv_at hl 3 rfl) ?_
            refine lv_icmp_ne (x := C2 2 i) (y := nI (q + 1)) (tgt := 131) hx hb dX3_letIn_52 (by decide) (fun c52 => ?_) (fun c52 => ?_)
            · skip
              refine lv_iinc (v := nI (i + 1)) (lv' := [(4, .int (nI (i + 1))), (0, .ref (h 0)), (1, .int (nI lf)), (2, .int r2), (3, .int (nI (q + 1)))]) hx hb dX3_letIn_131 hl (k := 4) rfl (by rw [show Int32.ofInt 1 = nI 1 from rfl, nI_add]) (by decide) rfl (fun ls hl => ?_)
              refine lv_goto (tgt := 29) hx hb dX3_letIn_134 (by decide) ?_
              exact ih29 (i + 1) n2 C2 E2 r2 (by omega) (by omega) (by omega) (by rw [inZ, ← ey]; simp [inS, c38, c52]) (hn2) H locs ls (lv_sub hl [1, 2, 3, 4, 0] rfl) hP hD hS
            · skip
              refine lv_aload_n hx hb dX3_letIn_55 rfl (lv_at hl 0 rfl) ?_
              refine va_get (D := D) (ci := 4) (v := .ref (h 9)) (C := RX3) (T := TX3) (N := 5) hx hb hts kX3_letIn_inX3 hown hK hP 0 rfl rfl 2 (by decide) (hts _ kX3_letIn_f32) (fun _ h9 => h9) rfl dX3_letIn_56 ?_
              refine lv_iload hx hb dX3_letIn_59 (lv_at hl 4 rfl) ?_
              refine lv_iload_n hx hb dX3_letIn_61 rfl (lv_at hl 1 rfl) ?_
              refine lv_aload_n hx hb dX3_letIn_62 rfl (lv_at hl 0 rfl) ?_
              refine va_get (D := D) (ci := 4) (v := .ref (h 1)) (C := RX3) (T := TX3) (N := 5) hx hb hts kX3_letIn_inX3 hown hK hP 0 rfl rfl 1 (by decide) (hts _ kX3_letIn_f25) (fun _ h9 => h9) rfl dX3_letIn_63 ?_
              refine va_getN (D := D) (ci := 3) (v := .ref (h 2)) (C := RX2) (T := TX2) (N := 9) hx hb hts kX3_letIn_inX2 hown hK hP 1 rfl rfl 0 (by decide) (va_Nw.use rfl (hE _ zl_RX3_111)) (fun _ h9 => h9) rfl dX3_letIn_66 ?_
              refine lv_iload_n hx hb dX3_letIn_69 rfl (lv_at hl 1 rfl) ?_
              refine z_iald (k := lf) (v := L 0 lf) hx hb hK hP 2 rfl (by decide) (by omega) (rfl) dX3_letIn_70 ?_
              refine lv_iload_n hx hb dX3_letIn_71 rfl (lv_at hl 2 rfl) ?_
              refine z_backi (z_runVN (n := 4) (As := [.int (nI i), .int (nI lf), .int (L 0 lf), .int r2]) (ci := 1) (rest := []) hx hb hml hown hts hK hE hP hD [9, 10, 11, 12, 13, 14, 15, 16, 17, 18] rfl (by decide) (tX0_fitsIn l D cI cZ cJ (fun k => h (9 + k)) nC C2 i (nI lf) (L 0 lf) r2 (by omega) _) gX3_letIn_X0_fitsIn_n255 rfl rfl rfl zl_RX3_255 kX3_letIn_iRX0 kX3_letIn_nX0_fitsIn kX3_letIn_eX0_fitsIn (by decide +kernel) ⟨Nat.le_of_ble_eq_true rfl, Nat.le_of_ble_eq_true rfl⟩ rfl rfl rfl hl.1 rfl (Nat.le_of_ble_eq_true rfl) dX3_letIn_72 ⟨Nat.zero_le _, Nat.zero_le _⟩) hP hD hS hA [9, 10, 11, 12, 13, 14, 15, 16, 17, 18] rfl (fun r1 w1 H locs hp1 hP hD hS => ?_)
              obtain ⟨rfl, rfl⟩ := hp1
              have hP : va_P D vwCl (wX cI cZ h lev tm gn nL nC n2 L B C2 E2) H := hP
              have hD : va_D A (wX cI cZ h lev tm gn nL nC n2 L B C2 E2) := hD
              refine zb_eq (b := (fitB C2 i (nI lf) (L 0 lf) r2)) (tgt := 131) hx hb dX3_letIn_75 (by decide) (fun c75 => ?_) (fun c75 => ?_)
              · skip
                refine lv_iinc (v := nI (i + 1)) (lv' := [(4, .int (nI (i + 1))), (0, .ref (h 0)), (1, .int (nI lf)), (2, .int r2), (3, .int (nI (q + 1)))]) hx hb dX3_letIn_131 hl (k := 4) rfl (by rw [show Int32.ofInt 1 = nI 1 from rfl, nI_add]) (by decide) rfl (fun ls hl => ?_)
                refine lv_goto (tgt := 29) hx hb dX3_letIn_134 (by decide) ?_
                exact ih29 (i + 1) n2 C2 E2 r2 (by omega) (by omega) (by omega) (by rw [inZ, ← ey]; simp [inS, c38, c52, c75]) (hn2) H locs ls (lv_sub hl [1, 2, 3, 4, 0] rfl) hP hD hS
              · skip
                refine lv_aload_n hx hb dX3_letIn_78 rfl (lv_at hl 0 rfl) ?_
                refine va_get (D := D) (ci := 4) (v := .ref (h 9)) (C := RX3) (T := TX3) (N := 5) hx hb hts kX3_letIn_inX3 hown hK hP 0 rfl rfl 2 (by decide) (hts _ kX3_letIn_f32) (fun _ h9 => h9) rfl dX3_letIn_79 ?_
                refine va_getN (D := D) (ci := 1) (v := .ref (h 14)) (C := RX0) (T := TX0) (N := 10) hx hb hts kX3_letIn_inX0 hown hK hP 9 rfl rfl 4 (by decide) (va_Nw.use rfl (hE _ zl_RX3_159)) (fun _ h9 => h9) rfl dX3_letIn_82 ?_
                refine lv_iload hx hb dX3_letIn_85 (lv_at hl 4 rfl) ?_
                refine lv_iconst (v := 1) hx hb dX3_letIn_87 (by decide) ?_
                refine z_iast (k := i) (x := 1) hx hb hK hP hD hS 14 rfl (by decide) (by omega) dX3_letIn_88 (fun H locs hP hD hS => ?_)
                have hP : va_P D vwCl (wX cI cZ h lev tm gn nL nC n2 L B (upC C2 4 i 1) E2) H := hP
                have hD : va_D A (wX cI cZ h lev tm gn nL nC n2 L B (upC C2 4 i 1) E2) := hD
                refine lv_aload_n hx hb dX3_letIn_89 rfl (lv_at hl 0 rfl) ?_
                refine va_get (D := D) (ci := 4) (v := .ref (h 9)) (C := RX3) (T := TX3) (N := 5) hx hb hts kX3_letIn_inX3 hown hK hP 0 rfl rfl 2 (by decide) (hts _ kX3_letIn_f32) (fun _ h9 => h9) rfl dX3_letIn_90 ?_
                refine va_getN (D := D) (ci := 1) (v := .ref (h 17)) (C := RX0) (T := TX0) (N := 10) hx hb hts kX3_letIn_inX0 hown hK hP 9 rfl rfl 7 (by decide) (va_Nw.use rfl (hE _ zl_RX3_162)) (fun _ h9 => h9) rfl dX3_letIn_93 ?_
                refine lv_iload hx hb dX3_letIn_96 (lv_at hl 4 rfl) ?_
                refine lv_aload_n hx hb dX3_letIn_98 rfl (lv_at hl 0 rfl) ?_
                refine va_get (D := D) (ci := 4) (v := .int (nI tm)) (C := RX3) (T := TX3) (N := 5) hx hb hts kX3_letIn_inX3 hown hK hP 0 rfl rfl 4 (by decide) (hts _ kX3_letIn_f43) (fun _ h9 => h9) rfl dX3_letIn_99 ?_
                refine z_iast (k := i) (x := nI tm) hx hb hK hP hD hS 17 rfl (by decide) (by omega) dX3_letIn_102 (fun H locs hP hD hS => ?_)
                have hP : va_P D vwCl (wX cI cZ h lev tm gn nL nC n2 L B (upC (upC C2 4 i 1) 7 i (nI tm)) E2) H := hP
                have hD : va_D A (wX cI cZ h lev tm gn nL nC n2 L B (upC (upC C2 4 i 1) 7 i (nI tm)) E2) := hD
                refine lv_aload_n hx hb dX3_letIn_103 rfl (lv_at hl 0 rfl) ?_
                refine va_get (D := D) (ci := 4) (v := .ref (h 19)) (C := RX3) (T := TX3) (N := 5) hx hb hts kX3_letIn_inX3 hown hK hP 0 rfl rfl 3 (by decide) (hts _ kX3_letIn_f39) (fun _ h9 => h9) rfl dX3_letIn_104 ?_
                refine lv_aload_n hx hb dX3_letIn_107 rfl (lv_at hl 0 rfl) ?_
                refine va_get (D := D) (ci := 4) (v := .int (nI tm)) (C := RX3) (T := TX3) (N := 5) hx hb hts kX3_letIn_inX3 hown hK hP 0 rfl rfl 4 (by decide) (hts _ kX3_letIn_f43) (fun _ h9 => h9) rfl dX3_letIn_108 ?_
                refine lv_iload_n hx hb dX3_letIn_111 rfl (lv_at hl 1 rfl) ?_
                refine lv_iload hx hb dX3_letIn_112 (lv_at hl 4 rfl) ?_
                refine lv_iconst (v := 0) hx hb dX3_letIn_114 (by decide) ?_
                refine z_backv (z_runVN (n := 4) (As := [.int (nI tm), .int (nI lf), .int (nI i), .int 0]) (ci := 2) (rest := []) hx hb hml hown hts hK hE hP hD [19, 20, 21, 22, 23] rfl (by decide) (tX1_add l D cI cZ cJ (fun k => h (19 + k)) n2 E2 (nI tm) (nI lf) (nI i) 0 (by omega) _) gX3_letIn_X1_add_n259 rfl rfl rfl zl_RX3_259 kX3_letIn_iRX1 kX3_letIn_nX1_add kX3_letIn_eX1_add (by decide +kernel) ⟨Nat.le_of_ble_eq_true rfl, Nat.le_of_ble_eq_true rfl⟩ rfl rfl rfl hl.1 rfl (Nat.le_of_ble_eq_true rfl) dX3_letIn_115 ⟨Nat.zero_le _, Nat.zero_le _⟩) hP hD hS hA [19, 20, 21, 22, 23] rfl (fun w1 H locs hp2 hP hD hS => ?_)
                obtain rfl := hp2
                have hP : va_P D vwCl (wX cI cZ h lev tm gn nL nC (evN n2) L B (upC (upC C2 4 i 1) 7 i (nI tm)) (evE E2 n2 (nI tm) (nI lf) (nI i) 0)) H := hP
                have hD : va_D A (wX cI cZ h lev tm gn nL nC (evN n2) L B (upC (upC C2 4 i 1) 7 i (nI tm)) (evE E2 n2 (nI tm) (nI lf) (nI i) 0)) := hD
                refine lv_iload_n hx hb dX3_letIn_118 rfl (lv_at hl 2 rfl) ?_
                refine lv_aload_n hx hb dX3_letIn_119 rfl (lv_at hl 0 rfl) ?_
                refine va_get (D := D) (ci := 4) (v := .ref (h 9)) (C := RX3) (T := TX3) (N := 5) hx hb hts kX3_letIn_inX3 hown hK hP 0 rfl rfl 2 (by decide) (hts _ kX3_letIn_f32) (fun _ h9 => h9) rfl dX3_letIn_120 ?_
                refine va_getN (D := D) (ci := 1) (v := .ref (h 13)) (C := RX0) (T := TX0) (N := 10) hx hb hts kX3_letIn_inX0 hown hK hP 9 rfl rfl 3 (by decide) (va_Nw.use rfl (hE _ zl_RX3_191)) (fun _ h9 => h9) rfl dX3_letIn_123 ?_
                refine lv_iload hx hb dX3_letIn_126 (lv_at hl 4 rfl) ?_
                refine z_iald (k := i) (v := C2 3 i) hx hb hK hP 13 rfl (by decide) (by omega) (by rw [upC_n (by decide), upC_n (by decide)]) dX3_letIn_128 ?_
                refine lv_isub (x := r2) (y := C2 3 i) hx hb dX3_letIn_129 ?_
                refine lv_istore_n (lv' := [(2, .int (r2 - (C2 3 i))), (0, .ref (h 0)), (1, .int (nI lf)), (3, .int (nI (q + 1))), (4, .int (nI i))]) hx hb dX3_letIn_130 rfl hl (by decide) rfl (fun ls hl => ?_)
                refine lv_iinc (v := nI (i + 1)) (lv' := [(4, .int (nI (i + 1))), (2, .int (r2 - (C2 3 i))), (0, .ref (h 0)), (1, .int (nI lf)), (3, .int (nI (q + 1)))]) hx hb dX3_letIn_131 hl (k := 4) rfl (by rw [show Int32.ofInt 1 = nI 1 from rfl, nI_add]) (by decide) rfl (fun ls hl => ?_)
                refine lv_goto (tgt := 29) hx hb dX3_letIn_134 (by decide) ?_
                exact ih29 (i + 1) (evN n2) (upC (upC C2 4 i 1) 7 i (nI tm)) (evE E2 n2 (nI tm) (nI lf) (nI i) 0) (r2 - (C2 3 i)) (by omega) (by omega) (by omega) (by rw [inZ, ← ey]; simp [inS, c38, c52, c75]) (evN_le hn2) H locs ls (lv_sub hl [2, 3, 1, 4, 0] rfl) hP hD hS
      refine lv_iload_n hx hb dX3_letIn_21 rfl (lv_at hl 3 rfl) ?_
      refine lv_iconst (v := 3) hx hb dX3_letIn_22 (by decide) ?_
      refine zn_gt (i := q + 1) (j := 3) (tgt := 143) hx hb (by omega) (by omega) dX3_letIn_23 (by decide) (fun c23 => ?_) (fun c23 => ?_)
      · skip
        exact z_vret hx hb hr hlocks hS hP rfl dX3_letIn_143 (by have e3 : q = 3 := (by omega); subst e3; rw [← ex])
      · skip
        refine lv_iconst (v := 0) hx hb dX3_letIn_26 (by decide) ?_
        refine lv_istore (lv' := [(4, .int 0), (0, .ref (h 0)), (1, .int (nI lf)), (2, .int r1), (3, .int (nI (q + 1)))]) hx hb dX3_letIn_27 hl (by decide) rfl (fun ls hl => ?_)
        exact L29 (nC + 1) 0 ne C1 E1 r1 (by omega) (by omega) (by omega) (rfl) (hne) H locs ls (lv_sub hl [1, 2, 3, 4, 0] rfl) hP hD hS
  refine lv_aload_n hx hb dX3_letIn_0 rfl (lv_at hl 0 rfl) ?_
  refine va_get (D := D) (ci := 4) (v := .ref (h 1)) (C := RX3) (T := TX3) (N := 5) hx hb hts kX3_letIn_inX3 hown hK hP 0 rfl rfl 1 (by decide) (hts _ kX3_letIn_f25) (fun _ h9 => h9) rfl dX3_letIn_1 ?_
  refine va_getN (D := D) (ci := 3) (v := .ref (h 3)) (C := RX2) (T := TX2) (N := 9) hx hb hts kX3_letIn_inX2 hown hK hP 1 rfl rfl 1 (by decide) (va_Nw.use rfl (hE _ zl_RX3_246)) (fun _ h9 => h9) rfl dX3_letIn_4 ?_
  refine lv_iload_n hx hb dX3_letIn_7 rfl (lv_at hl 1 rfl) ?_
  refine z_iald (k := lf) (v := L 1 lf) hx hb hK hP 3 rfl (by decide) (by omega) (rfl) dX3_letIn_8 ?_
  refine lv_aload_n hx hb dX3_letIn_9 rfl (lv_at hl 0 rfl) ?_
  refine va_get (D := D) (ci := 4) (v := .ref (h 9)) (C := RX3) (T := TX3) (N := 5) hx hb hts kX3_letIn_inX3 hown hK hP 0 rfl rfl 2 (by decide) (hts _ kX3_letIn_f32) (fun _ h9 => h9) rfl dX3_letIn_10 ?_
  refine lv_iload_n hx hb dX3_letIn_13 rfl (lv_at hl 1 rfl) ?_
  refine z_backi (z_runVN (n := 1) (As := [.int (nI lf)]) (ci := 1) (rest := [.int (L 1 lf)]) hx hb hml hown hts hK hE hP hD [9, 10, 11, 12, 13, 14, 15, 16, 17, 18] rfl (by decide) (tX0_loadAboard l D cI cZ cJ (fun k => h (9 + k)) nC C (nI lf) (by omega) _) gX3_letIn_X0_loadAboard_n114 rfl rfl rfl zl_RX3_114 kX3_letIn_iRX0 kX3_letIn_nX0_loadAboard kX3_letIn_eX0_loadAboard (by decide +kernel) ⟨Nat.le_of_ble_eq_true rfl, Nat.le_of_ble_eq_true rfl⟩ rfl rfl rfl hl.1 rfl (Nat.le_of_ble_eq_true rfl) dX3_letIn_14 ⟨Nat.zero_le _, Nat.zero_le _⟩) hP hD hS hA [9, 10, 11, 12, 13, 14, 15, 16, 17, 18] rfl (fun r3 w1 H locs hp3 hP hD hS => ?_)
  obtain ⟨rfl, rfl⟩ := hp3
  have hP : va_P D vwCl (wX cI cZ h lev tm gn nL nC nE L B C E) H := hP
  have hD : va_D A (wX cI cZ h lev tm gn nL nC nE L B C E) := hD
  refine lv_isub (x := L 1 lf) (y := sumW (fun k => isB C k 1 (nI lf) && !decide (C 1 k = -1)) (C 3) nC) hx hb dX3_letIn_17 ?_
  refine lv_istore_n (lv' := [(2, .int ((L 1 lf) - (sumW (fun k => isB C k 1 (nI lf) && !decide (C 1 k = -1)) (C 3) nC))), (0, .ref (h 0)), (1, .int (nI lf))]) hx hb dX3_letIn_18 rfl hl (by decide) rfl (fun ls hl => ?_)
  refine lv_iconst (v := 1) hx hb dX3_letIn_19 (by decide) ?_
  refine lv_istore_n (lv' := [(3, .int 1), (2, .int ((L 1 lf) - (sumW (fun k => isB C k 1 (nI lf) && !decide (C 1 k = -1)) (C 3) nC))), (0, .ref (h 0)), (1, .int (nI lf))]) hx hb dX3_letIn_20 rfl hl (by decide) rfl (fun ls hl => ?_)
  exact L21 (3 + 1) 0 nE C E ((L 1 lf) - (sumW (fun k => isB C k 1 (nI lf) && !decide (C 1 k = -1)) (C 3) nC)) (by omega) (by omega) (rfl) (hNE) H locs ls (lv_sub hl [2, 3, 1, 0] rfl) hP hD hS

theorem kX3_doOneThing_inX3 : ∀ w ∈ wsX30, w ∈ wsX3_doOneThing := by decide +kernel
theorem kX3_doOneThing_f25 : Cond.fieldLink RX3 25 "LiftRows2" "lifts" "LLiftRows2$Lifts;" ∈ wsX3_doOneThing := by decide +kernel
theorem kX3_doOneThing_inX2 : ∀ w ∈ wsX20, w ∈ wsX3_doOneThing := by decide +kernel
theorem kX3_doOneThing_f32 : Cond.fieldLink RX3 32 "LiftRows2" "calls" "LLiftRows2$Calls;" ∈ wsX3_doOneThing := by decide +kernel
theorem kX3_doOneThing_iRX0 : Cond.initialized yX0_hasWork.cls ∈ wsX3_doOneThing := by decide +kernel
theorem kX3_doOneThing_nX0_hasWork : Cond.instanceMethod yX0_hasWork ∈ wsX3_doOneThing := by decide +kernel
theorem kX3_doOneThing_eX0_hasWork : Cond.selects RX0 yX0_hasWork yX0_hasWork ∈ wsX3_doOneThing := by decide +kernel
theorem kX3_doOneThing_iRX2 : Cond.initialized yX2_go.cls ∈ wsX3_doOneThing := by decide +kernel
theorem kX3_doOneThing_nX2_go : Cond.instanceMethod yX2_go ∈ wsX3_doOneThing := by decide +kernel
theorem kX3_doOneThing_eX2_go : Cond.selects RX2 yX2_go yX2_go ∈ wsX3_doOneThing := by decide +kernel
theorem kX3_doOneThing_nX2_passOpenSecond : Cond.instanceMethod yX2_passOpenSecond ∈ wsX3_doOneThing := by decide +kernel
theorem kX3_doOneThing_eX2_passOpenSecond : Cond.selects RX2 yX2_passOpenSecond yX2_passOpenSecond ∈ wsX3_doOneThing := by decide +kernel
set_option maxHeartbeats 4000000 in
set_option maxRecDepth 100000 in
theorem tX3_doOneThing (l : Launch) (D : va_G) (cI cZ cJ : ClassId) (h : Nat → Nat) (lev tm : Nat) (gn : Int32) (nL nC nE : Nat) (L B C E : Nat → Nat → Int32) (lf : Nat) (hlf : lf < 4) (hC : nC ≤ 24) (hNE : nE ≤ 48)  : ∀ sz : Nat, zMv l yX3_doOneThing wsX3_doOneThing ({ frames := 4, cells := 0, slots := 0, locals := 92 } : Room) D cI cZ cJ (wX cI cZ h lev tm gn nL nC nE L B C E) sz [.ref (h 0), .int (nI lf)] (fun w' => w' = wZ cI cZ h lev tm nL nC B (oneZ tm lf nC B (gn, nE, L, C, E))) := by
  intro sz
  refine z_head (y := yX3_doOneThing) (av := [.ref (h 0), .int (nI lf)]) (w := (wX cI cZ h lev tm gn nL nC nE L B C E)) (Qc := fun A => zQv D (wX cI cZ h lev tm gn nL nC nE L B C E) (fun w' => w' = wZ cI cZ h lev tm nL nC B (oneZ tm lf nC B (gn, nE, L, C, E))) A) (cc := cX3_doOneThing) (maxL := 4) (ret := none) (by decide) rfl (Nat.le_of_ble_eq_true rfl) ?_
  intro p e s m below meth c ls A hat hP hD hS hl
  obtain ⟨hx, hb, hr, hml, hlocks, hts, hown, hin, hK, hE, hA⟩ := hat
  have hP : va_P D vwCl (wX cI cZ h lev tm gn nL nC nE L B C E) s.heap := hP
  have hD : va_D A (wX cI cZ h lev tm gn nL nC nE L B C E) := hD
  have hl : lv_has ls 4 [(0, .ref (h 0)), (1, .int (nI lf))] := hl
  refine lv_aload_n hx hb dX3_doOneThing_0 rfl (lv_at hl 0 rfl) ?_
  refine va_get (D := D) (ci := 4) (v := .ref (h 1)) (C := RX3) (T := TX3) (N := 5) hx hb hts kX3_doOneThing_inX3 hown hK hP 0 rfl rfl 1 (by decide) (hts _ kX3_doOneThing_f25) (fun _ h9 => h9) rfl dX3_doOneThing_1 ?_
  refine va_getN (D := D) (ci := 3) (v := .ref (h 5)) (C := RX2) (T := TX2) (N := 9) hx hb hts kX3_doOneThing_inX2 hown hK hP 1 rfl rfl 3 (by decide) (va_Nw.use rfl (hE _ zl_RX3_121)) (fun _ h9 => h9) rfl dX3_doOneThing_4 ?_
  refine lv_iload_n hx hb dX3_doOneThing_7 rfl (lv_at hl 1 rfl) ?_
  refine z_iald (k := lf) (v := L 3 lf) hx hb hK hP 5 rfl (by decide) (by omega) (rfl) dX3_doOneThing_8 ?_
  refine lv_if_le (x := L 3 lf) (tgt := 23) hx hb dX3_doOneThing_9 (by decide) (fun c9 => ?_) (fun c9 => ?_)
  · skip
    refine lv_aload_n hx hb dX3_doOneThing_23 rfl (lv_at hl 0 rfl) ?_
    refine lv_iload_n hx hb dX3_doOneThing_24 rfl (lv_at hl 1 rfl) ?_
    refine z_backiA (z_runVA (n := 1) (As := [.int (nI lf)]) (ci := 4) (rest := []) hx hb hml hown hts hK hE hP hD (tX3_opensHere l D cI cZ cJ h lev tm gn nL nC nE L B C E lf (by omega) (by omega) _) gX3_doOneThing_X3_opensHere rfl rfl rfl (by decide +kernel) ⟨Nat.le_of_ble_eq_true rfl, Nat.le_of_ble_eq_true rfl⟩ rfl rfl rfl hl.1 rfl (Nat.le_of_ble_eq_true rfl) dX3_doOneThing_25 ⟨Nat.zero_le _, Nat.zero_le _⟩) hD hS hA (fun r1 w1 H locs hp1 hP hD hS => ?_)
    obtain ⟨rfl, rfl⟩ := hp1
    have hP : va_P D vwCl (wX cI cZ h lev tm gn nL nC nE L B C E) H := hP
    have hD : va_D A (wX cI cZ h lev tm gn nL nC nE L B C E) := hD
    refine zb_eq (b := (opnB L C lf nC nC)) (tgt := 54) hx hb dX3_doOneThing_28 (by decide) (fun c28 => ?_) (fun c28 => ?_)
    · skip
      refine lv_aload_n hx hb dX3_doOneThing_54 rfl (lv_at hl 0 rfl) ?_
      refine va_get (D := D) (ci := 4) (v := .ref (h 9)) (C := RX3) (T := TX3) (N := 5) hx hb hts kX3_doOneThing_inX3 hown hK hP 0 rfl rfl 2 (by decide) (hts _ kX3_doOneThing_f32) (fun _ h9 => h9) rfl dX3_doOneThing_55 ?_
      refine lv_iload_n hx hb dX3_doOneThing_58 rfl (lv_at hl 1 rfl) ?_
      refine lv_aload_n hx hb dX3_doOneThing_59 rfl (lv_at hl 0 rfl) ?_
      refine va_get (D := D) (ci := 4) (v := .ref (h 1)) (C := RX3) (T := TX3) (N := 5) hx hb hts kX3_doOneThing_inX3 hown hK hP 0 rfl rfl 1 (by decide) (hts _ kX3_doOneThing_f25) (fun _ h9 => h9) rfl dX3_doOneThing_60 ?_
      refine va_getN (D := D) (ci := 3) (v := .ref (h 2)) (C := RX2) (T := TX2) (N := 9) hx hb hts kX3_doOneThing_inX2 hown hK hP 1 rfl rfl 0 (by decide) (va_Nw.use rfl (hE _ zl_RX3_111)) (fun _ h9 => h9) rfl dX3_doOneThing_63 ?_
      refine lv_iload_n hx hb dX3_doOneThing_66 rfl (lv_at hl 1 rfl) ?_
      refine z_iald (k := lf) (v := L 0 lf) hx hb hK hP 2 rfl (by decide) (by omega) (rfl) dX3_doOneThing_67 ?_
      refine lv_iconst (v := 1) hx hb dX3_doOneThing_68 (by decide) ?_
      refine z_backi (z_runVN (n := 3) (As := [.int (nI lf), .int (L 0 lf), .int 1]) (ci := 1) (rest := []) hx hb hml hown hts hK hE hP hD [9, 10, 11, 12, 13, 14, 15, 16, 17, 18] rfl (by decide) (tX0_hasWork l D cI cZ cJ (fun k => h (9 + k)) nC C (nI lf) (L 0 lf) 1 (by omega) _) gX3_doOneThing_X0_hasWork_n239 rfl rfl rfl zl_RX3_239 kX3_doOneThing_iRX0 kX3_doOneThing_nX0_hasWork kX3_doOneThing_eX0_hasWork (by decide +kernel) ⟨Nat.le_of_ble_eq_true rfl, Nat.le_of_ble_eq_true rfl⟩ rfl rfl rfl hl.1 rfl (Nat.le_of_ble_eq_true rfl) dX3_doOneThing_69 ⟨Nat.zero_le _, Nat.zero_le _⟩) hP hD hS hA [9, 10, 11, 12, 13, 14, 15, 16, 17, 18] rfl (fun r2 w1 H locs hp2 hP hD hS => ?_)
      obtain ⟨rfl, rfl⟩ := hp2
      have hP : va_P D vwCl (wX cI cZ h lev tm gn nL nC nE L B C E) H := hP
      have hD : va_D A (wX cI cZ h lev tm gn nL nC nE L B C E) := hD
      refine lv_istore_n (lv' := [(2, .int (bI (!decide ((nsF C (L 0 lf) 1 (setG (fun k => isB C k 0 (nI lf)) nI nC) (setG (fun k => isB C k 1 (nI lf)) nI nC) nC).1 = -1)))), (0, .ref (h 0)), (1, .int (nI lf))]) hx hb dX3_doOneThing_72 rfl hl (by decide) rfl (fun ls hl => ?_)
      refine lv_aload_n hx hb dX3_doOneThing_73 rfl (lv_at hl 1 rfl) ?_
      refine va_get (D := D) (ci := 4) (v := .ref (h 9)) (C := RX3) (T := TX3) (N := 5) hx hb hts kX3_doOneThing_inX3 hown hK hP 0 rfl rfl 2 (by decide) (hts _ kX3_doOneThing_f32) (fun _ h9 => h9) rfl dX3_doOneThing_74 ?_
      refine lv_iload_n hx hb dX3_doOneThing_77 rfl (lv_at hl 2 rfl) ?_
      refine lv_aload_n hx hb dX3_doOneThing_78 rfl (lv_at hl 1 rfl) ?_
      refine va_get (D := D) (ci := 4) (v := .ref (h 1)) (C := RX3) (T := TX3) (N := 5) hx hb hts kX3_doOneThing_inX3 hown hK hP 0 rfl rfl 1 (by decide) (hts _ kX3_doOneThing_f25) (fun _ h9 => h9) rfl dX3_doOneThing_79 ?_
      refine va_getN (D := D) (ci := 3) (v := .ref (h 2)) (C := RX2) (T := TX2) (N := 9) hx hb hts kX3_doOneThing_inX2 hown hK hP 1 rfl rfl 0 (by decide) (va_Nw.use rfl (hE _ zl_RX3_111)) (fun _ h9 => h9) rfl dX3_doOneThing_82 ?_
      refine lv_iload_n hx hb dX3_doOneThing_85 rfl (lv_at hl 2 rfl) ?_
      refine z_iald (k := lf) (v := L 0 lf) hx hb hK hP 2 rfl (by decide) (by omega) (rfl) dX3_doOneThing_86 ?_
      refine lv_iconst (v := (-1)) hx hb dX3_doOneThing_87 (by decide) ?_
      refine z_backi (z_runVN (n := 3) (As := [.int (nI lf), .int (L 0 lf), .int (-1)]) (ci := 1) (rest := []) hx hb hml hown hts hK hE hP hD [9, 10, 11, 12, 13, 14, 15, 16, 17, 18] rfl (by decide) (tX0_hasWork l D cI cZ cJ (fun k => h (9 + k)) nC C (nI lf) (L 0 lf) (-1) (by omega) _) gX3_doOneThing_X0_hasWork_n239 rfl rfl rfl zl_RX3_239 kX3_doOneThing_iRX0 kX3_doOneThing_nX0_hasWork kX3_doOneThing_eX0_hasWork (by decide +kernel) ⟨Nat.le_of_ble_eq_true rfl, Nat.le_of_ble_eq_true rfl⟩ rfl rfl rfl hl.1 rfl (Nat.le_of_ble_eq_true rfl) dX3_doOneThing_88 ⟨Nat.zero_le _, Nat.zero_le _⟩) hP hD hS hA [9, 10, 11, 12, 13, 14, 15, 16, 17, 18] rfl (fun r3 w1 H locs hp3 hP hD hS => ?_)
      obtain ⟨rfl, rfl⟩ := hp3
      have hP : va_P D vwCl (wX cI cZ h lev tm gn nL nC nE L B C E) H := hP
      have hD : va_D A (wX cI cZ h lev tm gn nL nC nE L B C E) := hD
      refine lv_istore_n (lv' := [(3, .int (bI (!decide ((nsF C (L 0 lf) (-1) (setG (fun k => isB C k 0 (nI lf)) nI nC) (setG (fun k => isB C k 1 (nI lf)) nI nC) nC).1 = -1)))), (2, .int (bI (!decide ((nsF C (L 0 lf) 1 (setG (fun k => isB C k 0 (nI lf)) nI nC) (setG (fun k => isB C k 1 (nI lf)) nI nC) nC).1 = -1)))), (0, .ref (h 0)), (1, .int (nI lf))]) hx hb dX3_doOneThing_91 rfl hl (by decide) rfl (fun ls hl => ?_)
      refine lv_aload_n hx hb dX3_doOneThing_92 rfl (lv_at hl 2 rfl) ?_
      refine va_get (D := D) (ci := 4) (v := .ref (h 1)) (C := RX3) (T := TX3) (N := 5) hx hb hts kX3_doOneThing_inX3 hown hK hP 0 rfl rfl 1 (by decide) (hts _ kX3_doOneThing_f25) (fun _ h9 => h9) rfl dX3_doOneThing_93 ?_
      refine lv_iload_n hx hb dX3_doOneThing_96 rfl (lv_at hl 3 rfl) ?_
      refine lv_iload_n hx hb dX3_doOneThing_97 rfl (lv_at hl 1 rfl) ?_
      refine lv_iload_n hx hb dX3_doOneThing_98 rfl (lv_at hl 0 rfl) ?_
      refine z_backv (z_runVN (n := 3) (As := [.int (nI lf), .int (bI (!decide ((nsF C (L 0 lf) 1 (setG (fun k => isB C k 0 (nI lf)) nI nC) (setG (fun k => isB C k 1 (nI lf)) nI nC) nC).1 = -1))), .int (bI (!decide ((nsF C (L 0 lf) (-1) (setG (fun k => isB C k 0 (nI lf)) nI nC) (setG (fun k => isB C k 1 (nI lf)) nI nC) nC).1 = -1)))]) (ci := 3) (rest := []) hx hb hml hown hts hK hE hP hD [1, 2, 3, 4, 5, 6, 7, 8] rfl (by decide) (tX2_go l D cI cZ cJ (fun k => h (1 + k)) nL gn L B lf (!decide ((nsF C (L 0 lf) 1 (setG (fun k => isB C k 0 (nI lf)) nI nC) (setG (fun k => isB C k 1 (nI lf)) nI nC) nC).1 = -1)) (!decide ((nsF C (L 0 lf) (-1) (setG (fun k => isB C k 0 (nI lf)) nI nC) (setG (fun k => isB C k 1 (nI lf)) nI nC) nC).1 = -1)) (by omega) _) gX3_doOneThing_X2_go_n242 rfl rfl rfl zl_RX3_242 kX3_doOneThing_iRX2 kX3_doOneThing_nX2_go kX3_doOneThing_eX2_go (by decide +kernel) ⟨Nat.le_of_ble_eq_true rfl, Nat.le_of_ble_eq_true rfl⟩ rfl rfl rfl hl.1 rfl (Nat.le_of_ble_eq_true rfl) dX3_doOneThing_99 ⟨Nat.zero_le _, Nat.zero_le _⟩) hP hD hS hA [1, 2, 3, 4, 5, 6, 7, 8] rfl (fun w1 H locs hp4 hP hD hS => ?_)
      obtain rfl := hp4
      have hP : va_P D vwCl (wX cI cZ h lev tm (gn + (absI (dirF (L 2 lf) (!decide ((nsF C (L 0 lf) 1 (setG (fun k => isB C k 0 (nI lf)) nI nC) (setG (fun k => isB C k 1 (nI lf)) nI nC) nC).1 = -1)) (!decide ((nsF C (L 0 lf) (-1) (setG (fun k => isB C k 0 (nI lf)) nI nC) (setG (fun k => isB C k 1 (nI lf)) nI nC) nC).1 = -1))))) nL nC nE (goL L lf (dirF (L 2 lf) (!decide ((nsF C (L 0 lf) 1 (setG (fun k => isB C k 0 (nI lf)) nI nC) (setG (fun k => isB C k 1 (nI lf)) nI nC) nC).1 = -1)) (!decide ((nsF C (L 0 lf) (-1) (setG (fun k => isB C k 0 (nI lf)) nI nC) (setG (fun k => isB C k 1 (nI lf)) nI nC) nC).1 = -1)))) B C E) H := hP
      have hD : va_D A (wX cI cZ h lev tm (gn + (absI (dirF (L 2 lf) (!decide ((nsF C (L 0 lf) 1 (setG (fun k => isB C k 0 (nI lf)) nI nC) (setG (fun k => isB C k 1 (nI lf)) nI nC) nC).1 = -1)) (!decide ((nsF C (L 0 lf) (-1) (setG (fun k => isB C k 0 (nI lf)) nI nC) (setG (fun k => isB C k 1 (nI lf)) nI nC) nC).1 = -1))))) nL nC nE (goL L lf (dirF (L 2 lf) (!decide ((nsF C (L 0 lf) 1 (setG (fun k => isB C k 0 (nI lf)) nI nC) (setG (fun k => isB C k 1 (nI lf)) nI nC) nC).1 = -1)) (!decide ((nsF C (L 0 lf) (-1) (setG (fun k => isB C k 0 (nI lf)) nI nC) (setG (fun k => isB C k 1 (nI lf)) nI nC) nC).1 = -1)))) B C E) := hD
      exact z_vret hx hb hr hlocks hS hP rfl dX3_doOneThing_102 (by rw [oneZ, if_pos c9, if_neg (by rw [c28]; decide)]; rfl)
    · skip
      refine lv_aload_n hx hb dX3_doOneThing_31 rfl (lv_at hl 0 rfl) ?_
      refine lv_iload_n hx hb dX3_doOneThing_32 rfl (lv_at hl 1 rfl) ?_
      refine z_backvA (z_runVA (n := 1) (As := [.int (nI lf)]) (ci := 4) (rest := []) hx hb hml hown hts hK hE hP hD (tX3_letOut l D cI cZ cJ h lev tm gn nL nC nE L B C E lf (by omega) (by omega) (by omega) _) gX3_doOneThing_X3_letOut rfl rfl rfl (by decide +kernel) ⟨Nat.le_of_ble_eq_true rfl, Nat.le_of_ble_eq_true rfl⟩ rfl rfl rfl hl.1 rfl (Nat.le_of_ble_eq_true rfl) dX3_doOneThing_33 ⟨Nat.zero_le _, Nat.zero_le _⟩) hD hS hA (fun w1 H locs hp6 hP hD hS => ?_)
      obtain rfl := hp6
      generalize ez5 : outZ tm lf (L 0 lf) (nE, C, E) nC = z5 at hP hD
      have hP : va_P D vwCl (wX cI cZ h lev tm gn nL nC z5.1 L B z5.2.1 z5.2.2) H := hP
      have hD : va_D A (wX cI cZ h lev tm gn nL nC z5.1 L B z5.2.1 z5.2.2) := hD
      refine lv_aload_n hx hb dX3_doOneThing_36 rfl (lv_at hl 0 rfl) ?_
      refine lv_iload_n hx hb dX3_doOneThing_37 rfl (lv_at hl 1 rfl) ?_
      refine z_backvA (z_runVA (n := 1) (As := [.int (nI lf)]) (ci := 4) (rest := []) hx hb hml hown hts hK hE hP hD (tX3_letIn l D cI cZ cJ h lev tm gn nL nC z5.1 L B z5.2.1 z5.2.2 lf (by omega) (by omega) (by rw [← ez5]; exact outZ_le hNE) _) gX3_doOneThing_X3_letIn rfl rfl rfl (by decide +kernel) ⟨Nat.le_of_ble_eq_true rfl, Nat.le_of_ble_eq_true rfl⟩ rfl rfl rfl hl.1 rfl (Nat.le_of_ble_eq_true rfl) dX3_doOneThing_38 ⟨Nat.zero_le _, Nat.zero_le _⟩) hD hS hA (fun w1 H locs hp8 hP hD hS => ?_)
      obtain rfl := hp8
      generalize ez7 : (inAll tm lf (L 0 lf) nC ((z5.1, z5.2.1, z5.2.2), L 1 lf - sumW (fun k => isB z5.2.1 k 1 (nI lf) && !decide (z5.2.1 1 k = -1)) (z5.2.1 3) nC) 3).1 = z7 at hP hD
      have hP : va_P D vwCl (wX cI cZ h lev tm gn nL nC z7.1 L B z7.2.1 z7.2.2) H := hP
      have hD : va_D A (wX cI cZ h lev tm gn nL nC z7.1 L B z7.2.1 z7.2.2) := hD
      refine lv_aload_n hx hb dX3_doOneThing_41 rfl (lv_at hl 0 rfl) ?_
      refine va_get (D := D) (ci := 4) (v := .ref (h 1)) (C := RX3) (T := TX3) (N := 5) hx hb hts kX3_doOneThing_inX3 hown hK hP 0 rfl rfl 1 (by decide) (hts _ kX3_doOneThing_f25) (fun _ h9 => h9) rfl dX3_doOneThing_42 ?_
      refine va_getN (D := D) (ci := 3) (v := .ref (h 5)) (C := RX2) (T := TX2) (N := 9) hx hb hts kX3_doOneThing_inX2 hown hK hP 1 rfl rfl 3 (by decide) (va_Nw.use rfl (hE _ zl_RX3_121)) (fun _ h9 => h9) rfl dX3_doOneThing_45 ?_
      refine lv_iload_n hx hb dX3_doOneThing_48 rfl (lv_at hl 1 rfl) ?_
      refine lv_iconst (v := 3) hx hb dX3_doOneThing_49 (by decide) ?_
      refine z_iast (k := lf) (x := 3) hx hb hK hP hD hS 5 rfl (by decide) (by omega) dX3_doOneThing_50 (fun H locs hP hD hS => ?_)
      have hP : va_P D vwCl (wX cI cZ h lev tm gn nL nC z7.1 (upC L 3 lf 3) B z7.2.1 z7.2.2) H := hP
      have hD : va_D A (wX cI cZ h lev tm gn nL nC z7.1 (upC L 3 lf 3) B z7.2.1 z7.2.2) := hD
      refine lv_goto (tgt := 102) hx hb dX3_doOneThing_51 (by decide) ?_
      exact z_vret hx hb hr hlocks hS hP rfl dX3_doOneThing_102 (by rw [oneZ, if_pos c9, if_pos c28]; show _ = wX cI cZ h lev tm gn nL nC (exZ tm lf nC L (nE, C, E)).1 (upC L 3 lf 3) B (exZ tm lf nC L (nE, C, E)).2.1 (exZ tm lf nC L (nE, C, E)).2.2; rw [show exZ tm lf nC L (nE, C, E) = z7 by rw [exZ, ez5, ← ez7]])
  · skip
    refine lv_aload_n hx hb dX3_doOneThing_12 rfl (lv_at hl 0 rfl) ?_
    refine va_get (D := D) (ci := 4) (v := .ref (h 1)) (C := RX3) (T := TX3) (N := 5) hx hb hts kX3_doOneThing_inX3 hown hK hP 0 rfl rfl 1 (by decide) (hts _ kX3_doOneThing_f25) (fun _ h9 => h9) rfl dX3_doOneThing_13 ?_
    refine lv_iload_n hx hb dX3_doOneThing_16 rfl (lv_at hl 1 rfl) ?_
    refine z_backv (z_runVN (n := 1) (As := [.int (nI lf)]) (ci := 3) (rest := []) hx hb hml hown hts hK hE hP hD [1, 2, 3, 4, 5, 6, 7, 8] rfl (by decide) (tX2_passOpenSecond l D cI cZ cJ (fun k => h (1 + k)) nL gn L B lf (by omega) _) gX3_doOneThing_X2_passOpenSecond_n226 rfl rfl rfl zl_RX3_226 kX3_doOneThing_iRX2 kX3_doOneThing_nX2_passOpenSecond kX3_doOneThing_eX2_passOpenSecond (by decide +kernel) ⟨Nat.le_of_ble_eq_true rfl, Nat.le_of_ble_eq_true rfl⟩ rfl rfl rfl hl.1 rfl (Nat.le_of_ble_eq_true rfl) dX3_doOneThing_17 ⟨Nat.zero_le _, Nat.zero_le _⟩) hP hD hS hA [1, 2, 3, 4, 5, 6, 7, 8] rfl (fun w1 H locs hp9 hP hD hS => ?_)
    obtain rfl := hp9
    have hP : va_P D vwCl (wX cI cZ h lev tm gn nL nC nE (pasL L B lf) B C E) H := hP
    have hD : va_D A (wX cI cZ h lev tm gn nL nC nE (pasL L B lf) B C E) := hD
    refine lv_goto (tgt := 102) hx hb dX3_doOneThing_20 (by decide) ?_
    exact z_vret hx hb hr hlocks hS hP rfl dX3_doOneThing_102 (by rw [oneZ, if_neg c9])

theorem kX3_passSecond_inX3 : ∀ w ∈ wsX30, w ∈ wsX3_passSecond := by decide +kernel
theorem kX3_passSecond_f25 : Cond.fieldLink RX3 25 "LiftRows2" "lifts" "LLiftRows2$Lifts;" ∈ wsX3_passSecond := by decide +kernel
theorem kX3_passSecond_inX2 : ∀ w ∈ wsX20, w ∈ wsX3_passSecond := by decide +kernel
theorem kX3_passSecond_f43 : Cond.fieldLink RX3 43 "LiftRows2" "time" "I" ∈ wsX3_passSecond := by decide +kernel
set_option maxHeartbeats 4000000 in
set_option maxRecDepth 100000 in
theorem tX3_passSecond (l : Launch) (D : va_G) (cI cZ cJ : ClassId) (h : Nat → Nat) (lev tm : Nat) (gn : Int32) (nL nC nE : Nat) (L B C E : Nat → Nat → Int32) (hL : nL ≤ 4) (hC : nC ≤ 24) (hNE : nE ≤ 48)  : ∀ sz : Nat, zMv l yX3_passSecond wsX3_passSecond ({ frames := 5, cells := 0, slots := 0, locals := 115 } : Room) D cI cZ cJ (wX cI cZ h lev tm gn nL nC nE L B C E) sz [.ref (h 0)] (fun w' => w' = wZ cI cZ h lev (tm + 1) nL nC B (secZ (tm + 1) nC B (gn, nE, L, C, E) nL)) := by
  intro sz
  refine z_head (y := yX3_passSecond) (av := [.ref (h 0)]) (w := (wX cI cZ h lev tm gn nL nC nE L B C E)) (Qc := fun A => zQv D (wX cI cZ h lev tm gn nL nC nE L B C E) (fun w' => w' = wZ cI cZ h lev (tm + 1) nL nC B (secZ (tm + 1) nC B (gn, nE, L, C, E) nL)) A) (cc := cX3_passSecond) (maxL := 2) (ret := none) (by decide) rfl (Nat.le_of_ble_eq_true rfl) ?_
  intro p e s m below meth c ls A hat hP hD hS hl
  obtain ⟨hx, hb, hr, hml, hlocks, hts, hown, hin, hK, hE, hA⟩ := hat
  have hP : va_P D vwCl (wX cI cZ h lev tm gn nL nC nE L B C E) s.heap := hP
  have hD : va_D A (wX cI cZ h lev tm gn nL nC nE L B C E) := hD
  have hl : lv_has ls 2 [(0, .ref (h 0))] := hl
  have L12 : ∀ (fu : Nat) (i : Nat) (gn1 : Int32) (ne : Nat) (L1 : Nat → Nat → Int32) (C1 : Nat → Nat → Int32) (E1 : Nat → Nat → Int32), i ≤ nL → nL + 1 ≤ i + fu → ((gn1, ne, L1, C1, E1) = secZ (tm + 1) nC B (gn, nE, L, C, E) i) → (ne ≤ 48) → ∀ (H : Heap) (locs : List Loc) (ls : Array Slot), lv_has ls 2 [(0, .ref (h 0)), (1, .int (nI i))] → va_P D vwCl (wX cI cZ h lev (tm + 1) gn1 nL nC ne L1 B C1 E1) H → va_D A (wX cI cZ h lev (tm + 1) gn1 nL nC ne L1 B C1 E1) → va_S A s.heap H locs → W p l e ({ frames := 5, cells := 0, slots := 0, locals := 115 } : Room) s m ([.ref (h 0)] : List Value).toArray below meth c H locs 0 0 (MQ below (zQv D (wX cI cZ h lev tm gn nL nC nE L B C E) (fun w' => w' = wZ cI cZ h lev (tm + 1) nL nC B (secZ (tm + 1) nC B (gn, nE, L, C, E) nL)) A) ([.ref (h 0)] : List Value).toArray s 0 0 A) (F0 m 12 ls []) := by
    intro fu
    induction fu with
    | zero =>
      intro i gn1 ne L1 C1 E1 h1 h2
      exact absurd h2 (by omega)
    | succ fu ih12 =>
      intro i gn1 ne L1 C1 E1 hle hfu ex hne H locs ls hl hP hD hS
      refine lv_iload_n hx hb dX3_passSecond_12 rfl (lv_at hl 1 rfl) ?_
      refine lv_aload_n hx hb dX3_passSecond_13 rfl (lv_at hl 0 rfl) ?_
      refine va_get (D := D) (ci := 4) (v := .ref (h 1)) (C := RX3) (T := TX3) (N := 5) hx hb hts kX3_passSecond_inX3 hown hK hP 0 rfl rfl 1 (by decide) (hts _ kX3_passSecond_f25) (fun _ h9 => h9) rfl dX3_passSecond_14 ?_
      refine va_getN (D := D) (ci := 3) (v := .int (nI nL)) (C := RX2) (T := TX2) (N := 9) hx hb hts kX3_passSecond_inX2 hown hK hP 1 rfl rfl 7 (by decide) (va_Nw.use rfl (hE _ zl_RX3_50)) (fun _ h9 => h9) rfl dX3_passSecond_17 ?_
      refine zn_ge (i := i) (j := nL) (tgt := 46) hx hb (by omega) (by omega) dX3_passSecond_20 (by decide) (fun c20 => ?_) (fun c20 => ?_)
      · skip
        exact z_vret hx hb hr hlocks hS hP rfl dX3_passSecond_46 (by rw [← show i = nL by omega, ← ex])
      · skip
        refine lv_aload_n hx hb dX3_passSecond_23 rfl (lv_at hl 0 rfl) ?_
        refine va_get (D := D) (ci := 4) (v := .ref (h 1)) (C := RX3) (T := TX3) (N := 5) hx hb hts kX3_passSecond_inX3 hown hK hP 0 rfl rfl 1 (by decide) (hts _ kX3_passSecond_f25) (fun _ h9 => h9) rfl dX3_passSecond_24 ?_
        refine va_getN (D := D) (ci := 3) (v := .ref (h 6)) (C := RX2) (T := TX2) (N := 9) hx hb hts kX3_passSecond_inX2 hown hK hP 1 rfl rfl 4 (by decide) (va_Nw.use rfl (hE _ zl_RX3_127)) (fun _ h9 => h9) rfl dX3_passSecond_27 ?_
        refine lv_iload_n hx hb dX3_passSecond_30 rfl (lv_at hl 1 rfl) ?_
        refine z_zald (k := i) (v := B 0 i) hx hb hK hP 6 rfl (by decide) (by omega) (rfl) dX3_passSecond_31 ?_
        refine lv_if_ne (x := B 0 i) (tgt := 40) hx hb dX3_passSecond_32 (by decide) (fun c32 => ?_) (fun c32 => ?_)
        · skip
          refine lv_iinc (v := nI (i + 1)) (lv' := [(1, .int (nI (i + 1))), (0, .ref (h 0))]) hx hb dX3_passSecond_40 hl (k := 1) rfl (by rw [show Int32.ofInt 1 = nI 1 from rfl, nI_add]) (by decide) rfl (fun ls hl => ?_)
          refine lv_goto (tgt := 12) hx hb dX3_passSecond_43 (by decide) ?_
          exact ih12 (i + 1) gn1 ne L1 C1 E1 (by omega) (by omega) (by rw [secZ, ← ex, if_neg c32]) (hne) H locs ls (lv_sub hl [1, 0] rfl) hP hD hS
        · skip
          refine lv_aload_n hx hb dX3_passSecond_35 rfl (lv_at hl 0 rfl) ?_
          refine lv_iload_n hx hb dX3_passSecond_36 rfl (lv_at hl 1 rfl) ?_
          refine z_backvA (z_runVA (n := 1) (As := [.int (nI i)]) (ci := 4) (rest := []) hx hb hml hown hts hK hE hP hD (tX3_doOneThing l D cI cZ cJ h lev (tm + 1) gn1 nL nC ne L1 B C1 E1 i (by omega) (by omega) (by omega) _) gX3_passSecond_X3_doOneThing rfl rfl rfl (by decide +kernel) ⟨Nat.le_of_ble_eq_true rfl, Nat.le_of_ble_eq_true rfl⟩ rfl rfl rfl hl.1 rfl (Nat.le_of_ble_eq_true rfl) dX3_passSecond_37 ⟨Nat.zero_le _, Nat.zero_le _⟩) hD hS hA (fun w1 H locs hp2 hP hD hS => ?_)
          obtain rfl := hp2
          generalize ez1 : oneZ (tm + 1) i nC B (gn1, ne, L1, C1, E1) = z1 at hP hD
          have hP : va_P D vwCl (wX cI cZ h lev (tm + 1) z1.1 nL nC z1.2.1 z1.2.2.1 B z1.2.2.2.1 z1.2.2.2.2) H := hP
          have hD : va_D A (wX cI cZ h lev (tm + 1) z1.1 nL nC z1.2.1 z1.2.2.1 B z1.2.2.2.1 z1.2.2.2.2) := hD
          refine lv_iinc (v := nI (i + 1)) (lv' := [(1, .int (nI (i + 1))), (0, .ref (h 0))]) hx hb dX3_passSecond_40 hl (k := 1) rfl (by rw [show Int32.ofInt 1 = nI 1 from rfl, nI_add]) (by decide) rfl (fun ls hl => ?_)
          refine lv_goto (tgt := 12) hx hb dX3_passSecond_43 (by decide) ?_
          exact ih12 (i + 1) z1.1 z1.2.1 z1.2.2.1 z1.2.2.2.1 z1.2.2.2.2 (by omega) (by omega) (by rw [secZ, ← ex, if_pos c32, ez1]) (by rw [← ez1]; exact oneZ_le hne) H locs ls (lv_sub hl [1, 0] rfl) hP hD hS
  refine lv_aload_n hx hb dX3_passSecond_0 rfl (lv_at hl 0 rfl) ?_
  refine lv_dup hx hb dX3_passSecond_1 rfl ?_
  refine va_get (D := D) (ci := 4) (v := .int (nI tm)) (C := RX3) (T := TX3) (N := 5) hx hb hts kX3_passSecond_inX3 hown hK hP 0 rfl rfl 4 (by decide) (hts _ kX3_passSecond_f43) (fun _ h9 => h9) rfl dX3_passSecond_2 ?_
  refine lv_iconst (v := 1) hx hb dX3_passSecond_5 (by decide) ?_
  refine zn_add (i := tm) (j := 1) hx hb dX3_passSecond_6 ?_
  refine va_put (D := D) (ci := 4) (v := .int (nI (tm + 1))) (ty := .int) (C := RX3) (T := TX3) (N := 5) hx hb hts kX3_passSecond_inX3 tyX3 tyX3_ok nmX3 hown hK hP hD hS 0 rfl rfl 4 (by decide) (hts _ kX3_passSecond_f43) (fun _ h9 => h9) rfl (by decide +kernel) rfl rfl (Nat.le_of_ble_eq_true rfl) dX3_passSecond_7 (fun H locs hP hD hS => ?_)
  have hP : va_P D vwCl (wX cI cZ h lev (tm + 1) gn nL nC nE L B C E) H := hP
  have hD : va_D A (wX cI cZ h lev (tm + 1) gn nL nC nE L B C E) := hD
  refine lv_iconst (v := 0) hx hb dX3_passSecond_10 (by decide) ?_
  refine lv_istore_n (lv' := [(1, .int 0), (0, .ref (h 0))]) hx hb dX3_passSecond_11 rfl hl (by decide) rfl (fun ls hl => ?_)
  exact L12 (nL + 1) 0 gn nE L C E (by omega) (by omega) (rfl) (hNE) H locs ls (lv_sub hl [1, 0] rfl) hP hD hS
end
