section
-- ===== PART A: goes FIRST, ahead of the names: the tables' words, and 'selects' of the private methods out of them =====
/-- a private method of a class that the tables say can be made, by its rows of tables_1 -/
def lw_okq (q : MethodName × Nat) : Prop := (q.1.cls ≠ "java/lang/invoke/MethodHandle" ∧ q.1.cls ≠ "java/lang/invoke/VarHandle") ∧ Cond.instantiable q.1.cls q.2 ∈ tables_1 ∧ Cond.privateMethod q.1 ∈ tables_1 ∧ Cond.instanceMethod q.1 ∈ tables_1
theorem lw_p0 : lw_okq (⟨"WingDesk", "finding", "(I)I"⟩, 10) := ⟨⟨by decide +kernel, by decide +kernel⟩, List.mem_of_getElem? (i := 13) (by decide +kernel), List.mem_of_getElem? (i := 256) (by decide +kernel), List.mem_of_getElem? (i := 257) (by decide +kernel)⟩
theorem lw_p1 : lw_okq (⟨"WingDesk$Wardrobe", "setFact", "(III)V"⟩, 3) := ⟨⟨by decide +kernel, by decide +kernel⟩, List.mem_of_getElem? (i := 21) (by decide +kernel), List.mem_of_getElem? (i := 270) (by decide +kernel), List.mem_of_getElem? (i := 271) (by decide +kernel)⟩
theorem lw_p2 : lw_okq (⟨"WingDesk$Looks", "noteLooksWith", "(II)V"⟩, 3) := ⟨⟨by decide +kernel, by decide +kernel⟩, List.mem_of_getElem? (i := 40) (by decide +kernel), List.mem_of_getElem? (i := 328) (by decide +kernel), List.mem_of_getElem? (i := 329) (by decide +kernel)⟩
theorem lw_p3 : lw_okq (⟨"WingDesk", "isChange", "(III)Z"⟩, 10) := ⟨⟨by decide +kernel, by decide +kernel⟩, List.mem_of_getElem? (i := 13) (by decide +kernel), List.mem_of_getElem? (i := 354) (by decide +kernel), List.mem_of_getElem? (i := 355) (by decide +kernel)⟩
theorem lw_p4 : lw_okq (⟨"WingDesk", "isAllowed", "(III)Z"⟩, 10) := ⟨⟨by decide +kernel, by decide +kernel⟩, List.mem_of_getElem? (i := 13) (by decide +kernel), List.mem_of_getElem? (i := 362) (by decide +kernel), List.mem_of_getElem? (i := 363) (by decide +kernel)⟩
theorem lw_p5 : lw_okq (⟨"WingDesk$Change", "wigsOf", "(I)I"⟩, 18) := ⟨⟨by decide +kernel, by decide +kernel⟩, List.mem_of_getElem? (i := 56) (by decide +kernel), List.mem_of_getElem? (i := 374) (by decide +kernel), List.mem_of_getElem? (i := 375) (by decide +kernel)⟩
theorem lw_p6 : lw_okq (⟨"WingDesk$Change", "prepareWorn", "(III)V"⟩, 18) := ⟨⟨by decide +kernel, by decide +kernel⟩, List.mem_of_getElem? (i := 56) (by decide +kernel), List.mem_of_getElem? (i := 380) (by decide +kernel), List.mem_of_getElem? (i := 381) (by decide +kernel)⟩
theorem lw_p7 : lw_okq (⟨"WingDesk$Change", "aheadAtPlace", "(II)I"⟩, 18) := ⟨⟨by decide +kernel, by decide +kernel⟩, List.mem_of_getElem? (i := 56) (by decide +kernel), List.mem_of_getElem? (i := 385) (by decide +kernel), List.mem_of_getElem? (i := 386) (by decide +kernel)⟩
theorem lw_p8 : lw_okq (⟨"WingDesk$Change", "isWantedUnder", "(I)Z"⟩, 18) := ⟨⟨by decide +kernel, by decide +kernel⟩, List.mem_of_getElem? (i := 56) (by decide +kernel), List.mem_of_getElem? (i := 394) (by decide +kernel), List.mem_of_getElem? (i := 395) (by decide +kernel)⟩
theorem lw_p9 : lw_okq (⟨"WingDesk$Change", "prepareWanted", "(III)V"⟩, 18) := ⟨⟨by decide +kernel, by decide +kernel⟩, List.mem_of_getElem? (i := 56) (by decide +kernel), List.mem_of_getElem? (i := 401) (by decide +kernel), List.mem_of_getElem? (i := 402) (by decide +kernel)⟩
theorem lw_p10 : lw_okq (⟨"WingDesk$Change", "thickBefore", "(III)I"⟩, 18) := ⟨⟨by decide +kernel, by decide +kernel⟩, List.mem_of_getElem? (i := 56) (by decide +kernel), List.mem_of_getElem? (i := 405) (by decide +kernel), List.mem_of_getElem? (i := 406) (by decide +kernel)⟩
theorem lw_p11 : lw_okq (⟨"WingDesk$Change", "missing", "(I)I"⟩, 18) := ⟨⟨by decide +kernel, by decide +kernel⟩, List.mem_of_getElem? (i := 56) (by decide +kernel), List.mem_of_getElem? (i := 421) (by decide +kernel), List.mem_of_getElem? (i := 422) (by decide +kernel)⟩
theorem lw_p12 : lw_okq (⟨"WingDesk$Change", "forcedOff", "()I"⟩, 18) := ⟨⟨by decide +kernel, by decide +kernel⟩, List.mem_of_getElem? (i := 56) (by decide +kernel), List.mem_of_getElem? (i := 425) (by decide +kernel), List.mem_of_getElem? (i := 426) (by decide +kernel)⟩
theorem lw_p13 : lw_okq (⟨"WingDesk$Change", "mustComeOff", "(I)Z"⟩, 18) := ⟨⟨by decide +kernel, by decide +kernel⟩, List.mem_of_getElem? (i := 56) (by decide +kernel), List.mem_of_getElem? (i := 429) (by decide +kernel), List.mem_of_getElem? (i := 430) (by decide +kernel)⟩
theorem lw_p14 : lw_okq (⟨"WingDesk$Change", "keepIfBetter", "(II)V"⟩, 18) := ⟨⟨by decide +kernel, by decide +kernel⟩, List.mem_of_getElem? (i := 56) (by decide +kernel), List.mem_of_getElem? (i := 471) (by decide +kernel), List.mem_of_getElem? (i := 472) (by decide +kernel)⟩
theorem lw_p15 : lw_okq (⟨"WingDesk$Show", "wayBetween", "(II)I"⟩, 6) := ⟨⟨by decide +kernel, by decide +kernel⟩, List.mem_of_getElem? (i := 121) (by decide +kernel), List.mem_of_getElem? (i := 517) (by decide +kernel), List.mem_of_getElem? (i := 518) (by decide +kernel)⟩
def lw_privs_1 : List (MethodName × Nat) := [(⟨"WingDesk", "finding", "(I)I"⟩, 10), (⟨"WingDesk$Wardrobe", "setFact", "(III)V"⟩, 3), (⟨"WingDesk$Looks", "noteLooksWith", "(II)V"⟩, 3), (⟨"WingDesk", "isChange", "(III)Z"⟩, 10), (⟨"WingDesk", "isAllowed", "(III)Z"⟩, 10), (⟨"WingDesk$Change", "wigsOf", "(I)I"⟩, 18), (⟨"WingDesk$Change", "prepareWorn", "(III)V"⟩, 18), (⟨"WingDesk$Change", "aheadAtPlace", "(II)I"⟩, 18), (⟨"WingDesk$Change", "isWantedUnder", "(I)Z"⟩, 18), (⟨"WingDesk$Change", "prepareWanted", "(III)V"⟩, 18), (⟨"WingDesk$Change", "thickBefore", "(III)I"⟩, 18), (⟨"WingDesk$Change", "missing", "(I)I"⟩, 18), (⟨"WingDesk$Change", "forcedOff", "()I"⟩, 18), (⟨"WingDesk$Change", "mustComeOff", "(I)Z"⟩, 18), (⟨"WingDesk$Change", "keepIfBetter", "(II)V"⟩, 18), (⟨"WingDesk$Show", "wayBetween", "(II)I"⟩, 6)]
theorem lw_r1 : ∀ q ∈ lw_privs_1, lw_okq q := List.forall_mem_cons.mpr ⟨lw_p0, List.forall_mem_cons.mpr ⟨lw_p1, List.forall_mem_cons.mpr ⟨lw_p2, List.forall_mem_cons.mpr ⟨lw_p3, List.forall_mem_cons.mpr ⟨lw_p4, List.forall_mem_cons.mpr ⟨lw_p5, List.forall_mem_cons.mpr ⟨lw_p6, List.forall_mem_cons.mpr ⟨lw_p7, List.forall_mem_cons.mpr ⟨lw_p8, List.forall_mem_cons.mpr ⟨lw_p9, List.forall_mem_cons.mpr ⟨lw_p10, List.forall_mem_cons.mpr ⟨lw_p11, List.forall_mem_cons.mpr ⟨lw_p12, List.forall_mem_cons.mpr ⟨lw_p13, List.forall_mem_cons.mpr ⟨lw_p14, List.forall_mem_cons.mpr ⟨lw_p15, fun _ h => absurd h List.not_mem_nil⟩⟩⟩⟩⟩⟩⟩⟩⟩⟩⟩⟩⟩⟩⟩⟩
theorem lw_p16 : lw_okq (⟨"WingDesk$Roster", "sendOn", "(I)I"⟩, 7) := ⟨⟨by decide +kernel, by decide +kernel⟩, List.mem_of_getElem? (i := 147) (by decide +kernel), List.mem_of_getElem? (i := 561) (by decide +kernel), List.mem_of_getElem? (i := 562) (by decide +kernel)⟩
theorem lw_p17 : lw_okq (⟨"WingDesk$Roster", "search", "(I)I"⟩, 7) := ⟨⟨by decide +kernel, by decide +kernel⟩, List.mem_of_getElem? (i := 147) (by decide +kernel), List.mem_of_getElem? (i := 565) (by decide +kernel), List.mem_of_getElem? (i := 566) (by decide +kernel)⟩
theorem lw_p18 : lw_okq (⟨"WingDesk$Roster", "enqueue", "(II)V"⟩, 7) := ⟨⟨by decide +kernel, by decide +kernel⟩, List.mem_of_getElem? (i := 147) (by decide +kernel), List.mem_of_getElem? (i := 569) (by decide +kernel), List.mem_of_getElem? (i := 570) (by decide +kernel)⟩
theorem lw_p19 : lw_okq (⟨"WingDesk$Roster", "enqueueThoseGoingTo", "(I)V"⟩, 7) := ⟨⟨by decide +kernel, by decide +kernel⟩, List.mem_of_getElem? (i := 147) (by decide +kernel), List.mem_of_getElem? (i := 579) (by decide +kernel), List.mem_of_getElem? (i := 580) (by decide +kernel)⟩
theorem lw_p20 : lw_okq (⟨"WingDesk$Roster", "goingBetween", "(II)I"⟩, 7) := ⟨⟨by decide +kernel, by decide +kernel⟩, List.mem_of_getElem? (i := 147) (by decide +kernel), List.mem_of_getElem? (i := 583) (by decide +kernel), List.mem_of_getElem? (i := 584) (by decide +kernel)⟩
theorem lw_p21 : lw_okq (⟨"WingDesk$Roster", "settle", "(II)V"⟩, 7) := ⟨⟨by decide +kernel, by decide +kernel⟩, List.mem_of_getElem? (i := 147) (by decide +kernel), List.mem_of_getElem? (i := 587) (by decide +kernel), List.mem_of_getElem? (i := 588) (by decide +kernel)⟩
theorem lw_p22 : lw_okq (⟨"WingDesk$Roster", "noteGoing", "(III)V"⟩, 7) := ⟨⟨by decide +kernel, by decide +kernel⟩, List.mem_of_getElem? (i := 147) (by decide +kernel), List.mem_of_getElem? (i := 591) (by decide +kernel), List.mem_of_getElem? (i := 592) (by decide +kernel)⟩
theorem lw_p23 : lw_okq (⟨"WingDesk$Wardrobe", "dries", "(I)Z"⟩, 3) := ⟨⟨by decide +kernel, by decide +kernel⟩, List.mem_of_getElem? (i := 21) (by decide +kernel), List.mem_of_getElem? (i := 621) (by decide +kernel), List.mem_of_getElem? (i := 622) (by decide +kernel)⟩
theorem lw_p24 : lw_okq (⟨"WingDesk", "costTonight", "(III)I"⟩, 10) := ⟨⟨by decide +kernel, by decide +kernel⟩, List.mem_of_getElem? (i := 13) (by decide +kernel), List.mem_of_getElem? (i := 629) (by decide +kernel), List.mem_of_getElem? (i := 630) (by decide +kernel)⟩
theorem lw_p25 : lw_okq (⟨"WingDesk", "countAheadForSwap", "(III)I"⟩, 10) := ⟨⟨by decide +kernel, by decide +kernel⟩, List.mem_of_getElem? (i := 13) (by decide +kernel), List.mem_of_getElem? (i := 638) (by decide +kernel), List.mem_of_getElem? (i := 639) (by decide +kernel)⟩
theorem lw_p26 : lw_okq (⟨"WingDesk", "countSpares", "(II)I"⟩, 10) := ⟨⟨by decide +kernel, by decide +kernel⟩, List.mem_of_getElem? (i := 13) (by decide +kernel), List.mem_of_getElem? (i := 647) (by decide +kernel), List.mem_of_getElem? (i := 648) (by decide +kernel)⟩
theorem lw_p27 : lw_okq (⟨"WingDesk", "dressForChange", "(III)V"⟩, 10) := ⟨⟨by decide +kernel, by decide +kernel⟩, List.mem_of_getElem? (i := 13) (by decide +kernel), List.mem_of_getElem? (i := 663) (by decide +kernel), List.mem_of_getElem? (i := 664) (by decide +kernel)⟩
theorem lw_p28 : lw_okq (⟨"WingDesk$Body", "takeOff", "(I)Z"⟩, 3) := ⟨⟨by decide +kernel, by decide +kernel⟩, List.mem_of_getElem? (i := 175) (by decide +kernel), List.mem_of_getElem? (i := 687) (by decide +kernel), List.mem_of_getElem? (i := 688) (by decide +kernel)⟩
theorem lw_p29 : lw_okq (⟨"WingDesk", "isJustWorn", "(I)Z"⟩, 10) := ⟨⟨by decide +kernel, by decide +kernel⟩, List.mem_of_getElem? (i := 13) (by decide +kernel), List.mem_of_getElem? (i := 696) (by decide +kernel), List.mem_of_getElem? (i := 697) (by decide +kernel)⟩
theorem lw_p30 : lw_okq (⟨"WingDeskModel", "finding", "(I)I"⟩, 37) := ⟨⟨by decide +kernel, by decide +kernel⟩, List.mem_of_getElem? (i := 714) (by decide +kernel), List.mem_of_getElem? (i := 840) (by decide +kernel), List.mem_of_getElem? (i := 841) (by decide +kernel)⟩
theorem lw_p31 : lw_okq (⟨"WingDeskModel", "isPiece", "(I)Z"⟩, 37) := ⟨⟨by decide +kernel, by decide +kernel⟩, List.mem_of_getElem? (i := 714) (by decide +kernel), List.mem_of_getElem? (i := 849) (by decide +kernel), List.mem_of_getElem? (i := 850) (by decide +kernel)⟩
def lw_privs_2 : List (MethodName × Nat) := [(⟨"WingDesk$Roster", "sendOn", "(I)I"⟩, 7), (⟨"WingDesk$Roster", "search", "(I)I"⟩, 7), (⟨"WingDesk$Roster", "enqueue", "(II)V"⟩, 7), (⟨"WingDesk$Roster", "enqueueThoseGoingTo", "(I)V"⟩, 7), (⟨"WingDesk$Roster", "goingBetween", "(II)I"⟩, 7), (⟨"WingDesk$Roster", "settle", "(II)V"⟩, 7), (⟨"WingDesk$Roster", "noteGoing", "(III)V"⟩, 7), (⟨"WingDesk$Wardrobe", "dries", "(I)Z"⟩, 3), (⟨"WingDesk", "costTonight", "(III)I"⟩, 10), (⟨"WingDesk", "countAheadForSwap", "(III)I"⟩, 10), (⟨"WingDesk", "countSpares", "(II)I"⟩, 10), (⟨"WingDesk", "dressForChange", "(III)V"⟩, 10), (⟨"WingDesk$Body", "takeOff", "(I)Z"⟩, 3), (⟨"WingDesk", "isJustWorn", "(I)Z"⟩, 10), (⟨"WingDeskModel", "finding", "(I)I"⟩, 37), (⟨"WingDeskModel", "isPiece", "(I)Z"⟩, 37)]
theorem lw_r2 : ∀ q ∈ lw_privs_2, lw_okq q := List.forall_mem_cons.mpr ⟨lw_p16, List.forall_mem_cons.mpr ⟨lw_p17, List.forall_mem_cons.mpr ⟨lw_p18, List.forall_mem_cons.mpr ⟨lw_p19, List.forall_mem_cons.mpr ⟨lw_p20, List.forall_mem_cons.mpr ⟨lw_p21, List.forall_mem_cons.mpr ⟨lw_p22, List.forall_mem_cons.mpr ⟨lw_p23, List.forall_mem_cons.mpr ⟨lw_p24, List.forall_mem_cons.mpr ⟨lw_p25, List.forall_mem_cons.mpr ⟨lw_p26, List.forall_mem_cons.mpr ⟨lw_p27, List.forall_mem_cons.mpr ⟨lw_p28, List.forall_mem_cons.mpr ⟨lw_p29, List.forall_mem_cons.mpr ⟨lw_p30, List.forall_mem_cons.mpr ⟨lw_p31, fun _ h => absurd h List.not_mem_nil⟩⟩⟩⟩⟩⟩⟩⟩⟩⟩⟩⟩⟩⟩⟩⟩
theorem lw_p32 : lw_okq (⟨"WingDeskModel", "rowOf", "(II)I"⟩, 37) := ⟨⟨by decide +kernel, by decide +kernel⟩, List.mem_of_getElem? (i := 714) (by decide +kernel), List.mem_of_getElem? (i := 864) (by decide +kernel), List.mem_of_getElem? (i := 865) (by decide +kernel)⟩
theorem lw_p33 : lw_okq (⟨"WingDeskModel", "isChange", "(III)Z"⟩, 37) := ⟨⟨by decide +kernel, by decide +kernel⟩, List.mem_of_getElem? (i := 714) (by decide +kernel), List.mem_of_getElem? (i := 884) (by decide +kernel), List.mem_of_getElem? (i := 885) (by decide +kernel)⟩
theorem lw_p34 : lw_okq (⟨"WingDeskModel", "isAllowed", "(III)Z"⟩, 37) := ⟨⟨by decide +kernel, by decide +kernel⟩, List.mem_of_getElem? (i := 714) (by decide +kernel), List.mem_of_getElem? (i := 888) (by decide +kernel), List.mem_of_getElem? (i := 889) (by decide +kernel)⟩
theorem lw_p35 : lw_okq (⟨"WingDeskModel", "thickAt", "(IIII)I"⟩, 37) := ⟨⟨by decide +kernel, by decide +kernel⟩, List.mem_of_getElem? (i := 714) (by decide +kernel), List.mem_of_getElem? (i := 895) (by decide +kernel), List.mem_of_getElem? (i := 896) (by decide +kernel)⟩
theorem lw_p36 : lw_okq (⟨"WingDeskModel", "tell", "(III)V"⟩, 37) := ⟨⟨by decide +kernel, by decide +kernel⟩, List.mem_of_getElem? (i := 714) (by decide +kernel), List.mem_of_getElem? (i := 903) (by decide +kernel), List.mem_of_getElem? (i := 904) (by decide +kernel)⟩
theorem lw_p37 : lw_okq (⟨"WingDeskModel", "mustOff", "(IIII)Z"⟩, 37) := ⟨⟨by decide +kernel, by decide +kernel⟩, List.mem_of_getElem? (i := 714) (by decide +kernel), List.mem_of_getElem? (i := 907) (by decide +kernel), List.mem_of_getElem? (i := 908) (by decide +kernel)⟩
theorem lw_p38 : lw_okq (⟨"WingDeskModel", "isOff", "(II)Z"⟩, 37) := ⟨⟨by decide +kernel, by decide +kernel⟩, List.mem_of_getElem? (i := 714) (by decide +kernel), List.mem_of_getElem? (i := 911) (by decide +kernel), List.mem_of_getElem? (i := 912) (by decide +kernel)⟩
theorem lw_p39 : lw_okq (⟨"WingDeskModel", "secondsOf", "(IIII)I"⟩, 37) := ⟨⟨by decide +kernel, by decide +kernel⟩, List.mem_of_getElem? (i := 714) (by decide +kernel), List.mem_of_getElem? (i := 922) (by decide +kernel), List.mem_of_getElem? (i := 923) (by decide +kernel)⟩
theorem lw_p40 : lw_okq (⟨"WingDeskModel", "bestOf", "(III)I"⟩, 37) := ⟨⟨by decide +kernel, by decide +kernel⟩, List.mem_of_getElem? (i := 714) (by decide +kernel), List.mem_of_getElem? (i := 930) (by decide +kernel), List.mem_of_getElem? (i := 931) (by decide +kernel)⟩
theorem lw_p41 : lw_okq (⟨"WingDeskModel", "finds", "(I)Z"⟩, 37) := ⟨⟨by decide +kernel, by decide +kernel⟩, List.mem_of_getElem? (i := 714) (by decide +kernel), List.mem_of_getElem? (i := 957) (by decide +kernel), List.mem_of_getElem? (i := 958) (by decide +kernel)⟩
theorem lw_p42 : lw_okq (⟨"WingDeskModel", "canGo", "(II)Z"⟩, 37) := ⟨⟨by decide +kernel, by decide +kernel⟩, List.mem_of_getElem? (i := 714) (by decide +kernel), List.mem_of_getElem? (i := 961) (by decide +kernel), List.mem_of_getElem? (i := 962) (by decide +kernel)⟩
theorem lw_p43 : lw_okq (⟨"WingDeskModel", "washing", "()I"⟩, 37) := ⟨⟨by decide +kernel, by decide +kernel⟩, List.mem_of_getElem? (i := 714) (by decide +kernel), List.mem_of_getElem? (i := 973) (by decide +kernel), List.mem_of_getElem? (i := 974) (by decide +kernel)⟩
theorem lw_p44 : lw_okq (⟨"WingDeskModel", "away", "(II)I"⟩, 37) := ⟨⟨by decide +kernel, by decide +kernel⟩, List.mem_of_getElem? (i := 714) (by decide +kernel), List.mem_of_getElem? (i := 986) (by decide +kernel), List.mem_of_getElem? (i := 987) (by decide +kernel)⟩
theorem lw_p45 : lw_okq (⟨"WingDeskModel", "isFor", "(III)Z"⟩, 37) := ⟨⟨by decide +kernel, by decide +kernel⟩, List.mem_of_getElem? (i := 714) (by decide +kernel), List.mem_of_getElem? (i := 990) (by decide +kernel), List.mem_of_getElem? (i := 991) (by decide +kernel)⟩
theorem lw_p46 : lw_okq (⟨"WingDeskModel", "isInLook", "(I)Z"⟩, 37) := ⟨⟨by decide +kernel, by decide +kernel⟩, List.mem_of_getElem? (i := 714) (by decide +kernel), List.mem_of_getElem? (i := 994) (by decide +kernel), List.mem_of_getElem? (i := 995) (by decide +kernel)⟩
theorem lw_p47 : lw_okq (⟨"WingDeskModel", "handles", "(I)Z"⟩, 37) := ⟨⟨by decide +kernel, by decide +kernel⟩, List.mem_of_getElem? (i := 714) (by decide +kernel), List.mem_of_getElem? (i := 1006) (by decide +kernel), List.mem_of_getElem? (i := 1007) (by decide +kernel)⟩
def lw_privs_3 : List (MethodName × Nat) := [(⟨"WingDeskModel", "rowOf", "(II)I"⟩, 37), (⟨"WingDeskModel", "isChange", "(III)Z"⟩, 37), (⟨"WingDeskModel", "isAllowed", "(III)Z"⟩, 37), (⟨"WingDeskModel", "thickAt", "(IIII)I"⟩, 37), (⟨"WingDeskModel", "tell", "(III)V"⟩, 37), (⟨"WingDeskModel", "mustOff", "(IIII)Z"⟩, 37), (⟨"WingDeskModel", "isOff", "(II)Z"⟩, 37), (⟨"WingDeskModel", "secondsOf", "(IIII)I"⟩, 37), (⟨"WingDeskModel", "bestOf", "(III)I"⟩, 37), (⟨"WingDeskModel", "finds", "(I)Z"⟩, 37), (⟨"WingDeskModel", "canGo", "(II)Z"⟩, 37), (⟨"WingDeskModel", "washing", "()I"⟩, 37), (⟨"WingDeskModel", "away", "(II)I"⟩, 37), (⟨"WingDeskModel", "isFor", "(III)Z"⟩, 37), (⟨"WingDeskModel", "isInLook", "(I)Z"⟩, 37), (⟨"WingDeskModel", "handles", "(I)Z"⟩, 37)]
theorem lw_r3 : ∀ q ∈ lw_privs_3, lw_okq q := List.forall_mem_cons.mpr ⟨lw_p32, List.forall_mem_cons.mpr ⟨lw_p33, List.forall_mem_cons.mpr ⟨lw_p34, List.forall_mem_cons.mpr ⟨lw_p35, List.forall_mem_cons.mpr ⟨lw_p36, List.forall_mem_cons.mpr ⟨lw_p37, List.forall_mem_cons.mpr ⟨lw_p38, List.forall_mem_cons.mpr ⟨lw_p39, List.forall_mem_cons.mpr ⟨lw_p40, List.forall_mem_cons.mpr ⟨lw_p41, List.forall_mem_cons.mpr ⟨lw_p42, List.forall_mem_cons.mpr ⟨lw_p43, List.forall_mem_cons.mpr ⟨lw_p44, List.forall_mem_cons.mpr ⟨lw_p45, List.forall_mem_cons.mpr ⟨lw_p46, List.forall_mem_cons.mpr ⟨lw_p47, fun _ h => absurd h List.not_mem_nil⟩⟩⟩⟩⟩⟩⟩⟩⟩⟩⟩⟩⟩⟩⟩⟩
theorem lw_p48 : lw_okq (⟨"WingDeskModel", "bodyPlace", "(I)I"⟩, 37) := ⟨⟨by decide +kernel, by decide +kernel⟩, List.mem_of_getElem? (i := 714) (by decide +kernel), List.mem_of_getElem? (i := 1010) (by decide +kernel), List.mem_of_getElem? (i := 1011) (by decide +kernel)⟩
theorem lw_p49 : lw_okq (⟨"WingDeskModel", "isWorn", "(I)Z"⟩, 37) := ⟨⟨by decide +kernel, by decide +kernel⟩, List.mem_of_getElem? (i := 714) (by decide +kernel), List.mem_of_getElem? (i := 1014) (by decide +kernel), List.mem_of_getElem? (i := 1015) (by decide +kernel)⟩
def lw_privs_4 : List (MethodName × Nat) := [(⟨"WingDeskModel", "bodyPlace", "(I)I"⟩, 37), (⟨"WingDeskModel", "isWorn", "(I)Z"⟩, 37)]
theorem lw_r4 : ∀ q ∈ lw_privs_4, lw_okq q := List.forall_mem_cons.mpr ⟨lw_p48, List.forall_mem_cons.mpr ⟨lw_p49, fun _ h => absurd h List.not_mem_nil⟩⟩
def lw_privs : List (MethodName × Nat) := lw_privs_1 ++ (lw_privs_2 ++ (lw_privs_3 ++ (lw_privs_4)))
def lw_tbl : List Cond := k2_sels lw_privs ++ tables_1
theorem lw_privs_ok : ∀ q ∈ lw_privs, lw_okq q := by
  show ∀ q ∈ lw_privs_1 ++ (lw_privs_2 ++ (lw_privs_3 ++ (lw_privs_4))), lw_okq q
  exact List.forall_mem_append.mpr ⟨lw_r1, List.forall_mem_append.mpr ⟨lw_r2, List.forall_mem_append.mpr ⟨lw_r3, lw_r4⟩⟩⟩
end
section
def RX0 : String := "WingDesk$Body"
def TX0 : u_T := fun k => match k with
  | 0 => ("WingDesk$Body", "wardrobe", "LWingDesk$Wardrobe;", true)
  | 1 => ("WingDesk$Body", "order", "[I", true)
  | _ => ("WingDesk$Body", "latest", "I", false)
def tyX0 : Nat → FieldType := fun k => match k with
  | 0 => .object "WingDesk$Wardrobe"
  | 1 => .array .int
  | _ => .int
abbrev wsX00 : List Cond := u_ws RX0 TX0 3
theorem nmX0 : ∀ a, a < 3 → ∀ b, b < 3 → a ≠ b → (TX0 a).2.1 ≠ (TX0 b).2.1 := by decide +kernel
theorem tyX0_ok : ∀ k, k < 3 → parseFieldDescriptor (TX0 k).2.2.1 = some (tyX0 k) := by decide +kernel
abbrev cX0_init : ByteArray := prog_2_method_1_code
def yX0_init : MethodName := ⟨RX0, "<init>", "(LWingDesk$Wardrobe;)V"⟩
abbrev cX0_undress : ByteArray := prog_2_method_2_code
def yX0_undress : MethodName := ⟨RX0, "undress", "()V"⟩
abbrev cX0_hasOn : ByteArray := prog_2_method_3_code
def yX0_hasOn : MethodName := ⟨RX0, "hasOn", "(I)Z"⟩
abbrev cX0_liesOver : ByteArray := prog_2_method_4_code
def yX0_liesOver : MethodName := ⟨RX0, "liesOver", "(II)Z"⟩
abbrev cX0_countWorn : ByteArray := prog_2_method_5_code
def yX0_countWorn : MethodName := ⟨RX0, "countWorn", "()I"⟩
abbrev cX0_handle : ByteArray := prog_2_method_6_code
def yX0_handle : MethodName := ⟨RX0, "handle", "(I)Z"⟩
abbrev cX0_putOn : ByteArray := prog_2_method_7_code
def yX0_putOn : MethodName := ⟨RX0, "putOn", "(I)Z"⟩
abbrev cX0_takeOff : ByteArray := prog_2_method_8_code
def yX0_takeOff : MethodName := ⟨RX0, "takeOff", "(I)Z"⟩
def RX1 : String := "WingDesk$Change"
def TX1 : u_T := fun k => match k with
  | 0 => ("WingDesk$Change", "wardrobe", "LWingDesk$Wardrobe;", true)
  | 1 => ("WingDesk$Change", "looks", "LWingDesk$Looks;", true)
  | 2 => ("WingDesk$Change", "sizeA", "I", false)
  | 3 => ("WingDesk$Change", "sizeB", "I", false)
  | 4 => ("WingDesk$Change", "wigsA", "I", false)
  | 5 => ("WingDesk$Change", "wigsB", "I", false)
  | 6 => ("WingDesk$Change", "surelyOff", "I", false)
  | 7 => ("WingDesk$Change", "inB", "[I", true)
  | 8 => ("WingDesk$Change", "inA", "[I", true)
  | 9 => ("WingDesk$Change", "under", "[I", true)
  | 10 => ("WingDesk$Change", "ahead", "[I", true)
  | 11 => ("WingDesk$Change", "pile", "[I", true)
  | 12 => ("WingDesk$Change", "offSeconds", "[I", true)
  | 13 => ("WingDesk$Change", "onSeconds", "[I", true)
  | 14 => ("WingDesk$Change", "off", "I", false)
  | 15 => ("WingDesk$Change", "on", "I", false)
  | 16 => ("WingDesk$Change", "bestBits", "I", false)
  | _ => ("WingDesk$Change", "bestSeconds", "I", false)
def tyX1 : Nat → FieldType := fun k => match k with
  | 0 => .object "WingDesk$Wardrobe"
  | 1 => .object "WingDesk$Looks"
  | 2 => .int
  | 3 => .int
  | 4 => .int
  | 5 => .int
  | 6 => .int
  | 7 => .array .int
  | 8 => .array .int
  | 9 => .array .int
  | 10 => .array .int
  | 11 => .array .int
  | 12 => .array .int
  | 13 => .array .int
  | 14 => .int
  | 15 => .int
  | 16 => .int
  | _ => .int
abbrev wsX10 : List Cond := u_ws RX1 TX1 18
theorem nmX1 : ∀ a, a < 18 → ∀ b, b < 18 → a ≠ b → (TX1 a).2.1 ≠ (TX1 b).2.1 := by decide +kernel
theorem tyX1_ok : ∀ k, k < 18 → parseFieldDescriptor (TX1 k).2.2.1 = some (tyX1 k) := by decide +kernel
abbrev cX1_init : ByteArray := prog_3_method_1_code
def yX1_init : MethodName := ⟨RX1, "<init>", "(LWingDesk$Wardrobe;LWingDesk$Looks;)V"⟩
abbrev cX1_prepare : ByteArray := prog_3_method_2_code
def yX1_prepare : MethodName := ⟨RX1, "prepare", "(II)V"⟩
abbrev cX1_prepareWorn : ByteArray := prog_3_method_3_code
def yX1_prepareWorn : MethodName := ⟨RX1, "prepareWorn", "(III)V"⟩
abbrev cX1_isWantedUnder : ByteArray := prog_3_method_4_code
def yX1_isWantedUnder : MethodName := ⟨RX1, "isWantedUnder", "(I)Z"⟩
abbrev cX1_prepareWanted : ByteArray := prog_3_method_5_code
def yX1_prepareWanted : MethodName := ⟨RX1, "prepareWanted", "(III)V"⟩
abbrev cX1_aheadAtPlace : ByteArray := prog_3_method_6_code
def yX1_aheadAtPlace : MethodName := ⟨RX1, "aheadAtPlace", "(II)I"⟩
abbrev cX1_thickBefore : ByteArray := prog_3_method_7_code
def yX1_thickBefore : MethodName := ⟨RX1, "thickBefore", "(III)I"⟩
abbrev cX1_wigsOf : ByteArray := prog_3_method_8_code
def yX1_wigsOf : MethodName := ⟨RX1, "wigsOf", "(I)I"⟩
abbrev cX1_mayLieBeneath : ByteArray := prog_3_method_9_code
def yX1_mayLieBeneath : MethodName := ⟨RX1, "mayLieBeneath", "(II)Z"⟩
abbrev cX1_handle : ByteArray := prog_3_method_10_code
def yX1_handle : MethodName := ⟨RX1, "handle", "(I)V"⟩
abbrev cX1_missing : ByteArray := prog_3_method_11_code
def yX1_missing : MethodName := ⟨RX1, "missing", "(I)I"⟩
abbrev cX1_forcedOff : ByteArray := prog_3_method_12_code
def yX1_forcedOff : MethodName := ⟨RX1, "forcedOff", "()I"⟩
abbrev cX1_mustComeOff : ByteArray := prog_3_method_13_code
def yX1_mustComeOff : MethodName := ⟨RX1, "mustComeOff", "(I)Z"⟩
abbrev cX1_secondsWith : ByteArray := prog_3_method_14_code
def yX1_secondsWith : MethodName := ⟨RX1, "secondsWith", "(I)I"⟩
abbrev cX1_sumOf : ByteArray := prog_3_method_15_code
def yX1_sumOf : MethodName := ⟨RX1, "sumOf", "([III)I"⟩
abbrev cX1_mostOf : ByteArray := prog_3_method_16_code
def yX1_mostOf : MethodName := ⟨RX1, "mostOf", "([III)I"⟩
abbrev cX1_findBest : ByteArray := prog_3_method_17_code
def yX1_findBest : MethodName := ⟨RX1, "findBest", "(IIII)V"⟩
abbrev cX1_keepIfBetter : ByteArray := prog_3_method_18_code
def yX1_keepIfBetter : MethodName := ⟨RX1, "keepIfBetter", "(II)V"⟩
def RX2 : String := "WingDesk$Looks"
def TX2 : u_T := fun k => match k with
  | 0 => ("WingDesk$Looks", "rows", "[I", true)
  | 1 => ("WingDesk$Looks", "sizes", "[I", true)
  | _ => ("WingDesk$Looks", "looksWith", "[I", true)
def tyX2 : Nat → FieldType := fun k => match k with
  | 0 => .array .int
  | 1 => .array .int
  | _ => .array .int
abbrev wsX20 : List Cond := u_ws RX2 TX2 3
theorem nmX2 : ∀ a, a < 3 → ∀ b, b < 3 → a ≠ b → (TX2 a).2.1 ≠ (TX2 b).2.1 := by decide +kernel
theorem tyX2_ok : ∀ k, k < 3 → parseFieldDescriptor (TX2 k).2.2.1 = some (tyX2 k) := by decide +kernel
abbrev cX2_init : ByteArray := prog_4_method_1_code
def yX2_init : MethodName := ⟨RX2, "<init>", "()V"⟩
abbrev cX2_has : ByteArray := prog_4_method_2_code
def yX2_has : MethodName := ⟨RX2, "has", "(I)Z"⟩
abbrev cX2_sizeOf : ByteArray := prog_4_method_3_code
def yX2_sizeOf : MethodName := ⟨RX2, "sizeOf", "(I)I"⟩
abbrev cX2_at : ByteArray := prog_4_method_4_code
def yX2_at : MethodName := ⟨RX2, "at", "(II)I"⟩
abbrev cX2_indexOf : ByteArray := prog_4_method_5_code
def yX2_indexOf : MethodName := ⟨RX2, "indexOf", "(II)I"⟩
abbrev cX2_hasBits : ByteArray := prog_4_method_6_code
def yX2_hasBits : MethodName := ⟨RX2, "hasBits", "(II)Z"⟩
abbrev cX2_isInNone : ByteArray := prog_4_method_7_code
def yX2_isInNone : MethodName := ⟨RX2, "isInNone", "(I)Z"⟩
abbrev cX2_append : ByteArray := prog_4_method_8_code
def yX2_append : MethodName := ⟨RX2, "append", "(II)I"⟩
abbrev cX2_clear : ByteArray := prog_4_method_9_code
def yX2_clear : MethodName := ⟨RX2, "clear", "(I)I"⟩
abbrev cX2_noteLooksWith : ByteArray := prog_4_method_10_code
def yX2_noteLooksWith : MethodName := ⟨RX2, "noteLooksWith", "(II)V"⟩
def RX3 : String := "WingDesk$Roster"
def TX3 : u_T := fun k => match k with
  | 0 => ("WingDesk$Roster", "show", "LWingDesk$Show;", true)
  | 1 => ("WingDesk$Roster", "fresh", "[I", true)
  | 2 => ("WingDesk$Roster", "going", "[I", true)
  | 3 => ("WingDesk$Roster", "cameFrom", "[I", true)
  | 4 => ("WingDesk$Roster", "takenFrom", "[I", true)
  | 5 => ("WingDesk$Roster", "queue", "[I", true)
  | _ => ("WingDesk$Roster", "queued", "I", false)
def tyX3 : Nat → FieldType := fun k => match k with
  | 0 => .object "WingDesk$Show"
  | 1 => .array .int
  | 2 => .array .int
  | 3 => .array .int
  | 4 => .array .int
  | 5 => .array .int
  | _ => .int
abbrev wsX30 : List Cond := u_ws RX3 TX3 7
theorem nmX3 : ∀ a, a < 7 → ∀ b, b < 7 → a ≠ b → (TX3 a).2.1 ≠ (TX3 b).2.1 := by decide +kernel
theorem tyX3_ok : ∀ k, k < 7 → parseFieldDescriptor (TX3 k).2.2.1 = some (tyX3 k) := by decide +kernel
abbrev cX3_init : ByteArray := prog_5_method_1_code
def yX3_init : MethodName := ⟨RX3, "<init>", "(LWingDesk$Show;)V"⟩
abbrev cX3_fewest : ByteArray := prog_5_method_2_code
def yX3_fewest : MethodName := ⟨RX3, "fewest", "()I"⟩
abbrev cX3_sendOn : ByteArray := prog_5_method_3_code
def yX3_sendOn : MethodName := ⟨RX3, "sendOn", "(I)I"⟩
abbrev cX3_search : ByteArray := prog_5_method_4_code
def yX3_search : MethodName := ⟨RX3, "search", "(I)I"⟩
abbrev cX3_enqueueThoseGoingTo : ByteArray := prog_5_method_5_code
def yX3_enqueueThoseGoingTo : MethodName := ⟨RX3, "enqueueThoseGoingTo", "(I)V"⟩
abbrev cX3_enqueue : ByteArray := prog_5_method_6_code
def yX3_enqueue : MethodName := ⟨RX3, "enqueue", "(II)V"⟩
abbrev cX3_settle : ByteArray := prog_5_method_7_code
def yX3_settle : MethodName := ⟨RX3, "settle", "(II)V"⟩
abbrev cX3_goingBetween : ByteArray := prog_5_method_8_code
def yX3_goingBetween : MethodName := ⟨RX3, "goingBetween", "(II)I"⟩
abbrev cX3_noteGoing : ByteArray := prog_5_method_9_code
def yX3_noteGoing : MethodName := ⟨RX3, "noteGoing", "(III)V"⟩
def RX4 : String := "WingDesk$Show"
def TX4 : u_T := fun k => match k with
  | 0 => ("WingDesk$Show", "hows", "[I", true)
  | 1 => ("WingDesk$Show", "froms", "[I", true)
  | 2 => ("WingDesk$Show", "ups", "[I", true)
  | 3 => ("WingDesk$Show", "hands", "[I", true)
  | 4 => ("WingDesk$Show", "ways", "[I", true)
  | _ => ("WingDesk$Show", "count", "I", false)
def tyX4 : Nat → FieldType := fun k => match k with
  | 0 => .array .int
  | 1 => .array .int
  | 2 => .array .int
  | 3 => .array .int
  | 4 => .array .int
  | _ => .int
abbrev wsX40 : List Cond := u_ws RX4 TX4 6
theorem nmX4 : ∀ a, a < 6 → ∀ b, b < 6 → a ≠ b → (TX4 a).2.1 ≠ (TX4 b).2.1 := by decide +kernel
theorem tyX4_ok : ∀ k, k < 6 → parseFieldDescriptor (TX4 k).2.2.1 = some (tyX4 k) := by decide +kernel
abbrev cX4_init : ByteArray := prog_6_method_1_code
def yX4_init : MethodName := ⟨RX4, "<init>", "()V"⟩
abbrev cX4_isFull : ByteArray := prog_6_method_2_code
def yX4_isFull : MethodName := ⟨RX4, "isFull", "()Z"⟩
abbrev cX4_has : ByteArray := prog_6_method_3_code
def yX4_has : MethodName := ⟨RX4, "has", "(I)Z"⟩
abbrev cX4_add : ByteArray := prog_6_method_4_code
def yX4_add : MethodName := ⟨RX4, "add", "(IIII)I"⟩
abbrev cX4_dropLatest : ByteArray := prog_6_method_5_code
def yX4_dropLatest : MethodName := ⟨RX4, "dropLatest", "()I"⟩
abbrev cX4_lookBefore : ByteArray := prog_6_method_6_code
def yX4_lookBefore : MethodName := ⟨RX4, "lookBefore", "(I)I"⟩
abbrev cX4_lookAfter : ByteArray := prog_6_method_7_code
def yX4_lookAfter : MethodName := ⟨RX4, "lookAfter", "(I)I"⟩
abbrev cX4_handsOf : ByteArray := prog_6_method_8_code
def yX4_handsOf : MethodName := ⟨RX4, "handsOf", "(I)I"⟩
abbrev cX4_lengthOf : ByteArray := prog_6_method_9_code
def yX4_lengthOf : MethodName := ⟨RX4, "lengthOf", "(I)I"⟩
abbrev cX4_setWay : ByteArray := prog_6_method_10_code
def yX4_setWay : MethodName := ⟨RX4, "setWay", "(III)I"⟩
abbrev cX4_wayBetween : ByteArray := prog_6_method_11_code
def yX4_wayBetween : MethodName := ⟨RX4, "wayBetween", "(II)I"⟩
abbrev cX4_mayGo : ByteArray := prog_6_method_12_code
def yX4_mayGo : MethodName := ⟨RX4, "mayGo", "(II)Z"⟩
def RX5 : String := "WingDesk$Wardrobe"
def TX5 : u_T := fun k => match k with
  | 0 => ("WingDesk$Wardrobe", "facts", "[I", true)
  | 1 => ("WingDesk$Wardrobe", "count", "I", false)
  | _ => ("WingDesk$Wardrobe", "hour", "I", false)
def tyX5 : Nat → FieldType := fun k => match k with
  | 0 => .array .int
  | 1 => .int
  | _ => .int
abbrev wsX50 : List Cond := u_ws RX5 TX5 3
theorem nmX5 : ∀ a, a < 3 → ∀ b, b < 3 → a ≠ b → (TX5 a).2.1 ≠ (TX5 b).2.1 := by decide +kernel
theorem tyX5_ok : ∀ k, k < 3 → parseFieldDescriptor (TX5 k).2.2.1 = some (tyX5 k) := by decide +kernel
abbrev cX5_init : ByteArray := prog_7_method_1_code
def yX5_init : MethodName := ⟨RX5, "<init>", "()V"⟩
abbrev cX5_isFull : ByteArray := prog_7_method_2_code
def yX5_isFull : MethodName := ⟨RX5, "isFull", "()Z"⟩
abbrev cX5_has : ByteArray := prog_7_method_3_code
def yX5_has : MethodName := ⟨RX5, "has", "(I)Z"⟩
abbrev cX5_fact : ByteArray := prog_7_method_4_code
def yX5_fact : MethodName := ⟨RX5, "fact", "(II)I"⟩
abbrev cX5_setFact : ByteArray := prog_7_method_5_code
def yX5_setFact : MethodName := ⟨RX5, "setFact", "(III)V"⟩
abbrev cX5_add : ByteArray := prog_7_method_6_code
def yX5_add : MethodName := ⟨RX5, "add", "(III)I"⟩
abbrev cX5_place : ByteArray := prog_7_method_7_code
def yX5_place : MethodName := ⟨RX5, "place", "(III)V"⟩
abbrev cX5_haveOnePlace : ByteArray := prog_7_method_8_code
def yX5_haveOnePlace : MethodName := ⟨RX5, "haveOnePlace", "(II)Z"⟩
abbrev cX5_areAlike : ByteArray := prog_7_method_9_code
def yX5_areAlike : MethodName := ⟨RX5, "areAlike", "(II)Z"⟩
abbrev cX5_sizesAway : ByteArray := prog_7_method_10_code
def yX5_sizesAway : MethodName := ⟨RX5, "sizesAway", "(II)I"⟩
abbrev cX5_countInWash : ByteArray := prog_7_method_11_code
def yX5_countInWash : MethodName := ⟨RX5, "countInWash", "()I"⟩
abbrev cX5_soak : ByteArray := prog_7_method_12_code
def yX5_soak : MethodName := ⟨RX5, "soak", "(I)I"⟩
abbrev cX5_passHours : ByteArray := prog_7_method_13_code
def yX5_passHours : MethodName := ⟨RX5, "passHours", "(I)I"⟩
abbrev cX5_dries : ByteArray := prog_7_method_14_code
def yX5_dries : MethodName := ⟨RX5, "dries", "(I)Z"⟩
def RX6 : String := "WingDesk"
def TX6 : u_T := fun k => match k with
  | 0 => ("WingDesk", "wardrobe", "LWingDesk$Wardrobe;", true)
  | 1 => ("WingDesk", "looks", "LWingDesk$Looks;", true)
  | 2 => ("WingDesk", "change", "LWingDesk$Change;", true)
  | 3 => ("WingDesk", "show", "LWingDesk$Show;", true)
  | 4 => ("WingDesk", "roster", "LWingDesk$Roster;", true)
  | 5 => ("WingDesk", "body", "LWingDesk$Body;", true)
  | 6 => ("WingDesk", "waiting", "[I", true)
  | 7 => ("WingDesk", "findings", "[I", true)
  | 8 => ("WingDesk", "waitingCount", "I", false)
  | _ => ("WingDesk", "mostThick", "I", false)
def tyX6 : Nat → FieldType := fun k => match k with
  | 0 => .object "WingDesk$Wardrobe"
  | 1 => .object "WingDesk$Looks"
  | 2 => .object "WingDesk$Change"
  | 3 => .object "WingDesk$Show"
  | 4 => .object "WingDesk$Roster"
  | 5 => .object "WingDesk$Body"
  | 6 => .array .int
  | 7 => .array .int
  | 8 => .int
  | _ => .int
abbrev wsX60 : List Cond := u_ws RX6 TX6 10
theorem nmX6 : ∀ a, a < 10 → ∀ b, b < 10 → a ≠ b → (TX6 a).2.1 ≠ (TX6 b).2.1 := by decide +kernel
theorem tyX6_ok : ∀ k, k < 10 → parseFieldDescriptor (TX6 k).2.2.1 = some (tyX6 k) := by decide +kernel
abbrev cX6_init : ByteArray := prog_1_method_1_code
def yX6_init : MethodName := ⟨RX6, "<init>", "()V"⟩
abbrev cX6_piece : ByteArray := prog_1_method_2_code
def yX6_piece : MethodName := ⟨RX6, "piece", "(III)I"⟩
abbrev cX6_as : ByteArray := prog_1_method_3_code
def yX6_as : MethodName := ⟨RX6, "as", "(II)I"⟩
abbrev cX6_about : ByteArray := prog_1_method_4_code
def yX6_about : MethodName := ⟨RX6, "about", "(II)I"⟩
abbrev cX6_wear : ByteArray := prog_1_method_5_code
def yX6_wear : MethodName := ⟨RX6, "wear", "(II)I"⟩
abbrev cX6_bare : ByteArray := prog_1_method_6_code
def yX6_bare : MethodName := ⟨RX6, "bare", "(I)I"⟩
abbrev cX6_look : ByteArray := prog_1_method_7_code
def yX6_look : MethodName := ⟨RX6, "look", "(II)I"⟩
abbrev cX6_limit : ByteArray := prog_1_method_8_code
def yX6_limit : MethodName := ⟨RX6, "limit", "(I)I"⟩
abbrev cX6_allowed : ByteArray := prog_1_method_9_code
def yX6_allowed : MethodName := ⟨RX6, "allowed", "(III)I"⟩
abbrev cX6_told : ByteArray := prog_1_method_10_code
def yX6_told : MethodName := ⟨RX6, "told", "(IIII)I"⟩
abbrev cX6_seconds : ByteArray := prog_1_method_11_code
def yX6_seconds : MethodName := ⟨RX6, "seconds", "(IIII)I"⟩
abbrev cX6_best : ByteArray := prog_1_method_12_code
def yX6_best : MethodName := ⟨RX6, "best", "(IIII)I"⟩
abbrev cX6_shift : ByteArray := prog_1_method_13_code
def yX6_shift : MethodName := ⟨RX6, "shift", "(IIII)I"⟩
abbrev cX6_less : ByteArray := prog_1_method_14_code
def yX6_less : MethodName := ⟨RX6, "less", "()I"⟩
abbrev cX6_way : ByteArray := prog_1_method_15_code
def yX6_way : MethodName := ⟨RX6, "way", "(III)I"⟩
abbrev cX6_fits : ByteArray := prog_1_method_16_code
def yX6_fits : MethodName := ⟨RX6, "fits", "(I)I"⟩
abbrev cX6_dressers : ByteArray := prog_1_method_17_code
def yX6_dressers : MethodName := ⟨RX6, "dressers", "()I"⟩
abbrev cX6_worn : ByteArray := prog_1_method_18_code
def yX6_worn : MethodName := ⟨RX6, "worn", "(I)I"⟩
abbrev cX6_wash : ByteArray := prog_1_method_19_code
def yX6_wash : MethodName := ⟨RX6, "wash", "(I)I"⟩
abbrev cX6_hours : ByteArray := prog_1_method_20_code
def yX6_hours : MethodName := ⟨RX6, "hours", "(I)I"⟩
abbrev cX6_tonight : ByteArray := prog_1_method_21_code
def yX6_tonight : MethodName := ⟨RX6, "tonight", "(II)I"⟩
abbrev cX6_tell : ByteArray := prog_1_method_22_code
def yX6_tell : MethodName := ⟨RX6, "tell", "(I)I"⟩
abbrev cX6_check : ByteArray := prog_1_method_23_code
def yX6_check : MethodName := ⟨RX6, "check", "(III)I"⟩
abbrev cX6_count : ByteArray := prog_1_method_24_code
def yX6_count : MethodName := ⟨RX6, "count", "(I)I"⟩
abbrev cX6_found : ByteArray := prog_1_method_25_code
def yX6_found : MethodName := ⟨RX6, "found", "(I)I"⟩
abbrev cX6_finding : ByteArray := prog_1_method_26_code
def yX6_finding : MethodName := ⟨RX6, "finding", "(I)I"⟩
abbrev cX6_isWithin : ByteArray := prog_1_method_27_code
def yX6_isWithin : MethodName := ⟨RX6, "isWithin", "(III)Z"⟩
abbrev cX6_hasBit : ByteArray := prog_1_method_28_code
def yX6_hasBit : MethodName := ⟨RX6, "hasBit", "(II)Z"⟩
abbrev cX6_isPieceTold : ByteArray := prog_1_method_29_code
def yX6_isPieceTold : MethodName := ⟨RX6, "isPieceTold", "(III)Z"⟩
abbrev cX6_nameIn : ByteArray := prog_1_method_30_code
def yX6_nameIn : MethodName := ⟨RX6, "nameIn", "(I)I"⟩
abbrev cX6_placeIn : ByteArray := prog_1_method_31_code
def yX6_placeIn : MethodName := ⟨RX6, "placeIn", "(I)I"⟩
abbrev cX6_thickIn : ByteArray := prog_1_method_32_code
def yX6_thickIn : MethodName := ⟨RX6, "thickIn", "(I)I"⟩
abbrev cX6_kindIn : ByteArray := prog_1_method_33_code
def yX6_kindIn : MethodName := ⟨RX6, "kindIn", "(I)I"⟩
abbrev cX6_onIn : ByteArray := prog_1_method_34_code
def yX6_onIn : MethodName := ⟨RX6, "onIn", "(I)I"⟩
abbrev cX6_offIn : ByteArray := prog_1_method_35_code
def yX6_offIn : MethodName := ⟨RX6, "offIn", "(I)I"⟩
abbrev cX6_sizeIn : ByteArray := prog_1_method_36_code
def yX6_sizeIn : MethodName := ⟨RX6, "sizeIn", "(I)I"⟩
abbrev cX6_spanIn : ByteArray := prog_1_method_37_code
def yX6_spanIn : MethodName := ⟨RX6, "spanIn", "(I)I"⟩
abbrev cX6_isShiftTold : ByteArray := prog_1_method_38_code
def yX6_isShiftTold : MethodName := ⟨RX6, "isShiftTold", "(I)Z"⟩
abbrev cX6_beforeIn : ByteArray := prog_1_method_39_code
def yX6_beforeIn : MethodName := ⟨RX6, "beforeIn", "(I)I"⟩
abbrev cX6_afterIn : ByteArray := prog_1_method_40_code
def yX6_afterIn : MethodName := ⟨RX6, "afterIn", "(I)I"⟩
abbrev cX6_doorIn : ByteArray := prog_1_method_41_code
def yX6_doorIn : MethodName := ⟨RX6, "doorIn", "(I)I"⟩
abbrev cX6_isChange : ByteArray := prog_1_method_42_code
def yX6_isChange : MethodName := ⟨RX6, "isChange", "(III)Z"⟩
abbrev cX6_isAllowed : ByteArray := prog_1_method_43_code
def yX6_isAllowed : MethodName := ⟨RX6, "isAllowed", "(III)Z"⟩
abbrev cX6_costTonight : ByteArray := prog_1_method_44_code
def yX6_costTonight : MethodName := ⟨RX6, "costTonight", "(III)I"⟩
abbrev cX6_countAheadForSwap : ByteArray := prog_1_method_45_code
def yX6_countAheadForSwap : MethodName := ⟨RX6, "countAheadForSwap", "(III)I"⟩
abbrev cX6_countSpares : ByteArray := prog_1_method_46_code
def yX6_countSpares : MethodName := ⟨RX6, "countSpares", "(II)I"⟩
abbrev cX6_dressForChange : ByteArray := prog_1_method_47_code
def yX6_dressForChange : MethodName := ⟨RX6, "dressForChange", "(III)V"⟩
abbrev cX6_isJustWorn : ByteArray := prog_1_method_48_code
def yX6_isJustWorn : MethodName := ⟨RX6, "isJustWorn", "(I)Z"⟩
def RX7 : String := "WingDeskModel"
def TX7 : u_T := fun k => match k with
  | 0 => ("WingDeskModel", "pieces", "I", false)
  | 1 => ("WingDeskModel", "kind", "[I", true)
  | 2 => ("WingDeskModel", "place", "[I", true)
  | 3 => ("WingDeskModel", "thick", "[I", true)
  | 4 => ("WingDeskModel", "on", "[I", true)
  | 5 => ("WingDeskModel", "off", "[I", true)
  | 6 => ("WingDeskModel", "name", "[I", true)
  | 7 => ("WingDeskModel", "size", "[I", true)
  | 8 => ("WingDeskModel", "span", "[I", true)
  | 9 => ("WingDeskModel", "where", "[I", true)
  | 10 => ("WingDeskModel", "until", "[I", true)
  | 11 => ("WingDeskModel", "lookSize", "[I", true)
  | 12 => ("WingDeskModel", "look", "[I", true)
  | 13 => ("WingDeskModel", "limit", "I", false)
  | 14 => ("WingDeskModel", "shifts", "I", false)
  | 15 => ("WingDeskModel", "shiftA", "[I", true)
  | 16 => ("WingDeskModel", "shiftB", "[I", true)
  | 17 => ("WingDeskModel", "door", "[I", true)
  | 18 => ("WingDeskModel", "from", "[I", true)
  | 19 => ("WingDeskModel", "upTo", "[I", true)
  | 20 => ("WingDeskModel", "hands", "[I", true)
  | 21 => ("WingDeskModel", "way", "[I", true)
  | 22 => ("WingDeskModel", "hour", "I", false)
  | 23 => ("WingDeskModel", "waits", "I", false)
  | 24 => ("WingDeskModel", "waiting", "[I", true)
  | 25 => ("WingDeskModel", "found", "[I", true)
  | 26 => ("WingDeskModel", "offSet", "I", false)
  | 27 => ("WingDeskModel", "onSet", "I", false)
  | 28 => ("WingDeskModel", "bestSet", "I", false)
  | 29 => ("WingDeskModel", "shiftOf", "[I", true)
  | 30 => ("WingDeskModel", "units", "I", false)
  | 31 => ("WingDeskModel", "cameFrom", "[I", true)
  | 32 => ("WingDeskModel", "isMet", "[Z", true)
  | 33 => ("WingDeskModel", "trail", "[I", true)
  | 34 => ("WingDeskModel", "tried", "[I", true)
  | 35 => ("WingDeskModel", "body", "[I", true)
  | _ => ("WingDeskModel", "bodySize", "I", false)
def tyX7 : Nat → FieldType := fun k => match k with
  | 0 => .int
  | 1 => .array .int
  | 2 => .array .int
  | 3 => .array .int
  | 4 => .array .int
  | 5 => .array .int
  | 6 => .array .int
  | 7 => .array .int
  | 8 => .array .int
  | 9 => .array .int
  | 10 => .array .int
  | 11 => .array .int
  | 12 => .array .int
  | 13 => .int
  | 14 => .int
  | 15 => .array .int
  | 16 => .array .int
  | 17 => .array .int
  | 18 => .array .int
  | 19 => .array .int
  | 20 => .array .int
  | 21 => .array .int
  | 22 => .int
  | 23 => .int
  | 24 => .array .int
  | 25 => .array .int
  | 26 => .int
  | 27 => .int
  | 28 => .int
  | 29 => .array .int
  | 30 => .int
  | 31 => .array .int
  | 32 => .array .boolean
  | 33 => .array .int
  | 34 => .array .int
  | 35 => .array .int
  | _ => .int
abbrev wsX70 : List Cond := u_ws RX7 TX7 37
theorem nmX7 : ∀ a, a < 37 → ∀ b, b < 37 → a ≠ b → (TX7 a).2.1 ≠ (TX7 b).2.1 := by decide +kernel
theorem tyX7_ok : ∀ k, k < 37 → parseFieldDescriptor (TX7 k).2.2.1 = some (tyX7 k) := by decide +kernel
abbrev cX7_init : ByteArray := prog_9_method_1_code
def yX7_init : MethodName := ⟨RX7, "<init>", "()V"⟩
abbrev cX7_finding : ByteArray := prog_9_method_2_code
def yX7_finding : MethodName := ⟨RX7, "finding", "(I)I"⟩
abbrev cX7_isIn : ByteArray := prog_9_method_3_code
def yX7_isIn : MethodName := ⟨RX7, "isIn", "(III)Z"⟩
abbrev cX7_has : ByteArray := prog_9_method_4_code
def yX7_has : MethodName := ⟨RX7, "has", "(II)Z"⟩
abbrev cX7_isPiece : ByteArray := prog_9_method_5_code
def yX7_isPiece : MethodName := ⟨RX7, "isPiece", "(I)Z"⟩
abbrev cX7_isLook : ByteArray := prog_9_method_6_code
def yX7_isLook : MethodName := ⟨RX7, "isLook", "(I)Z"⟩
abbrev cX7_piece : ByteArray := prog_9_method_7_code
def yX7_piece : MethodName := ⟨RX7, "piece", "(III)I"⟩
abbrev cX7_as : ByteArray := prog_9_method_8_code
def yX7_as : MethodName := ⟨RX7, "as", "(II)I"⟩
abbrev cX7_about : ByteArray := prog_9_method_9_code
def yX7_about : MethodName := ⟨RX7, "about", "(II)I"⟩
abbrev cX7_rowOf : ByteArray := prog_9_method_10_code
def yX7_rowOf : MethodName := ⟨RX7, "rowOf", "(II)I"⟩
abbrev cX7_wear : ByteArray := prog_9_method_11_code
def yX7_wear : MethodName := ⟨RX7, "wear", "(II)I"⟩
abbrev cX7_bare : ByteArray := prog_9_method_12_code
def yX7_bare : MethodName := ⟨RX7, "bare", "(I)I"⟩
abbrev cX7_look : ByteArray := prog_9_method_13_code
def yX7_look : MethodName := ⟨RX7, "look", "(II)I"⟩
abbrev cX7_limit : ByteArray := prog_9_method_14_code
def yX7_limit : MethodName := ⟨RX7, "limit", "(I)I"⟩
abbrev cX7_isChange : ByteArray := prog_9_method_15_code
def yX7_isChange : MethodName := ⟨RX7, "isChange", "(III)Z"⟩
abbrev cX7_isAllowed : ByteArray := prog_9_method_16_code
def yX7_isAllowed : MethodName := ⟨RX7, "isAllowed", "(III)Z"⟩
abbrev cX7_thickAt : ByteArray := prog_9_method_17_code
def yX7_thickAt : MethodName := ⟨RX7, "thickAt", "(IIII)I"⟩
abbrev cX7_allowed : ByteArray := prog_9_method_18_code
def yX7_allowed : MethodName := ⟨RX7, "allowed", "(III)I"⟩
abbrev cX7_isOff : ByteArray := prog_9_method_19_code
def yX7_isOff : MethodName := ⟨RX7, "isOff", "(II)Z"⟩
abbrev cX7_mustOff : ByteArray := prog_9_method_20_code
def yX7_mustOff : MethodName := ⟨RX7, "mustOff", "(IIII)Z"⟩
abbrev cX7_tell : ByteArray := prog_9_method_21_code
def yX7_tell : MethodName := ⟨RX7, "tell", "(III)V"⟩
abbrev cX7_countOf : ByteArray := prog_9_method_22_code
def yX7_countOf : MethodName := ⟨RX7, "countOf", "(I)I"⟩
abbrev cX7_told : ByteArray := prog_9_method_23_code
def yX7_told : MethodName := ⟨RX7, "told", "(IIII)I"⟩
abbrev cX7_secondsOf : ByteArray := prog_9_method_24_code
def yX7_secondsOf : MethodName := ⟨RX7, "secondsOf", "(IIII)I"⟩
abbrev cX7_seconds : ByteArray := prog_9_method_25_code
def yX7_seconds : MethodName := ⟨RX7, "seconds", "(IIII)I"⟩
abbrev cX7_bestOf : ByteArray := prog_9_method_26_code
def yX7_bestOf : MethodName := ⟨RX7, "bestOf", "(III)I"⟩
abbrev cX7_best : ByteArray := prog_9_method_27_code
def yX7_best : MethodName := ⟨RX7, "best", "(IIII)I"⟩
abbrev cX7_isDoor : ByteArray := prog_9_method_28_code
def yX7_isDoor : MethodName := ⟨RX7, "isDoor", "(I)Z"⟩
abbrev cX7_shift : ByteArray := prog_9_method_29_code
def yX7_shift : MethodName := ⟨RX7, "shift", "(IIII)I"⟩
abbrev cX7_less : ByteArray := prog_9_method_30_code
def yX7_less : MethodName := ⟨RX7, "less", "()I"⟩
abbrev cX7_way : ByteArray := prog_9_method_31_code
def yX7_way : MethodName := ⟨RX7, "way", "(III)I"⟩
abbrev cX7_fits : ByteArray := prog_9_method_32_code
def yX7_fits : MethodName := ⟨RX7, "fits", "(I)I"⟩
abbrev cX7_canGo : ByteArray := prog_9_method_33_code
def yX7_canGo : MethodName := ⟨RX7, "canGo", "(II)Z"⟩
abbrev cX7_finds : ByteArray := prog_9_method_34_code
def yX7_finds : MethodName := ⟨RX7, "finds", "(I)Z"⟩
abbrev cX7_dressers : ByteArray := prog_9_method_35_code
def yX7_dressers : MethodName := ⟨RX7, "dressers", "()I"⟩
abbrev cX7_worn : ByteArray := prog_9_method_36_code
def yX7_worn : MethodName := ⟨RX7, "worn", "(I)I"⟩
abbrev cX7_washing : ByteArray := prog_9_method_37_code
def yX7_washing : MethodName := ⟨RX7, "washing", "()I"⟩
abbrev cX7_wash : ByteArray := prog_9_method_38_code
def yX7_wash : MethodName := ⟨RX7, "wash", "(I)I"⟩
abbrev cX7_hours : ByteArray := prog_9_method_39_code
def yX7_hours : MethodName := ⟨RX7, "hours", "(I)I"⟩
abbrev cX7_away : ByteArray := prog_9_method_40_code
def yX7_away : MethodName := ⟨RX7, "away", "(II)I"⟩
abbrev cX7_isInLook : ByteArray := prog_9_method_41_code
def yX7_isInLook : MethodName := ⟨RX7, "isInLook", "(I)Z"⟩
abbrev cX7_isFor : ByteArray := prog_9_method_42_code
def yX7_isFor : MethodName := ⟨RX7, "isFor", "(III)Z"⟩
abbrev cX7_tonight : ByteArray := prog_9_method_43_code
def yX7_tonight : MethodName := ⟨RX7, "tonight", "(II)I"⟩
abbrev cX7_tell_ : ByteArray := prog_9_method_44_code
def yX7_tell_ : MethodName := ⟨RX7, "tell", "(I)I"⟩
abbrev cX7_bodyPlace : ByteArray := prog_9_method_45_code
def yX7_bodyPlace : MethodName := ⟨RX7, "bodyPlace", "(I)I"⟩
abbrev cX7_handles : ByteArray := prog_9_method_46_code
def yX7_handles : MethodName := ⟨RX7, "handles", "(I)Z"⟩
abbrev cX7_isWorn : ByteArray := prog_9_method_47_code
def yX7_isWorn : MethodName := ⟨RX7, "isWorn", "(I)Z"⟩
abbrev cX7_check : ByteArray := prog_9_method_48_code
def yX7_check : MethodName := ⟨RX7, "check", "(III)I"⟩
abbrev cX7_count : ByteArray := prog_9_method_49_code
def yX7_count : MethodName := ⟨RX7, "count", "(I)I"⟩
abbrev cX7_found : ByteArray := prog_9_method_50_code
def yX7_found : MethodName := ⟨RX7, "found", "(I)I"⟩
def RJ6 : String := "java/lang/Integer"
def TJ6 : u_T := fun k => match k with
  | _ => ("", "", "", false)
def tyJ6 : Nat → FieldType := fun k => match k with
  | _ => .int
abbrev wsJ60 : List Cond := u_ws RJ6 TJ6 0
theorem nmJ6 : ∀ a, a < 0 → ∀ b, b < 0 → a ≠ b → (TJ6 a).2.1 ≠ (TJ6 b).2.1 := by decide +kernel
theorem tyJ6_ok : ∀ k, k < 0 → parseFieldDescriptor (TJ6 k).2.2.1 = some (tyJ6 k) := by decide +kernel
abbrev cJ6_bitCount_0f7a4 : ByteArray := prog_10_method_49_code
def yJ6_bitCount_0f7a4 : MethodName := ⟨RJ6, "bitCount", "(I)I"⟩
def RJ9 : String := "java/lang/Math"
def TJ9 : u_T := fun k => match k with
  | _ => ("", "", "", false)
def tyJ9 : Nat → FieldType := fun k => match k with
  | _ => .int
abbrev wsJ90 : List Cond := u_ws RJ9 TJ9 0
theorem nmJ9 : ∀ a, a < 0 → ∀ b, b < 0 → a ≠ b → (TJ9 a).2.1 ≠ (TJ9 b).2.1 := by decide +kernel
theorem tyJ9_ok : ∀ k, k < 0 → parseFieldDescriptor (TJ9 k).2.2.1 = some (tyJ9 k) := by decide +kernel
abbrev cJ9_max_7cf53 : ByteArray := prog_11_method_65_code
def yJ9_max_7cf53 : MethodName := ⟨RJ9, "max", "(II)I"⟩
abbrev cJ9_min_7cf53 : ByteArray := prog_11_method_69_code
def yJ9_min_7cf53 : MethodName := ⟨RJ9, "min", "(II)I"⟩
def RJ7 : String := "java/util/Arrays"
def TJ7 : u_T := fun k => match k with
  | _ => ("", "", "", false)
def tyJ7 : Nat → FieldType := fun k => match k with
  | _ => .int
abbrev wsJ70 : List Cond := u_ws RJ7 TJ7 0
theorem nmJ7 : ∀ a, a < 0 → ∀ b, b < 0 → a ≠ b → (TJ7 a).2.1 ≠ (TJ7 b).2.1 := by decide +kernel
theorem tyJ7_ok : ∀ k, k < 0 → parseFieldDescriptor (TJ7 k).2.2.1 = some (tyJ7 k) := by decide +kernel
abbrev cJ7_fill_53178 : ByteArray := prog_12_method_103_code
def yJ7_fill_53178 : MethodName := ⟨RJ7, "fill", "([II)V"⟩
def RL : String := "WingDeskLaw"
abbrev cL_law : ByteArray := code
def yL_law : MethodName := ⟨RL, "law", "([I)Z"⟩
abbrev vwCl : List vw_C := [(RX0, TX0, 3), (RX1, TX1, 18), (RX2, TX2, 3), (RX3, TX3, 7), (RX4, TX4, 6), (RX5, TX5, 3), (RX6, TX6, 10), (RX7, TX7, 37)]
end
section
def gtbl : List Cond := lw_tbl.filter goodWord
theorem gtbl_of {w : Cond} (h : w ∈ lw_tbl) (hg : goodWord w = true) : w ∈ gtbl := List.mem_filter.mpr ⟨h, hg⟩
theorem tb1 {w : Cond} (h : w ∈ tables_1_1) : w ∈ lw_tbl := List.mem_append_right _ (List.mem_append_left _ h)
theorem tb2 {w : Cond} (h : w ∈ tables_1_2) : w ∈ lw_tbl := List.mem_append_right _ (List.mem_append_right _ (List.mem_append_left _ h))
theorem tb3 {w : Cond} (h : w ∈ tables_1_3) : w ∈ lw_tbl := List.mem_append_right _ (List.mem_append_right _ (List.mem_append_right _ (List.mem_append_left _ h)))
theorem tb4 {w : Cond} (h : w ∈ tables_1_4) : w ∈ lw_tbl := List.mem_append_right _ (List.mem_append_right _ (List.mem_append_right _ (List.mem_append_right _ (List.mem_append_left _ h))))
theorem tb5 {w : Cond} (h : w ∈ tables_1_5) : w ∈ lw_tbl := List.mem_append_right _ (List.mem_append_right _ (List.mem_append_right _ (List.mem_append_right _ (List.mem_append_right _ h))))
theorem tbp {w : Cond} (h : w ∈ k2_sels lw_privs) : w ∈ lw_tbl := List.mem_append_left _ h
theorem wi_L : Cond.initialized RL ∈ gtbl := gtbl_of (tb1 (List.mem_of_getElem? (i := 0) rfl)) rfl
theorem wi_X6 : Cond.initialized RX6 ∈ gtbl := gtbl_of (tb1 (List.mem_of_getElem? (i := 1) rfl)) rfl
theorem wi_X5 : Cond.initialized RX5 ∈ gtbl := gtbl_of (tb1 (List.mem_of_getElem? (i := 2) rfl)) rfl
theorem wi_X2 : Cond.initialized RX2 ∈ gtbl := gtbl_of (tb1 (List.mem_of_getElem? (i := 3) rfl)) rfl
theorem wi_X1 : Cond.initialized RX1 ∈ gtbl := gtbl_of (tb1 (List.mem_of_getElem? (i := 4) rfl)) rfl
theorem wi_X4 : Cond.initialized RX4 ∈ gtbl := gtbl_of (tb1 (List.mem_of_getElem? (i := 5) rfl)) rfl
theorem wi_X3 : Cond.initialized RX3 ∈ gtbl := gtbl_of (tb1 (List.mem_of_getElem? (i := 6) rfl)) rfl
theorem wi_X0 : Cond.initialized RX0 ∈ gtbl := gtbl_of (tb1 (List.mem_of_getElem? (i := 7) rfl)) rfl
theorem wi_X7 : Cond.initialized RX7 ∈ gtbl := gtbl_of (tb1 (List.mem_of_getElem? (i := 8) rfl)) rfl
theorem wi_J9 : Cond.initialized RJ9 ∈ gtbl := gtbl_of (tb1 (List.mem_of_getElem? (i := 9) rfl)) rfl
theorem wi_J6 : Cond.initialized RJ6 ∈ gtbl := gtbl_of (tb1 (List.mem_of_getElem? (i := 10) rfl)) rfl
theorem wi_J7 : Cond.initialized RJ7 ∈ gtbl := gtbl_of (tb1 (List.mem_of_getElem? (i := 11) rfl)) rfl
theorem wf_X5_9 : Cond.fieldLink RX5 9 "WingDesk$Wardrobe" "facts" "[I" ∈ gtbl := gtbl_of (tb1 (List.mem_of_getElem? (i := 26) rfl)) rfl
theorem wf_X5_15 : Cond.fieldLink RX5 15 "WingDesk$Wardrobe" "count" "I" ∈ gtbl := gtbl_of (tb1 (List.mem_of_getElem? (i := 27) rfl)) rfl
theorem wf_X5_68 : Cond.fieldLink RX5 68 "WingDesk$Wardrobe" "hour" "I" ∈ gtbl := gtbl_of (tb1 (List.mem_of_getElem? (i := 29) rfl)) rfl
theorem wf_X2_9 : Cond.fieldLink RX2 9 "WingDesk$Looks" "rows" "[I" ∈ gtbl := gtbl_of (tb1 (List.mem_of_getElem? (i := 45) rfl)) rfl
theorem wf_X2_15 : Cond.fieldLink RX2 15 "WingDesk$Looks" "sizes" "[I" ∈ gtbl := gtbl_of (tb1 (List.mem_of_getElem? (i := 46) rfl)) rfl
theorem wf_X2_18 : Cond.fieldLink RX2 18 "WingDesk$Looks" "looksWith" "[I" ∈ gtbl := gtbl_of (tb1 (List.mem_of_getElem? (i := 47) rfl)) rfl
theorem wf_X1_33 : Cond.fieldLink RX1 33 "WingDesk$Change" "wardrobe" "LWingDesk$Wardrobe;" ∈ gtbl := gtbl_of (tb1 (List.mem_of_getElem? (i := 61) rfl)) rfl
theorem wf_X1_37 : Cond.fieldLink RX1 37 "WingDesk$Change" "looks" "LWingDesk$Looks;" ∈ gtbl := gtbl_of (tb1 (List.mem_of_getElem? (i := 62) rfl)) rfl
theorem wf_X1_53 : Cond.fieldLink RX1 53 "WingDesk$Change" "sizeA" "I" ∈ gtbl := gtbl_of (tb1 (List.mem_of_getElem? (i := 63) rfl)) rfl
theorem wf_X1_57 : Cond.fieldLink RX1 57 "WingDesk$Change" "sizeB" "I" ∈ gtbl := gtbl_of (tb1 (List.mem_of_getElem? (i := 64) rfl)) rfl
theorem wf_X1_63 : Cond.fieldLink RX1 63 "WingDesk$Change" "wigsA" "I" ∈ gtbl := gtbl_of (tb1 (List.mem_of_getElem? (i := 65) rfl)) rfl
theorem wf_X1_66 : Cond.fieldLink RX1 66 "WingDesk$Change" "wigsB" "I" ∈ gtbl := gtbl_of (tb1 (List.mem_of_getElem? (i := 66) rfl)) rfl
theorem wf_X1_69 : Cond.fieldLink RX1 69 "WingDesk$Change" "surelyOff" "I" ∈ gtbl := gtbl_of (tb1 (List.mem_of_getElem? (i := 67) rfl)) rfl
theorem wf_X1_9 : Cond.fieldLink RX1 9 "WingDesk$Change" "inB" "[I" ∈ gtbl := gtbl_of (tb1 (List.mem_of_getElem? (i := 68) rfl)) rfl
theorem wf_X1_15 : Cond.fieldLink RX1 15 "WingDesk$Change" "inA" "[I" ∈ gtbl := gtbl_of (tb1 (List.mem_of_getElem? (i := 69) rfl)) rfl
theorem wf_X1_18 : Cond.fieldLink RX1 18 "WingDesk$Change" "under" "[I" ∈ gtbl := gtbl_of (tb1 (List.mem_of_getElem? (i := 70) rfl)) rfl
theorem wf_X1_21 : Cond.fieldLink RX1 21 "WingDesk$Change" "ahead" "[I" ∈ gtbl := gtbl_of (tb1 (List.mem_of_getElem? (i := 71) rfl)) rfl
theorem wf_X1_24 : Cond.fieldLink RX1 24 "WingDesk$Change" "pile" "[I" ∈ gtbl := gtbl_of (tb1 (List.mem_of_getElem? (i := 72) rfl)) rfl
theorem wf_X1_27 : Cond.fieldLink RX1 27 "WingDesk$Change" "offSeconds" "[I" ∈ gtbl := gtbl_of (tb1 (List.mem_of_getElem? (i := 73) rfl)) rfl
theorem wf_X1_30 : Cond.fieldLink RX1 30 "WingDesk$Change" "onSeconds" "[I" ∈ gtbl := gtbl_of (tb1 (List.mem_of_getElem? (i := 74) rfl)) rfl
theorem wf_X1_108 : Cond.fieldLink RX1 108 "WingDesk$Change" "off" "I" ∈ gtbl := gtbl_of (tb1 (List.mem_of_getElem? (i := 75) rfl)) rfl
theorem wf_X1_114 : Cond.fieldLink RX1 114 "WingDesk$Change" "on" "I" ∈ gtbl := gtbl_of (tb1 (List.mem_of_getElem? (i := 77) rfl)) rfl
theorem wf_X1_143 : Cond.fieldLink RX1 143 "WingDesk$Change" "bestBits" "I" ∈ gtbl := gtbl_of (tb1 (List.mem_of_getElem? (i := 80) rfl)) rfl
theorem wf_X1_146 : Cond.fieldLink RX1 146 "WingDesk$Change" "bestSeconds" "I" ∈ gtbl := gtbl_of (tb1 (List.mem_of_getElem? (i := 82) rfl)) rfl
theorem wf_X4_9 : Cond.fieldLink RX4 9 "WingDesk$Show" "hows" "[I" ∈ gtbl := gtbl_of (tb1 (List.mem_of_getElem? (i := 126) rfl)) rfl
theorem wf_X4_15 : Cond.fieldLink RX4 15 "WingDesk$Show" "froms" "[I" ∈ gtbl := gtbl_of (tb1 (List.mem_of_getElem? (i := 127) rfl)) rfl
theorem wf_X4_18 : Cond.fieldLink RX4 18 "WingDesk$Show" "ups" "[I" ∈ gtbl := gtbl_of (tb1 (List.mem_of_getElem? (i := 128) rfl)) rfl
theorem wf_X4_21 : Cond.fieldLink RX4 21 "WingDesk$Show" "hands" "[I" ∈ gtbl := gtbl_of (tb1 (List.mem_of_getElem? (i := 129) rfl)) rfl
theorem wf_X4_24 : Cond.fieldLink RX4 24 "WingDesk$Show" "ways" "[I" ∈ gtbl := gtbl_of (tb1 (List.mem_of_getElem? (i := 130) rfl)) rfl
theorem wf_X4_27 : Cond.fieldLink RX4 27 "WingDesk$Show" "count" "I" ∈ gtbl := gtbl_of (tb1 (List.mem_of_getElem? (i := 131) rfl)) rfl
theorem wf_X3_27 : Cond.fieldLink RX3 27 "WingDesk$Roster" "show" "LWingDesk$Show;" ∈ gtbl := gtbl_of (tb1 (List.mem_of_getElem? (i := 152) rfl)) rfl
theorem wf_X3_9 : Cond.fieldLink RX3 9 "WingDesk$Roster" "fresh" "[I" ∈ gtbl := gtbl_of (tb1 (List.mem_of_getElem? (i := 153) rfl)) rfl
theorem wf_X3_15 : Cond.fieldLink RX3 15 "WingDesk$Roster" "going" "[I" ∈ gtbl := gtbl_of (tb1 (List.mem_of_getElem? (i := 154) rfl)) rfl
theorem wf_X3_18 : Cond.fieldLink RX3 18 "WingDesk$Roster" "cameFrom" "[I" ∈ gtbl := gtbl_of (tb1 (List.mem_of_getElem? (i := 155) rfl)) rfl
theorem wf_X3_21 : Cond.fieldLink RX3 21 "WingDesk$Roster" "takenFrom" "[I" ∈ gtbl := gtbl_of (tb1 (List.mem_of_getElem? (i := 156) rfl)) rfl
theorem wf_X3_24 : Cond.fieldLink RX3 24 "WingDesk$Roster" "queue" "[I" ∈ gtbl := gtbl_of (tb1 (List.mem_of_getElem? (i := 157) rfl)) rfl
theorem wf_X3_53 : Cond.fieldLink RX3 53 "WingDesk$Roster" "queued" "I" ∈ gtbl := gtbl_of (tb1 (List.mem_of_getElem? (i := 158) rfl)) rfl
theorem wf_X0_15 : Cond.fieldLink RX0 15 "WingDesk$Body" "wardrobe" "LWingDesk$Wardrobe;" ∈ gtbl := gtbl_of (tb1 (List.mem_of_getElem? (i := 180) rfl)) rfl
theorem wf_X0_9 : Cond.fieldLink RX0 9 "WingDesk$Body" "order" "[I" ∈ gtbl := gtbl_of (tb1 (List.mem_of_getElem? (i := 181) rfl)) rfl
theorem wf_X0_25 : Cond.fieldLink RX0 25 "WingDesk$Body" "latest" "I" ∈ gtbl := gtbl_of (tb1 (List.mem_of_getElem? (i := 182) rfl)) rfl
theorem wf_X6_10 : Cond.fieldLink RX6 10 "WingDesk" "wardrobe" "LWingDesk$Wardrobe;" ∈ gtbl := gtbl_of (tb1 (List.mem_of_getElem? (i := 190) rfl)) rfl
theorem wf_X6_19 : Cond.fieldLink RX6 19 "WingDesk" "looks" "LWingDesk$Looks;" ∈ gtbl := gtbl_of (tb1 (List.mem_of_getElem? (i := 191) rfl)) rfl
theorem wf_X6_28 : Cond.fieldLink RX6 28 "WingDesk" "change" "LWingDesk$Change;" ∈ gtbl := gtbl_of (tb1 (List.mem_of_getElem? (i := 192) rfl)) rfl
theorem wf_X6_35 : Cond.fieldLink RX6 35 "WingDesk" "show" "LWingDesk$Show;" ∈ gtbl := gtbl_of (tb1 (List.mem_of_getElem? (i := 193) rfl)) rfl
theorem wf_X6_44 : Cond.fieldLink RX6 44 "WingDesk" "roster" "LWingDesk$Roster;" ∈ gtbl := gtbl_of (tb1 (List.mem_of_getElem? (i := 194) rfl)) rfl
theorem wf_X6_53 : Cond.fieldLink RX6 53 "WingDesk" "body" "LWingDesk$Body;" ∈ gtbl := gtbl_of (tb1 (List.mem_of_getElem? (i := 195) rfl)) rfl
theorem wf_X6_57 : Cond.fieldLink RX6 57 "WingDesk" "waiting" "[I" ∈ gtbl := gtbl_of (tb1 (List.mem_of_getElem? (i := 196) rfl)) rfl
theorem wf_X6_61 : Cond.fieldLink RX6 61 "WingDesk" "findings" "[I" ∈ gtbl := gtbl_of (tb1 (List.mem_of_getElem? (i := 197) rfl)) rfl
theorem wf_X6_199 : Cond.fieldLink RX6 199 "WingDesk" "waitingCount" "I" ∈ gtbl := gtbl_of (tb1 (List.mem_of_getElem? (i := 198) rfl)) rfl
theorem wf_X6_64 : Cond.fieldLink RX6 64 "WingDesk" "mostThick" "I" ∈ gtbl := gtbl_of (tb1 (List.mem_of_getElem? (i := 199) rfl)) rfl
theorem wf_X7_97 : Cond.fieldLink RX7 97 "WingDeskModel" "pieces" "I" ∈ gtbl := gtbl_of (tb3 (List.mem_of_getElem? (i := 239) rfl)) rfl
theorem wf_X7_7 : Cond.fieldLink RX7 7 "WingDeskModel" "kind" "[I" ∈ gtbl := gtbl_of (tb4 (List.mem_of_getElem? (i := 0) rfl)) rfl
theorem wf_X7_13 : Cond.fieldLink RX7 13 "WingDeskModel" "place" "[I" ∈ gtbl := gtbl_of (tb4 (List.mem_of_getElem? (i := 1) rfl)) rfl
theorem wf_X7_16 : Cond.fieldLink RX7 16 "WingDeskModel" "thick" "[I" ∈ gtbl := gtbl_of (tb4 (List.mem_of_getElem? (i := 2) rfl)) rfl
theorem wf_X7_19 : Cond.fieldLink RX7 19 "WingDeskModel" "on" "[I" ∈ gtbl := gtbl_of (tb4 (List.mem_of_getElem? (i := 3) rfl)) rfl
theorem wf_X7_22 : Cond.fieldLink RX7 22 "WingDeskModel" "off" "[I" ∈ gtbl := gtbl_of (tb4 (List.mem_of_getElem? (i := 4) rfl)) rfl
theorem wf_X7_25 : Cond.fieldLink RX7 25 "WingDeskModel" "name" "[I" ∈ gtbl := gtbl_of (tb4 (List.mem_of_getElem? (i := 5) rfl)) rfl
theorem wf_X7_28 : Cond.fieldLink RX7 28 "WingDeskModel" "size" "[I" ∈ gtbl := gtbl_of (tb4 (List.mem_of_getElem? (i := 6) rfl)) rfl
theorem wf_X7_31 : Cond.fieldLink RX7 31 "WingDeskModel" "span" "[I" ∈ gtbl := gtbl_of (tb4 (List.mem_of_getElem? (i := 7) rfl)) rfl
theorem wf_X7_34 : Cond.fieldLink RX7 34 "WingDeskModel" "where" "[I" ∈ gtbl := gtbl_of (tb4 (List.mem_of_getElem? (i := 8) rfl)) rfl
theorem wf_X7_37 : Cond.fieldLink RX7 37 "WingDeskModel" "until" "[I" ∈ gtbl := gtbl_of (tb4 (List.mem_of_getElem? (i := 9) rfl)) rfl
theorem wf_X7_40 : Cond.fieldLink RX7 40 "WingDeskModel" "lookSize" "[I" ∈ gtbl := gtbl_of (tb4 (List.mem_of_getElem? (i := 10) rfl)) rfl
theorem wf_X7_43 : Cond.fieldLink RX7 43 "WingDeskModel" "look" "[I" ∈ gtbl := gtbl_of (tb4 (List.mem_of_getElem? (i := 11) rfl)) rfl
theorem wf_X7_46 : Cond.fieldLink RX7 46 "WingDeskModel" "limit" "I" ∈ gtbl := gtbl_of (tb4 (List.mem_of_getElem? (i := 12) rfl)) rfl
theorem wf_X7_166 : Cond.fieldLink RX7 166 "WingDeskModel" "shifts" "I" ∈ gtbl := gtbl_of (tb4 (List.mem_of_getElem? (i := 13) rfl)) rfl
theorem wf_X7_50 : Cond.fieldLink RX7 50 "WingDeskModel" "shiftA" "[I" ∈ gtbl := gtbl_of (tb4 (List.mem_of_getElem? (i := 14) rfl)) rfl
theorem wf_X7_53 : Cond.fieldLink RX7 53 "WingDeskModel" "shiftB" "[I" ∈ gtbl := gtbl_of (tb4 (List.mem_of_getElem? (i := 15) rfl)) rfl
theorem wf_X7_56 : Cond.fieldLink RX7 56 "WingDeskModel" "door" "[I" ∈ gtbl := gtbl_of (tb4 (List.mem_of_getElem? (i := 16) rfl)) rfl
theorem wf_X7_59 : Cond.fieldLink RX7 59 "WingDeskModel" "from" "[I" ∈ gtbl := gtbl_of (tb4 (List.mem_of_getElem? (i := 17) rfl)) rfl
theorem wf_X7_62 : Cond.fieldLink RX7 62 "WingDeskModel" "upTo" "[I" ∈ gtbl := gtbl_of (tb4 (List.mem_of_getElem? (i := 18) rfl)) rfl
theorem wf_X7_65 : Cond.fieldLink RX7 65 "WingDeskModel" "hands" "[I" ∈ gtbl := gtbl_of (tb4 (List.mem_of_getElem? (i := 19) rfl)) rfl
theorem wf_X7_68 : Cond.fieldLink RX7 68 "WingDeskModel" "way" "[I" ∈ gtbl := gtbl_of (tb4 (List.mem_of_getElem? (i := 20) rfl)) rfl
theorem wf_X7_182 : Cond.fieldLink RX7 182 "WingDeskModel" "hour" "I" ∈ gtbl := gtbl_of (tb4 (List.mem_of_getElem? (i := 21) rfl)) rfl
theorem wf_X7_195 : Cond.fieldLink RX7 195 "WingDeskModel" "waits" "I" ∈ gtbl := gtbl_of (tb4 (List.mem_of_getElem? (i := 22) rfl)) rfl
theorem wf_X7_71 : Cond.fieldLink RX7 71 "WingDeskModel" "waiting" "[I" ∈ gtbl := gtbl_of (tb4 (List.mem_of_getElem? (i := 23) rfl)) rfl
theorem wf_X7_74 : Cond.fieldLink RX7 74 "WingDeskModel" "found" "[I" ∈ gtbl := gtbl_of (tb4 (List.mem_of_getElem? (i := 24) rfl)) rfl
theorem wf_X7_133 : Cond.fieldLink RX7 133 "WingDeskModel" "offSet" "I" ∈ gtbl := gtbl_of (tb4 (List.mem_of_getElem? (i := 25) rfl)) rfl
theorem wf_X7_143 : Cond.fieldLink RX7 143 "WingDeskModel" "onSet" "I" ∈ gtbl := gtbl_of (tb4 (List.mem_of_getElem? (i := 26) rfl)) rfl
theorem wf_X7_156 : Cond.fieldLink RX7 156 "WingDeskModel" "bestSet" "I" ∈ gtbl := gtbl_of (tb4 (List.mem_of_getElem? (i := 27) rfl)) rfl
theorem wf_X7_77 : Cond.fieldLink RX7 77 "WingDeskModel" "shiftOf" "[I" ∈ gtbl := gtbl_of (tb4 (List.mem_of_getElem? (i := 28) rfl)) rfl
theorem wf_X7_169 : Cond.fieldLink RX7 169 "WingDeskModel" "units" "I" ∈ gtbl := gtbl_of (tb4 (List.mem_of_getElem? (i := 29) rfl)) rfl
theorem wf_X7_80 : Cond.fieldLink RX7 80 "WingDeskModel" "cameFrom" "[I" ∈ gtbl := gtbl_of (tb4 (List.mem_of_getElem? (i := 30) rfl)) rfl
theorem wf_X7_83 : Cond.fieldLink RX7 83 "WingDeskModel" "isMet" "[Z" ∈ gtbl := gtbl_of (tb4 (List.mem_of_getElem? (i := 31) rfl)) rfl
theorem wf_X7_87 : Cond.fieldLink RX7 87 "WingDeskModel" "trail" "[I" ∈ gtbl := gtbl_of (tb4 (List.mem_of_getElem? (i := 32) rfl)) rfl
theorem wf_X7_90 : Cond.fieldLink RX7 90 "WingDeskModel" "tried" "[I" ∈ gtbl := gtbl_of (tb4 (List.mem_of_getElem? (i := 33) rfl)) rfl
theorem wf_X7_93 : Cond.fieldLink RX7 93 "WingDeskModel" "body" "[I" ∈ gtbl := gtbl_of (tb4 (List.mem_of_getElem? (i := 34) rfl)) rfl
theorem wf_X7_198 : Cond.fieldLink RX7 198 "WingDeskModel" "bodySize" "I" ∈ gtbl := gtbl_of (tb4 (List.mem_of_getElem? (i := 35) rfl)) rfl
theorem wm_L_9 : Cond.methodLink RL 9 yX6_init ∈ gtbl := gtbl_of (tb1 (List.mem_of_getElem? (i := 14) rfl)) rfl
theorem wm_X6_1 : Cond.methodLink RX6 1 objectInit ∈ gtbl := gtbl_of (tb1 (List.mem_of_getElem? (i := 17) rfl)) rfl
theorem wm_X5_3 : Cond.methodLink RX5 3 objectInit ∈ gtbl := gtbl_of (tb1 (List.mem_of_getElem? (i := 25) rfl)) rfl
theorem wm_X2_3 : Cond.methodLink RX2 3 objectInit ∈ gtbl := gtbl_of (tb1 (List.mem_of_getElem? (i := 44) rfl)) rfl
theorem wm_X6_25 : Cond.methodLink RX6 25 yX1_init ∈ gtbl := gtbl_of (tb1 (List.mem_of_getElem? (i := 57) rfl)) rfl
theorem wm_X1_3 : Cond.methodLink RX1 3 objectInit ∈ gtbl := gtbl_of (tb1 (List.mem_of_getElem? (i := 60) rfl)) rfl
theorem wm_X4_3 : Cond.methodLink RX4 3 objectInit ∈ gtbl := gtbl_of (tb1 (List.mem_of_getElem? (i := 125) rfl)) rfl
theorem wm_X6_41 : Cond.methodLink RX6 41 yX3_init ∈ gtbl := gtbl_of (tb1 (List.mem_of_getElem? (i := 148) rfl)) rfl
theorem wm_X3_3 : Cond.methodLink RX3 3 objectInit ∈ gtbl := gtbl_of (tb1 (List.mem_of_getElem? (i := 151) rfl)) rfl
theorem wm_X6_50 : Cond.methodLink RX6 50 yX0_init ∈ gtbl := gtbl_of (tb1 (List.mem_of_getElem? (i := 176) rfl)) rfl
theorem wm_X0_3 : Cond.methodLink RX0 3 objectInit ∈ gtbl := gtbl_of (tb1 (List.mem_of_getElem? (i := 179) rfl)) rfl
theorem wm_L_13 : Cond.methodLink RL 13 yX6_piece ∈ gtbl := gtbl_of (tb1 (List.mem_of_getElem? (i := 221) rfl)) rfl
theorem wm_X6_68 : Cond.methodLink RX6 68 yX6_isPieceTold ∈ gtbl := gtbl_of (tb1 (List.mem_of_getElem? (i := 225) rfl)) rfl
theorem wm_X6_212 : Cond.methodLink RX6 212 yX6_nameIn ∈ gtbl := gtbl_of (tb1 (List.mem_of_getElem? (i := 228) rfl)) rfl
theorem wm_X6_88 : Cond.methodLink RX6 88 yX6_isWithin ∈ gtbl := gtbl_of (tb1 (List.mem_of_getElem? (i := 231) rfl)) rfl
theorem wm_X6_215 : Cond.methodLink RX6 215 yX6_placeIn ∈ gtbl := gtbl_of (tb1 (List.mem_of_getElem? (i := 234) rfl)) rfl
theorem wm_X6_218 : Cond.methodLink RX6 218 yX6_thickIn ∈ gtbl := gtbl_of (tb1 (List.mem_of_getElem? (i := 237) rfl)) rfl
theorem wm_X6_221 : Cond.methodLink RX6 221 yX6_kindIn ∈ gtbl := gtbl_of (tb2 (List.mem_of_getElem? (i := 0) rfl)) rfl
theorem wm_X6_224 : Cond.methodLink RX6 224 yX6_onIn ∈ gtbl := gtbl_of (tb2 (List.mem_of_getElem? (i := 3) rfl)) rfl
theorem wm_X6_227 : Cond.methodLink RX6 227 yX6_offIn ∈ gtbl := gtbl_of (tb2 (List.mem_of_getElem? (i := 6) rfl)) rfl
theorem wm_X6_230 : Cond.methodLink RX6 230 yX6_sizeIn ∈ gtbl := gtbl_of (tb2 (List.mem_of_getElem? (i := 9) rfl)) rfl
theorem wm_X6_233 : Cond.methodLink RX6 233 yX6_spanIn ∈ gtbl := gtbl_of (tb2 (List.mem_of_getElem? (i := 12) rfl)) rfl
theorem wm_X6_72 : Cond.methodLink RX6 72 yX6_finding ∈ gtbl := gtbl_of (tb2 (List.mem_of_getElem? (i := 15) rfl)) rfl
theorem wm_X6_76 : Cond.methodLink RX6 76 yX5_isFull ∈ gtbl := gtbl_of (tb2 (List.mem_of_getElem? (i := 20) rfl)) rfl
theorem wm_X6_80 : Cond.methodLink RX6 80 yX5_add ∈ gtbl := gtbl_of (tb2 (List.mem_of_getElem? (i := 24) rfl)) rfl
theorem wm_X5_27 : Cond.methodLink RX5 27 yX5_setFact ∈ gtbl := gtbl_of (tb2 (List.mem_of_getElem? (i := 29) rfl)) rfl
theorem wm_X5_19 : Cond.methodLink RX5 19 yX5_has ∈ gtbl := gtbl_of (tb2 (List.mem_of_getElem? (i := 33) rfl)) rfl
theorem wm_X5_52 : Cond.methodLink RX5 52 yX5_place ∈ gtbl := gtbl_of (tb2 (List.mem_of_getElem? (i := 44) rfl)) rfl
theorem wm_L_18 : Cond.methodLink RL 18 yX6_as ∈ gtbl := gtbl_of (tb2 (List.mem_of_getElem? (i := 48) rfl)) rfl
theorem wm_X6_84 : Cond.methodLink RX6 84 yX5_has ∈ gtbl := gtbl_of (tb2 (List.mem_of_getElem? (i := 52) rfl)) rfl
theorem wm_X6_91 : Cond.methodLink RX6 91 yX5_fact ∈ gtbl := gtbl_of (tb2 (List.mem_of_getElem? (i := 53) rfl)) rfl
theorem wm_L_23 : Cond.methodLink RL 23 yX6_about ∈ gtbl := gtbl_of (tb2 (List.mem_of_getElem? (i := 57) rfl)) rfl
theorem wm_L_27 : Cond.methodLink RL 27 yX6_wear ∈ gtbl := gtbl_of (tb2 (List.mem_of_getElem? (i := 61) rfl)) rfl
theorem wm_X6_95 : Cond.methodLink RX6 95 yX2_has ∈ gtbl := gtbl_of (tb2 (List.mem_of_getElem? (i := 65) rfl)) rfl
theorem wm_X6_96 : Cond.methodLink RX6 96 yX2_indexOf ∈ gtbl := gtbl_of (tb2 (List.mem_of_getElem? (i := 69) rfl)) rfl
theorem wm_X2_25 : Cond.methodLink RX2 25 yX2_sizeOf ∈ gtbl := gtbl_of (tb2 (List.mem_of_getElem? (i := 73) rfl)) rfl
theorem wm_X2_21 : Cond.methodLink RX2 21 yX2_has ∈ gtbl := gtbl_of (tb2 (List.mem_of_getElem? (i := 77) rfl)) rfl
theorem wm_X2_29 : Cond.methodLink RX2 29 yX2_at ∈ gtbl := gtbl_of (tb2 (List.mem_of_getElem? (i := 78) rfl)) rfl
theorem wm_X6_99 : Cond.methodLink RX6 99 yX2_sizeOf ∈ gtbl := gtbl_of (tb2 (List.mem_of_getElem? (i := 82) rfl)) rfl
theorem wm_X6_102 : Cond.methodLink RX6 102 yX2_append ∈ gtbl := gtbl_of (tb2 (List.mem_of_getElem? (i := 83) rfl)) rfl
theorem wm_X2_37 : Cond.methodLink RX2 37 yX2_noteLooksWith ∈ gtbl := gtbl_of (tb2 (List.mem_of_getElem? (i := 87) rfl)) rfl
theorem wm_L_31 : Cond.methodLink RL 31 yX6_bare ∈ gtbl := gtbl_of (tb2 (List.mem_of_getElem? (i := 92) rfl)) rfl
theorem wm_X6_105 : Cond.methodLink RX6 105 yX2_clear ∈ gtbl := gtbl_of (tb2 (List.mem_of_getElem? (i := 96) rfl)) rfl
theorem wm_L_36 : Cond.methodLink RL 36 yX6_look ∈ gtbl := gtbl_of (tb2 (List.mem_of_getElem? (i := 100) rfl)) rfl
theorem wm_X6_108 : Cond.methodLink RX6 108 yX2_at ∈ gtbl := gtbl_of (tb2 (List.mem_of_getElem? (i := 104) rfl)) rfl
theorem wm_L_40 : Cond.methodLink RL 40 yX6_limit ∈ gtbl := gtbl_of (tb2 (List.mem_of_getElem? (i := 105) rfl)) rfl
theorem wm_L_44 : Cond.methodLink RL 44 yX6_allowed ∈ gtbl := gtbl_of (tb2 (List.mem_of_getElem? (i := 109) rfl)) rfl
theorem wm_X6_111 : Cond.methodLink RX6 111 yX6_isChange ∈ gtbl := gtbl_of (tb2 (List.mem_of_getElem? (i := 113) rfl)) rfl
theorem wm_X6_245 : Cond.methodLink RX6 245 yX2_hasBits ∈ gtbl := gtbl_of (tb2 (List.mem_of_getElem? (i := 117) rfl)) rfl
theorem wm_X6_114 : Cond.methodLink RX6 114 yX6_isAllowed ∈ gtbl := gtbl_of (tb2 (List.mem_of_getElem? (i := 121) rfl)) rfl
theorem wm_X6_249 : Cond.methodLink RX6 249 yX1_prepare ∈ gtbl := gtbl_of (tb2 (List.mem_of_getElem? (i := 125) rfl)) rfl
theorem wm_X1_41 : Cond.methodLink RX1 41 yX2_sizeOf ∈ gtbl := gtbl_of (tb2 (List.mem_of_getElem? (i := 129) rfl)) rfl
theorem wm_X1_47 : Cond.methodLink RX1 47 yJ9_min_7cf53 ∈ gtbl := gtbl_of (tb2 (List.mem_of_getElem? (i := 130) rfl)) rfl
theorem wm_X1_60 : Cond.methodLink RX1 60 yX1_wigsOf ∈ gtbl := gtbl_of (tb2 (List.mem_of_getElem? (i := 133) rfl)) rfl
theorem wm_X1_79 : Cond.methodLink RX1 79 yX2_at ∈ gtbl := gtbl_of (tb2 (List.mem_of_getElem? (i := 137) rfl)) rfl
theorem wm_X1_82 : Cond.methodLink RX1 82 yX5_fact ∈ gtbl := gtbl_of (tb2 (List.mem_of_getElem? (i := 138) rfl)) rfl
theorem wm_X1_72 : Cond.methodLink RX1 72 yX1_prepareWorn ∈ gtbl := gtbl_of (tb2 (List.mem_of_getElem? (i := 139) rfl)) rfl
theorem wm_X1_87 : Cond.methodLink RX1 87 yX2_indexOf ∈ gtbl := gtbl_of (tb2 (List.mem_of_getElem? (i := 143) rfl)) rfl
theorem wm_X1_90 : Cond.methodLink RX1 90 yX1_aheadAtPlace ∈ gtbl := gtbl_of (tb2 (List.mem_of_getElem? (i := 144) rfl)) rfl
theorem wm_X1_105 : Cond.methodLink RX1 105 yX5_haveOnePlace ∈ gtbl := gtbl_of (tb2 (List.mem_of_getElem? (i := 148) rfl)) rfl
theorem wm_X5_55 : Cond.methodLink RX5 55 yX5_fact ∈ gtbl := gtbl_of (tb2 (List.mem_of_getElem? (i := 152) rfl)) rfl
theorem wm_X1_93 : Cond.methodLink RX1 93 yX1_isWantedUnder ∈ gtbl := gtbl_of (tb2 (List.mem_of_getElem? (i := 153) rfl)) rfl
theorem wm_X1_76 : Cond.methodLink RX1 76 yX1_prepareWanted ∈ gtbl := gtbl_of (tb2 (List.mem_of_getElem? (i := 160) rfl)) rfl
theorem wm_X1_101 : Cond.methodLink RX1 101 yX1_thickBefore ∈ gtbl := gtbl_of (tb2 (List.mem_of_getElem? (i := 164) rfl)) rfl
theorem wm_X6_253 : Cond.methodLink RX6 253 yX1_mayLieBeneath ∈ gtbl := gtbl_of (tb2 (List.mem_of_getElem? (i := 168) rfl)) rfl
theorem wm_L_48 : Cond.methodLink RL 48 yX6_told ∈ gtbl := gtbl_of (tb2 (List.mem_of_getElem? (i := 172) rfl)) rfl
theorem wm_X6_117 : Cond.methodLink RX6 117 yX1_handle ∈ gtbl := gtbl_of (tb2 (List.mem_of_getElem? (i := 176) rfl)) rfl
theorem wm_X1_111 : Cond.methodLink RX1 111 yX1_missing ∈ gtbl := gtbl_of (tb2 (List.mem_of_getElem? (i := 180) rfl)) rfl
theorem wm_X1_117 : Cond.methodLink RX1 117 yX1_forcedOff ∈ gtbl := gtbl_of (tb2 (List.mem_of_getElem? (i := 184) rfl)) rfl
theorem wm_X1_121 : Cond.methodLink RX1 121 yX1_mustComeOff ∈ gtbl := gtbl_of (tb2 (List.mem_of_getElem? (i := 188) rfl)) rfl
theorem wm_X6_127 : Cond.methodLink RX6 127 yJ6_bitCount_0f7a4 ∈ gtbl := gtbl_of (tb2 (List.mem_of_getElem? (i := 192) rfl)) rfl
theorem wm_L_53 : Cond.methodLink RL 53 yX6_seconds ∈ gtbl := gtbl_of (tb2 (List.mem_of_getElem? (i := 198) rfl)) rfl
theorem wm_X6_132 : Cond.methodLink RX6 132 yX1_secondsWith ∈ gtbl := gtbl_of (tb2 (List.mem_of_getElem? (i := 202) rfl)) rfl
theorem wm_X1_129 : Cond.methodLink RX1 129 yX1_sumOf ∈ gtbl := gtbl_of (tb2 (List.mem_of_getElem? (i := 208) rfl)) rfl
theorem wm_X1_133 : Cond.methodLink RX1 133 yX1_mostOf ∈ gtbl := gtbl_of (tb2 (List.mem_of_getElem? (i := 211) rfl)) rfl
theorem wm_X1_136 : Cond.methodLink RX1 136 yJ9_max_7cf53 ∈ gtbl := gtbl_of (tb2 (List.mem_of_getElem? (i := 214) rfl)) rfl
theorem wm_L_57 : Cond.methodLink RL 57 yX6_best ∈ gtbl := gtbl_of (tb2 (List.mem_of_getElem? (i := 218) rfl)) rfl
theorem wm_X6_136 : Cond.methodLink RX6 136 yX1_findBest ∈ gtbl := gtbl_of (tb2 (List.mem_of_getElem? (i := 222) rfl)) rfl
theorem wm_X1_139 : Cond.methodLink RX1 139 yX1_prepare ∈ gtbl := gtbl_of (tb2 (List.mem_of_getElem? (i := 226) rfl)) rfl
theorem wm_X1_149 : Cond.methodLink RX1 149 yX1_mayLieBeneath ∈ gtbl := gtbl_of (tb2 (List.mem_of_getElem? (i := 227) rfl)) rfl
theorem wm_X1_152 : Cond.methodLink RX1 152 yX1_handle ∈ gtbl := gtbl_of (tb2 (List.mem_of_getElem? (i := 228) rfl)) rfl
theorem wm_X1_156 : Cond.methodLink RX1 156 yX1_secondsWith ∈ gtbl := gtbl_of (tb2 (List.mem_of_getElem? (i := 229) rfl)) rfl
theorem wm_X1_159 : Cond.methodLink RX1 159 yX1_keepIfBetter ∈ gtbl := gtbl_of (tb2 (List.mem_of_getElem? (i := 230) rfl)) rfl
theorem wm_X1_162 : Cond.methodLink RX1 162 yJ6_bitCount_0f7a4 ∈ gtbl := gtbl_of (tb2 (List.mem_of_getElem? (i := 234) rfl)) rfl
theorem wm_L_61 : Cond.methodLink RL 61 yX6_shift ∈ gtbl := gtbl_of (tb2 (List.mem_of_getElem? (i := 235) rfl)) rfl
theorem wm_X6_146 : Cond.methodLink RX6 146 yX6_isShiftTold ∈ gtbl := gtbl_of (tb2 (List.mem_of_getElem? (i := 239) rfl)) rfl
theorem wm_X6_236 : Cond.methodLink RX6 236 yX6_beforeIn ∈ gtbl := gtbl_of (tb3 (List.mem_of_getElem? (i := 2) rfl)) rfl
theorem wm_X6_239 : Cond.methodLink RX6 239 yX6_afterIn ∈ gtbl := gtbl_of (tb3 (List.mem_of_getElem? (i := 5) rfl)) rfl
theorem wm_X6_242 : Cond.methodLink RX6 242 yX6_doorIn ∈ gtbl := gtbl_of (tb3 (List.mem_of_getElem? (i := 8) rfl)) rfl
theorem wm_X6_149 : Cond.methodLink RX6 149 yX4_isFull ∈ gtbl := gtbl_of (tb3 (List.mem_of_getElem? (i := 11) rfl)) rfl
theorem wm_X6_150 : Cond.methodLink RX6 150 yX4_add ∈ gtbl := gtbl_of (tb3 (List.mem_of_getElem? (i := 15) rfl)) rfl
theorem wm_L_65 : Cond.methodLink RL 65 yX6_less ∈ gtbl := gtbl_of (tb3 (List.mem_of_getElem? (i := 19) rfl)) rfl
theorem wm_X6_156 : Cond.methodLink RX6 156 yX4_dropLatest ∈ gtbl := gtbl_of (tb3 (List.mem_of_getElem? (i := 23) rfl)) rfl
theorem wm_X4_31 : Cond.methodLink RX4 31 yJ9_max_7cf53 ∈ gtbl := gtbl_of (tb3 (List.mem_of_getElem? (i := 27) rfl)) rfl
theorem wm_L_70 : Cond.methodLink RL 70 yX6_way ∈ gtbl := gtbl_of (tb3 (List.mem_of_getElem? (i := 28) rfl)) rfl
theorem wm_X6_160 : Cond.methodLink RX6 160 yX4_setWay ∈ gtbl := gtbl_of (tb3 (List.mem_of_getElem? (i := 32) rfl)) rfl
theorem wm_X4_48 : Cond.methodLink RX4 48 yX4_wayBetween ∈ gtbl := gtbl_of (tb3 (List.mem_of_getElem? (i := 36) rfl)) rfl
theorem wm_L_74 : Cond.methodLink RL 74 yX6_fits ∈ gtbl := gtbl_of (tb3 (List.mem_of_getElem? (i := 41) rfl)) rfl
theorem wm_X6_163 : Cond.methodLink RX6 163 yX4_has ∈ gtbl := gtbl_of (tb3 (List.mem_of_getElem? (i := 45) rfl)) rfl
theorem wm_X6_164 : Cond.methodLink RX6 164 yX4_lookBefore ∈ gtbl := gtbl_of (tb3 (List.mem_of_getElem? (i := 49) rfl)) rfl
theorem wm_X4_37 : Cond.methodLink RX4 37 yX4_has ∈ gtbl := gtbl_of (tb3 (List.mem_of_getElem? (i := 53) rfl)) rfl
theorem wm_X6_167 : Cond.methodLink RX6 167 yX4_lookAfter ∈ gtbl := gtbl_of (tb3 (List.mem_of_getElem? (i := 55) rfl)) rfl
theorem wm_X6_170 : Cond.methodLink RX6 170 yX4_handsOf ∈ gtbl := gtbl_of (tb3 (List.mem_of_getElem? (i := 60) rfl)) rfl
theorem wm_X6_173 : Cond.methodLink RX6 173 yX4_lengthOf ∈ gtbl := gtbl_of (tb3 (List.mem_of_getElem? (i := 64) rfl)) rfl
theorem wm_L_78 : Cond.methodLink RL 78 yX6_dressers ∈ gtbl := gtbl_of (tb3 (List.mem_of_getElem? (i := 68) rfl)) rfl
theorem wm_X6_176 : Cond.methodLink RX6 176 yX3_fewest ∈ gtbl := gtbl_of (tb3 (List.mem_of_getElem? (i := 72) rfl)) rfl
theorem wm_X3_31 : Cond.methodLink RX3 31 yJ7_fill_53178 ∈ gtbl := gtbl_of (tb3 (List.mem_of_getElem? (i := 76) rfl)) rfl
theorem wm_X3_37 : Cond.methodLink RX3 37 yX4_handsOf ∈ gtbl := gtbl_of (tb3 (List.mem_of_getElem? (i := 79) rfl)) rfl
theorem wm_X3_43 : Cond.methodLink RX3 43 yX3_sendOn ∈ gtbl := gtbl_of (tb3 (List.mem_of_getElem? (i := 80) rfl)) rfl
theorem wm_X3_46 : Cond.methodLink RX3 46 yX3_search ∈ gtbl := gtbl_of (tb3 (List.mem_of_getElem? (i := 84) rfl)) rfl
theorem wm_X3_57 : Cond.methodLink RX3 57 yX3_enqueue ∈ gtbl := gtbl_of (tb3 (List.mem_of_getElem? (i := 88) rfl)) rfl
theorem wm_X3_60 : Cond.methodLink RX3 60 yX4_mayGo ∈ gtbl := gtbl_of (tb3 (List.mem_of_getElem? (i := 93) rfl)) rfl
theorem wm_X3_64 : Cond.methodLink RX3 64 yX3_enqueueThoseGoingTo ∈ gtbl := gtbl_of (tb3 (List.mem_of_getElem? (i := 98) rfl)) rfl
theorem wm_X3_68 : Cond.methodLink RX3 68 yX3_goingBetween ∈ gtbl := gtbl_of (tb3 (List.mem_of_getElem? (i := 102) rfl)) rfl
theorem wm_X3_49 : Cond.methodLink RX3 49 yX3_settle ∈ gtbl := gtbl_of (tb3 (List.mem_of_getElem? (i := 106) rfl)) rfl
theorem wm_X3_76 : Cond.methodLink RX3 76 yX3_noteGoing ∈ gtbl := gtbl_of (tb3 (List.mem_of_getElem? (i := 110) rfl)) rfl
theorem wm_L_82 : Cond.methodLink RL 82 yX6_worn ∈ gtbl := gtbl_of (tb3 (List.mem_of_getElem? (i := 114) rfl)) rfl
theorem wm_X6_179 : Cond.methodLink RX6 179 yX5_place ∈ gtbl := gtbl_of (tb3 (List.mem_of_getElem? (i := 118) rfl)) rfl
theorem wm_L_86 : Cond.methodLink RL 86 yX6_wash ∈ gtbl := gtbl_of (tb3 (List.mem_of_getElem? (i := 119) rfl)) rfl
theorem wm_X6_183 : Cond.methodLink RX6 183 yX5_countInWash ∈ gtbl := gtbl_of (tb3 (List.mem_of_getElem? (i := 123) rfl)) rfl
theorem wm_X6_186 : Cond.methodLink RX6 186 yX5_soak ∈ gtbl := gtbl_of (tb3 (List.mem_of_getElem? (i := 127) rfl)) rfl
theorem wm_L_90 : Cond.methodLink RL 90 yX6_hours ∈ gtbl := gtbl_of (tb3 (List.mem_of_getElem? (i := 131) rfl)) rfl
theorem wm_X6_193 : Cond.methodLink RX6 193 yX5_passHours ∈ gtbl := gtbl_of (tb3 (List.mem_of_getElem? (i := 136) rfl)) rfl
theorem wm_X5_71 : Cond.methodLink RX5 71 yX5_dries ∈ gtbl := gtbl_of (tb3 (List.mem_of_getElem? (i := 140) rfl)) rfl
theorem wm_L_94 : Cond.methodLink RL 94 yX6_tonight ∈ gtbl := gtbl_of (tb3 (List.mem_of_getElem? (i := 144) rfl)) rfl
theorem wm_X6_196 : Cond.methodLink RX6 196 yX6_costTonight ∈ gtbl := gtbl_of (tb3 (List.mem_of_getElem? (i := 148) rfl)) rfl
theorem wm_X6_256 : Cond.methodLink RX6 256 yX5_sizesAway ∈ gtbl := gtbl_of (tb3 (List.mem_of_getElem? (i := 152) rfl)) rfl
theorem wm_X5_63 : Cond.methodLink RX5 63 yJ9_max_7cf53 ∈ gtbl := gtbl_of (tb3 (List.mem_of_getElem? (i := 156) rfl)) rfl
theorem wm_X6_259 : Cond.methodLink RX6 259 yX6_countAheadForSwap ∈ gtbl := gtbl_of (tb3 (List.mem_of_getElem? (i := 157) rfl)) rfl
theorem wm_X6_265 : Cond.methodLink RX6 265 yX5_areAlike ∈ gtbl := gtbl_of (tb3 (List.mem_of_getElem? (i := 161) rfl)) rfl
theorem wm_X5_59 : Cond.methodLink RX5 59 yX5_haveOnePlace ∈ gtbl := gtbl_of (tb3 (List.mem_of_getElem? (i := 165) rfl)) rfl
theorem wm_X6_262 : Cond.methodLink RX6 262 yX6_countSpares ∈ gtbl := gtbl_of (tb3 (List.mem_of_getElem? (i := 166) rfl)) rfl
theorem wm_X6_268 : Cond.methodLink RX6 268 yX2_isInNone ∈ gtbl := gtbl_of (tb3 (List.mem_of_getElem? (i := 170) rfl)) rfl
theorem wm_L_98 : Cond.methodLink RL 98 yX6_tell ∈ gtbl := gtbl_of (tb3 (List.mem_of_getElem? (i := 174) rfl)) rfl
theorem wm_L_102 : Cond.methodLink RL 102 yX6_check ∈ gtbl := gtbl_of (tb3 (List.mem_of_getElem? (i := 178) rfl)) rfl
theorem wm_X6_202 : Cond.methodLink RX6 202 yX6_dressForChange ∈ gtbl := gtbl_of (tb3 (List.mem_of_getElem? (i := 182) rfl)) rfl
theorem wm_X6_271 : Cond.methodLink RX6 271 yX0_undress ∈ gtbl := gtbl_of (tb3 (List.mem_of_getElem? (i := 186) rfl)) rfl
theorem wm_X0_19 : Cond.methodLink RX0 19 yJ7_fill_53178 ∈ gtbl := gtbl_of (tb3 (List.mem_of_getElem? (i := 190) rfl)) rfl
theorem wm_X6_274 : Cond.methodLink RX6 274 yX6_hasBit ∈ gtbl := gtbl_of (tb3 (List.mem_of_getElem? (i := 191) rfl)) rfl
theorem wm_X6_277 : Cond.methodLink RX6 277 yX0_putOn ∈ gtbl := gtbl_of (tb3 (List.mem_of_getElem? (i := 192) rfl)) rfl
theorem wm_X0_29 : Cond.methodLink RX0 29 yX5_has ∈ gtbl := gtbl_of (tb3 (List.mem_of_getElem? (i := 196) rfl)) rfl
theorem wm_X0_35 : Cond.methodLink RX0 35 yX0_hasOn ∈ gtbl := gtbl_of (tb3 (List.mem_of_getElem? (i := 197) rfl)) rfl
theorem wm_X6_205 : Cond.methodLink RX6 205 yX0_handle ∈ gtbl := gtbl_of (tb3 (List.mem_of_getElem? (i := 201) rfl)) rfl
theorem wm_X0_42 : Cond.methodLink RX0 42 yX0_putOn ∈ gtbl := gtbl_of (tb3 (List.mem_of_getElem? (i := 205) rfl)) rfl
theorem wm_X0_45 : Cond.methodLink RX0 45 yX0_takeOff ∈ gtbl := gtbl_of (tb3 (List.mem_of_getElem? (i := 206) rfl)) rfl
theorem wm_X0_48 : Cond.methodLink RX0 48 yX0_liesOver ∈ gtbl := gtbl_of (tb3 (List.mem_of_getElem? (i := 210) rfl)) rfl
theorem wm_X0_38 : Cond.methodLink RX0 38 yX5_haveOnePlace ∈ gtbl := gtbl_of (tb3 (List.mem_of_getElem? (i := 214) rfl)) rfl
theorem wm_X6_207 : Cond.methodLink RX6 207 yX6_isJustWorn ∈ gtbl := gtbl_of (tb3 (List.mem_of_getElem? (i := 215) rfl)) rfl
theorem wm_X6_280 : Cond.methodLink RX6 280 yX0_countWorn ∈ gtbl := gtbl_of (tb3 (List.mem_of_getElem? (i := 219) rfl)) rfl
theorem wm_X6_283 : Cond.methodLink RX6 283 yX0_hasOn ∈ gtbl := gtbl_of (tb3 (List.mem_of_getElem? (i := 223) rfl)) rfl
theorem wm_X6_286 : Cond.methodLink RX6 286 yX0_liesOver ∈ gtbl := gtbl_of (tb3 (List.mem_of_getElem? (i := 224) rfl)) rfl
theorem wm_L_106 : Cond.methodLink RL 106 yX6_count ∈ gtbl := gtbl_of (tb3 (List.mem_of_getElem? (i := 225) rfl)) rfl
theorem wm_L_110 : Cond.methodLink RL 110 yX6_found ∈ gtbl := gtbl_of (tb3 (List.mem_of_getElem? (i := 229) rfl)) rfl
theorem wm_L_12 : Cond.methodLink RL 12 yX7_init ∈ gtbl := gtbl_of (tb3 (List.mem_of_getElem? (i := 235) rfl)) rfl
theorem wm_X7_1 : Cond.methodLink RX7 1 objectInit ∈ gtbl := gtbl_of (tb3 (List.mem_of_getElem? (i := 238) rfl)) rfl
theorem wm_L_17 : Cond.methodLink RL 17 yX7_piece ∈ gtbl := gtbl_of (tb4 (List.mem_of_getElem? (i := 112) rfl)) rfl
theorem wm_X7_100 : Cond.methodLink RX7 100 yX7_isIn ∈ gtbl := gtbl_of (tb4 (List.mem_of_getElem? (i := 116) rfl)) rfl
theorem wm_X7_104 : Cond.methodLink RX7 104 yX7_finding ∈ gtbl := gtbl_of (tb4 (List.mem_of_getElem? (i := 119) rfl)) rfl
theorem wm_L_22 : Cond.methodLink RL 22 yX7_as ∈ gtbl := gtbl_of (tb4 (List.mem_of_getElem? (i := 124) rfl)) rfl
theorem wm_X7_108 : Cond.methodLink RX7 108 yX7_isPiece ∈ gtbl := gtbl_of (tb4 (List.mem_of_getElem? (i := 128) rfl)) rfl
theorem wm_L_26 : Cond.methodLink RL 26 yX7_about ∈ gtbl := gtbl_of (tb4 (List.mem_of_getElem? (i := 132) rfl)) rfl
theorem wm_L_30 : Cond.methodLink RL 30 yX7_wear ∈ gtbl := gtbl_of (tb4 (List.mem_of_getElem? (i := 136) rfl)) rfl
theorem wm_X7_112 : Cond.methodLink RX7 112 yX7_isLook ∈ gtbl := gtbl_of (tb4 (List.mem_of_getElem? (i := 140) rfl)) rfl
theorem wm_X7_115 : Cond.methodLink RX7 115 yX7_rowOf ∈ gtbl := gtbl_of (tb4 (List.mem_of_getElem? (i := 143) rfl)) rfl
theorem wm_L_35 : Cond.methodLink RL 35 yX7_bare ∈ gtbl := gtbl_of (tb4 (List.mem_of_getElem? (i := 147) rfl)) rfl
theorem wm_L_39 : Cond.methodLink RL 39 yX7_look ∈ gtbl := gtbl_of (tb4 (List.mem_of_getElem? (i := 151) rfl)) rfl
theorem wm_L_43 : Cond.methodLink RL 43 yX7_limit ∈ gtbl := gtbl_of (tb4 (List.mem_of_getElem? (i := 155) rfl)) rfl
theorem wm_L_47 : Cond.methodLink RL 47 yX7_allowed ∈ gtbl := gtbl_of (tb4 (List.mem_of_getElem? (i := 159) rfl)) rfl
theorem wm_X7_127 : Cond.methodLink RX7 127 yX7_isChange ∈ gtbl := gtbl_of (tb4 (List.mem_of_getElem? (i := 163) rfl)) rfl
theorem wm_X7_130 : Cond.methodLink RX7 130 yX7_isAllowed ∈ gtbl := gtbl_of (tb4 (List.mem_of_getElem? (i := 167) rfl)) rfl
theorem wm_X7_119 : Cond.methodLink RX7 119 yX7_has ∈ gtbl := gtbl_of (tb4 (List.mem_of_getElem? (i := 171) rfl)) rfl
theorem wm_X7_123 : Cond.methodLink RX7 123 yX7_thickAt ∈ gtbl := gtbl_of (tb4 (List.mem_of_getElem? (i := 174) rfl)) rfl
theorem wm_L_52 : Cond.methodLink RL 52 yX7_told ∈ gtbl := gtbl_of (tb4 (List.mem_of_getElem? (i := 178) rfl)) rfl
theorem wm_X7_146 : Cond.methodLink RX7 146 yX7_tell ∈ gtbl := gtbl_of (tb4 (List.mem_of_getElem? (i := 182) rfl)) rfl
theorem wm_X7_139 : Cond.methodLink RX7 139 yX7_mustOff ∈ gtbl := gtbl_of (tb4 (List.mem_of_getElem? (i := 186) rfl)) rfl
theorem wm_X7_136 : Cond.methodLink RX7 136 yX7_isOff ∈ gtbl := gtbl_of (tb4 (List.mem_of_getElem? (i := 190) rfl)) rfl
theorem wm_X7_150 : Cond.methodLink RX7 150 yX7_countOf ∈ gtbl := gtbl_of (tb4 (List.mem_of_getElem? (i := 194) rfl)) rfl
theorem wm_L_56 : Cond.methodLink RL 56 yX7_seconds ∈ gtbl := gtbl_of (tb4 (List.mem_of_getElem? (i := 197) rfl)) rfl
theorem wm_X7_153 : Cond.methodLink RX7 153 yX7_secondsOf ∈ gtbl := gtbl_of (tb4 (List.mem_of_getElem? (i := 201) rfl)) rfl
theorem wm_L_60 : Cond.methodLink RL 60 yX7_best ∈ gtbl := gtbl_of (tb4 (List.mem_of_getElem? (i := 205) rfl)) rfl
theorem wm_X7_159 : Cond.methodLink RX7 159 yX7_bestOf ∈ gtbl := gtbl_of (tb4 (List.mem_of_getElem? (i := 209) rfl)) rfl
theorem wm_L_64 : Cond.methodLink RL 64 yX7_shift ∈ gtbl := gtbl_of (tb4 (List.mem_of_getElem? (i := 213) rfl)) rfl
theorem wm_X7_163 : Cond.methodLink RX7 163 yX7_isDoor ∈ gtbl := gtbl_of (tb4 (List.mem_of_getElem? (i := 217) rfl)) rfl
theorem wm_L_69 : Cond.methodLink RL 69 yX7_less ∈ gtbl := gtbl_of (tb4 (List.mem_of_getElem? (i := 220) rfl)) rfl
theorem wm_L_73 : Cond.methodLink RL 73 yX7_way ∈ gtbl := gtbl_of (tb4 (List.mem_of_getElem? (i := 224) rfl)) rfl
theorem wm_L_77 : Cond.methodLink RL 77 yX7_fits ∈ gtbl := gtbl_of (tb4 (List.mem_of_getElem? (i := 228) rfl)) rfl
theorem wm_L_81 : Cond.methodLink RL 81 yX7_dressers ∈ gtbl := gtbl_of (tb4 (List.mem_of_getElem? (i := 232) rfl)) rfl
theorem wm_X7_175 : Cond.methodLink RX7 175 yX7_finds ∈ gtbl := gtbl_of (tb4 (List.mem_of_getElem? (i := 236) rfl)) rfl
theorem wm_X7_172 : Cond.methodLink RX7 172 yX7_canGo ∈ gtbl := gtbl_of (tb5 (List.mem_of_getElem? (i := 0) rfl)) rfl
theorem wm_L_85 : Cond.methodLink RL 85 yX7_worn ∈ gtbl := gtbl_of (tb5 (List.mem_of_getElem? (i := 4) rfl)) rfl
theorem wm_L_89 : Cond.methodLink RL 89 yX7_wash ∈ gtbl := gtbl_of (tb5 (List.mem_of_getElem? (i := 8) rfl)) rfl
theorem wm_X7_178 : Cond.methodLink RX7 178 yX7_washing ∈ gtbl := gtbl_of (tb5 (List.mem_of_getElem? (i := 12) rfl)) rfl
theorem wm_L_93 : Cond.methodLink RL 93 yX7_hours ∈ gtbl := gtbl_of (tb5 (List.mem_of_getElem? (i := 16) rfl)) rfl
theorem wm_L_97 : Cond.methodLink RL 97 yX7_tonight ∈ gtbl := gtbl_of (tb5 (List.mem_of_getElem? (i := 21) rfl)) rfl
theorem wm_X7_186 : Cond.methodLink RX7 186 yX7_away ∈ gtbl := gtbl_of (tb5 (List.mem_of_getElem? (i := 25) rfl)) rfl
theorem wm_X7_192 : Cond.methodLink RX7 192 yX7_isFor ∈ gtbl := gtbl_of (tb5 (List.mem_of_getElem? (i := 29) rfl)) rfl
theorem wm_X7_189 : Cond.methodLink RX7 189 yX7_isInLook ∈ gtbl := gtbl_of (tb5 (List.mem_of_getElem? (i := 33) rfl)) rfl
theorem wm_L_101 : Cond.methodLink RL 101 yX7_tell_ ∈ gtbl := gtbl_of (tb5 (List.mem_of_getElem? (i := 37) rfl)) rfl
theorem wm_L_105 : Cond.methodLink RL 105 yX7_check ∈ gtbl := gtbl_of (tb5 (List.mem_of_getElem? (i := 41) rfl)) rfl
theorem wm_X7_204 : Cond.methodLink RX7 204 yX7_handles ∈ gtbl := gtbl_of (tb5 (List.mem_of_getElem? (i := 45) rfl)) rfl
theorem wm_X7_201 : Cond.methodLink RX7 201 yX7_bodyPlace ∈ gtbl := gtbl_of (tb5 (List.mem_of_getElem? (i := 49) rfl)) rfl
theorem wm_X7_207 : Cond.methodLink RX7 207 yX7_isWorn ∈ gtbl := gtbl_of (tb5 (List.mem_of_getElem? (i := 53) rfl)) rfl
theorem wm_L_109 : Cond.methodLink RL 109 yX7_count ∈ gtbl := gtbl_of (tb5 (List.mem_of_getElem? (i := 57) rfl)) rfl
theorem wm_L_113 : Cond.methodLink RL 113 yX7_found ∈ gtbl := gtbl_of (tb5 (List.mem_of_getElem? (i := 61) rfl)) rfl
theorem wc_X6_211 : Cond.constant RX6 211 (-1000000) ∈ gtbl := gtbl_of (tb2 (List.mem_of_getElem? (i := 19) rfl)) rfl
theorem wc_J6_265 : Cond.constant RJ6 265 (1431655765) ∈ gtbl := gtbl_of (tb2 (List.mem_of_getElem? (i := 195) rfl)) rfl
theorem wc_J6_266 : Cond.constant RJ6 266 (858993459) ∈ gtbl := gtbl_of (tb2 (List.mem_of_getElem? (i := 196) rfl)) rfl
theorem wc_J6_267 : Cond.constant RJ6 267 (252645135) ∈ gtbl := gtbl_of (tb2 (List.mem_of_getElem? (i := 197) rfl)) rfl
theorem wc_X1_128 : Cond.constant RX1 128 (1000000) ∈ gtbl := gtbl_of (tb2 (List.mem_of_getElem? (i := 207) rfl)) rfl
theorem wc_X6_135 : Cond.constant RX6 135 (1000000) ∈ gtbl := gtbl_of (tb2 (List.mem_of_getElem? (i := 217) rfl)) rfl
theorem wc_X6_192 : Cond.constant RX6 192 (100000) ∈ gtbl := gtbl_of (tb3 (List.mem_of_getElem? (i := 135) rfl)) rfl
theorem wc_X7_96 : Cond.constant RX7 96 (-1000000) ∈ gtbl := gtbl_of (tb4 (List.mem_of_getElem? (i := 123) rfl)) rfl
theorem wc_X7_185 : Cond.constant RX7 185 (100000) ∈ gtbl := gtbl_of (tb5 (List.mem_of_getElem? (i := 20) rfl)) rfl
def CalV (y : MethodName) (bytes : ByteArray) (maxL : Nat) (ret : Option FieldType) (n : Nat) : Prop := Cond.code y bytes maxL ret ∈ gtbl ∧ Cond.instanceMethod y ∈ gtbl ∧ Cond.selects y.cls y y ∈ gtbl ∧ Cond.initialized y.cls ∈ gtbl ∧ (y.cls ≠ "java/lang/invoke/MethodHandle" ∧ y.cls ≠ "java/lang/invoke/VarHandle" ∧ (parseMethodDescriptor y.desc).map (fun d => d.parameters.length) = some n)
def CalS (y : MethodName) (bytes : ByteArray) (maxL : Nat) (ret : Option FieldType) (n : Nat) : Prop := Cond.code y bytes maxL ret ∈ gtbl ∧ Cond.static y ∈ gtbl ∧ Cond.initialized y.cls ∈ gtbl ∧ (y.cls ≠ "java/lang/invoke/MethodHandle" ∧ y.cls ≠ "java/lang/invoke/VarHandle" ∧ (parseMethodDescriptor y.desc).map (fun d => d.parameters.length) = some n)
theorem wk_X6_init : Cond.code yX6_init cX6_init 1 none ∈ gtbl := gtbl_of (tb1 (List.mem_of_getElem? (i := 16) rfl)) rfl
theorem wn_X6_init : Cond.instanceMethod yX6_init ∈ gtbl := gtbl_of (tb1 (List.mem_of_getElem? (i := 15) rfl)) rfl
theorem wk_X5_init : Cond.code yX5_init cX5_init 1 none ∈ gtbl := gtbl_of (tb1 (List.mem_of_getElem? (i := 24) rfl)) rfl
theorem wn_X5_init : Cond.instanceMethod yX5_init ∈ gtbl := gtbl_of (tb1 (List.mem_of_getElem? (i := 23) rfl)) rfl
theorem wk_X2_init : Cond.code yX2_init cX2_init 1 none ∈ gtbl := gtbl_of (tb1 (List.mem_of_getElem? (i := 43) rfl)) rfl
theorem wn_X2_init : Cond.instanceMethod yX2_init ∈ gtbl := gtbl_of (tb1 (List.mem_of_getElem? (i := 42) rfl)) rfl
theorem wk_X1_init : Cond.code yX1_init cX1_init 3 none ∈ gtbl := gtbl_of (tb1 (List.mem_of_getElem? (i := 59) rfl)) rfl
theorem wn_X1_init : Cond.instanceMethod yX1_init ∈ gtbl := gtbl_of (tb1 (List.mem_of_getElem? (i := 58) rfl)) rfl
theorem wk_X4_init : Cond.code yX4_init cX4_init 1 none ∈ gtbl := gtbl_of (tb1 (List.mem_of_getElem? (i := 124) rfl)) rfl
theorem wn_X4_init : Cond.instanceMethod yX4_init ∈ gtbl := gtbl_of (tb1 (List.mem_of_getElem? (i := 123) rfl)) rfl
theorem wk_X3_init : Cond.code yX3_init cX3_init 2 none ∈ gtbl := gtbl_of (tb1 (List.mem_of_getElem? (i := 150) rfl)) rfl
theorem wn_X3_init : Cond.instanceMethod yX3_init ∈ gtbl := gtbl_of (tb1 (List.mem_of_getElem? (i := 149) rfl)) rfl
theorem wk_X0_init : Cond.code yX0_init cX0_init 2 none ∈ gtbl := gtbl_of (tb1 (List.mem_of_getElem? (i := 178) rfl)) rfl
theorem wn_X0_init : Cond.instanceMethod yX0_init ∈ gtbl := gtbl_of (tb1 (List.mem_of_getElem? (i := 177) rfl)) rfl
theorem wk_X6_piece : Cond.code yX6_piece cX6_piece 4 (some .int) ∈ gtbl := gtbl_of (tb1 (List.mem_of_getElem? (i := 224) rfl)) rfl
theorem wn_X6_piece : Cond.instanceMethod yX6_piece ∈ gtbl := gtbl_of (tb1 (List.mem_of_getElem? (i := 222) rfl)) rfl
theorem wl_X6_piece : Cond.selects RX6 yX6_piece yX6_piece ∈ gtbl := gtbl_of (tb1 (List.mem_of_getElem? (i := 223) rfl)) rfl
theorem cv_X6_piece : CalV yX6_piece cX6_piece 4 (some .int) 3 := ⟨wk_X6_piece, wn_X6_piece, wl_X6_piece, wi_X6, ⟨by decide +kernel, by decide +kernel, by decide +kernel⟩⟩
theorem wk_X6_isPieceTold : Cond.code yX6_isPieceTold cX6_isPieceTold 3 (some .boolean) ∈ gtbl := gtbl_of (tb1 (List.mem_of_getElem? (i := 227) rfl)) rfl
theorem ws_X6_isPieceTold : Cond.static yX6_isPieceTold ∈ gtbl := gtbl_of (tb1 (List.mem_of_getElem? (i := 226) rfl)) rfl
theorem cs_X6_isPieceTold : CalS yX6_isPieceTold cX6_isPieceTold 3 (some .boolean) 3 := ⟨wk_X6_isPieceTold, ws_X6_isPieceTold, wi_X6, ⟨by decide +kernel, by decide +kernel, by decide +kernel⟩⟩
theorem wk_X6_nameIn : Cond.code yX6_nameIn cX6_nameIn 1 (some .int) ∈ gtbl := gtbl_of (tb1 (List.mem_of_getElem? (i := 230) rfl)) rfl
theorem ws_X6_nameIn : Cond.static yX6_nameIn ∈ gtbl := gtbl_of (tb1 (List.mem_of_getElem? (i := 229) rfl)) rfl
theorem cs_X6_nameIn : CalS yX6_nameIn cX6_nameIn 1 (some .int) 1 := ⟨wk_X6_nameIn, ws_X6_nameIn, wi_X6, ⟨by decide +kernel, by decide +kernel, by decide +kernel⟩⟩
theorem wk_X6_isWithin : Cond.code yX6_isWithin cX6_isWithin 3 (some .boolean) ∈ gtbl := gtbl_of (tb1 (List.mem_of_getElem? (i := 233) rfl)) rfl
theorem ws_X6_isWithin : Cond.static yX6_isWithin ∈ gtbl := gtbl_of (tb1 (List.mem_of_getElem? (i := 232) rfl)) rfl
theorem cs_X6_isWithin : CalS yX6_isWithin cX6_isWithin 3 (some .boolean) 3 := ⟨wk_X6_isWithin, ws_X6_isWithin, wi_X6, ⟨by decide +kernel, by decide +kernel, by decide +kernel⟩⟩
theorem wk_X6_placeIn : Cond.code yX6_placeIn cX6_placeIn 1 (some .int) ∈ gtbl := gtbl_of (tb1 (List.mem_of_getElem? (i := 236) rfl)) rfl
theorem ws_X6_placeIn : Cond.static yX6_placeIn ∈ gtbl := gtbl_of (tb1 (List.mem_of_getElem? (i := 235) rfl)) rfl
theorem cs_X6_placeIn : CalS yX6_placeIn cX6_placeIn 1 (some .int) 1 := ⟨wk_X6_placeIn, ws_X6_placeIn, wi_X6, ⟨by decide +kernel, by decide +kernel, by decide +kernel⟩⟩
theorem wk_X6_thickIn : Cond.code yX6_thickIn cX6_thickIn 1 (some .int) ∈ gtbl := gtbl_of (tb1 (List.mem_of_getElem? (i := 239) rfl)) rfl
theorem ws_X6_thickIn : Cond.static yX6_thickIn ∈ gtbl := gtbl_of (tb1 (List.mem_of_getElem? (i := 238) rfl)) rfl
theorem cs_X6_thickIn : CalS yX6_thickIn cX6_thickIn 1 (some .int) 1 := ⟨wk_X6_thickIn, ws_X6_thickIn, wi_X6, ⟨by decide +kernel, by decide +kernel, by decide +kernel⟩⟩
theorem wk_X6_kindIn : Cond.code yX6_kindIn cX6_kindIn 1 (some .int) ∈ gtbl := gtbl_of (tb2 (List.mem_of_getElem? (i := 2) rfl)) rfl
theorem ws_X6_kindIn : Cond.static yX6_kindIn ∈ gtbl := gtbl_of (tb2 (List.mem_of_getElem? (i := 1) rfl)) rfl
theorem cs_X6_kindIn : CalS yX6_kindIn cX6_kindIn 1 (some .int) 1 := ⟨wk_X6_kindIn, ws_X6_kindIn, wi_X6, ⟨by decide +kernel, by decide +kernel, by decide +kernel⟩⟩
theorem wk_X6_onIn : Cond.code yX6_onIn cX6_onIn 1 (some .int) ∈ gtbl := gtbl_of (tb2 (List.mem_of_getElem? (i := 5) rfl)) rfl
theorem ws_X6_onIn : Cond.static yX6_onIn ∈ gtbl := gtbl_of (tb2 (List.mem_of_getElem? (i := 4) rfl)) rfl
theorem cs_X6_onIn : CalS yX6_onIn cX6_onIn 1 (some .int) 1 := ⟨wk_X6_onIn, ws_X6_onIn, wi_X6, ⟨by decide +kernel, by decide +kernel, by decide +kernel⟩⟩
theorem wk_X6_offIn : Cond.code yX6_offIn cX6_offIn 1 (some .int) ∈ gtbl := gtbl_of (tb2 (List.mem_of_getElem? (i := 8) rfl)) rfl
theorem ws_X6_offIn : Cond.static yX6_offIn ∈ gtbl := gtbl_of (tb2 (List.mem_of_getElem? (i := 7) rfl)) rfl
theorem cs_X6_offIn : CalS yX6_offIn cX6_offIn 1 (some .int) 1 := ⟨wk_X6_offIn, ws_X6_offIn, wi_X6, ⟨by decide +kernel, by decide +kernel, by decide +kernel⟩⟩
theorem wk_X6_sizeIn : Cond.code yX6_sizeIn cX6_sizeIn 1 (some .int) ∈ gtbl := gtbl_of (tb2 (List.mem_of_getElem? (i := 11) rfl)) rfl
theorem ws_X6_sizeIn : Cond.static yX6_sizeIn ∈ gtbl := gtbl_of (tb2 (List.mem_of_getElem? (i := 10) rfl)) rfl
theorem cs_X6_sizeIn : CalS yX6_sizeIn cX6_sizeIn 1 (some .int) 1 := ⟨wk_X6_sizeIn, ws_X6_sizeIn, wi_X6, ⟨by decide +kernel, by decide +kernel, by decide +kernel⟩⟩
theorem wk_X6_spanIn : Cond.code yX6_spanIn cX6_spanIn 1 (some .int) ∈ gtbl := gtbl_of (tb2 (List.mem_of_getElem? (i := 14) rfl)) rfl
theorem ws_X6_spanIn : Cond.static yX6_spanIn ∈ gtbl := gtbl_of (tb2 (List.mem_of_getElem? (i := 13) rfl)) rfl
theorem cs_X6_spanIn : CalS yX6_spanIn cX6_spanIn 1 (some .int) 1 := ⟨wk_X6_spanIn, ws_X6_spanIn, wi_X6, ⟨by decide +kernel, by decide +kernel, by decide +kernel⟩⟩
theorem wk_X6_finding : Cond.code yX6_finding cX6_finding 2 (some .int) ∈ gtbl := gtbl_of (tb2 (List.mem_of_getElem? (i := 18) rfl)) rfl
theorem wn_X6_finding : Cond.instanceMethod yX6_finding ∈ gtbl := gtbl_of (tb2 (List.mem_of_getElem? (i := 17) rfl)) rfl
theorem wl_X6_finding : Cond.selects RX6 yX6_finding yX6_finding ∈ gtbl := gtbl_of (tbp (List.mem_of_getElem? (i := 0) rfl)) rfl
theorem cv_X6_finding : CalV yX6_finding cX6_finding 2 (some .int) 1 := ⟨wk_X6_finding, wn_X6_finding, wl_X6_finding, wi_X6, ⟨by decide +kernel, by decide +kernel, by decide +kernel⟩⟩
theorem wk_X5_isFull : Cond.code yX5_isFull cX5_isFull 1 (some .boolean) ∈ gtbl := gtbl_of (tb2 (List.mem_of_getElem? (i := 23) rfl)) rfl
theorem wn_X5_isFull : Cond.instanceMethod yX5_isFull ∈ gtbl := gtbl_of (tb2 (List.mem_of_getElem? (i := 21) rfl)) rfl
theorem wl_X5_isFull : Cond.selects RX5 yX5_isFull yX5_isFull ∈ gtbl := gtbl_of (tb2 (List.mem_of_getElem? (i := 22) rfl)) rfl
theorem cv_X5_isFull : CalV yX5_isFull cX5_isFull 1 (some .boolean) 0 := ⟨wk_X5_isFull, wn_X5_isFull, wl_X5_isFull, wi_X5, ⟨by decide +kernel, by decide +kernel, by decide +kernel⟩⟩
theorem wk_X5_add : Cond.code yX5_add cX5_add 5 (some .int) ∈ gtbl := gtbl_of (tb2 (List.mem_of_getElem? (i := 27) rfl)) rfl
theorem wn_X5_add : Cond.instanceMethod yX5_add ∈ gtbl := gtbl_of (tb2 (List.mem_of_getElem? (i := 25) rfl)) rfl
theorem wl_X5_add : Cond.selects RX5 yX5_add yX5_add ∈ gtbl := gtbl_of (tb2 (List.mem_of_getElem? (i := 26) rfl)) rfl
theorem cv_X5_add : CalV yX5_add cX5_add 5 (some .int) 3 := ⟨wk_X5_add, wn_X5_add, wl_X5_add, wi_X5, ⟨by decide +kernel, by decide +kernel, by decide +kernel⟩⟩
theorem wk_X5_setFact : Cond.code yX5_setFact cX5_setFact 4 none ∈ gtbl := gtbl_of (tb2 (List.mem_of_getElem? (i := 32) rfl)) rfl
theorem wn_X5_setFact : Cond.instanceMethod yX5_setFact ∈ gtbl := gtbl_of (tb2 (List.mem_of_getElem? (i := 31) rfl)) rfl
theorem wl_X5_setFact : Cond.selects RX5 yX5_setFact yX5_setFact ∈ gtbl := gtbl_of (tbp (List.mem_of_getElem? (i := 1) rfl)) rfl
theorem cv_X5_setFact : CalV yX5_setFact cX5_setFact 4 none 3 := ⟨wk_X5_setFact, wn_X5_setFact, wl_X5_setFact, wi_X5, ⟨by decide +kernel, by decide +kernel, by decide +kernel⟩⟩
theorem wk_X5_has : Cond.code yX5_has cX5_has 2 (some .boolean) ∈ gtbl := gtbl_of (tb2 (List.mem_of_getElem? (i := 36) rfl)) rfl
theorem wn_X5_has : Cond.instanceMethod yX5_has ∈ gtbl := gtbl_of (tb2 (List.mem_of_getElem? (i := 34) rfl)) rfl
theorem wl_X5_has : Cond.selects RX5 yX5_has yX5_has ∈ gtbl := gtbl_of (tb2 (List.mem_of_getElem? (i := 35) rfl)) rfl
theorem cv_X5_has : CalV yX5_has cX5_has 2 (some .boolean) 1 := ⟨wk_X5_has, wn_X5_has, wl_X5_has, wi_X5, ⟨by decide +kernel, by decide +kernel, by decide +kernel⟩⟩
theorem wk_X5_place : Cond.code yX5_place cX5_place 4 none ∈ gtbl := gtbl_of (tb2 (List.mem_of_getElem? (i := 47) rfl)) rfl
theorem wn_X5_place : Cond.instanceMethod yX5_place ∈ gtbl := gtbl_of (tb2 (List.mem_of_getElem? (i := 45) rfl)) rfl
theorem wl_X5_place : Cond.selects RX5 yX5_place yX5_place ∈ gtbl := gtbl_of (tb2 (List.mem_of_getElem? (i := 46) rfl)) rfl
theorem cv_X5_place : CalV yX5_place cX5_place 4 none 3 := ⟨wk_X5_place, wn_X5_place, wl_X5_place, wi_X5, ⟨by decide +kernel, by decide +kernel, by decide +kernel⟩⟩
theorem wk_X6_as : Cond.code yX6_as cX6_as 3 (some .int) ∈ gtbl := gtbl_of (tb2 (List.mem_of_getElem? (i := 51) rfl)) rfl
theorem wn_X6_as : Cond.instanceMethod yX6_as ∈ gtbl := gtbl_of (tb2 (List.mem_of_getElem? (i := 49) rfl)) rfl
theorem wl_X6_as : Cond.selects RX6 yX6_as yX6_as ∈ gtbl := gtbl_of (tb2 (List.mem_of_getElem? (i := 50) rfl)) rfl
theorem cv_X6_as : CalV yX6_as cX6_as 3 (some .int) 2 := ⟨wk_X6_as, wn_X6_as, wl_X6_as, wi_X6, ⟨by decide +kernel, by decide +kernel, by decide +kernel⟩⟩
theorem wk_X5_fact : Cond.code yX5_fact cX5_fact 3 (some .int) ∈ gtbl := gtbl_of (tb2 (List.mem_of_getElem? (i := 56) rfl)) rfl
theorem wn_X5_fact : Cond.instanceMethod yX5_fact ∈ gtbl := gtbl_of (tb2 (List.mem_of_getElem? (i := 54) rfl)) rfl
theorem wl_X5_fact : Cond.selects RX5 yX5_fact yX5_fact ∈ gtbl := gtbl_of (tb2 (List.mem_of_getElem? (i := 55) rfl)) rfl
theorem cv_X5_fact : CalV yX5_fact cX5_fact 3 (some .int) 2 := ⟨wk_X5_fact, wn_X5_fact, wl_X5_fact, wi_X5, ⟨by decide +kernel, by decide +kernel, by decide +kernel⟩⟩
theorem wk_X6_about : Cond.code yX6_about cX6_about 3 (some .int) ∈ gtbl := gtbl_of (tb2 (List.mem_of_getElem? (i := 60) rfl)) rfl
theorem wn_X6_about : Cond.instanceMethod yX6_about ∈ gtbl := gtbl_of (tb2 (List.mem_of_getElem? (i := 58) rfl)) rfl
theorem wl_X6_about : Cond.selects RX6 yX6_about yX6_about ∈ gtbl := gtbl_of (tb2 (List.mem_of_getElem? (i := 59) rfl)) rfl
theorem cv_X6_about : CalV yX6_about cX6_about 3 (some .int) 2 := ⟨wk_X6_about, wn_X6_about, wl_X6_about, wi_X6, ⟨by decide +kernel, by decide +kernel, by decide +kernel⟩⟩
theorem wk_X6_wear : Cond.code yX6_wear cX6_wear 3 (some .int) ∈ gtbl := gtbl_of (tb2 (List.mem_of_getElem? (i := 64) rfl)) rfl
theorem wn_X6_wear : Cond.instanceMethod yX6_wear ∈ gtbl := gtbl_of (tb2 (List.mem_of_getElem? (i := 62) rfl)) rfl
theorem wl_X6_wear : Cond.selects RX6 yX6_wear yX6_wear ∈ gtbl := gtbl_of (tb2 (List.mem_of_getElem? (i := 63) rfl)) rfl
theorem cv_X6_wear : CalV yX6_wear cX6_wear 3 (some .int) 2 := ⟨wk_X6_wear, wn_X6_wear, wl_X6_wear, wi_X6, ⟨by decide +kernel, by decide +kernel, by decide +kernel⟩⟩
theorem wk_X2_has : Cond.code yX2_has cX2_has 2 (some .boolean) ∈ gtbl := gtbl_of (tb2 (List.mem_of_getElem? (i := 68) rfl)) rfl
theorem wn_X2_has : Cond.instanceMethod yX2_has ∈ gtbl := gtbl_of (tb2 (List.mem_of_getElem? (i := 66) rfl)) rfl
theorem wl_X2_has : Cond.selects RX2 yX2_has yX2_has ∈ gtbl := gtbl_of (tb2 (List.mem_of_getElem? (i := 67) rfl)) rfl
theorem cv_X2_has : CalV yX2_has cX2_has 2 (some .boolean) 1 := ⟨wk_X2_has, wn_X2_has, wl_X2_has, wi_X2, ⟨by decide +kernel, by decide +kernel, by decide +kernel⟩⟩
theorem wk_X2_indexOf : Cond.code yX2_indexOf cX2_indexOf 5 (some .int) ∈ gtbl := gtbl_of (tb2 (List.mem_of_getElem? (i := 72) rfl)) rfl
theorem wn_X2_indexOf : Cond.instanceMethod yX2_indexOf ∈ gtbl := gtbl_of (tb2 (List.mem_of_getElem? (i := 70) rfl)) rfl
theorem wl_X2_indexOf : Cond.selects RX2 yX2_indexOf yX2_indexOf ∈ gtbl := gtbl_of (tb2 (List.mem_of_getElem? (i := 71) rfl)) rfl
theorem cv_X2_indexOf : CalV yX2_indexOf cX2_indexOf 5 (some .int) 2 := ⟨wk_X2_indexOf, wn_X2_indexOf, wl_X2_indexOf, wi_X2, ⟨by decide +kernel, by decide +kernel, by decide +kernel⟩⟩
theorem wk_X2_sizeOf : Cond.code yX2_sizeOf cX2_sizeOf 2 (some .int) ∈ gtbl := gtbl_of (tb2 (List.mem_of_getElem? (i := 76) rfl)) rfl
theorem wn_X2_sizeOf : Cond.instanceMethod yX2_sizeOf ∈ gtbl := gtbl_of (tb2 (List.mem_of_getElem? (i := 74) rfl)) rfl
theorem wl_X2_sizeOf : Cond.selects RX2 yX2_sizeOf yX2_sizeOf ∈ gtbl := gtbl_of (tb2 (List.mem_of_getElem? (i := 75) rfl)) rfl
theorem cv_X2_sizeOf : CalV yX2_sizeOf cX2_sizeOf 2 (some .int) 1 := ⟨wk_X2_sizeOf, wn_X2_sizeOf, wl_X2_sizeOf, wi_X2, ⟨by decide +kernel, by decide +kernel, by decide +kernel⟩⟩
theorem wk_X2_at : Cond.code yX2_at cX2_at 3 (some .int) ∈ gtbl := gtbl_of (tb2 (List.mem_of_getElem? (i := 81) rfl)) rfl
theorem wn_X2_at : Cond.instanceMethod yX2_at ∈ gtbl := gtbl_of (tb2 (List.mem_of_getElem? (i := 79) rfl)) rfl
theorem wl_X2_at : Cond.selects RX2 yX2_at yX2_at ∈ gtbl := gtbl_of (tb2 (List.mem_of_getElem? (i := 80) rfl)) rfl
theorem cv_X2_at : CalV yX2_at cX2_at 3 (some .int) 2 := ⟨wk_X2_at, wn_X2_at, wl_X2_at, wi_X2, ⟨by decide +kernel, by decide +kernel, by decide +kernel⟩⟩
theorem wk_X2_append : Cond.code yX2_append cX2_append 3 (some .int) ∈ gtbl := gtbl_of (tb2 (List.mem_of_getElem? (i := 86) rfl)) rfl
theorem wn_X2_append : Cond.instanceMethod yX2_append ∈ gtbl := gtbl_of (tb2 (List.mem_of_getElem? (i := 84) rfl)) rfl
theorem wl_X2_append : Cond.selects RX2 yX2_append yX2_append ∈ gtbl := gtbl_of (tb2 (List.mem_of_getElem? (i := 85) rfl)) rfl
theorem cv_X2_append : CalV yX2_append cX2_append 3 (some .int) 2 := ⟨wk_X2_append, wn_X2_append, wl_X2_append, wi_X2, ⟨by decide +kernel, by decide +kernel, by decide +kernel⟩⟩
theorem wk_X2_noteLooksWith : Cond.code yX2_noteLooksWith cX2_noteLooksWith 3 none ∈ gtbl := gtbl_of (tb2 (List.mem_of_getElem? (i := 90) rfl)) rfl
theorem wn_X2_noteLooksWith : Cond.instanceMethod yX2_noteLooksWith ∈ gtbl := gtbl_of (tb2 (List.mem_of_getElem? (i := 89) rfl)) rfl
theorem wl_X2_noteLooksWith : Cond.selects RX2 yX2_noteLooksWith yX2_noteLooksWith ∈ gtbl := gtbl_of (tbp (List.mem_of_getElem? (i := 2) rfl)) rfl
theorem cv_X2_noteLooksWith : CalV yX2_noteLooksWith cX2_noteLooksWith 3 none 2 := ⟨wk_X2_noteLooksWith, wn_X2_noteLooksWith, wl_X2_noteLooksWith, wi_X2, ⟨by decide +kernel, by decide +kernel, by decide +kernel⟩⟩
theorem wk_X6_bare : Cond.code yX6_bare cX6_bare 2 (some .int) ∈ gtbl := gtbl_of (tb2 (List.mem_of_getElem? (i := 95) rfl)) rfl
theorem wn_X6_bare : Cond.instanceMethod yX6_bare ∈ gtbl := gtbl_of (tb2 (List.mem_of_getElem? (i := 93) rfl)) rfl
theorem wl_X6_bare : Cond.selects RX6 yX6_bare yX6_bare ∈ gtbl := gtbl_of (tb2 (List.mem_of_getElem? (i := 94) rfl)) rfl
theorem cv_X6_bare : CalV yX6_bare cX6_bare 2 (some .int) 1 := ⟨wk_X6_bare, wn_X6_bare, wl_X6_bare, wi_X6, ⟨by decide +kernel, by decide +kernel, by decide +kernel⟩⟩
theorem wk_X2_clear : Cond.code yX2_clear cX2_clear 4 (some .int) ∈ gtbl := gtbl_of (tb2 (List.mem_of_getElem? (i := 99) rfl)) rfl
theorem wn_X2_clear : Cond.instanceMethod yX2_clear ∈ gtbl := gtbl_of (tb2 (List.mem_of_getElem? (i := 97) rfl)) rfl
theorem wl_X2_clear : Cond.selects RX2 yX2_clear yX2_clear ∈ gtbl := gtbl_of (tb2 (List.mem_of_getElem? (i := 98) rfl)) rfl
theorem cv_X2_clear : CalV yX2_clear cX2_clear 4 (some .int) 1 := ⟨wk_X2_clear, wn_X2_clear, wl_X2_clear, wi_X2, ⟨by decide +kernel, by decide +kernel, by decide +kernel⟩⟩
theorem wk_X6_look : Cond.code yX6_look cX6_look 4 (some .int) ∈ gtbl := gtbl_of (tb2 (List.mem_of_getElem? (i := 103) rfl)) rfl
theorem wn_X6_look : Cond.instanceMethod yX6_look ∈ gtbl := gtbl_of (tb2 (List.mem_of_getElem? (i := 101) rfl)) rfl
theorem wl_X6_look : Cond.selects RX6 yX6_look yX6_look ∈ gtbl := gtbl_of (tb2 (List.mem_of_getElem? (i := 102) rfl)) rfl
theorem cv_X6_look : CalV yX6_look cX6_look 4 (some .int) 2 := ⟨wk_X6_look, wn_X6_look, wl_X6_look, wi_X6, ⟨by decide +kernel, by decide +kernel, by decide +kernel⟩⟩
theorem wk_X6_limit : Cond.code yX6_limit cX6_limit 3 (some .int) ∈ gtbl := gtbl_of (tb2 (List.mem_of_getElem? (i := 108) rfl)) rfl
theorem wn_X6_limit : Cond.instanceMethod yX6_limit ∈ gtbl := gtbl_of (tb2 (List.mem_of_getElem? (i := 106) rfl)) rfl
theorem wl_X6_limit : Cond.selects RX6 yX6_limit yX6_limit ∈ gtbl := gtbl_of (tb2 (List.mem_of_getElem? (i := 107) rfl)) rfl
theorem cv_X6_limit : CalV yX6_limit cX6_limit 3 (some .int) 1 := ⟨wk_X6_limit, wn_X6_limit, wl_X6_limit, wi_X6, ⟨by decide +kernel, by decide +kernel, by decide +kernel⟩⟩
theorem wk_X6_allowed : Cond.code yX6_allowed cX6_allowed 4 (some .int) ∈ gtbl := gtbl_of (tb2 (List.mem_of_getElem? (i := 112) rfl)) rfl
theorem wn_X6_allowed : Cond.instanceMethod yX6_allowed ∈ gtbl := gtbl_of (tb2 (List.mem_of_getElem? (i := 110) rfl)) rfl
theorem wl_X6_allowed : Cond.selects RX6 yX6_allowed yX6_allowed ∈ gtbl := gtbl_of (tb2 (List.mem_of_getElem? (i := 111) rfl)) rfl
theorem cv_X6_allowed : CalV yX6_allowed cX6_allowed 4 (some .int) 3 := ⟨wk_X6_allowed, wn_X6_allowed, wl_X6_allowed, wi_X6, ⟨by decide +kernel, by decide +kernel, by decide +kernel⟩⟩
theorem wk_X6_isChange : Cond.code yX6_isChange cX6_isChange 4 (some .boolean) ∈ gtbl := gtbl_of (tb2 (List.mem_of_getElem? (i := 116) rfl)) rfl
theorem wn_X6_isChange : Cond.instanceMethod yX6_isChange ∈ gtbl := gtbl_of (tb2 (List.mem_of_getElem? (i := 115) rfl)) rfl
theorem wl_X6_isChange : Cond.selects RX6 yX6_isChange yX6_isChange ∈ gtbl := gtbl_of (tbp (List.mem_of_getElem? (i := 3) rfl)) rfl
theorem cv_X6_isChange : CalV yX6_isChange cX6_isChange 4 (some .boolean) 3 := ⟨wk_X6_isChange, wn_X6_isChange, wl_X6_isChange, wi_X6, ⟨by decide +kernel, by decide +kernel, by decide +kernel⟩⟩
theorem wk_X2_hasBits : Cond.code yX2_hasBits cX2_hasBits 3 (some .boolean) ∈ gtbl := gtbl_of (tb2 (List.mem_of_getElem? (i := 120) rfl)) rfl
theorem wn_X2_hasBits : Cond.instanceMethod yX2_hasBits ∈ gtbl := gtbl_of (tb2 (List.mem_of_getElem? (i := 118) rfl)) rfl
theorem wl_X2_hasBits : Cond.selects RX2 yX2_hasBits yX2_hasBits ∈ gtbl := gtbl_of (tb2 (List.mem_of_getElem? (i := 119) rfl)) rfl
theorem cv_X2_hasBits : CalV yX2_hasBits cX2_hasBits 3 (some .boolean) 2 := ⟨wk_X2_hasBits, wn_X2_hasBits, wl_X2_hasBits, wi_X2, ⟨by decide +kernel, by decide +kernel, by decide +kernel⟩⟩
theorem wk_X6_isAllowed : Cond.code yX6_isAllowed cX6_isAllowed 4 (some .boolean) ∈ gtbl := gtbl_of (tb2 (List.mem_of_getElem? (i := 124) rfl)) rfl
theorem wn_X6_isAllowed : Cond.instanceMethod yX6_isAllowed ∈ gtbl := gtbl_of (tb2 (List.mem_of_getElem? (i := 123) rfl)) rfl
theorem wl_X6_isAllowed : Cond.selects RX6 yX6_isAllowed yX6_isAllowed ∈ gtbl := gtbl_of (tbp (List.mem_of_getElem? (i := 4) rfl)) rfl
theorem cv_X6_isAllowed : CalV yX6_isAllowed cX6_isAllowed 4 (some .boolean) 3 := ⟨wk_X6_isAllowed, wn_X6_isAllowed, wl_X6_isAllowed, wi_X6, ⟨by decide +kernel, by decide +kernel, by decide +kernel⟩⟩
theorem wk_X1_prepare : Cond.code yX1_prepare cX1_prepare 4 none ∈ gtbl := gtbl_of (tb2 (List.mem_of_getElem? (i := 128) rfl)) rfl
theorem wn_X1_prepare : Cond.instanceMethod yX1_prepare ∈ gtbl := gtbl_of (tb2 (List.mem_of_getElem? (i := 126) rfl)) rfl
theorem wl_X1_prepare : Cond.selects RX1 yX1_prepare yX1_prepare ∈ gtbl := gtbl_of (tb2 (List.mem_of_getElem? (i := 127) rfl)) rfl
theorem cv_X1_prepare : CalV yX1_prepare cX1_prepare 4 none 2 := ⟨wk_X1_prepare, wn_X1_prepare, wl_X1_prepare, wi_X1, ⟨by decide +kernel, by decide +kernel, by decide +kernel⟩⟩
theorem wk_J9_min_7cf53 : Cond.code yJ9_min_7cf53 cJ9_min_7cf53 2 (some .int) ∈ gtbl := gtbl_of (tb2 (List.mem_of_getElem? (i := 132) rfl)) rfl
theorem ws_J9_min_7cf53 : Cond.static yJ9_min_7cf53 ∈ gtbl := gtbl_of (tb2 (List.mem_of_getElem? (i := 131) rfl)) rfl
theorem cs_J9_min_7cf53 : CalS yJ9_min_7cf53 cJ9_min_7cf53 2 (some .int) 2 := ⟨wk_J9_min_7cf53, ws_J9_min_7cf53, wi_J9, ⟨by decide +kernel, by decide +kernel, by decide +kernel⟩⟩
theorem wk_X1_wigsOf : Cond.code yX1_wigsOf cX1_wigsOf 5 (some .int) ∈ gtbl := gtbl_of (tb2 (List.mem_of_getElem? (i := 136) rfl)) rfl
theorem wn_X1_wigsOf : Cond.instanceMethod yX1_wigsOf ∈ gtbl := gtbl_of (tb2 (List.mem_of_getElem? (i := 135) rfl)) rfl
theorem wl_X1_wigsOf : Cond.selects RX1 yX1_wigsOf yX1_wigsOf ∈ gtbl := gtbl_of (tbp (List.mem_of_getElem? (i := 5) rfl)) rfl
theorem cv_X1_wigsOf : CalV yX1_wigsOf cX1_wigsOf 5 (some .int) 1 := ⟨wk_X1_wigsOf, wn_X1_wigsOf, wl_X1_wigsOf, wi_X1, ⟨by decide +kernel, by decide +kernel, by decide +kernel⟩⟩
theorem wk_X1_prepareWorn : Cond.code yX1_prepareWorn cX1_prepareWorn 5 none ∈ gtbl := gtbl_of (tb2 (List.mem_of_getElem? (i := 142) rfl)) rfl
theorem wn_X1_prepareWorn : Cond.instanceMethod yX1_prepareWorn ∈ gtbl := gtbl_of (tb2 (List.mem_of_getElem? (i := 141) rfl)) rfl
theorem wl_X1_prepareWorn : Cond.selects RX1 yX1_prepareWorn yX1_prepareWorn ∈ gtbl := gtbl_of (tbp (List.mem_of_getElem? (i := 6) rfl)) rfl
theorem cv_X1_prepareWorn : CalV yX1_prepareWorn cX1_prepareWorn 5 none 3 := ⟨wk_X1_prepareWorn, wn_X1_prepareWorn, wl_X1_prepareWorn, wi_X1, ⟨by decide +kernel, by decide +kernel, by decide +kernel⟩⟩
theorem wk_X1_aheadAtPlace : Cond.code yX1_aheadAtPlace cX1_aheadAtPlace 6 (some .int) ∈ gtbl := gtbl_of (tb2 (List.mem_of_getElem? (i := 147) rfl)) rfl
theorem wn_X1_aheadAtPlace : Cond.instanceMethod yX1_aheadAtPlace ∈ gtbl := gtbl_of (tb2 (List.mem_of_getElem? (i := 146) rfl)) rfl
theorem wl_X1_aheadAtPlace : Cond.selects RX1 yX1_aheadAtPlace yX1_aheadAtPlace ∈ gtbl := gtbl_of (tbp (List.mem_of_getElem? (i := 7) rfl)) rfl
theorem cv_X1_aheadAtPlace : CalV yX1_aheadAtPlace cX1_aheadAtPlace 6 (some .int) 2 := ⟨wk_X1_aheadAtPlace, wn_X1_aheadAtPlace, wl_X1_aheadAtPlace, wi_X1, ⟨by decide +kernel, by decide +kernel, by decide +kernel⟩⟩
theorem wk_X5_haveOnePlace : Cond.code yX5_haveOnePlace cX5_haveOnePlace 3 (some .boolean) ∈ gtbl := gtbl_of (tb2 (List.mem_of_getElem? (i := 151) rfl)) rfl
theorem wn_X5_haveOnePlace : Cond.instanceMethod yX5_haveOnePlace ∈ gtbl := gtbl_of (tb2 (List.mem_of_getElem? (i := 149) rfl)) rfl
theorem wl_X5_haveOnePlace : Cond.selects RX5 yX5_haveOnePlace yX5_haveOnePlace ∈ gtbl := gtbl_of (tb2 (List.mem_of_getElem? (i := 150) rfl)) rfl
theorem cv_X5_haveOnePlace : CalV yX5_haveOnePlace cX5_haveOnePlace 3 (some .boolean) 2 := ⟨wk_X5_haveOnePlace, wn_X5_haveOnePlace, wl_X5_haveOnePlace, wi_X5, ⟨by decide +kernel, by decide +kernel, by decide +kernel⟩⟩
theorem wk_X1_isWantedUnder : Cond.code yX1_isWantedUnder cX1_isWantedUnder 3 (some .boolean) ∈ gtbl := gtbl_of (tb2 (List.mem_of_getElem? (i := 156) rfl)) rfl
theorem wn_X1_isWantedUnder : Cond.instanceMethod yX1_isWantedUnder ∈ gtbl := gtbl_of (tb2 (List.mem_of_getElem? (i := 155) rfl)) rfl
theorem wl_X1_isWantedUnder : Cond.selects RX1 yX1_isWantedUnder yX1_isWantedUnder ∈ gtbl := gtbl_of (tbp (List.mem_of_getElem? (i := 8) rfl)) rfl
theorem cv_X1_isWantedUnder : CalV yX1_isWantedUnder cX1_isWantedUnder 3 (some .boolean) 1 := ⟨wk_X1_isWantedUnder, wn_X1_isWantedUnder, wl_X1_isWantedUnder, wi_X1, ⟨by decide +kernel, by decide +kernel, by decide +kernel⟩⟩
theorem wk_X6_hasBit : Cond.code yX6_hasBit cX6_hasBit 2 (some .boolean) ∈ gtbl := gtbl_of (tb2 (List.mem_of_getElem? (i := 159) rfl)) rfl
theorem ws_X6_hasBit : Cond.static yX6_hasBit ∈ gtbl := gtbl_of (tb2 (List.mem_of_getElem? (i := 158) rfl)) rfl
theorem cs_X6_hasBit : CalS yX6_hasBit cX6_hasBit 2 (some .boolean) 2 := ⟨wk_X6_hasBit, ws_X6_hasBit, wi_X6, ⟨by decide +kernel, by decide +kernel, by decide +kernel⟩⟩
theorem wk_X1_prepareWanted : Cond.code yX1_prepareWanted cX1_prepareWanted 5 none ∈ gtbl := gtbl_of (tb2 (List.mem_of_getElem? (i := 163) rfl)) rfl
theorem wn_X1_prepareWanted : Cond.instanceMethod yX1_prepareWanted ∈ gtbl := gtbl_of (tb2 (List.mem_of_getElem? (i := 162) rfl)) rfl
theorem wl_X1_prepareWanted : Cond.selects RX1 yX1_prepareWanted yX1_prepareWanted ∈ gtbl := gtbl_of (tbp (List.mem_of_getElem? (i := 9) rfl)) rfl
theorem cv_X1_prepareWanted : CalV yX1_prepareWanted cX1_prepareWanted 5 none 3 := ⟨wk_X1_prepareWanted, wn_X1_prepareWanted, wl_X1_prepareWanted, wi_X1, ⟨by decide +kernel, by decide +kernel, by decide +kernel⟩⟩
theorem wk_X1_thickBefore : Cond.code yX1_thickBefore cX1_thickBefore 7 (some .int) ∈ gtbl := gtbl_of (tb2 (List.mem_of_getElem? (i := 167) rfl)) rfl
theorem wn_X1_thickBefore : Cond.instanceMethod yX1_thickBefore ∈ gtbl := gtbl_of (tb2 (List.mem_of_getElem? (i := 166) rfl)) rfl
theorem wl_X1_thickBefore : Cond.selects RX1 yX1_thickBefore yX1_thickBefore ∈ gtbl := gtbl_of (tbp (List.mem_of_getElem? (i := 10) rfl)) rfl
theorem cv_X1_thickBefore : CalV yX1_thickBefore cX1_thickBefore 7 (some .int) 3 := ⟨wk_X1_thickBefore, wn_X1_thickBefore, wl_X1_thickBefore, wi_X1, ⟨by decide +kernel, by decide +kernel, by decide +kernel⟩⟩
theorem wk_X1_mayLieBeneath : Cond.code yX1_mayLieBeneath cX1_mayLieBeneath 4 (some .boolean) ∈ gtbl := gtbl_of (tb2 (List.mem_of_getElem? (i := 171) rfl)) rfl
theorem wn_X1_mayLieBeneath : Cond.instanceMethod yX1_mayLieBeneath ∈ gtbl := gtbl_of (tb2 (List.mem_of_getElem? (i := 169) rfl)) rfl
theorem wl_X1_mayLieBeneath : Cond.selects RX1 yX1_mayLieBeneath yX1_mayLieBeneath ∈ gtbl := gtbl_of (tb2 (List.mem_of_getElem? (i := 170) rfl)) rfl
theorem cv_X1_mayLieBeneath : CalV yX1_mayLieBeneath cX1_mayLieBeneath 4 (some .boolean) 2 := ⟨wk_X1_mayLieBeneath, wn_X1_mayLieBeneath, wl_X1_mayLieBeneath, wi_X1, ⟨by decide +kernel, by decide +kernel, by decide +kernel⟩⟩
theorem wk_X6_told : Cond.code yX6_told cX6_told 6 (some .int) ∈ gtbl := gtbl_of (tb2 (List.mem_of_getElem? (i := 175) rfl)) rfl
theorem wn_X6_told : Cond.instanceMethod yX6_told ∈ gtbl := gtbl_of (tb2 (List.mem_of_getElem? (i := 173) rfl)) rfl
theorem wl_X6_told : Cond.selects RX6 yX6_told yX6_told ∈ gtbl := gtbl_of (tb2 (List.mem_of_getElem? (i := 174) rfl)) rfl
theorem cv_X6_told : CalV yX6_told cX6_told 6 (some .int) 4 := ⟨wk_X6_told, wn_X6_told, wl_X6_told, wi_X6, ⟨by decide +kernel, by decide +kernel, by decide +kernel⟩⟩
theorem wk_X1_handle : Cond.code yX1_handle cX1_handle 4 none ∈ gtbl := gtbl_of (tb2 (List.mem_of_getElem? (i := 179) rfl)) rfl
theorem wn_X1_handle : Cond.instanceMethod yX1_handle ∈ gtbl := gtbl_of (tb2 (List.mem_of_getElem? (i := 177) rfl)) rfl
theorem wl_X1_handle : Cond.selects RX1 yX1_handle yX1_handle ∈ gtbl := gtbl_of (tb2 (List.mem_of_getElem? (i := 178) rfl)) rfl
theorem cv_X1_handle : CalV yX1_handle cX1_handle 4 none 1 := ⟨wk_X1_handle, wn_X1_handle, wl_X1_handle, wi_X1, ⟨by decide +kernel, by decide +kernel, by decide +kernel⟩⟩
theorem wk_X1_missing : Cond.code yX1_missing cX1_missing 4 (some .int) ∈ gtbl := gtbl_of (tb2 (List.mem_of_getElem? (i := 183) rfl)) rfl
theorem wn_X1_missing : Cond.instanceMethod yX1_missing ∈ gtbl := gtbl_of (tb2 (List.mem_of_getElem? (i := 182) rfl)) rfl
theorem wl_X1_missing : Cond.selects RX1 yX1_missing yX1_missing ∈ gtbl := gtbl_of (tbp (List.mem_of_getElem? (i := 11) rfl)) rfl
theorem cv_X1_missing : CalV yX1_missing cX1_missing 4 (some .int) 1 := ⟨wk_X1_missing, wn_X1_missing, wl_X1_missing, wi_X1, ⟨by decide +kernel, by decide +kernel, by decide +kernel⟩⟩
theorem wk_X1_forcedOff : Cond.code yX1_forcedOff cX1_forcedOff 3 (some .int) ∈ gtbl := gtbl_of (tb2 (List.mem_of_getElem? (i := 187) rfl)) rfl
theorem wn_X1_forcedOff : Cond.instanceMethod yX1_forcedOff ∈ gtbl := gtbl_of (tb2 (List.mem_of_getElem? (i := 186) rfl)) rfl
theorem wl_X1_forcedOff : Cond.selects RX1 yX1_forcedOff yX1_forcedOff ∈ gtbl := gtbl_of (tbp (List.mem_of_getElem? (i := 12) rfl)) rfl
theorem cv_X1_forcedOff : CalV yX1_forcedOff cX1_forcedOff 3 (some .int) 0 := ⟨wk_X1_forcedOff, wn_X1_forcedOff, wl_X1_forcedOff, wi_X1, ⟨by decide +kernel, by decide +kernel, by decide +kernel⟩⟩
theorem wk_X1_mustComeOff : Cond.code yX1_mustComeOff cX1_mustComeOff 3 (some .boolean) ∈ gtbl := gtbl_of (tb2 (List.mem_of_getElem? (i := 191) rfl)) rfl
theorem wn_X1_mustComeOff : Cond.instanceMethod yX1_mustComeOff ∈ gtbl := gtbl_of (tb2 (List.mem_of_getElem? (i := 190) rfl)) rfl
theorem wl_X1_mustComeOff : Cond.selects RX1 yX1_mustComeOff yX1_mustComeOff ∈ gtbl := gtbl_of (tbp (List.mem_of_getElem? (i := 13) rfl)) rfl
theorem cv_X1_mustComeOff : CalV yX1_mustComeOff cX1_mustComeOff 3 (some .boolean) 1 := ⟨wk_X1_mustComeOff, wn_X1_mustComeOff, wl_X1_mustComeOff, wi_X1, ⟨by decide +kernel, by decide +kernel, by decide +kernel⟩⟩
theorem wk_J6_bitCount_0f7a4 : Cond.code yJ6_bitCount_0f7a4 cJ6_bitCount_0f7a4 1 (some .int) ∈ gtbl := gtbl_of (tb2 (List.mem_of_getElem? (i := 194) rfl)) rfl
theorem ws_J6_bitCount_0f7a4 : Cond.static yJ6_bitCount_0f7a4 ∈ gtbl := gtbl_of (tb2 (List.mem_of_getElem? (i := 193) rfl)) rfl
theorem cs_J6_bitCount_0f7a4 : CalS yJ6_bitCount_0f7a4 cJ6_bitCount_0f7a4 1 (some .int) 1 := ⟨wk_J6_bitCount_0f7a4, ws_J6_bitCount_0f7a4, wi_J6, ⟨by decide +kernel, by decide +kernel, by decide +kernel⟩⟩
theorem wk_X6_seconds : Cond.code yX6_seconds cX6_seconds 6 (some .int) ∈ gtbl := gtbl_of (tb2 (List.mem_of_getElem? (i := 201) rfl)) rfl
theorem wn_X6_seconds : Cond.instanceMethod yX6_seconds ∈ gtbl := gtbl_of (tb2 (List.mem_of_getElem? (i := 199) rfl)) rfl
theorem wl_X6_seconds : Cond.selects RX6 yX6_seconds yX6_seconds ∈ gtbl := gtbl_of (tb2 (List.mem_of_getElem? (i := 200) rfl)) rfl
theorem cv_X6_seconds : CalV yX6_seconds cX6_seconds 6 (some .int) 4 := ⟨wk_X6_seconds, wn_X6_seconds, wl_X6_seconds, wi_X6, ⟨by decide +kernel, by decide +kernel, by decide +kernel⟩⟩
theorem wk_X1_secondsWith : Cond.code yX1_secondsWith cX1_secondsWith 5 (some .int) ∈ gtbl := gtbl_of (tb2 (List.mem_of_getElem? (i := 205) rfl)) rfl
theorem wn_X1_secondsWith : Cond.instanceMethod yX1_secondsWith ∈ gtbl := gtbl_of (tb2 (List.mem_of_getElem? (i := 203) rfl)) rfl
theorem wl_X1_secondsWith : Cond.selects RX1 yX1_secondsWith yX1_secondsWith ∈ gtbl := gtbl_of (tb2 (List.mem_of_getElem? (i := 204) rfl)) rfl
theorem cv_X1_secondsWith : CalV yX1_secondsWith cX1_secondsWith 5 (some .int) 1 := ⟨wk_X1_secondsWith, wn_X1_secondsWith, wl_X1_secondsWith, wi_X1, ⟨by decide +kernel, by decide +kernel, by decide +kernel⟩⟩
theorem wk_X1_sumOf : Cond.code yX1_sumOf cX1_sumOf 5 (some .int) ∈ gtbl := gtbl_of (tb2 (List.mem_of_getElem? (i := 210) rfl)) rfl
theorem ws_X1_sumOf : Cond.static yX1_sumOf ∈ gtbl := gtbl_of (tb2 (List.mem_of_getElem? (i := 209) rfl)) rfl
theorem cs_X1_sumOf : CalS yX1_sumOf cX1_sumOf 5 (some .int) 3 := ⟨wk_X1_sumOf, ws_X1_sumOf, wi_X1, ⟨by decide +kernel, by decide +kernel, by decide +kernel⟩⟩
theorem wk_X1_mostOf : Cond.code yX1_mostOf cX1_mostOf 5 (some .int) ∈ gtbl := gtbl_of (tb2 (List.mem_of_getElem? (i := 213) rfl)) rfl
theorem ws_X1_mostOf : Cond.static yX1_mostOf ∈ gtbl := gtbl_of (tb2 (List.mem_of_getElem? (i := 212) rfl)) rfl
theorem cs_X1_mostOf : CalS yX1_mostOf cX1_mostOf 5 (some .int) 3 := ⟨wk_X1_mostOf, ws_X1_mostOf, wi_X1, ⟨by decide +kernel, by decide +kernel, by decide +kernel⟩⟩
theorem wk_J9_max_7cf53 : Cond.code yJ9_max_7cf53 cJ9_max_7cf53 2 (some .int) ∈ gtbl := gtbl_of (tb2 (List.mem_of_getElem? (i := 216) rfl)) rfl
theorem ws_J9_max_7cf53 : Cond.static yJ9_max_7cf53 ∈ gtbl := gtbl_of (tb2 (List.mem_of_getElem? (i := 215) rfl)) rfl
theorem cs_J9_max_7cf53 : CalS yJ9_max_7cf53 cJ9_max_7cf53 2 (some .int) 2 := ⟨wk_J9_max_7cf53, ws_J9_max_7cf53, wi_J9, ⟨by decide +kernel, by decide +kernel, by decide +kernel⟩⟩
theorem wk_X6_best : Cond.code yX6_best cX6_best 5 (some .int) ∈ gtbl := gtbl_of (tb2 (List.mem_of_getElem? (i := 221) rfl)) rfl
theorem wn_X6_best : Cond.instanceMethod yX6_best ∈ gtbl := gtbl_of (tb2 (List.mem_of_getElem? (i := 219) rfl)) rfl
theorem wl_X6_best : Cond.selects RX6 yX6_best yX6_best ∈ gtbl := gtbl_of (tb2 (List.mem_of_getElem? (i := 220) rfl)) rfl
theorem cv_X6_best : CalV yX6_best cX6_best 5 (some .int) 4 := ⟨wk_X6_best, wn_X6_best, wl_X6_best, wi_X6, ⟨by decide +kernel, by decide +kernel, by decide +kernel⟩⟩
theorem wk_X1_findBest : Cond.code yX1_findBest cX1_findBest 6 none ∈ gtbl := gtbl_of (tb2 (List.mem_of_getElem? (i := 225) rfl)) rfl
theorem wn_X1_findBest : Cond.instanceMethod yX1_findBest ∈ gtbl := gtbl_of (tb2 (List.mem_of_getElem? (i := 223) rfl)) rfl
theorem wl_X1_findBest : Cond.selects RX1 yX1_findBest yX1_findBest ∈ gtbl := gtbl_of (tb2 (List.mem_of_getElem? (i := 224) rfl)) rfl
theorem cv_X1_findBest : CalV yX1_findBest cX1_findBest 6 none 4 := ⟨wk_X1_findBest, wn_X1_findBest, wl_X1_findBest, wi_X1, ⟨by decide +kernel, by decide +kernel, by decide +kernel⟩⟩
theorem wk_X1_keepIfBetter : Cond.code yX1_keepIfBetter cX1_keepIfBetter 3 none ∈ gtbl := gtbl_of (tb2 (List.mem_of_getElem? (i := 233) rfl)) rfl
theorem wn_X1_keepIfBetter : Cond.instanceMethod yX1_keepIfBetter ∈ gtbl := gtbl_of (tb2 (List.mem_of_getElem? (i := 232) rfl)) rfl
theorem wl_X1_keepIfBetter : Cond.selects RX1 yX1_keepIfBetter yX1_keepIfBetter ∈ gtbl := gtbl_of (tbp (List.mem_of_getElem? (i := 14) rfl)) rfl
theorem cv_X1_keepIfBetter : CalV yX1_keepIfBetter cX1_keepIfBetter 3 none 2 := ⟨wk_X1_keepIfBetter, wn_X1_keepIfBetter, wl_X1_keepIfBetter, wi_X1, ⟨by decide +kernel, by decide +kernel, by decide +kernel⟩⟩
theorem wk_X6_shift : Cond.code yX6_shift cX6_shift 5 (some .int) ∈ gtbl := gtbl_of (tb2 (List.mem_of_getElem? (i := 238) rfl)) rfl
theorem wn_X6_shift : Cond.instanceMethod yX6_shift ∈ gtbl := gtbl_of (tb2 (List.mem_of_getElem? (i := 236) rfl)) rfl
theorem wl_X6_shift : Cond.selects RX6 yX6_shift yX6_shift ∈ gtbl := gtbl_of (tb2 (List.mem_of_getElem? (i := 237) rfl)) rfl
theorem cv_X6_shift : CalV yX6_shift cX6_shift 5 (some .int) 4 := ⟨wk_X6_shift, wn_X6_shift, wl_X6_shift, wi_X6, ⟨by decide +kernel, by decide +kernel, by decide +kernel⟩⟩
theorem wk_X6_isShiftTold : Cond.code yX6_isShiftTold cX6_isShiftTold 1 (some .boolean) ∈ gtbl := gtbl_of (tb3 (List.mem_of_getElem? (i := 1) rfl)) rfl
theorem ws_X6_isShiftTold : Cond.static yX6_isShiftTold ∈ gtbl := gtbl_of (tb3 (List.mem_of_getElem? (i := 0) rfl)) rfl
theorem cs_X6_isShiftTold : CalS yX6_isShiftTold cX6_isShiftTold 1 (some .boolean) 1 := ⟨wk_X6_isShiftTold, ws_X6_isShiftTold, wi_X6, ⟨by decide +kernel, by decide +kernel, by decide +kernel⟩⟩
theorem wk_X6_beforeIn : Cond.code yX6_beforeIn cX6_beforeIn 1 (some .int) ∈ gtbl := gtbl_of (tb3 (List.mem_of_getElem? (i := 4) rfl)) rfl
theorem ws_X6_beforeIn : Cond.static yX6_beforeIn ∈ gtbl := gtbl_of (tb3 (List.mem_of_getElem? (i := 3) rfl)) rfl
theorem cs_X6_beforeIn : CalS yX6_beforeIn cX6_beforeIn 1 (some .int) 1 := ⟨wk_X6_beforeIn, ws_X6_beforeIn, wi_X6, ⟨by decide +kernel, by decide +kernel, by decide +kernel⟩⟩
theorem wk_X6_afterIn : Cond.code yX6_afterIn cX6_afterIn 1 (some .int) ∈ gtbl := gtbl_of (tb3 (List.mem_of_getElem? (i := 7) rfl)) rfl
theorem ws_X6_afterIn : Cond.static yX6_afterIn ∈ gtbl := gtbl_of (tb3 (List.mem_of_getElem? (i := 6) rfl)) rfl
theorem cs_X6_afterIn : CalS yX6_afterIn cX6_afterIn 1 (some .int) 1 := ⟨wk_X6_afterIn, ws_X6_afterIn, wi_X6, ⟨by decide +kernel, by decide +kernel, by decide +kernel⟩⟩
theorem wk_X6_doorIn : Cond.code yX6_doorIn cX6_doorIn 1 (some .int) ∈ gtbl := gtbl_of (tb3 (List.mem_of_getElem? (i := 10) rfl)) rfl
theorem ws_X6_doorIn : Cond.static yX6_doorIn ∈ gtbl := gtbl_of (tb3 (List.mem_of_getElem? (i := 9) rfl)) rfl
theorem cs_X6_doorIn : CalS yX6_doorIn cX6_doorIn 1 (some .int) 1 := ⟨wk_X6_doorIn, ws_X6_doorIn, wi_X6, ⟨by decide +kernel, by decide +kernel, by decide +kernel⟩⟩
theorem wk_X4_isFull : Cond.code yX4_isFull cX4_isFull 1 (some .boolean) ∈ gtbl := gtbl_of (tb3 (List.mem_of_getElem? (i := 14) rfl)) rfl
theorem wn_X4_isFull : Cond.instanceMethod yX4_isFull ∈ gtbl := gtbl_of (tb3 (List.mem_of_getElem? (i := 12) rfl)) rfl
theorem wl_X4_isFull : Cond.selects RX4 yX4_isFull yX4_isFull ∈ gtbl := gtbl_of (tb3 (List.mem_of_getElem? (i := 13) rfl)) rfl
theorem cv_X4_isFull : CalV yX4_isFull cX4_isFull 1 (some .boolean) 0 := ⟨wk_X4_isFull, wn_X4_isFull, wl_X4_isFull, wi_X4, ⟨by decide +kernel, by decide +kernel, by decide +kernel⟩⟩
theorem wk_X4_add : Cond.code yX4_add cX4_add 6 (some .int) ∈ gtbl := gtbl_of (tb3 (List.mem_of_getElem? (i := 18) rfl)) rfl
theorem wn_X4_add : Cond.instanceMethod yX4_add ∈ gtbl := gtbl_of (tb3 (List.mem_of_getElem? (i := 16) rfl)) rfl
theorem wl_X4_add : Cond.selects RX4 yX4_add yX4_add ∈ gtbl := gtbl_of (tb3 (List.mem_of_getElem? (i := 17) rfl)) rfl
theorem cv_X4_add : CalV yX4_add cX4_add 6 (some .int) 4 := ⟨wk_X4_add, wn_X4_add, wl_X4_add, wi_X4, ⟨by decide +kernel, by decide +kernel, by decide +kernel⟩⟩
theorem wk_X6_less : Cond.code yX6_less cX6_less 1 (some .int) ∈ gtbl := gtbl_of (tb3 (List.mem_of_getElem? (i := 22) rfl)) rfl
theorem wn_X6_less : Cond.instanceMethod yX6_less ∈ gtbl := gtbl_of (tb3 (List.mem_of_getElem? (i := 20) rfl)) rfl
theorem wl_X6_less : Cond.selects RX6 yX6_less yX6_less ∈ gtbl := gtbl_of (tb3 (List.mem_of_getElem? (i := 21) rfl)) rfl
theorem cv_X6_less : CalV yX6_less cX6_less 1 (some .int) 0 := ⟨wk_X6_less, wn_X6_less, wl_X6_less, wi_X6, ⟨by decide +kernel, by decide +kernel, by decide +kernel⟩⟩
theorem wk_X4_dropLatest : Cond.code yX4_dropLatest cX4_dropLatest 1 (some .int) ∈ gtbl := gtbl_of (tb3 (List.mem_of_getElem? (i := 26) rfl)) rfl
theorem wn_X4_dropLatest : Cond.instanceMethod yX4_dropLatest ∈ gtbl := gtbl_of (tb3 (List.mem_of_getElem? (i := 24) rfl)) rfl
theorem wl_X4_dropLatest : Cond.selects RX4 yX4_dropLatest yX4_dropLatest ∈ gtbl := gtbl_of (tb3 (List.mem_of_getElem? (i := 25) rfl)) rfl
theorem cv_X4_dropLatest : CalV yX4_dropLatest cX4_dropLatest 1 (some .int) 0 := ⟨wk_X4_dropLatest, wn_X4_dropLatest, wl_X4_dropLatest, wi_X4, ⟨by decide +kernel, by decide +kernel, by decide +kernel⟩⟩
theorem wk_X6_way : Cond.code yX6_way cX6_way 4 (some .int) ∈ gtbl := gtbl_of (tb3 (List.mem_of_getElem? (i := 31) rfl)) rfl
theorem wn_X6_way : Cond.instanceMethod yX6_way ∈ gtbl := gtbl_of (tb3 (List.mem_of_getElem? (i := 29) rfl)) rfl
theorem wl_X6_way : Cond.selects RX6 yX6_way yX6_way ∈ gtbl := gtbl_of (tb3 (List.mem_of_getElem? (i := 30) rfl)) rfl
theorem cv_X6_way : CalV yX6_way cX6_way 4 (some .int) 3 := ⟨wk_X6_way, wn_X6_way, wl_X6_way, wi_X6, ⟨by decide +kernel, by decide +kernel, by decide +kernel⟩⟩
theorem wk_X4_setWay : Cond.code yX4_setWay cX4_setWay 5 (some .int) ∈ gtbl := gtbl_of (tb3 (List.mem_of_getElem? (i := 35) rfl)) rfl
theorem wn_X4_setWay : Cond.instanceMethod yX4_setWay ∈ gtbl := gtbl_of (tb3 (List.mem_of_getElem? (i := 33) rfl)) rfl
theorem wl_X4_setWay : Cond.selects RX4 yX4_setWay yX4_setWay ∈ gtbl := gtbl_of (tb3 (List.mem_of_getElem? (i := 34) rfl)) rfl
theorem cv_X4_setWay : CalV yX4_setWay cX4_setWay 5 (some .int) 3 := ⟨wk_X4_setWay, wn_X4_setWay, wl_X4_setWay, wi_X4, ⟨by decide +kernel, by decide +kernel, by decide +kernel⟩⟩
theorem wk_X4_wayBetween : Cond.code yX4_wayBetween cX4_wayBetween 3 (some .int) ∈ gtbl := gtbl_of (tb3 (List.mem_of_getElem? (i := 39) rfl)) rfl
theorem wn_X4_wayBetween : Cond.instanceMethod yX4_wayBetween ∈ gtbl := gtbl_of (tb3 (List.mem_of_getElem? (i := 38) rfl)) rfl
theorem wl_X4_wayBetween : Cond.selects RX4 yX4_wayBetween yX4_wayBetween ∈ gtbl := gtbl_of (tbp (List.mem_of_getElem? (i := 15) rfl)) rfl
theorem cv_X4_wayBetween : CalV yX4_wayBetween cX4_wayBetween 3 (some .int) 2 := ⟨wk_X4_wayBetween, wn_X4_wayBetween, wl_X4_wayBetween, wi_X4, ⟨by decide +kernel, by decide +kernel, by decide +kernel⟩⟩
theorem wk_X6_fits : Cond.code yX6_fits cX6_fits 2 (some .int) ∈ gtbl := gtbl_of (tb3 (List.mem_of_getElem? (i := 44) rfl)) rfl
theorem wn_X6_fits : Cond.instanceMethod yX6_fits ∈ gtbl := gtbl_of (tb3 (List.mem_of_getElem? (i := 42) rfl)) rfl
theorem wl_X6_fits : Cond.selects RX6 yX6_fits yX6_fits ∈ gtbl := gtbl_of (tb3 (List.mem_of_getElem? (i := 43) rfl)) rfl
theorem cv_X6_fits : CalV yX6_fits cX6_fits 2 (some .int) 1 := ⟨wk_X6_fits, wn_X6_fits, wl_X6_fits, wi_X6, ⟨by decide +kernel, by decide +kernel, by decide +kernel⟩⟩
theorem wk_X4_has : Cond.code yX4_has cX4_has 2 (some .boolean) ∈ gtbl := gtbl_of (tb3 (List.mem_of_getElem? (i := 48) rfl)) rfl
theorem wn_X4_has : Cond.instanceMethod yX4_has ∈ gtbl := gtbl_of (tb3 (List.mem_of_getElem? (i := 46) rfl)) rfl
theorem wl_X4_has : Cond.selects RX4 yX4_has yX4_has ∈ gtbl := gtbl_of (tb3 (List.mem_of_getElem? (i := 47) rfl)) rfl
theorem cv_X4_has : CalV yX4_has cX4_has 2 (some .boolean) 1 := ⟨wk_X4_has, wn_X4_has, wl_X4_has, wi_X4, ⟨by decide +kernel, by decide +kernel, by decide +kernel⟩⟩
theorem wk_X4_lookBefore : Cond.code yX4_lookBefore cX4_lookBefore 2 (some .int) ∈ gtbl := gtbl_of (tb3 (List.mem_of_getElem? (i := 52) rfl)) rfl
theorem wn_X4_lookBefore : Cond.instanceMethod yX4_lookBefore ∈ gtbl := gtbl_of (tb3 (List.mem_of_getElem? (i := 50) rfl)) rfl
theorem wl_X4_lookBefore : Cond.selects RX4 yX4_lookBefore yX4_lookBefore ∈ gtbl := gtbl_of (tb3 (List.mem_of_getElem? (i := 51) rfl)) rfl
theorem cv_X4_lookBefore : CalV yX4_lookBefore cX4_lookBefore 2 (some .int) 1 := ⟨wk_X4_lookBefore, wn_X4_lookBefore, wl_X4_lookBefore, wi_X4, ⟨by decide +kernel, by decide +kernel, by decide +kernel⟩⟩
theorem wk_X4_lookAfter : Cond.code yX4_lookAfter cX4_lookAfter 2 (some .int) ∈ gtbl := gtbl_of (tb3 (List.mem_of_getElem? (i := 58) rfl)) rfl
theorem wn_X4_lookAfter : Cond.instanceMethod yX4_lookAfter ∈ gtbl := gtbl_of (tb3 (List.mem_of_getElem? (i := 56) rfl)) rfl
theorem wl_X4_lookAfter : Cond.selects RX4 yX4_lookAfter yX4_lookAfter ∈ gtbl := gtbl_of (tb3 (List.mem_of_getElem? (i := 57) rfl)) rfl
theorem cv_X4_lookAfter : CalV yX4_lookAfter cX4_lookAfter 2 (some .int) 1 := ⟨wk_X4_lookAfter, wn_X4_lookAfter, wl_X4_lookAfter, wi_X4, ⟨by decide +kernel, by decide +kernel, by decide +kernel⟩⟩
theorem wk_X4_handsOf : Cond.code yX4_handsOf cX4_handsOf 2 (some .int) ∈ gtbl := gtbl_of (tb3 (List.mem_of_getElem? (i := 63) rfl)) rfl
theorem wn_X4_handsOf : Cond.instanceMethod yX4_handsOf ∈ gtbl := gtbl_of (tb3 (List.mem_of_getElem? (i := 61) rfl)) rfl
theorem wl_X4_handsOf : Cond.selects RX4 yX4_handsOf yX4_handsOf ∈ gtbl := gtbl_of (tb3 (List.mem_of_getElem? (i := 62) rfl)) rfl
theorem cv_X4_handsOf : CalV yX4_handsOf cX4_handsOf 2 (some .int) 1 := ⟨wk_X4_handsOf, wn_X4_handsOf, wl_X4_handsOf, wi_X4, ⟨by decide +kernel, by decide +kernel, by decide +kernel⟩⟩
theorem wk_X4_lengthOf : Cond.code yX4_lengthOf cX4_lengthOf 2 (some .int) ∈ gtbl := gtbl_of (tb3 (List.mem_of_getElem? (i := 67) rfl)) rfl
theorem wn_X4_lengthOf : Cond.instanceMethod yX4_lengthOf ∈ gtbl := gtbl_of (tb3 (List.mem_of_getElem? (i := 65) rfl)) rfl
theorem wl_X4_lengthOf : Cond.selects RX4 yX4_lengthOf yX4_lengthOf ∈ gtbl := gtbl_of (tb3 (List.mem_of_getElem? (i := 66) rfl)) rfl
theorem cv_X4_lengthOf : CalV yX4_lengthOf cX4_lengthOf 2 (some .int) 1 := ⟨wk_X4_lengthOf, wn_X4_lengthOf, wl_X4_lengthOf, wi_X4, ⟨by decide +kernel, by decide +kernel, by decide +kernel⟩⟩
theorem wk_X6_dressers : Cond.code yX6_dressers cX6_dressers 1 (some .int) ∈ gtbl := gtbl_of (tb3 (List.mem_of_getElem? (i := 71) rfl)) rfl
theorem wn_X6_dressers : Cond.instanceMethod yX6_dressers ∈ gtbl := gtbl_of (tb3 (List.mem_of_getElem? (i := 69) rfl)) rfl
theorem wl_X6_dressers : Cond.selects RX6 yX6_dressers yX6_dressers ∈ gtbl := gtbl_of (tb3 (List.mem_of_getElem? (i := 70) rfl)) rfl
theorem cv_X6_dressers : CalV yX6_dressers cX6_dressers 1 (some .int) 0 := ⟨wk_X6_dressers, wn_X6_dressers, wl_X6_dressers, wi_X6, ⟨by decide +kernel, by decide +kernel, by decide +kernel⟩⟩
theorem wk_X3_fewest : Cond.code yX3_fewest cX3_fewest 3 (some .int) ∈ gtbl := gtbl_of (tb3 (List.mem_of_getElem? (i := 75) rfl)) rfl
theorem wn_X3_fewest : Cond.instanceMethod yX3_fewest ∈ gtbl := gtbl_of (tb3 (List.mem_of_getElem? (i := 73) rfl)) rfl
theorem wl_X3_fewest : Cond.selects RX3 yX3_fewest yX3_fewest ∈ gtbl := gtbl_of (tb3 (List.mem_of_getElem? (i := 74) rfl)) rfl
theorem cv_X3_fewest : CalV yX3_fewest cX3_fewest 3 (some .int) 0 := ⟨wk_X3_fewest, wn_X3_fewest, wl_X3_fewest, wi_X3, ⟨by decide +kernel, by decide +kernel, by decide +kernel⟩⟩
theorem wk_J7_fill_53178 : Cond.code yJ7_fill_53178 cJ7_fill_53178 4 none ∈ gtbl := gtbl_of (tb3 (List.mem_of_getElem? (i := 78) rfl)) rfl
theorem ws_J7_fill_53178 : Cond.static yJ7_fill_53178 ∈ gtbl := gtbl_of (tb3 (List.mem_of_getElem? (i := 77) rfl)) rfl
theorem cs_J7_fill_53178 : CalS yJ7_fill_53178 cJ7_fill_53178 4 none 2 := ⟨wk_J7_fill_53178, ws_J7_fill_53178, wi_J7, ⟨by decide +kernel, by decide +kernel, by decide +kernel⟩⟩
theorem wk_X3_sendOn : Cond.code yX3_sendOn cX3_sendOn 6 (some .int) ∈ gtbl := gtbl_of (tb3 (List.mem_of_getElem? (i := 83) rfl)) rfl
theorem wn_X3_sendOn : Cond.instanceMethod yX3_sendOn ∈ gtbl := gtbl_of (tb3 (List.mem_of_getElem? (i := 82) rfl)) rfl
theorem wl_X3_sendOn : Cond.selects RX3 yX3_sendOn yX3_sendOn ∈ gtbl := gtbl_of (tbp (List.mem_of_getElem? (i := 16) rfl)) rfl
theorem cv_X3_sendOn : CalV yX3_sendOn cX3_sendOn 6 (some .int) 1 := ⟨wk_X3_sendOn, wn_X3_sendOn, wl_X3_sendOn, wi_X3, ⟨by decide +kernel, by decide +kernel, by decide +kernel⟩⟩
theorem wk_X3_search : Cond.code yX3_search cX3_search 5 (some .int) ∈ gtbl := gtbl_of (tb3 (List.mem_of_getElem? (i := 87) rfl)) rfl
theorem wn_X3_search : Cond.instanceMethod yX3_search ∈ gtbl := gtbl_of (tb3 (List.mem_of_getElem? (i := 86) rfl)) rfl
theorem wl_X3_search : Cond.selects RX3 yX3_search yX3_search ∈ gtbl := gtbl_of (tbp (List.mem_of_getElem? (i := 17) rfl)) rfl
theorem cv_X3_search : CalV yX3_search cX3_search 5 (some .int) 1 := ⟨wk_X3_search, wn_X3_search, wl_X3_search, wi_X3, ⟨by decide +kernel, by decide +kernel, by decide +kernel⟩⟩
theorem wk_X3_enqueue : Cond.code yX3_enqueue cX3_enqueue 3 none ∈ gtbl := gtbl_of (tb3 (List.mem_of_getElem? (i := 91) rfl)) rfl
theorem wn_X3_enqueue : Cond.instanceMethod yX3_enqueue ∈ gtbl := gtbl_of (tb3 (List.mem_of_getElem? (i := 90) rfl)) rfl
theorem wl_X3_enqueue : Cond.selects RX3 yX3_enqueue yX3_enqueue ∈ gtbl := gtbl_of (tbp (List.mem_of_getElem? (i := 18) rfl)) rfl
theorem cv_X3_enqueue : CalV yX3_enqueue cX3_enqueue 3 none 2 := ⟨wk_X3_enqueue, wn_X3_enqueue, wl_X3_enqueue, wi_X3, ⟨by decide +kernel, by decide +kernel, by decide +kernel⟩⟩
theorem wk_X4_mayGo : Cond.code yX4_mayGo cX4_mayGo 3 (some .boolean) ∈ gtbl := gtbl_of (tb3 (List.mem_of_getElem? (i := 96) rfl)) rfl
theorem wn_X4_mayGo : Cond.instanceMethod yX4_mayGo ∈ gtbl := gtbl_of (tb3 (List.mem_of_getElem? (i := 94) rfl)) rfl
theorem wl_X4_mayGo : Cond.selects RX4 yX4_mayGo yX4_mayGo ∈ gtbl := gtbl_of (tb3 (List.mem_of_getElem? (i := 95) rfl)) rfl
theorem cv_X4_mayGo : CalV yX4_mayGo cX4_mayGo 3 (some .boolean) 2 := ⟨wk_X4_mayGo, wn_X4_mayGo, wl_X4_mayGo, wi_X4, ⟨by decide +kernel, by decide +kernel, by decide +kernel⟩⟩
theorem wk_X3_enqueueThoseGoingTo : Cond.code yX3_enqueueThoseGoingTo cX3_enqueueThoseGoingTo 3 none ∈ gtbl := gtbl_of (tb3 (List.mem_of_getElem? (i := 101) rfl)) rfl
theorem wn_X3_enqueueThoseGoingTo : Cond.instanceMethod yX3_enqueueThoseGoingTo ∈ gtbl := gtbl_of (tb3 (List.mem_of_getElem? (i := 100) rfl)) rfl
theorem wl_X3_enqueueThoseGoingTo : Cond.selects RX3 yX3_enqueueThoseGoingTo yX3_enqueueThoseGoingTo ∈ gtbl := gtbl_of (tbp (List.mem_of_getElem? (i := 19) rfl)) rfl
theorem cv_X3_enqueueThoseGoingTo : CalV yX3_enqueueThoseGoingTo cX3_enqueueThoseGoingTo 3 none 1 := ⟨wk_X3_enqueueThoseGoingTo, wn_X3_enqueueThoseGoingTo, wl_X3_enqueueThoseGoingTo, wi_X3, ⟨by decide +kernel, by decide +kernel, by decide +kernel⟩⟩
theorem wk_X3_goingBetween : Cond.code yX3_goingBetween cX3_goingBetween 3 (some .int) ∈ gtbl := gtbl_of (tb3 (List.mem_of_getElem? (i := 105) rfl)) rfl
theorem wn_X3_goingBetween : Cond.instanceMethod yX3_goingBetween ∈ gtbl := gtbl_of (tb3 (List.mem_of_getElem? (i := 104) rfl)) rfl
theorem wl_X3_goingBetween : Cond.selects RX3 yX3_goingBetween yX3_goingBetween ∈ gtbl := gtbl_of (tbp (List.mem_of_getElem? (i := 20) rfl)) rfl
theorem cv_X3_goingBetween : CalV yX3_goingBetween cX3_goingBetween 3 (some .int) 2 := ⟨wk_X3_goingBetween, wn_X3_goingBetween, wl_X3_goingBetween, wi_X3, ⟨by decide +kernel, by decide +kernel, by decide +kernel⟩⟩
theorem wk_X3_settle : Cond.code yX3_settle cX3_settle 6 none ∈ gtbl := gtbl_of (tb3 (List.mem_of_getElem? (i := 109) rfl)) rfl
theorem wn_X3_settle : Cond.instanceMethod yX3_settle ∈ gtbl := gtbl_of (tb3 (List.mem_of_getElem? (i := 108) rfl)) rfl
theorem wl_X3_settle : Cond.selects RX3 yX3_settle yX3_settle ∈ gtbl := gtbl_of (tbp (List.mem_of_getElem? (i := 21) rfl)) rfl
theorem cv_X3_settle : CalV yX3_settle cX3_settle 6 none 2 := ⟨wk_X3_settle, wn_X3_settle, wl_X3_settle, wi_X3, ⟨by decide +kernel, by decide +kernel, by decide +kernel⟩⟩
theorem wk_X3_noteGoing : Cond.code yX3_noteGoing cX3_noteGoing 4 none ∈ gtbl := gtbl_of (tb3 (List.mem_of_getElem? (i := 113) rfl)) rfl
theorem wn_X3_noteGoing : Cond.instanceMethod yX3_noteGoing ∈ gtbl := gtbl_of (tb3 (List.mem_of_getElem? (i := 112) rfl)) rfl
theorem wl_X3_noteGoing : Cond.selects RX3 yX3_noteGoing yX3_noteGoing ∈ gtbl := gtbl_of (tbp (List.mem_of_getElem? (i := 22) rfl)) rfl
theorem cv_X3_noteGoing : CalV yX3_noteGoing cX3_noteGoing 4 none 3 := ⟨wk_X3_noteGoing, wn_X3_noteGoing, wl_X3_noteGoing, wi_X3, ⟨by decide +kernel, by decide +kernel, by decide +kernel⟩⟩
theorem wk_X6_worn : Cond.code yX6_worn cX6_worn 2 (some .int) ∈ gtbl := gtbl_of (tb3 (List.mem_of_getElem? (i := 117) rfl)) rfl
theorem wn_X6_worn : Cond.instanceMethod yX6_worn ∈ gtbl := gtbl_of (tb3 (List.mem_of_getElem? (i := 115) rfl)) rfl
theorem wl_X6_worn : Cond.selects RX6 yX6_worn yX6_worn ∈ gtbl := gtbl_of (tb3 (List.mem_of_getElem? (i := 116) rfl)) rfl
theorem cv_X6_worn : CalV yX6_worn cX6_worn 2 (some .int) 1 := ⟨wk_X6_worn, wn_X6_worn, wl_X6_worn, wi_X6, ⟨by decide +kernel, by decide +kernel, by decide +kernel⟩⟩
theorem wk_X6_wash : Cond.code yX6_wash cX6_wash 2 (some .int) ∈ gtbl := gtbl_of (tb3 (List.mem_of_getElem? (i := 122) rfl)) rfl
theorem wn_X6_wash : Cond.instanceMethod yX6_wash ∈ gtbl := gtbl_of (tb3 (List.mem_of_getElem? (i := 120) rfl)) rfl
theorem wl_X6_wash : Cond.selects RX6 yX6_wash yX6_wash ∈ gtbl := gtbl_of (tb3 (List.mem_of_getElem? (i := 121) rfl)) rfl
theorem cv_X6_wash : CalV yX6_wash cX6_wash 2 (some .int) 1 := ⟨wk_X6_wash, wn_X6_wash, wl_X6_wash, wi_X6, ⟨by decide +kernel, by decide +kernel, by decide +kernel⟩⟩
theorem wk_X5_countInWash : Cond.code yX5_countInWash cX5_countInWash 3 (some .int) ∈ gtbl := gtbl_of (tb3 (List.mem_of_getElem? (i := 126) rfl)) rfl
theorem wn_X5_countInWash : Cond.instanceMethod yX5_countInWash ∈ gtbl := gtbl_of (tb3 (List.mem_of_getElem? (i := 124) rfl)) rfl
theorem wl_X5_countInWash : Cond.selects RX5 yX5_countInWash yX5_countInWash ∈ gtbl := gtbl_of (tb3 (List.mem_of_getElem? (i := 125) rfl)) rfl
theorem cv_X5_countInWash : CalV yX5_countInWash cX5_countInWash 3 (some .int) 0 := ⟨wk_X5_countInWash, wn_X5_countInWash, wl_X5_countInWash, wi_X5, ⟨by decide +kernel, by decide +kernel, by decide +kernel⟩⟩
theorem wk_X5_soak : Cond.code yX5_soak cX5_soak 3 (some .int) ∈ gtbl := gtbl_of (tb3 (List.mem_of_getElem? (i := 130) rfl)) rfl
theorem wn_X5_soak : Cond.instanceMethod yX5_soak ∈ gtbl := gtbl_of (tb3 (List.mem_of_getElem? (i := 128) rfl)) rfl
theorem wl_X5_soak : Cond.selects RX5 yX5_soak yX5_soak ∈ gtbl := gtbl_of (tb3 (List.mem_of_getElem? (i := 129) rfl)) rfl
theorem cv_X5_soak : CalV yX5_soak cX5_soak 3 (some .int) 1 := ⟨wk_X5_soak, wn_X5_soak, wl_X5_soak, wi_X5, ⟨by decide +kernel, by decide +kernel, by decide +kernel⟩⟩
theorem wk_X6_hours : Cond.code yX6_hours cX6_hours 2 (some .int) ∈ gtbl := gtbl_of (tb3 (List.mem_of_getElem? (i := 134) rfl)) rfl
theorem wn_X6_hours : Cond.instanceMethod yX6_hours ∈ gtbl := gtbl_of (tb3 (List.mem_of_getElem? (i := 132) rfl)) rfl
theorem wl_X6_hours : Cond.selects RX6 yX6_hours yX6_hours ∈ gtbl := gtbl_of (tb3 (List.mem_of_getElem? (i := 133) rfl)) rfl
theorem cv_X6_hours : CalV yX6_hours cX6_hours 2 (some .int) 1 := ⟨wk_X6_hours, wn_X6_hours, wl_X6_hours, wi_X6, ⟨by decide +kernel, by decide +kernel, by decide +kernel⟩⟩
theorem wk_X5_passHours : Cond.code yX5_passHours cX5_passHours 4 (some .int) ∈ gtbl := gtbl_of (tb3 (List.mem_of_getElem? (i := 139) rfl)) rfl
theorem wn_X5_passHours : Cond.instanceMethod yX5_passHours ∈ gtbl := gtbl_of (tb3 (List.mem_of_getElem? (i := 137) rfl)) rfl
theorem wl_X5_passHours : Cond.selects RX5 yX5_passHours yX5_passHours ∈ gtbl := gtbl_of (tb3 (List.mem_of_getElem? (i := 138) rfl)) rfl
theorem cv_X5_passHours : CalV yX5_passHours cX5_passHours 4 (some .int) 1 := ⟨wk_X5_passHours, wn_X5_passHours, wl_X5_passHours, wi_X5, ⟨by decide +kernel, by decide +kernel, by decide +kernel⟩⟩
theorem wk_X5_dries : Cond.code yX5_dries cX5_dries 2 (some .boolean) ∈ gtbl := gtbl_of (tb3 (List.mem_of_getElem? (i := 143) rfl)) rfl
theorem wn_X5_dries : Cond.instanceMethod yX5_dries ∈ gtbl := gtbl_of (tb3 (List.mem_of_getElem? (i := 142) rfl)) rfl
theorem wl_X5_dries : Cond.selects RX5 yX5_dries yX5_dries ∈ gtbl := gtbl_of (tbp (List.mem_of_getElem? (i := 23) rfl)) rfl
theorem cv_X5_dries : CalV yX5_dries cX5_dries 2 (some .boolean) 1 := ⟨wk_X5_dries, wn_X5_dries, wl_X5_dries, wi_X5, ⟨by decide +kernel, by decide +kernel, by decide +kernel⟩⟩
theorem wk_X6_tonight : Cond.code yX6_tonight cX6_tonight 6 (some .int) ∈ gtbl := gtbl_of (tb3 (List.mem_of_getElem? (i := 147) rfl)) rfl
theorem wn_X6_tonight : Cond.instanceMethod yX6_tonight ∈ gtbl := gtbl_of (tb3 (List.mem_of_getElem? (i := 145) rfl)) rfl
theorem wl_X6_tonight : Cond.selects RX6 yX6_tonight yX6_tonight ∈ gtbl := gtbl_of (tb3 (List.mem_of_getElem? (i := 146) rfl)) rfl
theorem cv_X6_tonight : CalV yX6_tonight cX6_tonight 6 (some .int) 2 := ⟨wk_X6_tonight, wn_X6_tonight, wl_X6_tonight, wi_X6, ⟨by decide +kernel, by decide +kernel, by decide +kernel⟩⟩
theorem wk_X6_costTonight : Cond.code yX6_costTonight cX6_costTonight 6 (some .int) ∈ gtbl := gtbl_of (tb3 (List.mem_of_getElem? (i := 151) rfl)) rfl
theorem wn_X6_costTonight : Cond.instanceMethod yX6_costTonight ∈ gtbl := gtbl_of (tb3 (List.mem_of_getElem? (i := 150) rfl)) rfl
theorem wl_X6_costTonight : Cond.selects RX6 yX6_costTonight yX6_costTonight ∈ gtbl := gtbl_of (tbp (List.mem_of_getElem? (i := 24) rfl)) rfl
theorem cv_X6_costTonight : CalV yX6_costTonight cX6_costTonight 6 (some .int) 3 := ⟨wk_X6_costTonight, wn_X6_costTonight, wl_X6_costTonight, wi_X6, ⟨by decide +kernel, by decide +kernel, by decide +kernel⟩⟩
theorem wk_X5_sizesAway : Cond.code yX5_sizesAway cX5_sizesAway 5 (some .int) ∈ gtbl := gtbl_of (tb3 (List.mem_of_getElem? (i := 155) rfl)) rfl
theorem wn_X5_sizesAway : Cond.instanceMethod yX5_sizesAway ∈ gtbl := gtbl_of (tb3 (List.mem_of_getElem? (i := 153) rfl)) rfl
theorem wl_X5_sizesAway : Cond.selects RX5 yX5_sizesAway yX5_sizesAway ∈ gtbl := gtbl_of (tb3 (List.mem_of_getElem? (i := 154) rfl)) rfl
theorem cv_X5_sizesAway : CalV yX5_sizesAway cX5_sizesAway 5 (some .int) 2 := ⟨wk_X5_sizesAway, wn_X5_sizesAway, wl_X5_sizesAway, wi_X5, ⟨by decide +kernel, by decide +kernel, by decide +kernel⟩⟩
theorem wk_X6_countAheadForSwap : Cond.code yX6_countAheadForSwap cX6_countAheadForSwap 11 (some .int) ∈ gtbl := gtbl_of (tb3 (List.mem_of_getElem? (i := 160) rfl)) rfl
theorem wn_X6_countAheadForSwap : Cond.instanceMethod yX6_countAheadForSwap ∈ gtbl := gtbl_of (tb3 (List.mem_of_getElem? (i := 159) rfl)) rfl
theorem wl_X6_countAheadForSwap : Cond.selects RX6 yX6_countAheadForSwap yX6_countAheadForSwap ∈ gtbl := gtbl_of (tbp (List.mem_of_getElem? (i := 25) rfl)) rfl
theorem cv_X6_countAheadForSwap : CalV yX6_countAheadForSwap cX6_countAheadForSwap 11 (some .int) 3 := ⟨wk_X6_countAheadForSwap, wn_X6_countAheadForSwap, wl_X6_countAheadForSwap, wi_X6, ⟨by decide +kernel, by decide +kernel, by decide +kernel⟩⟩
theorem wk_X5_areAlike : Cond.code yX5_areAlike cX5_areAlike 3 (some .boolean) ∈ gtbl := gtbl_of (tb3 (List.mem_of_getElem? (i := 164) rfl)) rfl
theorem wn_X5_areAlike : Cond.instanceMethod yX5_areAlike ∈ gtbl := gtbl_of (tb3 (List.mem_of_getElem? (i := 162) rfl)) rfl
theorem wl_X5_areAlike : Cond.selects RX5 yX5_areAlike yX5_areAlike ∈ gtbl := gtbl_of (tb3 (List.mem_of_getElem? (i := 163) rfl)) rfl
theorem cv_X5_areAlike : CalV yX5_areAlike cX5_areAlike 3 (some .boolean) 2 := ⟨wk_X5_areAlike, wn_X5_areAlike, wl_X5_areAlike, wi_X5, ⟨by decide +kernel, by decide +kernel, by decide +kernel⟩⟩
theorem wk_X6_countSpares : Cond.code yX6_countSpares cX6_countSpares 5 (some .int) ∈ gtbl := gtbl_of (tb3 (List.mem_of_getElem? (i := 169) rfl)) rfl
theorem wn_X6_countSpares : Cond.instanceMethod yX6_countSpares ∈ gtbl := gtbl_of (tb3 (List.mem_of_getElem? (i := 168) rfl)) rfl
theorem wl_X6_countSpares : Cond.selects RX6 yX6_countSpares yX6_countSpares ∈ gtbl := gtbl_of (tbp (List.mem_of_getElem? (i := 26) rfl)) rfl
theorem cv_X6_countSpares : CalV yX6_countSpares cX6_countSpares 5 (some .int) 2 := ⟨wk_X6_countSpares, wn_X6_countSpares, wl_X6_countSpares, wi_X6, ⟨by decide +kernel, by decide +kernel, by decide +kernel⟩⟩
theorem wk_X2_isInNone : Cond.code yX2_isInNone cX2_isInNone 2 (some .boolean) ∈ gtbl := gtbl_of (tb3 (List.mem_of_getElem? (i := 173) rfl)) rfl
theorem wn_X2_isInNone : Cond.instanceMethod yX2_isInNone ∈ gtbl := gtbl_of (tb3 (List.mem_of_getElem? (i := 171) rfl)) rfl
theorem wl_X2_isInNone : Cond.selects RX2 yX2_isInNone yX2_isInNone ∈ gtbl := gtbl_of (tb3 (List.mem_of_getElem? (i := 172) rfl)) rfl
theorem cv_X2_isInNone : CalV yX2_isInNone cX2_isInNone 2 (some .boolean) 1 := ⟨wk_X2_isInNone, wn_X2_isInNone, wl_X2_isInNone, wi_X2, ⟨by decide +kernel, by decide +kernel, by decide +kernel⟩⟩
theorem wk_X6_tell : Cond.code yX6_tell cX6_tell 2 (some .int) ∈ gtbl := gtbl_of (tb3 (List.mem_of_getElem? (i := 177) rfl)) rfl
theorem wn_X6_tell : Cond.instanceMethod yX6_tell ∈ gtbl := gtbl_of (tb3 (List.mem_of_getElem? (i := 175) rfl)) rfl
theorem wl_X6_tell : Cond.selects RX6 yX6_tell yX6_tell ∈ gtbl := gtbl_of (tb3 (List.mem_of_getElem? (i := 176) rfl)) rfl
theorem cv_X6_tell : CalV yX6_tell cX6_tell 2 (some .int) 1 := ⟨wk_X6_tell, wn_X6_tell, wl_X6_tell, wi_X6, ⟨by decide +kernel, by decide +kernel, by decide +kernel⟩⟩
theorem wk_X6_check : Cond.code yX6_check cX6_check 6 (some .int) ∈ gtbl := gtbl_of (tb3 (List.mem_of_getElem? (i := 181) rfl)) rfl
theorem wn_X6_check : Cond.instanceMethod yX6_check ∈ gtbl := gtbl_of (tb3 (List.mem_of_getElem? (i := 179) rfl)) rfl
theorem wl_X6_check : Cond.selects RX6 yX6_check yX6_check ∈ gtbl := gtbl_of (tb3 (List.mem_of_getElem? (i := 180) rfl)) rfl
theorem cv_X6_check : CalV yX6_check cX6_check 6 (some .int) 3 := ⟨wk_X6_check, wn_X6_check, wl_X6_check, wi_X6, ⟨by decide +kernel, by decide +kernel, by decide +kernel⟩⟩
theorem wk_X6_dressForChange : Cond.code yX6_dressForChange cX6_dressForChange 7 none ∈ gtbl := gtbl_of (tb3 (List.mem_of_getElem? (i := 185) rfl)) rfl
theorem wn_X6_dressForChange : Cond.instanceMethod yX6_dressForChange ∈ gtbl := gtbl_of (tb3 (List.mem_of_getElem? (i := 184) rfl)) rfl
theorem wl_X6_dressForChange : Cond.selects RX6 yX6_dressForChange yX6_dressForChange ∈ gtbl := gtbl_of (tbp (List.mem_of_getElem? (i := 27) rfl)) rfl
theorem cv_X6_dressForChange : CalV yX6_dressForChange cX6_dressForChange 7 none 3 := ⟨wk_X6_dressForChange, wn_X6_dressForChange, wl_X6_dressForChange, wi_X6, ⟨by decide +kernel, by decide +kernel, by decide +kernel⟩⟩
theorem wk_X0_undress : Cond.code yX0_undress cX0_undress 1 none ∈ gtbl := gtbl_of (tb3 (List.mem_of_getElem? (i := 189) rfl)) rfl
theorem wn_X0_undress : Cond.instanceMethod yX0_undress ∈ gtbl := gtbl_of (tb3 (List.mem_of_getElem? (i := 187) rfl)) rfl
theorem wl_X0_undress : Cond.selects RX0 yX0_undress yX0_undress ∈ gtbl := gtbl_of (tb3 (List.mem_of_getElem? (i := 188) rfl)) rfl
theorem cv_X0_undress : CalV yX0_undress cX0_undress 1 none 0 := ⟨wk_X0_undress, wn_X0_undress, wl_X0_undress, wi_X0, ⟨by decide +kernel, by decide +kernel, by decide +kernel⟩⟩
theorem wk_X0_putOn : Cond.code yX0_putOn cX0_putOn 2 (some .boolean) ∈ gtbl := gtbl_of (tb3 (List.mem_of_getElem? (i := 195) rfl)) rfl
theorem wn_X0_putOn : Cond.instanceMethod yX0_putOn ∈ gtbl := gtbl_of (tb3 (List.mem_of_getElem? (i := 193) rfl)) rfl
theorem wl_X0_putOn : Cond.selects RX0 yX0_putOn yX0_putOn ∈ gtbl := gtbl_of (tb3 (List.mem_of_getElem? (i := 194) rfl)) rfl
theorem cv_X0_putOn : CalV yX0_putOn cX0_putOn 2 (some .boolean) 1 := ⟨wk_X0_putOn, wn_X0_putOn, wl_X0_putOn, wi_X0, ⟨by decide +kernel, by decide +kernel, by decide +kernel⟩⟩
theorem wk_X0_hasOn : Cond.code yX0_hasOn cX0_hasOn 2 (some .boolean) ∈ gtbl := gtbl_of (tb3 (List.mem_of_getElem? (i := 200) rfl)) rfl
theorem wn_X0_hasOn : Cond.instanceMethod yX0_hasOn ∈ gtbl := gtbl_of (tb3 (List.mem_of_getElem? (i := 198) rfl)) rfl
theorem wl_X0_hasOn : Cond.selects RX0 yX0_hasOn yX0_hasOn ∈ gtbl := gtbl_of (tb3 (List.mem_of_getElem? (i := 199) rfl)) rfl
theorem cv_X0_hasOn : CalV yX0_hasOn cX0_hasOn 2 (some .boolean) 1 := ⟨wk_X0_hasOn, wn_X0_hasOn, wl_X0_hasOn, wi_X0, ⟨by decide +kernel, by decide +kernel, by decide +kernel⟩⟩
theorem wk_X0_handle : Cond.code yX0_handle cX0_handle 2 (some .boolean) ∈ gtbl := gtbl_of (tb3 (List.mem_of_getElem? (i := 204) rfl)) rfl
theorem wn_X0_handle : Cond.instanceMethod yX0_handle ∈ gtbl := gtbl_of (tb3 (List.mem_of_getElem? (i := 202) rfl)) rfl
theorem wl_X0_handle : Cond.selects RX0 yX0_handle yX0_handle ∈ gtbl := gtbl_of (tb3 (List.mem_of_getElem? (i := 203) rfl)) rfl
theorem cv_X0_handle : CalV yX0_handle cX0_handle 2 (some .boolean) 1 := ⟨wk_X0_handle, wn_X0_handle, wl_X0_handle, wi_X0, ⟨by decide +kernel, by decide +kernel, by decide +kernel⟩⟩
theorem wk_X0_takeOff : Cond.code yX0_takeOff cX0_takeOff 3 (some .boolean) ∈ gtbl := gtbl_of (tb3 (List.mem_of_getElem? (i := 209) rfl)) rfl
theorem wn_X0_takeOff : Cond.instanceMethod yX0_takeOff ∈ gtbl := gtbl_of (tb3 (List.mem_of_getElem? (i := 208) rfl)) rfl
theorem wl_X0_takeOff : Cond.selects RX0 yX0_takeOff yX0_takeOff ∈ gtbl := gtbl_of (tbp (List.mem_of_getElem? (i := 28) rfl)) rfl
theorem cv_X0_takeOff : CalV yX0_takeOff cX0_takeOff 3 (some .boolean) 1 := ⟨wk_X0_takeOff, wn_X0_takeOff, wl_X0_takeOff, wi_X0, ⟨by decide +kernel, by decide +kernel, by decide +kernel⟩⟩
theorem wk_X0_liesOver : Cond.code yX0_liesOver cX0_liesOver 3 (some .boolean) ∈ gtbl := gtbl_of (tb3 (List.mem_of_getElem? (i := 213) rfl)) rfl
theorem wn_X0_liesOver : Cond.instanceMethod yX0_liesOver ∈ gtbl := gtbl_of (tb3 (List.mem_of_getElem? (i := 211) rfl)) rfl
theorem wl_X0_liesOver : Cond.selects RX0 yX0_liesOver yX0_liesOver ∈ gtbl := gtbl_of (tb3 (List.mem_of_getElem? (i := 212) rfl)) rfl
theorem cv_X0_liesOver : CalV yX0_liesOver cX0_liesOver 3 (some .boolean) 2 := ⟨wk_X0_liesOver, wn_X0_liesOver, wl_X0_liesOver, wi_X0, ⟨by decide +kernel, by decide +kernel, by decide +kernel⟩⟩
theorem wk_X6_isJustWorn : Cond.code yX6_isJustWorn cX6_isJustWorn 6 (some .boolean) ∈ gtbl := gtbl_of (tb3 (List.mem_of_getElem? (i := 218) rfl)) rfl
theorem wn_X6_isJustWorn : Cond.instanceMethod yX6_isJustWorn ∈ gtbl := gtbl_of (tb3 (List.mem_of_getElem? (i := 217) rfl)) rfl
theorem wl_X6_isJustWorn : Cond.selects RX6 yX6_isJustWorn yX6_isJustWorn ∈ gtbl := gtbl_of (tbp (List.mem_of_getElem? (i := 29) rfl)) rfl
theorem cv_X6_isJustWorn : CalV yX6_isJustWorn cX6_isJustWorn 6 (some .boolean) 1 := ⟨wk_X6_isJustWorn, wn_X6_isJustWorn, wl_X6_isJustWorn, wi_X6, ⟨by decide +kernel, by decide +kernel, by decide +kernel⟩⟩
theorem wk_X0_countWorn : Cond.code yX0_countWorn cX0_countWorn 3 (some .int) ∈ gtbl := gtbl_of (tb3 (List.mem_of_getElem? (i := 222) rfl)) rfl
theorem wn_X0_countWorn : Cond.instanceMethod yX0_countWorn ∈ gtbl := gtbl_of (tb3 (List.mem_of_getElem? (i := 220) rfl)) rfl
theorem wl_X0_countWorn : Cond.selects RX0 yX0_countWorn yX0_countWorn ∈ gtbl := gtbl_of (tb3 (List.mem_of_getElem? (i := 221) rfl)) rfl
theorem cv_X0_countWorn : CalV yX0_countWorn cX0_countWorn 3 (some .int) 0 := ⟨wk_X0_countWorn, wn_X0_countWorn, wl_X0_countWorn, wi_X0, ⟨by decide +kernel, by decide +kernel, by decide +kernel⟩⟩
theorem wk_X6_count : Cond.code yX6_count cX6_count 2 (some .int) ∈ gtbl := gtbl_of (tb3 (List.mem_of_getElem? (i := 228) rfl)) rfl
theorem wn_X6_count : Cond.instanceMethod yX6_count ∈ gtbl := gtbl_of (tb3 (List.mem_of_getElem? (i := 226) rfl)) rfl
theorem wl_X6_count : Cond.selects RX6 yX6_count yX6_count ∈ gtbl := gtbl_of (tb3 (List.mem_of_getElem? (i := 227) rfl)) rfl
theorem cv_X6_count : CalV yX6_count cX6_count 2 (some .int) 1 := ⟨wk_X6_count, wn_X6_count, wl_X6_count, wi_X6, ⟨by decide +kernel, by decide +kernel, by decide +kernel⟩⟩
theorem wk_X6_found : Cond.code yX6_found cX6_found 2 (some .int) ∈ gtbl := gtbl_of (tb3 (List.mem_of_getElem? (i := 232) rfl)) rfl
theorem wn_X6_found : Cond.instanceMethod yX6_found ∈ gtbl := gtbl_of (tb3 (List.mem_of_getElem? (i := 230) rfl)) rfl
theorem wl_X6_found : Cond.selects RX6 yX6_found yX6_found ∈ gtbl := gtbl_of (tb3 (List.mem_of_getElem? (i := 231) rfl)) rfl
theorem cv_X6_found : CalV yX6_found cX6_found 2 (some .int) 1 := ⟨wk_X6_found, wn_X6_found, wl_X6_found, wi_X6, ⟨by decide +kernel, by decide +kernel, by decide +kernel⟩⟩
theorem wk_X7_init : Cond.code yX7_init cX7_init 1 none ∈ gtbl := gtbl_of (tb3 (List.mem_of_getElem? (i := 237) rfl)) rfl
theorem wn_X7_init : Cond.instanceMethod yX7_init ∈ gtbl := gtbl_of (tb3 (List.mem_of_getElem? (i := 236) rfl)) rfl
theorem wk_X7_piece : Cond.code yX7_piece cX7_piece 5 (some .int) ∈ gtbl := gtbl_of (tb4 (List.mem_of_getElem? (i := 115) rfl)) rfl
theorem wn_X7_piece : Cond.instanceMethod yX7_piece ∈ gtbl := gtbl_of (tb4 (List.mem_of_getElem? (i := 113) rfl)) rfl
theorem wl_X7_piece : Cond.selects RX7 yX7_piece yX7_piece ∈ gtbl := gtbl_of (tb4 (List.mem_of_getElem? (i := 114) rfl)) rfl
theorem cv_X7_piece : CalV yX7_piece cX7_piece 5 (some .int) 3 := ⟨wk_X7_piece, wn_X7_piece, wl_X7_piece, wi_X7, ⟨by decide +kernel, by decide +kernel, by decide +kernel⟩⟩
theorem wk_X7_isIn : Cond.code yX7_isIn cX7_isIn 3 (some .boolean) ∈ gtbl := gtbl_of (tb4 (List.mem_of_getElem? (i := 118) rfl)) rfl
theorem ws_X7_isIn : Cond.static yX7_isIn ∈ gtbl := gtbl_of (tb4 (List.mem_of_getElem? (i := 117) rfl)) rfl
theorem cs_X7_isIn : CalS yX7_isIn cX7_isIn 3 (some .boolean) 3 := ⟨wk_X7_isIn, ws_X7_isIn, wi_X7, ⟨by decide +kernel, by decide +kernel, by decide +kernel⟩⟩
theorem wk_X7_finding : Cond.code yX7_finding cX7_finding 2 (some .int) ∈ gtbl := gtbl_of (tb4 (List.mem_of_getElem? (i := 122) rfl)) rfl
theorem wn_X7_finding : Cond.instanceMethod yX7_finding ∈ gtbl := gtbl_of (tb4 (List.mem_of_getElem? (i := 121) rfl)) rfl
theorem wl_X7_finding : Cond.selects RX7 yX7_finding yX7_finding ∈ gtbl := gtbl_of (tbp (List.mem_of_getElem? (i := 30) rfl)) rfl
theorem cv_X7_finding : CalV yX7_finding cX7_finding 2 (some .int) 1 := ⟨wk_X7_finding, wn_X7_finding, wl_X7_finding, wi_X7, ⟨by decide +kernel, by decide +kernel, by decide +kernel⟩⟩
theorem wk_X7_as : Cond.code yX7_as cX7_as 3 (some .int) ∈ gtbl := gtbl_of (tb4 (List.mem_of_getElem? (i := 127) rfl)) rfl
theorem wn_X7_as : Cond.instanceMethod yX7_as ∈ gtbl := gtbl_of (tb4 (List.mem_of_getElem? (i := 125) rfl)) rfl
theorem wl_X7_as : Cond.selects RX7 yX7_as yX7_as ∈ gtbl := gtbl_of (tb4 (List.mem_of_getElem? (i := 126) rfl)) rfl
theorem cv_X7_as : CalV yX7_as cX7_as 3 (some .int) 2 := ⟨wk_X7_as, wn_X7_as, wl_X7_as, wi_X7, ⟨by decide +kernel, by decide +kernel, by decide +kernel⟩⟩
theorem wk_X7_isPiece : Cond.code yX7_isPiece cX7_isPiece 2 (some .boolean) ∈ gtbl := gtbl_of (tb4 (List.mem_of_getElem? (i := 131) rfl)) rfl
theorem wn_X7_isPiece : Cond.instanceMethod yX7_isPiece ∈ gtbl := gtbl_of (tb4 (List.mem_of_getElem? (i := 130) rfl)) rfl
theorem wl_X7_isPiece : Cond.selects RX7 yX7_isPiece yX7_isPiece ∈ gtbl := gtbl_of (tbp (List.mem_of_getElem? (i := 31) rfl)) rfl
theorem cv_X7_isPiece : CalV yX7_isPiece cX7_isPiece 2 (some .boolean) 1 := ⟨wk_X7_isPiece, wn_X7_isPiece, wl_X7_isPiece, wi_X7, ⟨by decide +kernel, by decide +kernel, by decide +kernel⟩⟩
theorem wk_X7_about : Cond.code yX7_about cX7_about 3 (some .int) ∈ gtbl := gtbl_of (tb4 (List.mem_of_getElem? (i := 135) rfl)) rfl
theorem wn_X7_about : Cond.instanceMethod yX7_about ∈ gtbl := gtbl_of (tb4 (List.mem_of_getElem? (i := 133) rfl)) rfl
theorem wl_X7_about : Cond.selects RX7 yX7_about yX7_about ∈ gtbl := gtbl_of (tb4 (List.mem_of_getElem? (i := 134) rfl)) rfl
theorem cv_X7_about : CalV yX7_about cX7_about 3 (some .int) 2 := ⟨wk_X7_about, wn_X7_about, wl_X7_about, wi_X7, ⟨by decide +kernel, by decide +kernel, by decide +kernel⟩⟩
theorem wk_X7_wear : Cond.code yX7_wear cX7_wear 3 (some .int) ∈ gtbl := gtbl_of (tb4 (List.mem_of_getElem? (i := 139) rfl)) rfl
theorem wn_X7_wear : Cond.instanceMethod yX7_wear ∈ gtbl := gtbl_of (tb4 (List.mem_of_getElem? (i := 137) rfl)) rfl
theorem wl_X7_wear : Cond.selects RX7 yX7_wear yX7_wear ∈ gtbl := gtbl_of (tb4 (List.mem_of_getElem? (i := 138) rfl)) rfl
theorem cv_X7_wear : CalV yX7_wear cX7_wear 3 (some .int) 2 := ⟨wk_X7_wear, wn_X7_wear, wl_X7_wear, wi_X7, ⟨by decide +kernel, by decide +kernel, by decide +kernel⟩⟩
theorem wk_X7_isLook : Cond.code yX7_isLook cX7_isLook 1 (some .boolean) ∈ gtbl := gtbl_of (tb4 (List.mem_of_getElem? (i := 142) rfl)) rfl
theorem ws_X7_isLook : Cond.static yX7_isLook ∈ gtbl := gtbl_of (tb4 (List.mem_of_getElem? (i := 141) rfl)) rfl
theorem cs_X7_isLook : CalS yX7_isLook cX7_isLook 1 (some .boolean) 1 := ⟨wk_X7_isLook, ws_X7_isLook, wi_X7, ⟨by decide +kernel, by decide +kernel, by decide +kernel⟩⟩
theorem wk_X7_rowOf : Cond.code yX7_rowOf cX7_rowOf 5 (some .int) ∈ gtbl := gtbl_of (tb4 (List.mem_of_getElem? (i := 146) rfl)) rfl
theorem wn_X7_rowOf : Cond.instanceMethod yX7_rowOf ∈ gtbl := gtbl_of (tb4 (List.mem_of_getElem? (i := 145) rfl)) rfl
theorem wl_X7_rowOf : Cond.selects RX7 yX7_rowOf yX7_rowOf ∈ gtbl := gtbl_of (tbp (List.mem_of_getElem? (i := 32) rfl)) rfl
theorem cv_X7_rowOf : CalV yX7_rowOf cX7_rowOf 5 (some .int) 2 := ⟨wk_X7_rowOf, wn_X7_rowOf, wl_X7_rowOf, wi_X7, ⟨by decide +kernel, by decide +kernel, by decide +kernel⟩⟩
theorem wk_X7_bare : Cond.code yX7_bare cX7_bare 3 (some .int) ∈ gtbl := gtbl_of (tb4 (List.mem_of_getElem? (i := 150) rfl)) rfl
theorem wn_X7_bare : Cond.instanceMethod yX7_bare ∈ gtbl := gtbl_of (tb4 (List.mem_of_getElem? (i := 148) rfl)) rfl
theorem wl_X7_bare : Cond.selects RX7 yX7_bare yX7_bare ∈ gtbl := gtbl_of (tb4 (List.mem_of_getElem? (i := 149) rfl)) rfl
theorem cv_X7_bare : CalV yX7_bare cX7_bare 3 (some .int) 1 := ⟨wk_X7_bare, wn_X7_bare, wl_X7_bare, wi_X7, ⟨by decide +kernel, by decide +kernel, by decide +kernel⟩⟩
theorem wk_X7_look : Cond.code yX7_look cX7_look 3 (some .int) ∈ gtbl := gtbl_of (tb4 (List.mem_of_getElem? (i := 154) rfl)) rfl
theorem wn_X7_look : Cond.instanceMethod yX7_look ∈ gtbl := gtbl_of (tb4 (List.mem_of_getElem? (i := 152) rfl)) rfl
theorem wl_X7_look : Cond.selects RX7 yX7_look yX7_look ∈ gtbl := gtbl_of (tb4 (List.mem_of_getElem? (i := 153) rfl)) rfl
theorem cv_X7_look : CalV yX7_look cX7_look 3 (some .int) 2 := ⟨wk_X7_look, wn_X7_look, wl_X7_look, wi_X7, ⟨by decide +kernel, by decide +kernel, by decide +kernel⟩⟩
theorem wk_X7_limit : Cond.code yX7_limit cX7_limit 3 (some .int) ∈ gtbl := gtbl_of (tb4 (List.mem_of_getElem? (i := 158) rfl)) rfl
theorem wn_X7_limit : Cond.instanceMethod yX7_limit ∈ gtbl := gtbl_of (tb4 (List.mem_of_getElem? (i := 156) rfl)) rfl
theorem wl_X7_limit : Cond.selects RX7 yX7_limit yX7_limit ∈ gtbl := gtbl_of (tb4 (List.mem_of_getElem? (i := 157) rfl)) rfl
theorem cv_X7_limit : CalV yX7_limit cX7_limit 3 (some .int) 1 := ⟨wk_X7_limit, wn_X7_limit, wl_X7_limit, wi_X7, ⟨by decide +kernel, by decide +kernel, by decide +kernel⟩⟩
theorem wk_X7_allowed : Cond.code yX7_allowed cX7_allowed 4 (some .int) ∈ gtbl := gtbl_of (tb4 (List.mem_of_getElem? (i := 162) rfl)) rfl
theorem wn_X7_allowed : Cond.instanceMethod yX7_allowed ∈ gtbl := gtbl_of (tb4 (List.mem_of_getElem? (i := 160) rfl)) rfl
theorem wl_X7_allowed : Cond.selects RX7 yX7_allowed yX7_allowed ∈ gtbl := gtbl_of (tb4 (List.mem_of_getElem? (i := 161) rfl)) rfl
theorem cv_X7_allowed : CalV yX7_allowed cX7_allowed 4 (some .int) 3 := ⟨wk_X7_allowed, wn_X7_allowed, wl_X7_allowed, wi_X7, ⟨by decide +kernel, by decide +kernel, by decide +kernel⟩⟩
theorem wk_X7_isChange : Cond.code yX7_isChange cX7_isChange 4 (some .boolean) ∈ gtbl := gtbl_of (tb4 (List.mem_of_getElem? (i := 166) rfl)) rfl
theorem wn_X7_isChange : Cond.instanceMethod yX7_isChange ∈ gtbl := gtbl_of (tb4 (List.mem_of_getElem? (i := 165) rfl)) rfl
theorem wl_X7_isChange : Cond.selects RX7 yX7_isChange yX7_isChange ∈ gtbl := gtbl_of (tbp (List.mem_of_getElem? (i := 33) rfl)) rfl
theorem cv_X7_isChange : CalV yX7_isChange cX7_isChange 4 (some .boolean) 3 := ⟨wk_X7_isChange, wn_X7_isChange, wl_X7_isChange, wi_X7, ⟨by decide +kernel, by decide +kernel, by decide +kernel⟩⟩
theorem wk_X7_isAllowed : Cond.code yX7_isAllowed cX7_isAllowed 9 (some .boolean) ∈ gtbl := gtbl_of (tb4 (List.mem_of_getElem? (i := 170) rfl)) rfl
theorem wn_X7_isAllowed : Cond.instanceMethod yX7_isAllowed ∈ gtbl := gtbl_of (tb4 (List.mem_of_getElem? (i := 169) rfl)) rfl
theorem wl_X7_isAllowed : Cond.selects RX7 yX7_isAllowed yX7_isAllowed ∈ gtbl := gtbl_of (tbp (List.mem_of_getElem? (i := 34) rfl)) rfl
theorem cv_X7_isAllowed : CalV yX7_isAllowed cX7_isAllowed 9 (some .boolean) 3 := ⟨wk_X7_isAllowed, wn_X7_isAllowed, wl_X7_isAllowed, wi_X7, ⟨by decide +kernel, by decide +kernel, by decide +kernel⟩⟩
theorem wk_X7_has : Cond.code yX7_has cX7_has 2 (some .boolean) ∈ gtbl := gtbl_of (tb4 (List.mem_of_getElem? (i := 173) rfl)) rfl
theorem ws_X7_has : Cond.static yX7_has ∈ gtbl := gtbl_of (tb4 (List.mem_of_getElem? (i := 172) rfl)) rfl
theorem cs_X7_has : CalS yX7_has cX7_has 2 (some .boolean) 2 := ⟨wk_X7_has, ws_X7_has, wi_X7, ⟨by decide +kernel, by decide +kernel, by decide +kernel⟩⟩
theorem wk_X7_thickAt : Cond.code yX7_thickAt cX7_thickAt 7 (some .int) ∈ gtbl := gtbl_of (tb4 (List.mem_of_getElem? (i := 177) rfl)) rfl
theorem wn_X7_thickAt : Cond.instanceMethod yX7_thickAt ∈ gtbl := gtbl_of (tb4 (List.mem_of_getElem? (i := 176) rfl)) rfl
theorem wl_X7_thickAt : Cond.selects RX7 yX7_thickAt yX7_thickAt ∈ gtbl := gtbl_of (tbp (List.mem_of_getElem? (i := 35) rfl)) rfl
theorem cv_X7_thickAt : CalV yX7_thickAt cX7_thickAt 7 (some .int) 4 := ⟨wk_X7_thickAt, wn_X7_thickAt, wl_X7_thickAt, wi_X7, ⟨by decide +kernel, by decide +kernel, by decide +kernel⟩⟩
theorem wk_X7_told : Cond.code yX7_told cX7_told 5 (some .int) ∈ gtbl := gtbl_of (tb4 (List.mem_of_getElem? (i := 181) rfl)) rfl
theorem wn_X7_told : Cond.instanceMethod yX7_told ∈ gtbl := gtbl_of (tb4 (List.mem_of_getElem? (i := 179) rfl)) rfl
theorem wl_X7_told : Cond.selects RX7 yX7_told yX7_told ∈ gtbl := gtbl_of (tb4 (List.mem_of_getElem? (i := 180) rfl)) rfl
theorem cv_X7_told : CalV yX7_told cX7_told 5 (some .int) 4 := ⟨wk_X7_told, wn_X7_told, wl_X7_told, wi_X7, ⟨by decide +kernel, by decide +kernel, by decide +kernel⟩⟩
theorem wk_X7_tell : Cond.code yX7_tell cX7_tell 7 none ∈ gtbl := gtbl_of (tb4 (List.mem_of_getElem? (i := 185) rfl)) rfl
theorem wn_X7_tell : Cond.instanceMethod yX7_tell ∈ gtbl := gtbl_of (tb4 (List.mem_of_getElem? (i := 184) rfl)) rfl
theorem wl_X7_tell : Cond.selects RX7 yX7_tell yX7_tell ∈ gtbl := gtbl_of (tbp (List.mem_of_getElem? (i := 36) rfl)) rfl
theorem cv_X7_tell : CalV yX7_tell cX7_tell 7 none 3 := ⟨wk_X7_tell, wn_X7_tell, wl_X7_tell, wi_X7, ⟨by decide +kernel, by decide +kernel, by decide +kernel⟩⟩
theorem wk_X7_mustOff : Cond.code yX7_mustOff cX7_mustOff 11 (some .boolean) ∈ gtbl := gtbl_of (tb4 (List.mem_of_getElem? (i := 189) rfl)) rfl
theorem wn_X7_mustOff : Cond.instanceMethod yX7_mustOff ∈ gtbl := gtbl_of (tb4 (List.mem_of_getElem? (i := 188) rfl)) rfl
theorem wl_X7_mustOff : Cond.selects RX7 yX7_mustOff yX7_mustOff ∈ gtbl := gtbl_of (tbp (List.mem_of_getElem? (i := 37) rfl)) rfl
theorem cv_X7_mustOff : CalV yX7_mustOff cX7_mustOff 11 (some .boolean) 4 := ⟨wk_X7_mustOff, wn_X7_mustOff, wl_X7_mustOff, wi_X7, ⟨by decide +kernel, by decide +kernel, by decide +kernel⟩⟩
theorem wk_X7_isOff : Cond.code yX7_isOff cX7_isOff 4 (some .boolean) ∈ gtbl := gtbl_of (tb4 (List.mem_of_getElem? (i := 193) rfl)) rfl
theorem wn_X7_isOff : Cond.instanceMethod yX7_isOff ∈ gtbl := gtbl_of (tb4 (List.mem_of_getElem? (i := 192) rfl)) rfl
theorem wl_X7_isOff : Cond.selects RX7 yX7_isOff yX7_isOff ∈ gtbl := gtbl_of (tbp (List.mem_of_getElem? (i := 38) rfl)) rfl
theorem cv_X7_isOff : CalV yX7_isOff cX7_isOff 4 (some .boolean) 2 := ⟨wk_X7_isOff, wn_X7_isOff, wl_X7_isOff, wi_X7, ⟨by decide +kernel, by decide +kernel, by decide +kernel⟩⟩
theorem wk_X7_countOf : Cond.code yX7_countOf cX7_countOf 3 (some .int) ∈ gtbl := gtbl_of (tb4 (List.mem_of_getElem? (i := 196) rfl)) rfl
theorem ws_X7_countOf : Cond.static yX7_countOf ∈ gtbl := gtbl_of (tb4 (List.mem_of_getElem? (i := 195) rfl)) rfl
theorem cs_X7_countOf : CalS yX7_countOf cX7_countOf 3 (some .int) 1 := ⟨wk_X7_countOf, ws_X7_countOf, wi_X7, ⟨by decide +kernel, by decide +kernel, by decide +kernel⟩⟩
theorem wk_X7_seconds : Cond.code yX7_seconds cX7_seconds 6 (some .int) ∈ gtbl := gtbl_of (tb4 (List.mem_of_getElem? (i := 200) rfl)) rfl
theorem wn_X7_seconds : Cond.instanceMethod yX7_seconds ∈ gtbl := gtbl_of (tb4 (List.mem_of_getElem? (i := 198) rfl)) rfl
theorem wl_X7_seconds : Cond.selects RX7 yX7_seconds yX7_seconds ∈ gtbl := gtbl_of (tb4 (List.mem_of_getElem? (i := 199) rfl)) rfl
theorem cv_X7_seconds : CalV yX7_seconds cX7_seconds 6 (some .int) 4 := ⟨wk_X7_seconds, wn_X7_seconds, wl_X7_seconds, wi_X7, ⟨by decide +kernel, by decide +kernel, by decide +kernel⟩⟩
theorem wk_X7_secondsOf : Cond.code yX7_secondsOf cX7_secondsOf 11 (some .int) ∈ gtbl := gtbl_of (tb4 (List.mem_of_getElem? (i := 204) rfl)) rfl
theorem wn_X7_secondsOf : Cond.instanceMethod yX7_secondsOf ∈ gtbl := gtbl_of (tb4 (List.mem_of_getElem? (i := 203) rfl)) rfl
theorem wl_X7_secondsOf : Cond.selects RX7 yX7_secondsOf yX7_secondsOf ∈ gtbl := gtbl_of (tbp (List.mem_of_getElem? (i := 39) rfl)) rfl
theorem cv_X7_secondsOf : CalV yX7_secondsOf cX7_secondsOf 11 (some .int) 4 := ⟨wk_X7_secondsOf, wn_X7_secondsOf, wl_X7_secondsOf, wi_X7, ⟨by decide +kernel, by decide +kernel, by decide +kernel⟩⟩
theorem wk_X7_best : Cond.code yX7_best cX7_best 6 (some .int) ∈ gtbl := gtbl_of (tb4 (List.mem_of_getElem? (i := 208) rfl)) rfl
theorem wn_X7_best : Cond.instanceMethod yX7_best ∈ gtbl := gtbl_of (tb4 (List.mem_of_getElem? (i := 206) rfl)) rfl
theorem wl_X7_best : Cond.selects RX7 yX7_best yX7_best ∈ gtbl := gtbl_of (tb4 (List.mem_of_getElem? (i := 207) rfl)) rfl
theorem cv_X7_best : CalV yX7_best cX7_best 6 (some .int) 4 := ⟨wk_X7_best, wn_X7_best, wl_X7_best, wi_X7, ⟨by decide +kernel, by decide +kernel, by decide +kernel⟩⟩
theorem wk_X7_bestOf : Cond.code yX7_bestOf cX7_bestOf 7 (some .int) ∈ gtbl := gtbl_of (tb4 (List.mem_of_getElem? (i := 212) rfl)) rfl
theorem wn_X7_bestOf : Cond.instanceMethod yX7_bestOf ∈ gtbl := gtbl_of (tb4 (List.mem_of_getElem? (i := 211) rfl)) rfl
theorem wl_X7_bestOf : Cond.selects RX7 yX7_bestOf yX7_bestOf ∈ gtbl := gtbl_of (tbp (List.mem_of_getElem? (i := 40) rfl)) rfl
theorem cv_X7_bestOf : CalV yX7_bestOf cX7_bestOf 7 (some .int) 3 := ⟨wk_X7_bestOf, wn_X7_bestOf, wl_X7_bestOf, wi_X7, ⟨by decide +kernel, by decide +kernel, by decide +kernel⟩⟩
theorem wk_X7_shift : Cond.code yX7_shift cX7_shift 6 (some .int) ∈ gtbl := gtbl_of (tb4 (List.mem_of_getElem? (i := 216) rfl)) rfl
theorem wn_X7_shift : Cond.instanceMethod yX7_shift ∈ gtbl := gtbl_of (tb4 (List.mem_of_getElem? (i := 214) rfl)) rfl
theorem wl_X7_shift : Cond.selects RX7 yX7_shift yX7_shift ∈ gtbl := gtbl_of (tb4 (List.mem_of_getElem? (i := 215) rfl)) rfl
theorem cv_X7_shift : CalV yX7_shift cX7_shift 6 (some .int) 4 := ⟨wk_X7_shift, wn_X7_shift, wl_X7_shift, wi_X7, ⟨by decide +kernel, by decide +kernel, by decide +kernel⟩⟩
theorem wk_X7_isDoor : Cond.code yX7_isDoor cX7_isDoor 1 (some .boolean) ∈ gtbl := gtbl_of (tb4 (List.mem_of_getElem? (i := 219) rfl)) rfl
theorem ws_X7_isDoor : Cond.static yX7_isDoor ∈ gtbl := gtbl_of (tb4 (List.mem_of_getElem? (i := 218) rfl)) rfl
theorem cs_X7_isDoor : CalS yX7_isDoor cX7_isDoor 1 (some .boolean) 1 := ⟨wk_X7_isDoor, ws_X7_isDoor, wi_X7, ⟨by decide +kernel, by decide +kernel, by decide +kernel⟩⟩
theorem wk_X7_less : Cond.code yX7_less cX7_less 1 (some .int) ∈ gtbl := gtbl_of (tb4 (List.mem_of_getElem? (i := 223) rfl)) rfl
theorem wn_X7_less : Cond.instanceMethod yX7_less ∈ gtbl := gtbl_of (tb4 (List.mem_of_getElem? (i := 221) rfl)) rfl
theorem wl_X7_less : Cond.selects RX7 yX7_less yX7_less ∈ gtbl := gtbl_of (tb4 (List.mem_of_getElem? (i := 222) rfl)) rfl
theorem cv_X7_less : CalV yX7_less cX7_less 1 (some .int) 0 := ⟨wk_X7_less, wn_X7_less, wl_X7_less, wi_X7, ⟨by decide +kernel, by decide +kernel, by decide +kernel⟩⟩
theorem wk_X7_way : Cond.code yX7_way cX7_way 5 (some .int) ∈ gtbl := gtbl_of (tb4 (List.mem_of_getElem? (i := 227) rfl)) rfl
theorem wn_X7_way : Cond.instanceMethod yX7_way ∈ gtbl := gtbl_of (tb4 (List.mem_of_getElem? (i := 225) rfl)) rfl
theorem wl_X7_way : Cond.selects RX7 yX7_way yX7_way ∈ gtbl := gtbl_of (tb4 (List.mem_of_getElem? (i := 226) rfl)) rfl
theorem cv_X7_way : CalV yX7_way cX7_way 5 (some .int) 3 := ⟨wk_X7_way, wn_X7_way, wl_X7_way, wi_X7, ⟨by decide +kernel, by decide +kernel, by decide +kernel⟩⟩
theorem wk_X7_fits : Cond.code yX7_fits cX7_fits 3 (some .int) ∈ gtbl := gtbl_of (tb4 (List.mem_of_getElem? (i := 231) rfl)) rfl
theorem wn_X7_fits : Cond.instanceMethod yX7_fits ∈ gtbl := gtbl_of (tb4 (List.mem_of_getElem? (i := 229) rfl)) rfl
theorem wl_X7_fits : Cond.selects RX7 yX7_fits yX7_fits ∈ gtbl := gtbl_of (tb4 (List.mem_of_getElem? (i := 230) rfl)) rfl
theorem cv_X7_fits : CalV yX7_fits cX7_fits 3 (some .int) 1 := ⟨wk_X7_fits, wn_X7_fits, wl_X7_fits, wi_X7, ⟨by decide +kernel, by decide +kernel, by decide +kernel⟩⟩
theorem wk_X7_dressers : Cond.code yX7_dressers cX7_dressers 3 (some .int) ∈ gtbl := gtbl_of (tb4 (List.mem_of_getElem? (i := 235) rfl)) rfl
theorem wn_X7_dressers : Cond.instanceMethod yX7_dressers ∈ gtbl := gtbl_of (tb4 (List.mem_of_getElem? (i := 233) rfl)) rfl
theorem wl_X7_dressers : Cond.selects RX7 yX7_dressers yX7_dressers ∈ gtbl := gtbl_of (tb4 (List.mem_of_getElem? (i := 234) rfl)) rfl
theorem cv_X7_dressers : CalV yX7_dressers cX7_dressers 3 (some .int) 0 := ⟨wk_X7_dressers, wn_X7_dressers, wl_X7_dressers, wi_X7, ⟨by decide +kernel, by decide +kernel, by decide +kernel⟩⟩
theorem wk_X7_finds : Cond.code yX7_finds cX7_finds 5 (some .boolean) ∈ gtbl := gtbl_of (tb4 (List.mem_of_getElem? (i := 239) rfl)) rfl
theorem wn_X7_finds : Cond.instanceMethod yX7_finds ∈ gtbl := gtbl_of (tb4 (List.mem_of_getElem? (i := 238) rfl)) rfl
theorem wl_X7_finds : Cond.selects RX7 yX7_finds yX7_finds ∈ gtbl := gtbl_of (tbp (List.mem_of_getElem? (i := 41) rfl)) rfl
theorem cv_X7_finds : CalV yX7_finds cX7_finds 5 (some .boolean) 1 := ⟨wk_X7_finds, wn_X7_finds, wl_X7_finds, wi_X7, ⟨by decide +kernel, by decide +kernel, by decide +kernel⟩⟩
theorem wk_X7_canGo : Cond.code yX7_canGo cX7_canGo 3 (some .boolean) ∈ gtbl := gtbl_of (tb5 (List.mem_of_getElem? (i := 3) rfl)) rfl
theorem wn_X7_canGo : Cond.instanceMethod yX7_canGo ∈ gtbl := gtbl_of (tb5 (List.mem_of_getElem? (i := 2) rfl)) rfl
theorem wl_X7_canGo : Cond.selects RX7 yX7_canGo yX7_canGo ∈ gtbl := gtbl_of (tbp (List.mem_of_getElem? (i := 42) rfl)) rfl
theorem cv_X7_canGo : CalV yX7_canGo cX7_canGo 3 (some .boolean) 2 := ⟨wk_X7_canGo, wn_X7_canGo, wl_X7_canGo, wi_X7, ⟨by decide +kernel, by decide +kernel, by decide +kernel⟩⟩
theorem wk_X7_worn : Cond.code yX7_worn cX7_worn 2 (some .int) ∈ gtbl := gtbl_of (tb5 (List.mem_of_getElem? (i := 7) rfl)) rfl
theorem wn_X7_worn : Cond.instanceMethod yX7_worn ∈ gtbl := gtbl_of (tb5 (List.mem_of_getElem? (i := 5) rfl)) rfl
theorem wl_X7_worn : Cond.selects RX7 yX7_worn yX7_worn ∈ gtbl := gtbl_of (tb5 (List.mem_of_getElem? (i := 6) rfl)) rfl
theorem cv_X7_worn : CalV yX7_worn cX7_worn 2 (some .int) 1 := ⟨wk_X7_worn, wn_X7_worn, wl_X7_worn, wi_X7, ⟨by decide +kernel, by decide +kernel, by decide +kernel⟩⟩
theorem wk_X7_wash : Cond.code yX7_wash cX7_wash 2 (some .int) ∈ gtbl := gtbl_of (tb5 (List.mem_of_getElem? (i := 11) rfl)) rfl
theorem wn_X7_wash : Cond.instanceMethod yX7_wash ∈ gtbl := gtbl_of (tb5 (List.mem_of_getElem? (i := 9) rfl)) rfl
theorem wl_X7_wash : Cond.selects RX7 yX7_wash yX7_wash ∈ gtbl := gtbl_of (tb5 (List.mem_of_getElem? (i := 10) rfl)) rfl
theorem cv_X7_wash : CalV yX7_wash cX7_wash 2 (some .int) 1 := ⟨wk_X7_wash, wn_X7_wash, wl_X7_wash, wi_X7, ⟨by decide +kernel, by decide +kernel, by decide +kernel⟩⟩
theorem wk_X7_washing : Cond.code yX7_washing cX7_washing 3 (some .int) ∈ gtbl := gtbl_of (tb5 (List.mem_of_getElem? (i := 15) rfl)) rfl
theorem wn_X7_washing : Cond.instanceMethod yX7_washing ∈ gtbl := gtbl_of (tb5 (List.mem_of_getElem? (i := 14) rfl)) rfl
theorem wl_X7_washing : Cond.selects RX7 yX7_washing yX7_washing ∈ gtbl := gtbl_of (tbp (List.mem_of_getElem? (i := 43) rfl)) rfl
theorem cv_X7_washing : CalV yX7_washing cX7_washing 3 (some .int) 0 := ⟨wk_X7_washing, wn_X7_washing, wl_X7_washing, wi_X7, ⟨by decide +kernel, by decide +kernel, by decide +kernel⟩⟩
theorem wk_X7_hours : Cond.code yX7_hours cX7_hours 4 (some .int) ∈ gtbl := gtbl_of (tb5 (List.mem_of_getElem? (i := 19) rfl)) rfl
theorem wn_X7_hours : Cond.instanceMethod yX7_hours ∈ gtbl := gtbl_of (tb5 (List.mem_of_getElem? (i := 17) rfl)) rfl
theorem wl_X7_hours : Cond.selects RX7 yX7_hours yX7_hours ∈ gtbl := gtbl_of (tb5 (List.mem_of_getElem? (i := 18) rfl)) rfl
theorem cv_X7_hours : CalV yX7_hours cX7_hours 4 (some .int) 1 := ⟨wk_X7_hours, wn_X7_hours, wl_X7_hours, wi_X7, ⟨by decide +kernel, by decide +kernel, by decide +kernel⟩⟩
theorem wk_X7_tonight : Cond.code yX7_tonight cX7_tonight 10 (some .int) ∈ gtbl := gtbl_of (tb5 (List.mem_of_getElem? (i := 24) rfl)) rfl
theorem wn_X7_tonight : Cond.instanceMethod yX7_tonight ∈ gtbl := gtbl_of (tb5 (List.mem_of_getElem? (i := 22) rfl)) rfl
theorem wl_X7_tonight : Cond.selects RX7 yX7_tonight yX7_tonight ∈ gtbl := gtbl_of (tb5 (List.mem_of_getElem? (i := 23) rfl)) rfl
theorem cv_X7_tonight : CalV yX7_tonight cX7_tonight 10 (some .int) 2 := ⟨wk_X7_tonight, wn_X7_tonight, wl_X7_tonight, wi_X7, ⟨by decide +kernel, by decide +kernel, by decide +kernel⟩⟩
theorem wk_X7_away : Cond.code yX7_away cX7_away 3 (some .int) ∈ gtbl := gtbl_of (tb5 (List.mem_of_getElem? (i := 28) rfl)) rfl
theorem wn_X7_away : Cond.instanceMethod yX7_away ∈ gtbl := gtbl_of (tb5 (List.mem_of_getElem? (i := 27) rfl)) rfl
theorem wl_X7_away : Cond.selects RX7 yX7_away yX7_away ∈ gtbl := gtbl_of (tbp (List.mem_of_getElem? (i := 44) rfl)) rfl
theorem cv_X7_away : CalV yX7_away cX7_away 3 (some .int) 2 := ⟨wk_X7_away, wn_X7_away, wl_X7_away, wi_X7, ⟨by decide +kernel, by decide +kernel, by decide +kernel⟩⟩
theorem wk_X7_isFor : Cond.code yX7_isFor cX7_isFor 4 (some .boolean) ∈ gtbl := gtbl_of (tb5 (List.mem_of_getElem? (i := 32) rfl)) rfl
theorem wn_X7_isFor : Cond.instanceMethod yX7_isFor ∈ gtbl := gtbl_of (tb5 (List.mem_of_getElem? (i := 31) rfl)) rfl
theorem wl_X7_isFor : Cond.selects RX7 yX7_isFor yX7_isFor ∈ gtbl := gtbl_of (tbp (List.mem_of_getElem? (i := 45) rfl)) rfl
theorem cv_X7_isFor : CalV yX7_isFor cX7_isFor 4 (some .boolean) 3 := ⟨wk_X7_isFor, wn_X7_isFor, wl_X7_isFor, wi_X7, ⟨by decide +kernel, by decide +kernel, by decide +kernel⟩⟩
theorem wk_X7_isInLook : Cond.code yX7_isInLook cX7_isInLook 4 (some .boolean) ∈ gtbl := gtbl_of (tb5 (List.mem_of_getElem? (i := 36) rfl)) rfl
theorem wn_X7_isInLook : Cond.instanceMethod yX7_isInLook ∈ gtbl := gtbl_of (tb5 (List.mem_of_getElem? (i := 35) rfl)) rfl
theorem wl_X7_isInLook : Cond.selects RX7 yX7_isInLook yX7_isInLook ∈ gtbl := gtbl_of (tbp (List.mem_of_getElem? (i := 46) rfl)) rfl
theorem cv_X7_isInLook : CalV yX7_isInLook cX7_isInLook 4 (some .boolean) 1 := ⟨wk_X7_isInLook, wn_X7_isInLook, wl_X7_isInLook, wi_X7, ⟨by decide +kernel, by decide +kernel, by decide +kernel⟩⟩
theorem wk_X7_tell_ : Cond.code yX7_tell_ cX7_tell_ 2 (some .int) ∈ gtbl := gtbl_of (tb5 (List.mem_of_getElem? (i := 40) rfl)) rfl
theorem wn_X7_tell_ : Cond.instanceMethod yX7_tell_ ∈ gtbl := gtbl_of (tb5 (List.mem_of_getElem? (i := 38) rfl)) rfl
theorem wl_X7_tell_ : Cond.selects RX7 yX7_tell_ yX7_tell_ ∈ gtbl := gtbl_of (tb5 (List.mem_of_getElem? (i := 39) rfl)) rfl
theorem cv_X7_tell_ : CalV yX7_tell_ cX7_tell_ 2 (some .int) 1 := ⟨wk_X7_tell_, wn_X7_tell_, wl_X7_tell_, wi_X7, ⟨by decide +kernel, by decide +kernel, by decide +kernel⟩⟩
theorem wk_X7_check : Cond.code yX7_check cX7_check 6 (some .int) ∈ gtbl := gtbl_of (tb5 (List.mem_of_getElem? (i := 44) rfl)) rfl
theorem wn_X7_check : Cond.instanceMethod yX7_check ∈ gtbl := gtbl_of (tb5 (List.mem_of_getElem? (i := 42) rfl)) rfl
theorem wl_X7_check : Cond.selects RX7 yX7_check yX7_check ∈ gtbl := gtbl_of (tb5 (List.mem_of_getElem? (i := 43) rfl)) rfl
theorem cv_X7_check : CalV yX7_check cX7_check 6 (some .int) 3 := ⟨wk_X7_check, wn_X7_check, wl_X7_check, wi_X7, ⟨by decide +kernel, by decide +kernel, by decide +kernel⟩⟩
theorem wk_X7_handles : Cond.code yX7_handles cX7_handles 6 (some .boolean) ∈ gtbl := gtbl_of (tb5 (List.mem_of_getElem? (i := 48) rfl)) rfl
theorem wn_X7_handles : Cond.instanceMethod yX7_handles ∈ gtbl := gtbl_of (tb5 (List.mem_of_getElem? (i := 47) rfl)) rfl
theorem wl_X7_handles : Cond.selects RX7 yX7_handles yX7_handles ∈ gtbl := gtbl_of (tbp (List.mem_of_getElem? (i := 47) rfl)) rfl
theorem cv_X7_handles : CalV yX7_handles cX7_handles 6 (some .boolean) 1 := ⟨wk_X7_handles, wn_X7_handles, wl_X7_handles, wi_X7, ⟨by decide +kernel, by decide +kernel, by decide +kernel⟩⟩
theorem wk_X7_bodyPlace : Cond.code yX7_bodyPlace cX7_bodyPlace 4 (some .int) ∈ gtbl := gtbl_of (tb5 (List.mem_of_getElem? (i := 52) rfl)) rfl
theorem wn_X7_bodyPlace : Cond.instanceMethod yX7_bodyPlace ∈ gtbl := gtbl_of (tb5 (List.mem_of_getElem? (i := 51) rfl)) rfl
theorem wl_X7_bodyPlace : Cond.selects RX7 yX7_bodyPlace yX7_bodyPlace ∈ gtbl := gtbl_of (tbp (List.mem_of_getElem? (i := 48) rfl)) rfl
theorem cv_X7_bodyPlace : CalV yX7_bodyPlace cX7_bodyPlace 4 (some .int) 1 := ⟨wk_X7_bodyPlace, wn_X7_bodyPlace, wl_X7_bodyPlace, wi_X7, ⟨by decide +kernel, by decide +kernel, by decide +kernel⟩⟩
theorem wk_X7_isWorn : Cond.code yX7_isWorn cX7_isWorn 7 (some .boolean) ∈ gtbl := gtbl_of (tb5 (List.mem_of_getElem? (i := 56) rfl)) rfl
theorem wn_X7_isWorn : Cond.instanceMethod yX7_isWorn ∈ gtbl := gtbl_of (tb5 (List.mem_of_getElem? (i := 55) rfl)) rfl
theorem wl_X7_isWorn : Cond.selects RX7 yX7_isWorn yX7_isWorn ∈ gtbl := gtbl_of (tbp (List.mem_of_getElem? (i := 49) rfl)) rfl
theorem cv_X7_isWorn : CalV yX7_isWorn cX7_isWorn 7 (some .boolean) 1 := ⟨wk_X7_isWorn, wn_X7_isWorn, wl_X7_isWorn, wi_X7, ⟨by decide +kernel, by decide +kernel, by decide +kernel⟩⟩
theorem wk_X7_count : Cond.code yX7_count cX7_count 2 (some .int) ∈ gtbl := gtbl_of (tb5 (List.mem_of_getElem? (i := 60) rfl)) rfl
theorem wn_X7_count : Cond.instanceMethod yX7_count ∈ gtbl := gtbl_of (tb5 (List.mem_of_getElem? (i := 58) rfl)) rfl
theorem wl_X7_count : Cond.selects RX7 yX7_count yX7_count ∈ gtbl := gtbl_of (tb5 (List.mem_of_getElem? (i := 59) rfl)) rfl
theorem cv_X7_count : CalV yX7_count cX7_count 2 (some .int) 1 := ⟨wk_X7_count, wn_X7_count, wl_X7_count, wi_X7, ⟨by decide +kernel, by decide +kernel, by decide +kernel⟩⟩
theorem wk_X7_found : Cond.code yX7_found cX7_found 2 (some .int) ∈ gtbl := gtbl_of (tb5 (List.mem_of_getElem? (i := 64) rfl)) rfl
theorem wn_X7_found : Cond.instanceMethod yX7_found ∈ gtbl := gtbl_of (tb5 (List.mem_of_getElem? (i := 62) rfl)) rfl
theorem wl_X7_found : Cond.selects RX7 yX7_found yX7_found ∈ gtbl := gtbl_of (tb5 (List.mem_of_getElem? (i := 63) rfl)) rfl
theorem cv_X7_found : CalV yX7_found cX7_found 2 (some .int) 1 := ⟨wk_X7_found, wn_X7_found, wl_X7_found, wi_X7, ⟨by decide +kernel, by decide +kernel, by decide +kernel⟩⟩
def nstF : List (String × Nat × String × String × String × String) := [("WingDesk", 210, "WingDesk$Wardrobe", "count", "I", "WingDesk"), ("WingDesk", 189, "WingDesk$Wardrobe", "hour", "I", "WingDesk"), ("WingDesk", 121, "WingDesk$Change", "off", "I", "WingDesk"), ("WingDesk", 124, "WingDesk$Change", "on", "I", "WingDesk"), ("WingDesk", 143, "WingDesk$Change", "bestBits", "I", "WingDesk"), ("WingDesk", 140, "WingDesk$Change", "bestSeconds", "I", "WingDesk"), ("WingDesk", 153, "WingDesk$Show", "count", "I", "WingDesk")]
def nstM : List (String × Nat × MethodName × String) := [(RX6, 9, yX5_init, "WingDesk"), (RX6, 18, yX2_init, "WingDesk"), (RX6, 34, yX4_init, "WingDesk"), (RX5, 23, yX6_kindIn, "WingDesk"), (RX5, 31, yX6_placeIn, "WingDesk"), (RX5, 34, yX6_thickIn, "WingDesk"), (RX5, 37, yX6_onIn, "WingDesk"), (RX5, 40, yX6_offIn, "WingDesk"), (RX5, 43, yX6_nameIn, "WingDesk"), (RX5, 46, yX6_sizeIn, "WingDesk"), (RX5, 49, yX6_spanIn, "WingDesk"), (RX2, 33, yX6_isWithin, "WingDesk"), (RX1, 97, yX6_hasBit, "WingDesk"), (RX1, 124, yX6_isWithin, "WingDesk"), (RX4, 51, yX6_isWithin, "WingDesk"), (RX4, 41, yX6_beforeIn, "WingDesk"), (RX4, 45, yX6_afterIn, "WingDesk"), (RX3, 72, yX6_isWithin, "WingDesk"), (RX4, 55, yX6_doorIn, "WingDesk")]
def nst : List Cond := nstF.map (fun q => .fieldLinkNest q.1 q.2.1 q.2.2.1 q.2.2.2.1 q.2.2.2.2.1 q.2.2.2.2.2) ++ nstM.map (fun q => .methodLinkNest q.1 q.2.1 q.2.2.1 q.2.2.2)
theorem nst_moves {s U : State} (hW : s.WarmedH U.vm) (h : ∀ w ∈ nst, va_Nw w s) : ∀ w ∈ nst, va_Nw w U := by
  intro w hw
  rcases List.mem_append.mp hw with q | q
  · obtain ⟨x, -, rfl⟩ := List.mem_map.mp q
    exact va_Nw.warmF hW (h _ hw)
  · obtain ⟨x, -, rfl⟩ := List.mem_map.mp q
    exact va_Nw.warmM hW (h _ hw)
theorem nst_same {s U : State} (hv : s.vm = U.vm) (h : ∀ w ∈ nst, va_Nw w s) : ∀ w ∈ nst, va_Nw w U := by
  intro w hw
  rcases List.mem_append.mp hw with q | q
  · obtain ⟨x, -, rfl⟩ := List.mem_map.mp q
    exact va_Nw.same rfl hv (h _ hw)
  · obtain ⟨x, -, rfl⟩ := List.mem_map.mp q
    exact va_Nw.same rfl hv (h _ hw)
theorem nf_X6_210 : Cond.fieldLinkNest RX6 210 "WingDesk$Wardrobe" "count" "I" "WingDesk" ∈ nst := List.mem_append_left _ (List.mem_map.mpr ⟨_, List.mem_of_getElem? (i := 0) rfl, rfl⟩)
theorem nf_X6_189 : Cond.fieldLinkNest RX6 189 "WingDesk$Wardrobe" "hour" "I" "WingDesk" ∈ nst := List.mem_append_left _ (List.mem_map.mpr ⟨_, List.mem_of_getElem? (i := 1) rfl, rfl⟩)
theorem nf_X6_121 : Cond.fieldLinkNest RX6 121 "WingDesk$Change" "off" "I" "WingDesk" ∈ nst := List.mem_append_left _ (List.mem_map.mpr ⟨_, List.mem_of_getElem? (i := 2) rfl, rfl⟩)
theorem nf_X6_124 : Cond.fieldLinkNest RX6 124 "WingDesk$Change" "on" "I" "WingDesk" ∈ nst := List.mem_append_left _ (List.mem_map.mpr ⟨_, List.mem_of_getElem? (i := 3) rfl, rfl⟩)
theorem nf_X6_143 : Cond.fieldLinkNest RX6 143 "WingDesk$Change" "bestBits" "I" "WingDesk" ∈ nst := List.mem_append_left _ (List.mem_map.mpr ⟨_, List.mem_of_getElem? (i := 4) rfl, rfl⟩)
theorem nf_X6_140 : Cond.fieldLinkNest RX6 140 "WingDesk$Change" "bestSeconds" "I" "WingDesk" ∈ nst := List.mem_append_left _ (List.mem_map.mpr ⟨_, List.mem_of_getElem? (i := 5) rfl, rfl⟩)
theorem nf_X6_153 : Cond.fieldLinkNest RX6 153 "WingDesk$Show" "count" "I" "WingDesk" ∈ nst := List.mem_append_left _ (List.mem_map.mpr ⟨_, List.mem_of_getElem? (i := 6) rfl, rfl⟩)
theorem nm_X6_9 : Cond.methodLinkNest RX6 9 yX5_init "WingDesk" ∈ nst := List.mem_append_right _ (List.mem_map.mpr ⟨_, List.mem_of_getElem? (i := 0) rfl, rfl⟩)
theorem nm_X6_18 : Cond.methodLinkNest RX6 18 yX2_init "WingDesk" ∈ nst := List.mem_append_right _ (List.mem_map.mpr ⟨_, List.mem_of_getElem? (i := 1) rfl, rfl⟩)
theorem nm_X6_34 : Cond.methodLinkNest RX6 34 yX4_init "WingDesk" ∈ nst := List.mem_append_right _ (List.mem_map.mpr ⟨_, List.mem_of_getElem? (i := 2) rfl, rfl⟩)
theorem nm_X5_23 : Cond.methodLinkNest RX5 23 yX6_kindIn "WingDesk" ∈ nst := List.mem_append_right _ (List.mem_map.mpr ⟨_, List.mem_of_getElem? (i := 3) rfl, rfl⟩)
theorem nm_X5_31 : Cond.methodLinkNest RX5 31 yX6_placeIn "WingDesk" ∈ nst := List.mem_append_right _ (List.mem_map.mpr ⟨_, List.mem_of_getElem? (i := 4) rfl, rfl⟩)
theorem nm_X5_34 : Cond.methodLinkNest RX5 34 yX6_thickIn "WingDesk" ∈ nst := List.mem_append_right _ (List.mem_map.mpr ⟨_, List.mem_of_getElem? (i := 5) rfl, rfl⟩)
theorem nm_X5_37 : Cond.methodLinkNest RX5 37 yX6_onIn "WingDesk" ∈ nst := List.mem_append_right _ (List.mem_map.mpr ⟨_, List.mem_of_getElem? (i := 6) rfl, rfl⟩)
theorem nm_X5_40 : Cond.methodLinkNest RX5 40 yX6_offIn "WingDesk" ∈ nst := List.mem_append_right _ (List.mem_map.mpr ⟨_, List.mem_of_getElem? (i := 7) rfl, rfl⟩)
theorem nm_X5_43 : Cond.methodLinkNest RX5 43 yX6_nameIn "WingDesk" ∈ nst := List.mem_append_right _ (List.mem_map.mpr ⟨_, List.mem_of_getElem? (i := 8) rfl, rfl⟩)
theorem nm_X5_46 : Cond.methodLinkNest RX5 46 yX6_sizeIn "WingDesk" ∈ nst := List.mem_append_right _ (List.mem_map.mpr ⟨_, List.mem_of_getElem? (i := 9) rfl, rfl⟩)
theorem nm_X5_49 : Cond.methodLinkNest RX5 49 yX6_spanIn "WingDesk" ∈ nst := List.mem_append_right _ (List.mem_map.mpr ⟨_, List.mem_of_getElem? (i := 10) rfl, rfl⟩)
theorem nm_X2_33 : Cond.methodLinkNest RX2 33 yX6_isWithin "WingDesk" ∈ nst := List.mem_append_right _ (List.mem_map.mpr ⟨_, List.mem_of_getElem? (i := 11) rfl, rfl⟩)
theorem nm_X1_97 : Cond.methodLinkNest RX1 97 yX6_hasBit "WingDesk" ∈ nst := List.mem_append_right _ (List.mem_map.mpr ⟨_, List.mem_of_getElem? (i := 12) rfl, rfl⟩)
theorem nm_X1_124 : Cond.methodLinkNest RX1 124 yX6_isWithin "WingDesk" ∈ nst := List.mem_append_right _ (List.mem_map.mpr ⟨_, List.mem_of_getElem? (i := 13) rfl, rfl⟩)
theorem nm_X4_51 : Cond.methodLinkNest RX4 51 yX6_isWithin "WingDesk" ∈ nst := List.mem_append_right _ (List.mem_map.mpr ⟨_, List.mem_of_getElem? (i := 14) rfl, rfl⟩)
theorem nm_X4_41 : Cond.methodLinkNest RX4 41 yX6_beforeIn "WingDesk" ∈ nst := List.mem_append_right _ (List.mem_map.mpr ⟨_, List.mem_of_getElem? (i := 15) rfl, rfl⟩)
theorem nm_X4_45 : Cond.methodLinkNest RX4 45 yX6_afterIn "WingDesk" ∈ nst := List.mem_append_right _ (List.mem_map.mpr ⟨_, List.mem_of_getElem? (i := 16) rfl, rfl⟩)
theorem nm_X3_72 : Cond.methodLinkNest RX3 72 yX6_isWithin "WingDesk" ∈ nst := List.mem_append_right _ (List.mem_map.mpr ⟨_, List.mem_of_getElem? (i := 17) rfl, rfl⟩)
theorem nm_X4_55 : Cond.methodLinkNest RX4 55 yX6_doorIn "WingDesk" ∈ nst := List.mem_append_right _ (List.mem_map.mpr ⟨_, List.mem_of_getElem? (i := 18) rfl, rfl⟩)
theorem wy_X0_0 : u_lay RX0 TX0 0 ∈ gtbl := gtbl_of (tb1 (List.mem_of_getElem? (i := 183) rfl)) rfl
theorem wy_X0_1 : u_lay RX0 TX0 1 ∈ gtbl := gtbl_of (tb1 (List.mem_of_getElem? (i := 185) rfl)) rfl
theorem wy_X0_2 : u_lay RX0 TX0 2 ∈ gtbl := gtbl_of (tb1 (List.mem_of_getElem? (i := 187) rfl)) rfl
theorem wa_X0 : ∀ w ∈ u_ws RX0 TX0 3, w ∈ gtbl := by
  intro w hw
  obtain ⟨k, hk, rfl⟩ := List.mem_map.mp hw
  have hk : k < 3 := List.mem_range.mp hk
  match k, hk with
  | 0, _ => exact wy_X0_0
  | 1, _ => exact wy_X0_1
  | 2, _ => exact wy_X0_2
  | k + 3, hk => omega
theorem wy_X1_0 : u_lay RX1 TX1 0 ∈ gtbl := gtbl_of (tb1 (List.mem_of_getElem? (i := 83) rfl)) rfl
theorem wy_X1_1 : u_lay RX1 TX1 1 ∈ gtbl := gtbl_of (tb1 (List.mem_of_getElem? (i := 85) rfl)) rfl
theorem wy_X1_2 : u_lay RX1 TX1 2 ∈ gtbl := gtbl_of (tb1 (List.mem_of_getElem? (i := 87) rfl)) rfl
theorem wy_X1_3 : u_lay RX1 TX1 3 ∈ gtbl := gtbl_of (tb1 (List.mem_of_getElem? (i := 89) rfl)) rfl
theorem wy_X1_4 : u_lay RX1 TX1 4 ∈ gtbl := gtbl_of (tb1 (List.mem_of_getElem? (i := 91) rfl)) rfl
theorem wy_X1_5 : u_lay RX1 TX1 5 ∈ gtbl := gtbl_of (tb1 (List.mem_of_getElem? (i := 93) rfl)) rfl
theorem wy_X1_6 : u_lay RX1 TX1 6 ∈ gtbl := gtbl_of (tb1 (List.mem_of_getElem? (i := 95) rfl)) rfl
theorem wy_X1_7 : u_lay RX1 TX1 7 ∈ gtbl := gtbl_of (tb1 (List.mem_of_getElem? (i := 97) rfl)) rfl
theorem wy_X1_8 : u_lay RX1 TX1 8 ∈ gtbl := gtbl_of (tb1 (List.mem_of_getElem? (i := 99) rfl)) rfl
theorem wy_X1_9 : u_lay RX1 TX1 9 ∈ gtbl := gtbl_of (tb1 (List.mem_of_getElem? (i := 101) rfl)) rfl
theorem wy_X1_10 : u_lay RX1 TX1 10 ∈ gtbl := gtbl_of (tb1 (List.mem_of_getElem? (i := 103) rfl)) rfl
theorem wy_X1_11 : u_lay RX1 TX1 11 ∈ gtbl := gtbl_of (tb1 (List.mem_of_getElem? (i := 105) rfl)) rfl
theorem wy_X1_12 : u_lay RX1 TX1 12 ∈ gtbl := gtbl_of (tb1 (List.mem_of_getElem? (i := 107) rfl)) rfl
theorem wy_X1_13 : u_lay RX1 TX1 13 ∈ gtbl := gtbl_of (tb1 (List.mem_of_getElem? (i := 109) rfl)) rfl
theorem wy_X1_14 : u_lay RX1 TX1 14 ∈ gtbl := gtbl_of (tb1 (List.mem_of_getElem? (i := 111) rfl)) rfl
theorem wy_X1_15 : u_lay RX1 TX1 15 ∈ gtbl := gtbl_of (tb1 (List.mem_of_getElem? (i := 113) rfl)) rfl
theorem wy_X1_16 : u_lay RX1 TX1 16 ∈ gtbl := gtbl_of (tb1 (List.mem_of_getElem? (i := 115) rfl)) rfl
theorem wy_X1_17 : u_lay RX1 TX1 17 ∈ gtbl := gtbl_of (tb1 (List.mem_of_getElem? (i := 117) rfl)) rfl
theorem wa_X1 : ∀ w ∈ u_ws RX1 TX1 18, w ∈ gtbl := by
  intro w hw
  obtain ⟨k, hk, rfl⟩ := List.mem_map.mp hw
  have hk : k < 18 := List.mem_range.mp hk
  match k, hk with
  | 0, _ => exact wy_X1_0
  | 1, _ => exact wy_X1_1
  | 2, _ => exact wy_X1_2
  | 3, _ => exact wy_X1_3
  | 4, _ => exact wy_X1_4
  | 5, _ => exact wy_X1_5
  | 6, _ => exact wy_X1_6
  | 7, _ => exact wy_X1_7
  | 8, _ => exact wy_X1_8
  | 9, _ => exact wy_X1_9
  | 10, _ => exact wy_X1_10
  | 11, _ => exact wy_X1_11
  | 12, _ => exact wy_X1_12
  | 13, _ => exact wy_X1_13
  | 14, _ => exact wy_X1_14
  | 15, _ => exact wy_X1_15
  | 16, _ => exact wy_X1_16
  | 17, _ => exact wy_X1_17
  | k + 18, hk => omega
theorem wy_X2_0 : u_lay RX2 TX2 0 ∈ gtbl := gtbl_of (tb1 (List.mem_of_getElem? (i := 48) rfl)) rfl
theorem wy_X2_1 : u_lay RX2 TX2 1 ∈ gtbl := gtbl_of (tb1 (List.mem_of_getElem? (i := 50) rfl)) rfl
theorem wy_X2_2 : u_lay RX2 TX2 2 ∈ gtbl := gtbl_of (tb1 (List.mem_of_getElem? (i := 52) rfl)) rfl
theorem wa_X2 : ∀ w ∈ u_ws RX2 TX2 3, w ∈ gtbl := by
  intro w hw
  obtain ⟨k, hk, rfl⟩ := List.mem_map.mp hw
  have hk : k < 3 := List.mem_range.mp hk
  match k, hk with
  | 0, _ => exact wy_X2_0
  | 1, _ => exact wy_X2_1
  | 2, _ => exact wy_X2_2
  | k + 3, hk => omega
theorem wy_X3_0 : u_lay RX3 TX3 0 ∈ gtbl := gtbl_of (tb1 (List.mem_of_getElem? (i := 159) rfl)) rfl
theorem wy_X3_1 : u_lay RX3 TX3 1 ∈ gtbl := gtbl_of (tb1 (List.mem_of_getElem? (i := 161) rfl)) rfl
theorem wy_X3_2 : u_lay RX3 TX3 2 ∈ gtbl := gtbl_of (tb1 (List.mem_of_getElem? (i := 163) rfl)) rfl
theorem wy_X3_3 : u_lay RX3 TX3 3 ∈ gtbl := gtbl_of (tb1 (List.mem_of_getElem? (i := 165) rfl)) rfl
theorem wy_X3_4 : u_lay RX3 TX3 4 ∈ gtbl := gtbl_of (tb1 (List.mem_of_getElem? (i := 167) rfl)) rfl
theorem wy_X3_5 : u_lay RX3 TX3 5 ∈ gtbl := gtbl_of (tb1 (List.mem_of_getElem? (i := 169) rfl)) rfl
theorem wy_X3_6 : u_lay RX3 TX3 6 ∈ gtbl := gtbl_of (tb1 (List.mem_of_getElem? (i := 171) rfl)) rfl
theorem wa_X3 : ∀ w ∈ u_ws RX3 TX3 7, w ∈ gtbl := by
  intro w hw
  obtain ⟨k, hk, rfl⟩ := List.mem_map.mp hw
  have hk : k < 7 := List.mem_range.mp hk
  match k, hk with
  | 0, _ => exact wy_X3_0
  | 1, _ => exact wy_X3_1
  | 2, _ => exact wy_X3_2
  | 3, _ => exact wy_X3_3
  | 4, _ => exact wy_X3_4
  | 5, _ => exact wy_X3_5
  | 6, _ => exact wy_X3_6
  | k + 7, hk => omega
theorem wy_X4_0 : u_lay RX4 TX4 0 ∈ gtbl := gtbl_of (tb1 (List.mem_of_getElem? (i := 133) rfl)) rfl
theorem wy_X4_1 : u_lay RX4 TX4 1 ∈ gtbl := gtbl_of (tb1 (List.mem_of_getElem? (i := 135) rfl)) rfl
theorem wy_X4_2 : u_lay RX4 TX4 2 ∈ gtbl := gtbl_of (tb1 (List.mem_of_getElem? (i := 137) rfl)) rfl
theorem wy_X4_3 : u_lay RX4 TX4 3 ∈ gtbl := gtbl_of (tb1 (List.mem_of_getElem? (i := 139) rfl)) rfl
theorem wy_X4_4 : u_lay RX4 TX4 4 ∈ gtbl := gtbl_of (tb1 (List.mem_of_getElem? (i := 141) rfl)) rfl
theorem wy_X4_5 : u_lay RX4 TX4 5 ∈ gtbl := gtbl_of (tb1 (List.mem_of_getElem? (i := 143) rfl)) rfl
theorem wa_X4 : ∀ w ∈ u_ws RX4 TX4 6, w ∈ gtbl := by
  intro w hw
  obtain ⟨k, hk, rfl⟩ := List.mem_map.mp hw
  have hk : k < 6 := List.mem_range.mp hk
  match k, hk with
  | 0, _ => exact wy_X4_0
  | 1, _ => exact wy_X4_1
  | 2, _ => exact wy_X4_2
  | 3, _ => exact wy_X4_3
  | 4, _ => exact wy_X4_4
  | 5, _ => exact wy_X4_5
  | k + 6, hk => omega
theorem wy_X5_0 : u_lay RX5 TX5 0 ∈ gtbl := gtbl_of (tb1 (List.mem_of_getElem? (i := 31) rfl)) rfl
theorem wy_X5_1 : u_lay RX5 TX5 1 ∈ gtbl := gtbl_of (tb1 (List.mem_of_getElem? (i := 33) rfl)) rfl
theorem wy_X5_2 : u_lay RX5 TX5 2 ∈ gtbl := gtbl_of (tb1 (List.mem_of_getElem? (i := 35) rfl)) rfl
theorem wa_X5 : ∀ w ∈ u_ws RX5 TX5 3, w ∈ gtbl := by
  intro w hw
  obtain ⟨k, hk, rfl⟩ := List.mem_map.mp hw
  have hk : k < 3 := List.mem_range.mp hk
  match k, hk with
  | 0, _ => exact wy_X5_0
  | 1, _ => exact wy_X5_1
  | 2, _ => exact wy_X5_2
  | k + 3, hk => omega
theorem wy_X6_0 : u_lay RX6 TX6 0 ∈ gtbl := gtbl_of (tb1 (List.mem_of_getElem? (i := 200) rfl)) rfl
theorem wy_X6_1 : u_lay RX6 TX6 1 ∈ gtbl := gtbl_of (tb1 (List.mem_of_getElem? (i := 202) rfl)) rfl
theorem wy_X6_2 : u_lay RX6 TX6 2 ∈ gtbl := gtbl_of (tb1 (List.mem_of_getElem? (i := 204) rfl)) rfl
theorem wy_X6_3 : u_lay RX6 TX6 3 ∈ gtbl := gtbl_of (tb1 (List.mem_of_getElem? (i := 206) rfl)) rfl
theorem wy_X6_4 : u_lay RX6 TX6 4 ∈ gtbl := gtbl_of (tb1 (List.mem_of_getElem? (i := 208) rfl)) rfl
theorem wy_X6_5 : u_lay RX6 TX6 5 ∈ gtbl := gtbl_of (tb1 (List.mem_of_getElem? (i := 210) rfl)) rfl
theorem wy_X6_6 : u_lay RX6 TX6 6 ∈ gtbl := gtbl_of (tb1 (List.mem_of_getElem? (i := 212) rfl)) rfl
theorem wy_X6_7 : u_lay RX6 TX6 7 ∈ gtbl := gtbl_of (tb1 (List.mem_of_getElem? (i := 214) rfl)) rfl
theorem wy_X6_8 : u_lay RX6 TX6 8 ∈ gtbl := gtbl_of (tb1 (List.mem_of_getElem? (i := 216) rfl)) rfl
theorem wy_X6_9 : u_lay RX6 TX6 9 ∈ gtbl := gtbl_of (tb1 (List.mem_of_getElem? (i := 218) rfl)) rfl
theorem wa_X6 : ∀ w ∈ u_ws RX6 TX6 10, w ∈ gtbl := by
  intro w hw
  obtain ⟨k, hk, rfl⟩ := List.mem_map.mp hw
  have hk : k < 10 := List.mem_range.mp hk
  match k, hk with
  | 0, _ => exact wy_X6_0
  | 1, _ => exact wy_X6_1
  | 2, _ => exact wy_X6_2
  | 3, _ => exact wy_X6_3
  | 4, _ => exact wy_X6_4
  | 5, _ => exact wy_X6_5
  | 6, _ => exact wy_X6_6
  | 7, _ => exact wy_X6_7
  | 8, _ => exact wy_X6_8
  | 9, _ => exact wy_X6_9
  | k + 10, hk => omega
theorem wy_X7_0 : u_lay RX7 TX7 0 ∈ gtbl := gtbl_of (tb4 (List.mem_of_getElem? (i := 36) rfl)) rfl
theorem wy_X7_1 : u_lay RX7 TX7 1 ∈ gtbl := gtbl_of (tb4 (List.mem_of_getElem? (i := 38) rfl)) rfl
theorem wy_X7_2 : u_lay RX7 TX7 2 ∈ gtbl := gtbl_of (tb4 (List.mem_of_getElem? (i := 40) rfl)) rfl
theorem wy_X7_3 : u_lay RX7 TX7 3 ∈ gtbl := gtbl_of (tb4 (List.mem_of_getElem? (i := 42) rfl)) rfl
theorem wy_X7_4 : u_lay RX7 TX7 4 ∈ gtbl := gtbl_of (tb4 (List.mem_of_getElem? (i := 44) rfl)) rfl
theorem wy_X7_5 : u_lay RX7 TX7 5 ∈ gtbl := gtbl_of (tb4 (List.mem_of_getElem? (i := 46) rfl)) rfl
theorem wy_X7_6 : u_lay RX7 TX7 6 ∈ gtbl := gtbl_of (tb4 (List.mem_of_getElem? (i := 48) rfl)) rfl
theorem wy_X7_7 : u_lay RX7 TX7 7 ∈ gtbl := gtbl_of (tb4 (List.mem_of_getElem? (i := 50) rfl)) rfl
theorem wy_X7_8 : u_lay RX7 TX7 8 ∈ gtbl := gtbl_of (tb4 (List.mem_of_getElem? (i := 52) rfl)) rfl
theorem wy_X7_9 : u_lay RX7 TX7 9 ∈ gtbl := gtbl_of (tb4 (List.mem_of_getElem? (i := 54) rfl)) rfl
theorem wy_X7_10 : u_lay RX7 TX7 10 ∈ gtbl := gtbl_of (tb4 (List.mem_of_getElem? (i := 56) rfl)) rfl
theorem wy_X7_11 : u_lay RX7 TX7 11 ∈ gtbl := gtbl_of (tb4 (List.mem_of_getElem? (i := 58) rfl)) rfl
theorem wy_X7_12 : u_lay RX7 TX7 12 ∈ gtbl := gtbl_of (tb4 (List.mem_of_getElem? (i := 60) rfl)) rfl
theorem wy_X7_13 : u_lay RX7 TX7 13 ∈ gtbl := gtbl_of (tb4 (List.mem_of_getElem? (i := 62) rfl)) rfl
theorem wy_X7_14 : u_lay RX7 TX7 14 ∈ gtbl := gtbl_of (tb4 (List.mem_of_getElem? (i := 64) rfl)) rfl
theorem wy_X7_15 : u_lay RX7 TX7 15 ∈ gtbl := gtbl_of (tb4 (List.mem_of_getElem? (i := 66) rfl)) rfl
theorem wy_X7_16 : u_lay RX7 TX7 16 ∈ gtbl := gtbl_of (tb4 (List.mem_of_getElem? (i := 68) rfl)) rfl
theorem wy_X7_17 : u_lay RX7 TX7 17 ∈ gtbl := gtbl_of (tb4 (List.mem_of_getElem? (i := 70) rfl)) rfl
theorem wy_X7_18 : u_lay RX7 TX7 18 ∈ gtbl := gtbl_of (tb4 (List.mem_of_getElem? (i := 72) rfl)) rfl
theorem wy_X7_19 : u_lay RX7 TX7 19 ∈ gtbl := gtbl_of (tb4 (List.mem_of_getElem? (i := 74) rfl)) rfl
theorem wy_X7_20 : u_lay RX7 TX7 20 ∈ gtbl := gtbl_of (tb4 (List.mem_of_getElem? (i := 76) rfl)) rfl
theorem wy_X7_21 : u_lay RX7 TX7 21 ∈ gtbl := gtbl_of (tb4 (List.mem_of_getElem? (i := 78) rfl)) rfl
theorem wy_X7_22 : u_lay RX7 TX7 22 ∈ gtbl := gtbl_of (tb4 (List.mem_of_getElem? (i := 80) rfl)) rfl
theorem wy_X7_23 : u_lay RX7 TX7 23 ∈ gtbl := gtbl_of (tb4 (List.mem_of_getElem? (i := 82) rfl)) rfl
theorem wy_X7_24 : u_lay RX7 TX7 24 ∈ gtbl := gtbl_of (tb4 (List.mem_of_getElem? (i := 84) rfl)) rfl
theorem wy_X7_25 : u_lay RX7 TX7 25 ∈ gtbl := gtbl_of (tb4 (List.mem_of_getElem? (i := 86) rfl)) rfl
theorem wy_X7_26 : u_lay RX7 TX7 26 ∈ gtbl := gtbl_of (tb4 (List.mem_of_getElem? (i := 88) rfl)) rfl
theorem wy_X7_27 : u_lay RX7 TX7 27 ∈ gtbl := gtbl_of (tb4 (List.mem_of_getElem? (i := 90) rfl)) rfl
theorem wy_X7_28 : u_lay RX7 TX7 28 ∈ gtbl := gtbl_of (tb4 (List.mem_of_getElem? (i := 92) rfl)) rfl
theorem wy_X7_29 : u_lay RX7 TX7 29 ∈ gtbl := gtbl_of (tb4 (List.mem_of_getElem? (i := 94) rfl)) rfl
theorem wy_X7_30 : u_lay RX7 TX7 30 ∈ gtbl := gtbl_of (tb4 (List.mem_of_getElem? (i := 96) rfl)) rfl
theorem wy_X7_31 : u_lay RX7 TX7 31 ∈ gtbl := gtbl_of (tb4 (List.mem_of_getElem? (i := 98) rfl)) rfl
theorem wy_X7_32 : u_lay RX7 TX7 32 ∈ gtbl := gtbl_of (tb4 (List.mem_of_getElem? (i := 100) rfl)) rfl
theorem wy_X7_33 : u_lay RX7 TX7 33 ∈ gtbl := gtbl_of (tb4 (List.mem_of_getElem? (i := 102) rfl)) rfl
theorem wy_X7_34 : u_lay RX7 TX7 34 ∈ gtbl := gtbl_of (tb4 (List.mem_of_getElem? (i := 104) rfl)) rfl
theorem wy_X7_35 : u_lay RX7 TX7 35 ∈ gtbl := gtbl_of (tb4 (List.mem_of_getElem? (i := 106) rfl)) rfl
theorem wy_X7_36 : u_lay RX7 TX7 36 ∈ gtbl := gtbl_of (tb4 (List.mem_of_getElem? (i := 108) rfl)) rfl
theorem wa_X7 : ∀ w ∈ u_ws RX7 TX7 37, w ∈ gtbl := by
  intro w hw
  obtain ⟨k, hk, rfl⟩ := List.mem_map.mp hw
  have hk : k < 37 := List.mem_range.mp hk
  match k, hk with
  | 0, _ => exact wy_X7_0
  | 1, _ => exact wy_X7_1
  | 2, _ => exact wy_X7_2
  | 3, _ => exact wy_X7_3
  | 4, _ => exact wy_X7_4
  | 5, _ => exact wy_X7_5
  | 6, _ => exact wy_X7_6
  | 7, _ => exact wy_X7_7
  | 8, _ => exact wy_X7_8
  | 9, _ => exact wy_X7_9
  | 10, _ => exact wy_X7_10
  | 11, _ => exact wy_X7_11
  | 12, _ => exact wy_X7_12
  | 13, _ => exact wy_X7_13
  | 14, _ => exact wy_X7_14
  | 15, _ => exact wy_X7_15
  | 16, _ => exact wy_X7_16
  | 17, _ => exact wy_X7_17
  | 18, _ => exact wy_X7_18
  | 19, _ => exact wy_X7_19
  | 20, _ => exact wy_X7_20
  | 21, _ => exact wy_X7_21
  | 22, _ => exact wy_X7_22
  | 23, _ => exact wy_X7_23
  | 24, _ => exact wy_X7_24
  | 25, _ => exact wy_X7_25
  | 26, _ => exact wy_X7_26
  | 27, _ => exact wy_X7_27
  | 28, _ => exact wy_X7_28
  | 29, _ => exact wy_X7_29
  | 30, _ => exact wy_X7_30
  | 31, _ => exact wy_X7_31
  | 32, _ => exact wy_X7_32
  | 33, _ => exact wy_X7_33
  | 34, _ => exact wy_X7_34
  | 35, _ => exact wy_X7_35
  | 36, _ => exact wy_X7_36
  | k + 37, hk => omega
theorem okC : ∀ (ci : Nat) (q : vw_C), vwCl[ci]? = some q → ∀ w ∈ u_ws q.1 q.2.1 q.2.2, w ∈ gtbl := by
  intro ci q h
  match ci, h with
  | 0, h => cases h; exact wa_X0
  | 1, h => cases h; exact wa_X1
  | 2, h => cases h; exact wa_X2
  | 3, h => cases h; exact wa_X3
  | 4, h => cases h; exact wa_X4
  | 5, h => cases h; exact wa_X5
  | 6, h => cases h; exact wa_X6
  | 7, h => cases h; exact wa_X7
  | ci + 8, h => simp [vwCl] at h
theorem okT : ∀ (ci : Nat) (q : vw_C), vwCl[ci]? = some q → ∃ ty0 : Nat → FieldType, (∀ k, k < q.2.2 → parseFieldDescriptor (q.2.1 k).2.2.1 = some (ty0 k)) ∧ (∀ a, a < q.2.2 → ∀ b, b < q.2.2 → a ≠ b → (q.2.1 a).2.1 ≠ (q.2.1 b).2.1) := by
  intro ci q h
  match ci, h with
  | 0, h => cases h; exact ⟨tyX0, tyX0_ok, nmX0⟩
  | 1, h => cases h; exact ⟨tyX1, tyX1_ok, nmX1⟩
  | 2, h => cases h; exact ⟨tyX2, tyX2_ok, nmX2⟩
  | 3, h => cases h; exact ⟨tyX3, tyX3_ok, nmX3⟩
  | 4, h => cases h; exact ⟨tyX4, tyX4_ok, nmX4⟩
  | 5, h => cases h; exact ⟨tyX5, tyX5_ok, nmX5⟩
  | 6, h => cases h; exact ⟨tyX6, tyX6_ok, nmX6⟩
  | 7, h => cases h; exact ⟨tyX7, tyX7_ok, nmX7⟩
  | ci + 8, h => simp [vwCl] at h
end
section
/-! ===== the world of one side as a list of cells of fixed shape over one function of numbers ===== -/
abbrev Vl : Type := Int32 ⊕ Nat
abbrev St : Type := Nat → Nat → Int32
abbrev Se : Type := (Nat × List (Option Nat)) ⊕ (Nat × Bool)
abbrev Sh : Type := List Se
def tv (g : Nat → Nat) : Vl → Value
  | .inl x => .int x
  | .inr k => .ref (g k)
theorem tv_cat (g : Nat → Nat) (v : Vl) : (tv g v).category = 1 := by cases v <;> rfl
def fldv (g : Nat → Nat) (f : Nat → Int32) : Nat → List (Option Nat) → List Value
  | _, [] => []
  | j, some c :: fl => .ref (g c) :: fldv g f (j + 1) fl
  | j, none :: fl => .int (f j) :: fldv g f (j + 1) fl
def cel (g : Nat → Nat) (cA : ClassId) (f : Nat → Int32) : Se → va_E
  | .inl (ci, fl) => .inr (ci, fldv g f 0 fl)
  | .inr (n, _) => .inl (cA, n, .inl f)
def wlf (g : Nat → Nat) (cA : Nat → ClassId) (u : St) : Nat → Sh → va_W
  | _, [] => []
  | k, e :: sh => (g k, cel g (cA k) (u k) e) :: wlf g cA u (k + 1) sh
def tyf (cA : Nat → ClassId) : Nat → Sh → List (ClassId × FieldType)
  | _, [] => []
  | k, .inl _ :: sh => tyf cA (k + 1) sh
  | k, .inr (_, z) :: sh => (cA k, if z then .boolean else .int) :: tyf cA (k + 1) sh
def wld (sh : Sh) (g : Nat → Nat) (cA : Nat → ClassId) (u : St) : va_W := wlf g cA u 0 sh
def tys (sh : Sh) (cA : Nat → ClassId) : List (ClassId × FieldType) := tyf cA 0 sh
def up2 (u : St) (k j : Nat) (x : Int32) : St := fun a => if a = k then upd (u k) j x else u a
theorem up2_s (u : St) (k j : Nat) (x : Int32) : up2 u k j x k = upd (u k) j x := by simp [up2]
theorem up2_n (u : St) {k a : Nat} (j : Nat) (x : Int32) (h : a ≠ k) : up2 u k j x a = u a := by simp [up2, h]
theorem wlf_get (g : Nat → Nat) (cA : Nat → ClassId) (u : St) : ∀ (sh : Sh) (k i : Nat) (e : Se), sh[i]? = some e → (wlf g cA u k sh)[i]? = some (g (k + i), cel g (cA (k + i)) (u (k + i)) e)
  | [], k, i, e, h => by simp at h
  | e0 :: sh, k, 0, e, h => by
    simp only [List.getElem?_cons_zero, Option.some.injEq] at h
    subst h
    rfl
  | e0 :: sh, k, i + 1, e, h => by
    have h1 : sh[i]? = some e := by simpa using h
    have h2 := wlf_get g cA u sh (k + 1) i e h1
    have e1 : k + 1 + i = k + (i + 1) := by omega
    rw [e1] at h2
    simpa [wlf] using h2
theorem wlf_len (g : Nat → Nat) (cA : Nat → ClassId) (u : St) : ∀ (sh : Sh) (k : Nat), (wlf g cA u k sh).length = sh.length
  | [], k => rfl
  | e0 :: sh, k => by simp [wlf, wlf_len g cA u sh (k + 1)]
theorem wlf_set (g : Nat → Nat) (cA : Nat → ClassId) {u u' : St} : ∀ (sh : Sh) (k i : Nat) (e : Se), sh[i]? = some e → (∀ j, j ≠ k + i → u' j = u j) → (wlf g cA u k sh).set i (g (k + i), cel g (cA (k + i)) (u' (k + i)) e) = wlf g cA u' k sh
  | [], k, i, e, h, _ => by simp at h
  | e0 :: sh, k, 0, e, h, hu => by
    simp only [List.getElem?_cons_zero, Option.some.injEq] at h
    subst h
    have tl : ∀ (sh : Sh) (q : Nat), k < q → wlf g cA u q sh = wlf g cA u' q sh := by
      intro sh
      induction sh with
      | nil => intro q _; rfl
      | cons a sh ih => intro q hq; simp only [wlf]; rw [ih (q + 1) (by omega), hu q (by omega)]
    simp only [wlf, List.set_cons_zero, Nat.add_zero]
    rw [tl sh (k + 1) (by omega)]
  | e0 :: sh, k, i + 1, e, h, hu => by
    have h1 : sh[i]? = some e := by simpa using h
    have e1 : k + 1 + i = k + (i + 1) := by omega
    have h2 := wlf_set g cA sh (k + 1) i e h1 (u := u) (u' := u') (fun j hj => hu j (by omega))
    rw [e1] at h2
    simp only [wlf, List.set_cons_succ]
    rw [h2, hu k (by omega)]
theorem fldv_get (g : Nat → Nat) (f : Nat → Int32) : ∀ (fl : List (Option Nat)) (j i : Nat) (x : Option Nat), fl[i]? = some x → (fldv g f j fl)[i]? = some (match x with | some c => .ref (g c) | none => .int (f (j + i)))
  | [], j, i, x, h => by simp at h
  | x0 :: fl, j, 0, x, h => by
    simp only [List.getElem?_cons_zero, Option.some.injEq] at h
    subst h
    cases x0 <;> rfl
  | x0 :: fl, j, i + 1, x, h => by
    have h1 : fl[i]? = some x := by simpa using h
    have h2 := fldv_get g f fl (j + 1) i x h1
    have e1 : j + 1 + i = j + (i + 1) := by omega
    rw [e1] at h2
    cases x0 <;> simpa [fldv] using h2
theorem fldv_len (g : Nat → Nat) (f : Nat → Int32) : ∀ (fl : List (Option Nat)) (j : Nat), (fldv g f j fl).length = fl.length
  | [], j => rfl
  | x0 :: fl, j => by cases x0 <;> simp [fldv, fldv_len g f fl (j + 1)]
theorem fldv_set (g : Nat → Nat) (f : Nat → Int32) (x : Int32) : ∀ (fl : List (Option Nat)) (j i : Nat), fl[i]? = some none → (fldv g f j fl).set i (.int x) = fldv g (upd f (j + i) x) j fl
  | [], j, i, h => by simp at h
  | x0 :: fl, j, 0, h => by
    simp only [List.getElem?_cons_zero, Option.some.injEq] at h
    subst h
    have tl : ∀ (fl : List (Option Nat)) (q : Nat), j < q → fldv g f q fl = fldv g (upd f j x) q fl := by
      intro fl
      induction fl with
      | nil => intro q _; rfl
      | cons a fl ih =>
        intro q hq
        have e1 : upd f j x q = f q := by simp [upd]; omega
        cases a <;> simp only [fldv] <;> rw [ih (q + 1) (by omega)]
        rw [e1]
    simp only [fldv, List.set_cons_zero, Nat.add_zero]
    rw [tl fl (j + 1) (by omega)]
    simp [upd]
  | x0 :: fl, j, i + 1, h => by
    have h1 : fl[i]? = some none := by simpa using h
    have h2 := fldv_set g f x fl (j + 1) i h1
    have e1 : j + 1 + i = j + (i + 1) := by omega
    rw [e1] at h2
    have e2 : upd f (j + (i + 1)) x j = f j := by simp [upd]
    cases x0 <;> simp only [fldv, List.set_cons_succ] <;> rw [h2]
    rw [e2]
theorem tyf_get (cA : Nat → ClassId) : ∀ (sh : Sh) (k i n : Nat) (z : Bool), sh[i]? = some (.inr (n, z)) → ∃ t0 : Nat, (tyf cA k sh)[t0]? = some (cA (k + i), if z then .boolean else .int)
  | [], k, i, n, z, h => by simp at h
  | e0 :: sh, k, 0, n, z, h => by
    simp only [List.getElem?_cons_zero, Option.some.injEq] at h
    subst h
    exact ⟨0, rfl⟩
  | e0 :: sh, k, i + 1, n, z, h => by
    have h1 : sh[i]? = some (.inr (n, z)) := by simpa using h
    obtain ⟨t0, h2⟩ := tyf_get cA sh (k + 1) i n z h1
    have e1 : k + 1 + i = k + (i + 1) := by omega
    rw [e1] at h2
    match e0 with
    | .inl a => exact ⟨t0, h2⟩
    | .inr (a, b) => exact ⟨t0 + 1, by simpa [tyf] using h2⟩
theorem wld_get {sh : Sh} {g : Nat → Nat} {cA : Nat → ClassId} {u : St} {k : Nat} {e : Se} (h : sh[k]? = some e) : (wld sh g cA u)[k]? = some (g k, cel g (cA k) (u k) e) := by
  have := wlf_get g cA u sh 0 k e h
  simpa [wld] using this
theorem wld_seta {sh : Sh} {g : Nat → Nat} {cA : Nat → ClassId} {u : St} {k n : Nat} {z : Bool} {j : Nat} {x : Int32} (h : sh[k]? = some (.inr (n, z))) : (wld sh g cA u).set k (g k, .inl (cA k, n, .inl (upd (u k) j x))) = wld sh g cA (up2 u k j x) := by
  have := wlf_set g cA (u := u) (u' := up2 u k j x) sh 0 k _ h (fun j hj => up2_n u _ _ (by omega))
  simp only [Nat.zero_add, up2_s, cel] at this
  exact this
theorem wld_setf {sh : Sh} {g : Nat → Nat} {cA : Nat → ClassId} {u : St} {k ci : Nat} {fl : List (Option Nat)} {j : Nat} {x : Int32} (h : sh[k]? = some (.inl (ci, fl))) (hf : fl[j]? = some none) : (wld sh g cA u).set k (g k, .inr (ci, (fldv g (u k) 0 fl).set j (.int x))) = wld sh g cA (up2 u k j x) := by
  have := wlf_set g cA (u := u) (u' := up2 u k j x) sh 0 k _ h (fun j hj => up2_n u _ _ (by omega))
  simp only [Nat.zero_add, up2_s, cel] at this
  rw [fldv_set g (u k) x fl 0 j hf, Nat.zero_add]
  exact this
theorem wld_addr {sh : Sh} {g : Nat → Nat} {cA : Nat → ClassId} {u u' : St} {k : Nat} {q : Nat × va_E} (h : (wld sh g cA u)[k]? = some q) : ∃ e, (wld sh g cA u')[k]? = some (q.1, e) ∧ k < sh.length := by
  have hk : k < sh.length := by
    have := (List.getElem?_eq_some_iff.mp h).1
    simpa [wld, wlf_len] using this
  have h0 : sh[k]? = some sh[k] := List.getElem?_eq_getElem hk
  have h1 := wld_get (g := g) (cA := cA) (u := u) h0
  have h2 := wld_get (g := g) (cA := cA) (u := u') h0
  rw [h1] at h
  cases h
  exact ⟨_, h2, hk⟩
theorem wld_D {sh : Sh} {g : Nat → Nat} {cA : Nat → ClassId} {u u' : St} {A : Nat → Prop} (h : va_D A (wld sh g cA u)) : va_D A (wld sh g cA u') := by
  refine ⟨fun i j p q hp hq he => ?_, fun k q hq => ?_⟩
  · obtain ⟨e1, h1, -⟩ := wld_addr (u' := u) hp
    obtain ⟨e2, h2, -⟩ := wld_addr (u' := u) hq
    exact h.1 i j _ _ h1 h2 he
  · obtain ⟨e1, h1, -⟩ := wld_addr (u' := u) hq
    exact h.2 k (q.1, e1) h1
theorem wld_A {sh : Sh} {g : Nat → Nat} {cA : Nat → ClassId} (u u' : St) {sz q : Nat} (h : va_A (wld sh g cA u) sz q) : va_A (wld sh g cA u') sz q := by
  rcases h with ⟨k, e, h⟩ | h
  · obtain ⟨e1, h1, -⟩ := wld_addr (u' := u') h
    exact Or.inl ⟨k, e1, h1⟩
  · exact Or.inr h
/-! ===== locals by their places ===== -/
def lvH (g : Nat → Nat) (ls : Array Slot) (nL : Nat) (L : List (Option Vl)) : Prop := ls.size = nL ∧ lv_wf ls ∧ ∀ (i : Nat) (v : Vl), L[i]? = some (some v) → ls[i]? = some (.val (tv g v))
def lvl (g : Nat → Nat) (L : List (Option Vl)) : List (Nat × Value) := (List.range L.length).filterMap fun i => match L[i]? with
  | some (some v) => some (i, tv g v)
  | _ => none
theorem lvl_in {g : Nat → Nat} {L : List (Option Vl)} {q : Nat × Value} : q ∈ lvl g L ↔ ∃ v, L[q.1]? = some (some v) ∧ q.2 = tv g v := by
  unfold lvl
  rw [List.mem_filterMap]
  constructor
  · rintro ⟨i, -, h⟩
    split at h
    next v hv => cases h; exact ⟨v, hv, rfl⟩
    next => cases h
  · rintro ⟨v, h1, h2⟩
    refine ⟨q.1, List.mem_range.mpr ((List.getElem?_eq_some_iff.mp h1).1), ?_⟩
    rw [h1]
    obtain ⟨a, b⟩ := q
    simp only at h2 ⊢
    rw [h2]
theorem lvH.has {g : Nat → Nat} {ls : Array Slot} {nL : Nat} {L : List (Option Vl)} (h : lvH g ls nL L) : lv_has ls nL (lvl g L) := ⟨h.1, h.2.1, fun q hq => by
  obtain ⟨v, h1, h2⟩ := lvl_in.mp hq
  rw [h2]
  exact h.2.2 q.1 v h1⟩
theorem lvH.set {g : Nat → Nat} {ls' : Array Slot} {nL : Nat} {L : List (Option Vl)} {i : Nat} {v : Vl} (h : lv_has ls' nL ((i, tv g v) :: (lvl g L).filter (fun q => !(q.1 == i) && !(q.1 + 1 == i && q.2.category == 2)))) : lvH g ls' nL (L.set i (some v)) := by
  refine ⟨h.1, h.2.1, fun j w hj => ?_⟩
  by_cases e : i = j
  · subst e
    rw [List.getElem?_set_self'] at hj
    have : w = v := by
      cases hL : L[i]? with
      | none => rw [hL] at hj; simp at hj
      | some x => rw [hL] at hj; simp at hj; exact hj.symm
    subst this
    exact h.2.2 (i, tv g w) List.mem_cons_self
  · rw [List.getElem?_set_ne e] at hj
    refine h.2.2 (j, tv g w) (List.mem_cons_of_mem _ (List.mem_filter.mpr ⟨lvl_in.mpr ⟨w, hj, rfl⟩, ?_⟩))
    have : ¬ j = i := fun h => e h.symm
    simp [this, tv_cat]
def leL : List (Option Vl) → List (Option Vl) → Prop
  | _, [] => True
  | _ :: as, none :: bs => leL as bs
  | a :: as, some b :: bs => a = some b ∧ leL as bs
  | [], _ :: _ => False
theorem leL_get : ∀ (L L' : List (Option Vl)), leL L L' → ∀ (i : Nat) (v : Vl), L'[i]? = some (some v) → L[i]? = some (some v)
  | _, [], _, i, v, h => by simp at h
  | [], none :: bs, h, _, _, _ => absurd h id
  | [], some b :: bs, h, _, _, _ => absurd h id
  | a :: as, none :: bs, h, 0, v, hv => by simp at hv
  | a :: as, some b :: bs, h, 0, v, hv => by simp at hv; simp [h.1, hv]
  | a :: as, none :: bs, h, i + 1, v, hv => by
    have := leL_get as bs h i v (by simpa using hv)
    simpa using this
  | a :: as, some b :: bs, h, i + 1, v, hv => by
    have := leL_get as bs h.2 i v (by simpa using hv)
    simpa using this
theorem lvH.le {g : Nat → Nat} {ls : Array Slot} {nL : Nat} {L L' : List (Option Vl)} (h : lvH g ls nL L) (hl : leL L L') : lvH g ls nL L' := ⟨h.1, h.2.1, fun i v hv => h.2.2 i v (leL_get L L' hl i v hv)⟩
end
section
/-! ===== the slim walk: one judgement of a frame over the world of one side ===== -/
abbrev Kx : Type := Program × Launch × Env × Room × State × MethodId × Array Value × List Frame × Method × Code × (State → Prop)
abbrev Ex : Type := (Nat → Nat) × (Nat → ClassId) × (Nat → Nat → Nat) × (Nat → ClassId) × (Nat → Prop)
def Vd (sh : Sh) (K : Kx) (E : Ex) (nL pc : Nat) (L : List (Option Vl)) (st : List Vl) (u : St) : Prop := match K, E with
  | (p, l, e, R, s, m, args, below, meth, c, Q), (g, dC, dI, cA, A) => ∀ (H : Heap) (locs : List Loc) (ls : Array Slot), va_P (dC, dI) vwCl (wld sh g cA u) H → va_D A (wld sh g cA u) → va_S A s.heap H locs → lvH g ls nL L → W p l e R s m args below meth c H locs 0 0 Q (F0 m pc ls (st.map (tv g)))
def Ok (sh : Sh) (K : Kx) (E : Ex) (own : String) (cc : ByteArray) (nL : Nat) (rm : Room) : Prop := match K, E with
  | (p, _, _, R, s, m, args, _, _, c, _), (_, dC, dI, cA, A) => p.tables.exec = Jvm.exec ∧ c.code = cc ∧ c.maxLocals = nL ∧ s.vm.findClass own = some m.cls ∧ (∀ w ∈ gtbl, w.before args s = true) ∧ (∀ w ∈ nst, va_Nw w s) ∧ va_K (dC, dI) vwCl (tys sh cA) s ∧ (∀ q, s.heap.size ≤ q → A q) ∧ R = rm
section RL
variable {sh : Sh} {K : Kx} {E : Ex} {own : String} {cc : ByteArray} {nL pc : Nat} {rm : Room} {L : List (Option Vl)} {st : List Vl} {u : St}
theorem r_le (L' : List (Option Vl)) (hl : leL L L') (k : Vd sh K E nL pc L' st u) : Vd sh K E nL pc L st u := by
  obtain ⟨p, l, e, R, s, m, args, below, meth, c, Q⟩ := K
  obtain ⟨g, dC, dI, cA, A⟩ := E
  exact fun H locs ls hP hD hS hl' => k H locs ls hP hD hS (hl'.le hl)
theorem r_iload_n (h : Ok sh K E own cc nL rm) {i : Fin 4} {x : Int32} (hd : decode cc pc = .ok (.iload_n i, 1)) (hx : L[(i : Nat)]? = some (some (.inl x))) (k : Vd sh K E nL (pc + 1) L (.inl x :: st) u) : Vd sh K E nL pc L st u := by
  obtain ⟨p, l, e, R, s, m, args, below, meth, c, Q⟩ := K
  obtain ⟨g, dC, dI, cA, A⟩ := E
  exact fun H locs ls hP hD hS hl => lv_iload_n h.1 h.2.1 hd rfl (hl.2.2 _ _ hx) (k H locs ls hP hD hS hl)
theorem r_iload (h : Ok sh K E own cc nL rm) {i : Nat} {x : Int32} (hd : decode cc pc = .ok (.iload i, 2)) (hx : L[i]? = some (some (.inl x))) (k : Vd sh K E nL (pc + 2) L (.inl x :: st) u) : Vd sh K E nL pc L st u := by
  obtain ⟨p, l, e, R, s, m, args, below, meth, c, Q⟩ := K
  obtain ⟨g, dC, dI, cA, A⟩ := E
  exact fun H locs ls hP hD hS hl => lv_iload h.1 h.2.1 hd (hl.2.2 _ _ hx) (k H locs ls hP hD hS hl)
theorem r_aload_n (h : Ok sh K E own cc nL rm) {i : Fin 4} {x : Nat} (hd : decode cc pc = .ok (.aload_n i, 1)) (hx : L[(i : Nat)]? = some (some (.inr x))) (k : Vd sh K E nL (pc + 1) L (.inr x :: st) u) : Vd sh K E nL pc L st u := by
  obtain ⟨p, l, e, R, s, m, args, below, meth, c, Q⟩ := K
  obtain ⟨g, dC, dI, cA, A⟩ := E
  exact fun H locs ls hP hD hS hl => lv_aload_n h.1 h.2.1 hd rfl (hl.2.2 _ _ hx) (k H locs ls hP hD hS hl)
theorem r_istore_n (h : Ok sh K E own cc nL rm) {i : Fin 4} {x : Int32} (hd : decode cc pc = .ok (.istore_n i, 1)) (hi : (i : Nat) < nL) (k : Vd sh K E nL (pc + 1) (L.set i (some (.inl x))) st u) : Vd sh K E nL pc L (.inl x :: st) u := by
  obtain ⟨p, l, e, R, s, m, args, below, meth, c, Q⟩ := K
  obtain ⟨g, dC, dI, cA, A⟩ := E
  exact fun H locs ls hP hD hS hl => lv_istore_n h.1 h.2.1 hd rfl hl.has hi rfl (fun ls' hl' => k H locs ls' hP hD hS (lvH.set (v := .inl x) hl'))
theorem r_istore (h : Ok sh K E own cc nL rm) {i : Nat} {x : Int32} (hd : decode cc pc = .ok (.istore i, 2)) (hi : i < nL) (k : Vd sh K E nL (pc + 2) (L.set i (some (.inl x))) st u) : Vd sh K E nL pc L (.inl x :: st) u := by
  obtain ⟨p, l, e, R, s, m, args, below, meth, c, Q⟩ := K
  obtain ⟨g, dC, dI, cA, A⟩ := E
  exact fun H locs ls hP hD hS hl => lv_istore h.1 h.2.1 hd hl.has hi rfl (fun ls' hl' => k H locs ls' hP hD hS (lvH.set (v := .inl x) hl'))
theorem r_iinc (h : Ok sh K E own cc nL rm) {i : Nat} {n : Int} {x v : Int32} (hd : decode cc pc = .ok (.iinc i n, 3)) (hx : L[i]? = some (some (.inl x))) (hv : x + Int32.ofInt n = v) (hi : i < nL) (k : Vd sh K E nL (pc + 3) (L.set i (some (.inl v))) st u) : Vd sh K E nL pc L st u := by
  obtain ⟨p, l, e, R, s, m, args, below, meth, c, Q⟩ := K
  obtain ⟨g, dC, dI, cA, A⟩ := E
  intro H locs ls hP hD hS hl
  obtain ⟨kk, hk⟩ := List.getElem?_of_mem (lvl_in.mpr ⟨.inl x, hx, rfl⟩ : (i, tv g (.inl x)) ∈ lvl g L)
  exact lv_iinc h.1 h.2.1 hd hl.has hk hv hi rfl (fun ls' hl' => k H locs ls' hP hD hS (lvH.set (v := .inl v) hl'))
theorem r_iconst (h : Ok sh K E own cc nL rm) {n : Int} {v : Int32} (hd : decode cc pc = .ok (.iconst n, 1)) (hv : Int32.ofInt n = v) (k : Vd sh K E nL (pc + 1) L (.inl v :: st) u) : Vd sh K E nL pc L st u := by
  obtain ⟨p, l, e, R, s, m, args, below, meth, c, Q⟩ := K
  obtain ⟨g, dC, dI, cA, A⟩ := E
  exact fun H locs ls hP hD hS hl => lv_iconst h.1 h.2.1 hd hv (k H locs ls hP hD hS hl)
theorem r_bipush (h : Ok sh K E own cc nL rm) {n : Int} {v : Int32} (hd : decode cc pc = .ok (.bipush n, 2)) (hv : (Int8.ofInt n).toInt32 = v) (k : Vd sh K E nL (pc + 2) L (.inl v :: st) u) : Vd sh K E nL pc L st u := by
  obtain ⟨p, l, e, R, s, m, args, below, meth, c, Q⟩ := K
  obtain ⟨g, dC, dI, cA, A⟩ := E
  exact fun H locs ls hP hD hS hl => lv_bipush h.1 h.2.1 hd hv (k H locs ls hP hD hS hl)
theorem r_sipush (h : Ok sh K E own cc nL rm) {n : Int} {v : Int32} (hd : decode cc pc = .ok (.sipush n, 3)) (hv : (Int16.ofInt n).toInt32 = v) (k : Vd sh K E nL (pc + 3) L (.inl v :: st) u) : Vd sh K E nL pc L st u := by
  obtain ⟨p, l, e, R, s, m, args, below, meth, c, Q⟩ := K
  obtain ⟨g, dC, dI, cA, A⟩ := E
  exact fun H locs ls hP hD hS hl => lv_sipush h.1 h.2.1 hd hv (k H locs ls hP hD hS hl)
theorem r_ldc (h : Ok sh K E own cc nL rm) {idx : Nat} {v : Int32} (hd : decode cc pc = .ok (.ldc idx, 2)) (hc : Cond.constant own idx v ∈ gtbl) (k : Vd sh K E nL (pc + 2) L (.inl v :: st) u) : Vd sh K E nL pc L st u := by
  obtain ⟨p, l, e, R, s, m, args, below, meth, c, Q⟩ := K
  obtain ⟨g, dC, dI, cA, A⟩ := E
  exact fun H locs ls hP hD hS hl => lv_ldc h.1 h.2.1 h.2.2.2.1 (h.2.2.2.2.1 _ hc) hd (k H locs ls hP hD hS hl)
theorem r_ldcw (h : Ok sh K E own cc nL rm) {idx : Nat} {v : Int32} (hd : decode cc pc = .ok (.ldc_w idx, 3)) (hc : Cond.constant own idx v ∈ gtbl) (k : Vd sh K E nL (pc + 3) L (.inl v :: st) u) : Vd sh K E nL pc L st u := by
  obtain ⟨p, l, e, R, s, m, args, below, meth, c, Q⟩ := K
  obtain ⟨g, dC, dI, cA, A⟩ := E
  exact fun H locs ls hP hD hS hl => lv_ldcw h.1 h.2.1 h.2.2.2.1 (h.2.2.2.2.1 _ hc) hd (k H locs ls hP hD hS hl)
theorem r_goto (h : Ok sh K E own cc nL rm) {off : Int} {tgt : Nat} (hd : decode cc pc = .ok (.goto off, 3)) (ht : (pc : Int) + off = (tgt : Int)) (k : Vd sh K E nL tgt L st u) : Vd sh K E nL pc L st u := by
  obtain ⟨p, l, e, R, s, m, args, below, meth, c, Q⟩ := K
  obtain ⟨g, dC, dI, cA, A⟩ := E
  exact fun H locs ls hP hD hS hl => lv_goto h.1 h.2.1 hd ht (k H locs ls hP hD hS hl)
theorem r_pop (h : Ok sh K E own cc nL rm) {v : Vl} (hd : decode cc pc = .ok (.pop, 1)) (k : Vd sh K E nL (pc + 1) L st u) : Vd sh K E nL pc L (v :: st) u := by
  obtain ⟨p, l, e, R, s, m, args, below, meth, c, Q⟩ := K
  obtain ⟨g, dC, dI, cA, A⟩ := E
  exact fun H locs ls hP hD hS hl => lv_pop h.1 h.2.1 hd (tv_cat g v) (k H locs ls hP hD hS hl)
theorem r_dup (h : Ok sh K E own cc nL rm) {v : Vl} (hd : decode cc pc = .ok (.dup, 1)) (k : Vd sh K E nL (pc + 1) L (v :: v :: st) u) : Vd sh K E nL pc L (v :: st) u := by
  obtain ⟨p, l, e, R, s, m, args, below, meth, c, Q⟩ := K
  obtain ⟨g, dC, dI, cA, A⟩ := E
  exact fun H locs ls hP hD hS hl => lv_dup h.1 h.2.1 hd (tv_cat g v) (k H locs ls hP hD hS hl)
theorem r_dup2 (h : Ok sh K E own cc nL rm) {v w : Vl} (hd : decode cc pc = .ok (.dup2, 1)) (k : Vd sh K E nL (pc + 1) L (v :: w :: v :: w :: st) u) : Vd sh K E nL pc L (v :: w :: st) u := by
  obtain ⟨p, l, e, R, s, m, args, below, meth, c, Q⟩ := K
  obtain ⟨g, dC, dI, cA, A⟩ := E
  exact fun H locs ls hP hD hS hl => lv_dup2_11 h.1 h.2.1 hd (tv_cat g v) (tv_cat g w) (k H locs ls hP hD hS hl)
theorem r_idiv (h : Ok sh K E own cc nL rm) {x y : Int32} (hd : decode cc pc = .ok (.idiv, 1)) (hy : ¬ y = 0) (k : Vd sh K E nL (pc + 1) L (.inl (x / y) :: st) u) : Vd sh K E nL pc L (.inl y :: .inl x :: st) u := by
  obtain ⟨p, l, e, R, s, m, args, below, meth, c, Q⟩ := K
  obtain ⟨g, dC, dI, cA, A⟩ := E
  exact fun H locs ls hP hD hS hl => lv_idiv h.1 h.2.1 hd hy (k H locs ls hP hD hS hl)
theorem r_irem (h : Ok sh K E own cc nL rm) {x y : Int32} (hd : decode cc pc = .ok (.irem, 1)) (hy : ¬ y = 0) (k : Vd sh K E nL (pc + 1) L (.inl (x - x / y * y) :: st) u) : Vd sh K E nL pc L (.inl y :: .inl x :: st) u := by
  obtain ⟨p, l, e, R, s, m, args, below, meth, c, Q⟩ := K
  obtain ⟨g, dC, dI, cA, A⟩ := E
  exact fun H locs ls hP hD hS hl => lv_irem h.1 h.2.1 hd hy (k H locs ls hP hD hS hl)
def jushr (x y : Int32) : Int32 := (x.toUInt32 >>> (y.toUInt32 &&& Int32.toUInt32 31)).toInt32
theorem r_iushr (h : Ok sh K E own cc nL rm) {x y : Int32} (hd : decode cc pc = .ok (.iushr, 1)) (k : Vd sh K E nL (pc + 1) L (.inl (jushr x y) :: st) u) : Vd sh K E nL pc L (.inl y :: .inl x :: st) u := by
  obtain ⟨p, l, e, R, s, m, args, below, meth, c, Q⟩ := K
  obtain ⟨g, dC, dI, cA, A⟩ := E
  exact fun H locs ls hP hD hS hl => lv_iushr h.1 h.2.1 hd rfl (k H locs ls hP hD hS hl)
theorem r_iadd (h : Ok sh K E own cc nL rm) {x y : Int32} (hd : decode cc pc = .ok (.iadd, 1)) (k : Vd sh K E nL (pc + 1) L (.inl (x + y) :: st) u) : Vd sh K E nL pc L (.inl y :: .inl x :: st) u := by
  obtain ⟨p, l, e, R, s, m, args, below, meth, c, Q⟩ := K
  obtain ⟨g, dC, dI, cA, A⟩ := E
  exact fun H locs ls hP hD hS hl => lv_iadd h.1 h.2.1 hd (k H locs ls hP hD hS hl)
theorem r_isub (h : Ok sh K E own cc nL rm) {x y : Int32} (hd : decode cc pc = .ok (.isub, 1)) (k : Vd sh K E nL (pc + 1) L (.inl (x - y) :: st) u) : Vd sh K E nL pc L (.inl y :: .inl x :: st) u := by
  obtain ⟨p, l, e, R, s, m, args, below, meth, c, Q⟩ := K
  obtain ⟨g, dC, dI, cA, A⟩ := E
  exact fun H locs ls hP hD hS hl => lv_isub h.1 h.2.1 hd (k H locs ls hP hD hS hl)
theorem r_imul (h : Ok sh K E own cc nL rm) {x y : Int32} (hd : decode cc pc = .ok (.imul, 1)) (k : Vd sh K E nL (pc + 1) L (.inl (x * y) :: st) u) : Vd sh K E nL pc L (.inl y :: .inl x :: st) u := by
  obtain ⟨p, l, e, R, s, m, args, below, meth, c, Q⟩ := K
  obtain ⟨g, dC, dI, cA, A⟩ := E
  exact fun H locs ls hP hD hS hl => lv_imul h.1 h.2.1 hd (k H locs ls hP hD hS hl)
theorem r_iand (h : Ok sh K E own cc nL rm) {x y : Int32} (hd : decode cc pc = .ok (.iand, 1)) (k : Vd sh K E nL (pc + 1) L (.inl (x &&& y) :: st) u) : Vd sh K E nL pc L (.inl y :: .inl x :: st) u := by
  obtain ⟨p, l, e, R, s, m, args, below, meth, c, Q⟩ := K
  obtain ⟨g, dC, dI, cA, A⟩ := E
  exact fun H locs ls hP hD hS hl => lv_iand h.1 h.2.1 hd (k H locs ls hP hD hS hl)
theorem r_ior (h : Ok sh K E own cc nL rm) {x y : Int32} (hd : decode cc pc = .ok (.ior, 1)) (k : Vd sh K E nL (pc + 1) L (.inl (x ||| y) :: st) u) : Vd sh K E nL pc L (.inl y :: .inl x :: st) u := by
  obtain ⟨p, l, e, R, s, m, args, below, meth, c, Q⟩ := K
  obtain ⟨g, dC, dI, cA, A⟩ := E
  exact fun H locs ls hP hD hS hl => lv_ior h.1 h.2.1 hd (k H locs ls hP hD hS hl)
theorem r_ixor (h : Ok sh K E own cc nL rm) {x y : Int32} (hd : decode cc pc = .ok (.ixor, 1)) (k : Vd sh K E nL (pc + 1) L (.inl (x ^^^ y) :: st) u) : Vd sh K E nL pc L (.inl y :: .inl x :: st) u := by
  obtain ⟨p, l, e, R, s, m, args, below, meth, c, Q⟩ := K
  obtain ⟨g, dC, dI, cA, A⟩ := E
  exact fun H locs ls hP hD hS hl => lv_ixor h.1 h.2.1 hd (k H locs ls hP hD hS hl)
theorem r_ishl (h : Ok sh K E own cc nL rm) {x y : Int32} (hd : decode cc pc = .ok (.ishl, 1)) (k : Vd sh K E nL (pc + 1) L (.inl (x <<< (y &&& 31)) :: st) u) : Vd sh K E nL pc L (.inl y :: .inl x :: st) u := by
  obtain ⟨p, l, e, R, s, m, args, below, meth, c, Q⟩ := K
  obtain ⟨g, dC, dI, cA, A⟩ := E
  exact fun H locs ls hP hD hS hl => lv_ishl h.1 h.2.1 hd (k H locs ls hP hD hS hl)
theorem r_ishr (h : Ok sh K E own cc nL rm) {x y : Int32} (hd : decode cc pc = .ok (.ishr, 1)) (k : Vd sh K E nL (pc + 1) L (.inl (x >>> (y &&& 31)) :: st) u) : Vd sh K E nL pc L (.inl y :: .inl x :: st) u := by
  obtain ⟨p, l, e, R, s, m, args, below, meth, c, Q⟩ := K
  obtain ⟨g, dC, dI, cA, A⟩ := E
  exact fun H locs ls hP hD hS hl => lv_ishr h.1 h.2.1 hd (k H locs ls hP hD hS hl)
theorem r_if_eq (h : Ok sh K E own cc nL rm) {x : Int32} {off : Int} {tgt : Nat} (hd : decode cc pc = .ok (.ifCond .eq off, 3)) (ht : (pc : Int) + off = (tgt : Int)) (kt : x = 0 → Vd sh K E nL tgt L st u) (kf : ¬ (x = 0) → Vd sh K E nL (pc + 3) L st u) : Vd sh K E nL pc L (.inl x :: st) u := by
  obtain ⟨p, l, e, R, s, m, args, below, meth, c, Q⟩ := K
  obtain ⟨g, dC, dI, cA, A⟩ := E
  exact fun H locs ls hP hD hS hl => lv_if_eq h.1 h.2.1 hd ht (fun q => kt q H locs ls hP hD hS hl) (fun q => kf q H locs ls hP hD hS hl)
theorem r_if_ne (h : Ok sh K E own cc nL rm) {x : Int32} {off : Int} {tgt : Nat} (hd : decode cc pc = .ok (.ifCond .ne off, 3)) (ht : (pc : Int) + off = (tgt : Int)) (kt : ¬ x = 0 → Vd sh K E nL tgt L st u) (kf : x = 0 → Vd sh K E nL (pc + 3) L st u) : Vd sh K E nL pc L (.inl x :: st) u := by
  obtain ⟨p, l, e, R, s, m, args, below, meth, c, Q⟩ := K
  obtain ⟨g, dC, dI, cA, A⟩ := E
  exact fun H locs ls hP hD hS hl => lv_if_ne h.1 h.2.1 hd ht (fun q => kt q H locs ls hP hD hS hl) (fun q => kf q H locs ls hP hD hS hl)
theorem r_if_lt (h : Ok sh K E own cc nL rm) {x : Int32} {off : Int} {tgt : Nat} (hd : decode cc pc = .ok (.ifCond .lt off, 3)) (ht : (pc : Int) + off = (tgt : Int)) (kt : x < 0 → Vd sh K E nL tgt L st u) (kf : ¬ (x < 0) → Vd sh K E nL (pc + 3) L st u) : Vd sh K E nL pc L (.inl x :: st) u := by
  obtain ⟨p, l, e, R, s, m, args, below, meth, c, Q⟩ := K
  obtain ⟨g, dC, dI, cA, A⟩ := E
  exact fun H locs ls hP hD hS hl => lv_if_lt h.1 h.2.1 hd ht (fun q => kt q H locs ls hP hD hS hl) (fun q => kf q H locs ls hP hD hS hl)
theorem r_if_ge (h : Ok sh K E own cc nL rm) {x : Int32} {off : Int} {tgt : Nat} (hd : decode cc pc = .ok (.ifCond .ge off, 3)) (ht : (pc : Int) + off = (tgt : Int)) (kt : 0 ≤ x → Vd sh K E nL tgt L st u) (kf : ¬ (0 ≤ x) → Vd sh K E nL (pc + 3) L st u) : Vd sh K E nL pc L (.inl x :: st) u := by
  obtain ⟨p, l, e, R, s, m, args, below, meth, c, Q⟩ := K
  obtain ⟨g, dC, dI, cA, A⟩ := E
  exact fun H locs ls hP hD hS hl => lv_if_ge h.1 h.2.1 hd ht (fun q => kt q H locs ls hP hD hS hl) (fun q => kf q H locs ls hP hD hS hl)
theorem r_if_gt (h : Ok sh K E own cc nL rm) {x : Int32} {off : Int} {tgt : Nat} (hd : decode cc pc = .ok (.ifCond .gt off, 3)) (ht : (pc : Int) + off = (tgt : Int)) (kt : 0 < x → Vd sh K E nL tgt L st u) (kf : ¬ (0 < x) → Vd sh K E nL (pc + 3) L st u) : Vd sh K E nL pc L (.inl x :: st) u := by
  obtain ⟨p, l, e, R, s, m, args, below, meth, c, Q⟩ := K
  obtain ⟨g, dC, dI, cA, A⟩ := E
  exact fun H locs ls hP hD hS hl => lv_if_gt h.1 h.2.1 hd ht (fun q => kt q H locs ls hP hD hS hl) (fun q => kf q H locs ls hP hD hS hl)
theorem r_if_le (h : Ok sh K E own cc nL rm) {x : Int32} {off : Int} {tgt : Nat} (hd : decode cc pc = .ok (.ifCond .le off, 3)) (ht : (pc : Int) + off = (tgt : Int)) (kt : x ≤ 0 → Vd sh K E nL tgt L st u) (kf : ¬ (x ≤ 0) → Vd sh K E nL (pc + 3) L st u) : Vd sh K E nL pc L (.inl x :: st) u := by
  obtain ⟨p, l, e, R, s, m, args, below, meth, c, Q⟩ := K
  obtain ⟨g, dC, dI, cA, A⟩ := E
  exact fun H locs ls hP hD hS hl => lv_if_le h.1 h.2.1 hd ht (fun q => kt q H locs ls hP hD hS hl) (fun q => kf q H locs ls hP hD hS hl)
theorem r_icmp_eq (h : Ok sh K E own cc nL rm) {x y : Int32} {off : Int} {tgt : Nat} (hd : decode cc pc = .ok (.if_icmp .eq off, 3)) (ht : (pc : Int) + off = (tgt : Int)) (kt : x = y → Vd sh K E nL tgt L st u) (kf : ¬ (x = y) → Vd sh K E nL (pc + 3) L st u) : Vd sh K E nL pc L (.inl y :: .inl x :: st) u := by
  obtain ⟨p, l, e, R, s, m, args, below, meth, c, Q⟩ := K
  obtain ⟨g, dC, dI, cA, A⟩ := E
  exact fun H locs ls hP hD hS hl => lv_icmp_eq h.1 h.2.1 hd ht (fun q => kt q H locs ls hP hD hS hl) (fun q => kf q H locs ls hP hD hS hl)
theorem r_icmp_ne (h : Ok sh K E own cc nL rm) {x y : Int32} {off : Int} {tgt : Nat} (hd : decode cc pc = .ok (.if_icmp .ne off, 3)) (ht : (pc : Int) + off = (tgt : Int)) (kt : ¬ x = y → Vd sh K E nL tgt L st u) (kf : x = y → Vd sh K E nL (pc + 3) L st u) : Vd sh K E nL pc L (.inl y :: .inl x :: st) u := by
  obtain ⟨p, l, e, R, s, m, args, below, meth, c, Q⟩ := K
  obtain ⟨g, dC, dI, cA, A⟩ := E
  exact fun H locs ls hP hD hS hl => lv_icmp_ne h.1 h.2.1 hd ht (fun q => kt q H locs ls hP hD hS hl) (fun q => kf q H locs ls hP hD hS hl)
theorem r_icmp_lt (h : Ok sh K E own cc nL rm) {x y : Int32} {off : Int} {tgt : Nat} (hd : decode cc pc = .ok (.if_icmp .lt off, 3)) (ht : (pc : Int) + off = (tgt : Int)) (kt : x < y → Vd sh K E nL tgt L st u) (kf : ¬ (x < y) → Vd sh K E nL (pc + 3) L st u) : Vd sh K E nL pc L (.inl y :: .inl x :: st) u := by
  obtain ⟨p, l, e, R, s, m, args, below, meth, c, Q⟩ := K
  obtain ⟨g, dC, dI, cA, A⟩ := E
  exact fun H locs ls hP hD hS hl => lv_icmp_lt h.1 h.2.1 hd ht (fun q => kt q H locs ls hP hD hS hl) (fun q => kf q H locs ls hP hD hS hl)
theorem r_icmp_ge (h : Ok sh K E own cc nL rm) {x y : Int32} {off : Int} {tgt : Nat} (hd : decode cc pc = .ok (.if_icmp .ge off, 3)) (ht : (pc : Int) + off = (tgt : Int)) (kt : y ≤ x → Vd sh K E nL tgt L st u) (kf : ¬ (y ≤ x) → Vd sh K E nL (pc + 3) L st u) : Vd sh K E nL pc L (.inl y :: .inl x :: st) u := by
  obtain ⟨p, l, e, R, s, m, args, below, meth, c, Q⟩ := K
  obtain ⟨g, dC, dI, cA, A⟩ := E
  exact fun H locs ls hP hD hS hl => lv_icmp_ge h.1 h.2.1 hd ht (fun q => kt q H locs ls hP hD hS hl) (fun q => kf q H locs ls hP hD hS hl)
theorem r_icmp_gt (h : Ok sh K E own cc nL rm) {x y : Int32} {off : Int} {tgt : Nat} (hd : decode cc pc = .ok (.if_icmp .gt off, 3)) (ht : (pc : Int) + off = (tgt : Int)) (kt : y < x → Vd sh K E nL tgt L st u) (kf : ¬ (y < x) → Vd sh K E nL (pc + 3) L st u) : Vd sh K E nL pc L (.inl y :: .inl x :: st) u := by
  obtain ⟨p, l, e, R, s, m, args, below, meth, c, Q⟩ := K
  obtain ⟨g, dC, dI, cA, A⟩ := E
  exact fun H locs ls hP hD hS hl => lv_icmp_gt h.1 h.2.1 hd ht (fun q => kt q H locs ls hP hD hS hl) (fun q => kf q H locs ls hP hD hS hl)
theorem r_icmp_le (h : Ok sh K E own cc nL rm) {x y : Int32} {off : Int} {tgt : Nat} (hd : decode cc pc = .ok (.if_icmp .le off, 3)) (ht : (pc : Int) + off = (tgt : Int)) (kt : x ≤ y → Vd sh K E nL tgt L st u) (kf : ¬ (x ≤ y) → Vd sh K E nL (pc + 3) L st u) : Vd sh K E nL pc L (.inl y :: .inl x :: st) u := by
  obtain ⟨p, l, e, R, s, m, args, below, meth, c, Q⟩ := K
  obtain ⟨g, dC, dI, cA, A⟩ := E
  exact fun H locs ls hP hD hS hl => lv_icmp_le h.1 h.2.1 hd ht (fun q => kt q H locs ls hP hD hS hl) (fun q => kf q H locs ls hP hD hS hl)
end RL
end
section
/-! ===== fields, arrays, calls, contracts ===== -/
def inb (i : Int32) (n : Nat) : Bool := !(decide (i < 0) || decide (n ≤ i.toNatClampNeg))
theorem inb_in {i : Int32} {n : Nat} (h : inb i n = true) : vp_in i n := by
  intro q
  simp only [inb, Bool.not_eq_true', Bool.or_eq_false_iff, decide_eq_false_iff_not] at h
  rcases q with q | q
  · exact h.1 q
  · exact h.2 q
section RL
variable {sh : Sh} {K : Kx} {E : Ex} {own : String} {cc : ByteArray} {nL pc : Nat} {rm : Room} {L : List (Option Vl)} {st : List Vl} {u : St}
theorem r_getI (h : Ok sh K E own cc nL rm) {idx ci k j : Nat} {q : vw_C} {fl : List (Option Nat)} {v : Int32} (hq : vwCl[ci]? = some q) (hs : sh[k]? = some (.inl (ci, fl))) (hf : fl[j]? = some none) (hj : j < q.2.2) (hl : Cond.fieldLink own idx (q.2.1 j).1 (q.2.1 j).2.1 (q.2.1 j).2.2.1 ∈ gtbl) (hv : u k j = v) (hd : decode cc pc = .ok (.getfield idx, 3)) (kk : Vd sh K E nL (pc + 3) L (.inl v :: st) u) : Vd sh K E nL pc L (.inr k :: st) u := by
  obtain ⟨p, l, e, R, s, m, args, below, meth, c, Q⟩ := K
  obtain ⟨g, dC, dI, cA, A⟩ := E
  intro H locs ls hP hD hS hls
  obtain ⟨hx, hb, hml, hown, hts, hn, hK, hA, hR⟩ := h
  have hg := fldv_get g (u k) fl 0 j none hf
  rw [Nat.zero_add, hv] at hg
  exact va_get (C := q.1) (T := q.2.1) (N := q.2.2) hx hb hts (okC ci q hq) hown hK hP k (wld_get hs) hq j hj (hts _ hl) (fun _ h9 => h9) hg hd (kk H locs ls hP hD hS hls)
theorem r_getR (h : Ok sh K E own cc nL rm) {idx ci k j k2 : Nat} {q : vw_C} {fl : List (Option Nat)} (hq : vwCl[ci]? = some q) (hs : sh[k]? = some (.inl (ci, fl))) (hf : fl[j]? = some (some k2)) (hj : j < q.2.2) (hl : Cond.fieldLink own idx (q.2.1 j).1 (q.2.1 j).2.1 (q.2.1 j).2.2.1 ∈ gtbl) (hd : decode cc pc = .ok (.getfield idx, 3)) (kk : Vd sh K E nL (pc + 3) L (.inr k2 :: st) u) : Vd sh K E nL pc L (.inr k :: st) u := by
  obtain ⟨p, l, e, R, s, m, args, below, meth, c, Q⟩ := K
  obtain ⟨g, dC, dI, cA, A⟩ := E
  intro H locs ls hP hD hS hls
  obtain ⟨hx, hb, hml, hown, hts, hn, hK, hA, hR⟩ := h
  exact va_get (C := q.1) (T := q.2.1) (N := q.2.2) hx hb hts (okC ci q hq) hown hK hP k (wld_get hs) hq j hj (hts _ hl) (fun _ h9 => h9) (fldv_get g (u k) fl 0 j (some k2) hf) hd (kk H locs ls hP hD hS hls)
theorem r_getN (h : Ok sh K E own cc nL rm) {idx ci k j : Nat} {host : String} {q : vw_C} {fl : List (Option Nat)} {v : Int32} (hq : vwCl[ci]? = some q) (hs : sh[k]? = some (.inl (ci, fl))) (hf : fl[j]? = some none) (hj : j < q.2.2) (hl : Cond.fieldLinkNest own idx (q.2.1 j).1 (q.2.1 j).2.1 (q.2.1 j).2.2.1 host ∈ nst) (hv : u k j = v) (hd : decode cc pc = .ok (.getfield idx, 3)) (kk : Vd sh K E nL (pc + 3) L (.inl v :: st) u) : Vd sh K E nL pc L (.inr k :: st) u := by
  obtain ⟨p, l, e, R, s, m, args, below, meth, c, Q⟩ := K
  obtain ⟨g, dC, dI, cA, A⟩ := E
  intro H locs ls hP hD hS hls
  obtain ⟨hx, hb, hml, hown, hts, hn, hK, hA, hR⟩ := h
  have hg := fldv_get g (u k) fl 0 j none hf
  rw [Nat.zero_add, hv] at hg
  exact va_getN (C := q.1) (T := q.2.1) (N := q.2.2) hx hb hts (okC ci q hq) hown hK hP k (wld_get hs) hq j hj (va_Nw.use rfl (hn _ hl)) (fun _ h9 => h9) hg hd (kk H locs ls hP hD hS hls)
theorem r_putI (h : Ok sh K E own cc nL rm) {idx ci k j : Nat} {q : vw_C} {fl : List (Option Nat)} {v : Int32} (hq : vwCl[ci]? = some q) (hs : sh[k]? = some (.inl (ci, fl))) (hf : fl[j]? = some none) (hj : j < q.2.2) (hl : Cond.fieldLink own idx (q.2.1 j).1 (q.2.1 j).2.1 (q.2.1 j).2.2.1 ∈ gtbl) (hfin : (q.2.1 j).2.2.2 = false) (hty : parseFieldDescriptor (q.2.1 j).2.2.1 = some .int) (hd : decode cc pc = .ok (.putfield idx, 3)) (kk : Vd sh K E nL (pc + 3) L st (up2 u k j v)) : Vd sh K E nL pc L (.inl v :: .inr k :: st) u := by
  obtain ⟨p, l, e, R, s, m, args, below, meth, c, Q⟩ := K
  obtain ⟨g, dC, dI, cA, A⟩ := E
  intro H locs ls hP hD hS hls
  obtain ⟨hx, hb, hml, hown, hts, hn, hK, hA, hR⟩ := h
  obtain ⟨ty0, ht1, ht2⟩ := okT ci q hq
  refine va_put (C := q.1) (T := q.2.1) (N := q.2.2) (ty := .int) (v := .int v) hx hb hts (okC ci q hq) ty0 ht1 ht2 hown hK hP hD hS k (wld_get hs) hq j hj (hts _ hl) (fun _ h9 => h9) hfin hty rfl rfl (by rw [fldv_len]; exact (List.getElem?_eq_some_iff.mp hf).1) hd (fun H1 locs1 hP1 hD1 hS1 => ?_)
  rw [wld_setf hs hf] at hP1 hD1
  exact kk H1 locs1 ls hP1 hD1 hS1 hls
theorem r_iald (h : Ok sh K E own cc nL rm) {k n : Nat} {i v : Int32} (hs : sh[k]? = some (.inr (n, false))) (hi : inb i n = true) (hv : u k i.toNatClampNeg = v) (hd : decode cc pc = .ok (.iaload, 1)) (kk : Vd sh K E nL (pc + 1) L (.inl v :: st) u) : Vd sh K E nL pc L (.inl i :: .inr k :: st) u := by
  obtain ⟨p, l, e, R, s, m, args, below, meth, c, Q⟩ := K
  obtain ⟨g, dC, dI, cA, A⟩ := E
  intro H locs ls hP hD hS hls
  obtain ⟨hx, hb, hml, hown, hts, hn, hK, hA, hR⟩ := h
  obtain ⟨t0, ht⟩ := tyf_get cA sh 0 k n false hs
  rw [Nat.zero_add] at ht
  subst hv
  exact va_iald hx hb hK hP k t0 (wld_get hs) ht (inb_in hi) hd (kk H locs ls hP hD hS hls)
theorem r_zald (h : Ok sh K E own cc nL rm) {k n : Nat} {i v : Int32} (hs : sh[k]? = some (.inr (n, true))) (hi : inb i n = true) (hv : u k i.toNatClampNeg = v) (hd : decode cc pc = .ok (.baload, 1)) (kk : Vd sh K E nL (pc + 1) L (.inl v :: st) u) : Vd sh K E nL pc L (.inl i :: .inr k :: st) u := by
  obtain ⟨p, l, e, R, s, m, args, below, meth, c, Q⟩ := K
  obtain ⟨g, dC, dI, cA, A⟩ := E
  intro H locs ls hP hD hS hls
  obtain ⟨hx, hb, hml, hown, hts, hn, hK, hA, hR⟩ := h
  obtain ⟨t0, ht⟩ := tyf_get cA sh 0 k n true hs
  rw [Nat.zero_add] at ht
  subst hv
  exact va_zald hx hb hK hP k t0 (wld_get hs) ht (inb_in hi) hd (kk H locs ls hP hD hS hls)
theorem r_iast (h : Ok sh K E own cc nL rm) {k n : Nat} {i v : Int32} (hs : sh[k]? = some (.inr (n, false))) (hi : inb i n = true) (hd : decode cc pc = .ok (.iastore, 1)) (kk : Vd sh K E nL (pc + 1) L st (up2 u k i.toNatClampNeg v)) : Vd sh K E nL pc L (.inl v :: .inl i :: .inr k :: st) u := by
  obtain ⟨p, l, e, R, s, m, args, below, meth, c, Q⟩ := K
  obtain ⟨g, dC, dI, cA, A⟩ := E
  intro H locs ls hP hD hS hls
  obtain ⟨hx, hb, hml, hown, hts, hn, hK, hA, hR⟩ := h
  obtain ⟨t0, ht⟩ := tyf_get cA sh 0 k n false hs
  rw [Nat.zero_add] at ht
  refine va_iast hx hb hK hP hD hS k t0 (wld_get hs) ht (inb_in hi) hd (fun H1 locs1 hP1 hD1 hS1 => ?_)
  rw [wld_seta hs] at hP1 hD1
  exact kk H1 locs1 ls hP1 hD1 hS1 hls
theorem r_zast (h : Ok sh K E own cc nL rm) {k n : Nat} {i v : Int32} (hs : sh[k]? = some (.inr (n, true))) (hi : inb i n = true) (hz : vp_nar .boolean v = v) (hd : decode cc pc = .ok (.bastore, 1)) (kk : Vd sh K E nL (pc + 1) L st (up2 u k i.toNatClampNeg v)) : Vd sh K E nL pc L (.inl v :: .inl i :: .inr k :: st) u := by
  obtain ⟨p, l, e, R, s, m, args, below, meth, c, Q⟩ := K
  obtain ⟨g, dC, dI, cA, A⟩ := E
  intro H locs ls hP hD hS hls
  obtain ⟨hx, hb, hml, hown, hts, hn, hK, hA, hR⟩ := h
  obtain ⟨t0, ht⟩ := tyf_get cA sh 0 k n true hs
  rw [Nat.zero_add] at ht
  refine va_zast hx hb hK hP hD hS k t0 (wld_get hs) ht (inb_in hi) hd (fun H1 locs1 hP1 hD1 hS1 => ?_)
  rw [hz, wld_seta hs] at hP1 hD1
  exact kk H1 locs1 ls hP1 hD1 hS1 hls
theorem r_alen (h : Ok sh K E own cc nL rm) {k n : Nat} {z : Bool} {v : Int32} (hs : sh[k]? = some (.inr (n, z))) (hv : Int32.ofNat n = v) (hd : decode cc pc = .ok (.arraylength, 1)) (kk : Vd sh K E nL (pc + 1) L (.inl v :: st) u) : Vd sh K E nL pc L (.inr k :: st) u := by
  obtain ⟨p, l, e, R, s, m, args, below, meth, c, Q⟩ := K
  obtain ⟨g, dC, dI, cA, A⟩ := E
  intro H locs ls hP hD hS hls
  obtain ⟨hx, hb, hml, hown, hts, hn, hK, hA, hR⟩ := h
  obtain ⟨t0, ht⟩ := tyf_get cA sh 0 k n z hs
  rw [Nat.zero_add] at ht
  exact va_alen hx hb hK hP k t0 (wld_get hs) ht hv hd (kk H locs ls hP hD hS hls)
theorem r_tOut (h : Ok sh K E own cc nL rm) {dflt lo hi : Int} {offs : Array Int} {len : Nat} {x : Int32} {tgt : Nat} (hd : decode cc pc = .ok (.tableswitch dflt lo hi offs, len)) (ho : x.toInt < lo ∨ hi < x.toInt) (ht : (pc : Int) + dflt = (tgt : Int)) (kk : Vd sh K E nL tgt L st u) : Vd sh K E nL pc L (.inl x :: st) u := by
  obtain ⟨p, l, e, R, s, m, args, below, meth, c, Q⟩ := K
  obtain ⟨g, dC, dI, cA, A⟩ := E
  exact fun H locs ls hP hD hS hl => lv_tableOut h.1 h.2.1 hd ho ht (kk H locs ls hP hD hS hl)
theorem r_tIn (h : Ok sh K E own cc nL rm) {dflt lo hi : Int} {offs : Array Int} {len : Nat} {x : Int32} {off : Int} {tgt : Nat} (hd : decode cc pc = .ok (.tableswitch dflt lo hi offs, len)) (h1 : ¬ x.toInt < lo) (h2 : ¬ hi < x.toInt) (ho : offs[(x.toInt - lo).toNat]? = some off) (ht : (pc : Int) + off = (tgt : Int)) (kk : Vd sh K E nL tgt L st u) : Vd sh K E nL pc L (.inl x :: st) u := by
  obtain ⟨p, l, e, R, s, m, args, below, meth, c, Q⟩ := K
  obtain ⟨g, dC, dI, cA, A⟩ := E
  exact fun H locs ls hP hD hS hl => lv_tableIn h.1 h.2.1 hd h1 h2 ho ht (kk H locs ls hP hD hS hl)
end RL
def PcB (sh : Sh) (g : Nat → Nat) (dC : Nat → ClassId) (dI : Nat → Nat → Nat) (cA : Nat → ClassId) (u : St) (sz : Nat) : State → Prop := fun U => U.heap.size = sz ∧ va_P (dC, dI) vwCl (wld sh g cA u) U.heap ∧ va_K (dC, dI) vwCl (tys sh cA) U ∧ va_D (fun _ => True) (wld sh g cA u) ∧ ∀ w ∈ nst, va_Nw w U
def CtI (sh : Sh) (y : MethodName) (cc : ByteArray) (nL : Nat) (ret : Option FieldType) (rm : Room) (As : List Vl) (u : St) (r : Int32) (u' : St) : Prop := ∀ (l : Launch) (g : Nat → Nat) (dC : Nat → ClassId) (dI : Nat → Nat → Nat) (cA : Nat → ClassId) (sz : Nat), Met l y (Cond.code y cc nL ret :: gtbl) rm (va_Pc (As.map (tv g)) (PcB sh g dC dI cA u sz)) (va_Qi (fun (r' : Int32) (_ : Unit) => r' = r) (fun _ t => va_P (dC, dI) vwCl (wld sh g cA u') t.heap) (va_A (wld sh g cA u) sz)) 0 0 (va_A (wld sh g cA u) sz)
def CtV (sh : Sh) (y : MethodName) (cc : ByteArray) (nL : Nat) (ret : Option FieldType) (rm : Room) (As : List Vl) (u : St) (u' : St) : Prop := ∀ (l : Launch) (g : Nat → Nat) (dC : Nat → ClassId) (dI : Nat → Nat → Nat) (cA : Nat → ClassId) (sz : Nat), Met l y (Cond.code y cc nL ret :: gtbl) rm (va_Pc (As.map (tv g)) (PcB sh g dC dI cA u sz)) (va_Qv (fun (_ : Unit) => True) (fun _ t => va_P (dC, dI) vwCl (wld sh g cA u') t.heap) (va_A (wld sh g cA u) sz)) 0 0 (va_A (wld sh g cA u) sz)
def RetI (sh : Sh) (K : Kx) (E : Ex) (cc : ByteArray) (nL : Nat) (r : Int32) (u' : St) : Prop := ∀ (pc : Nat) (L : List (Option Vl)), decode cc pc = .ok (.ireturn, 1) → Vd sh K E nL pc L [.inl r] u'
def RetZ (sh : Sh) (K : Kx) (E : Ex) (cc : ByteArray) (nL : Nat) (r : Int32) (u' : St) : Prop := ∀ (pc : Nat) (L : List (Option Vl)), decode cc pc = .ok (.ireturn, 1) → narrow .boolean (.int r) = .int r → Vd sh K E nL pc L [.inl r] u'
def RetV (sh : Sh) (K : Kx) (E : Ex) (cc : ByteArray) (nL : Nat) (u' : St) : Prop := ∀ (pc : Nat) (L : List (Option Vl)), decode cc pc = .ok (.return_, 1) → Vd sh K E nL pc L [] u'
theorem z01 {r : Int32} (h : r = 0 ∨ r = 1) : narrow .boolean (.int r) = .int r := by
  rcases h with h | h <;> subst h <;> rfl
theorem ar_in (g : Nat → Nat) : ∀ (As : List Vl) (k i : Nat) (v : Vl), As[i]? = some v → (k + i, tv g v) ∈ lv_args k (As.map (tv g))
  | [], k, i, v, h => by simp at h
  | a :: As, k, 0, v, h => by
    simp only [List.getElem?_cons_zero, Option.some.injEq] at h
    subst h
    simp [lv_args]
  | a :: As, k, i + 1, v, h => by
    have h1 := ar_in g As (k + 1) i v (by simpa using h)
    have e : k + 1 + i = k + (i + 1) := by omega
    rw [e] at h1
    simp only [List.map_cons, lv_args, tv_cat]
    exact List.mem_cons_of_mem _ (by simpa using h1)
theorem sl_len (g : Nat → Nat) : ∀ (As : List Vl), (lg_sl (As.map (tv g))).length = As.length
  | [] => rfl
  | a :: As => by
    have := sl_len g As
    simp only [lg_sl, List.map_cons, List.flatMap_cons, tv_cat] at this ⊢
    simp only [List.length_append, List.length_cons]
    rw [this]
    simp; omega
theorem en_lv (g : Nat → Nat) (As : List Vl) {nL : Nat} (h : As.length ≤ nL) : lvH g ((lg_sl (As.map (tv g)) ++ List.replicate (nL - (lg_sl (As.map (tv g))).length) Slot.unset).toArray) nL (As.map some ++ List.replicate (nL - As.length) none) := by
  have hl := lv_entry (As.map (tv g)) (n := nL) (by rw [sl_len]; exact h)
  refine ⟨hl.1, hl.2.1, fun i v hv => ?_⟩
  have hi : As[i]? = some v := by
    by_cases q : i < As.length
    · rw [List.getElem?_append_left (by simpa using q)] at hv
      simpa using hv
    · rw [List.getElem?_append_right (by simpa using q)] at hv
      have := List.mem_of_getElem? hv
      have := List.eq_of_mem_replicate this
      cases this
  have := ar_in g As 0 i v hi
  rw [Nat.zero_add] at this
  exact hl.2.2 _ this
theorem ct_I {sh : Sh} {y : MethodName} {cc : ByteArray} {nL : Nat} {rm : Room} {As : List Vl} {u : St} {r : Int32} {u' : St} (hpl : plainName y.cls = true) (hlen : As.length ≤ nL) (hw : ∀ (K : Kx) (E : Ex), Ok sh K E y.cls cc nL rm → RetI sh K E cc nL r u' → Vd sh K E nL 0 (As.map some ++ List.replicate (nL - As.length) none) [] u) : CtI sh y cc nL (some .int) rm As u r u' := by
  intro l g dC dI cA sz
  refine Met.ofW (cc := cc) (maxL := nL) (ret := some .int) hpl rfl ?_
  intro p e s m args below meth c s₁ B hml hv
  obtain ⟨rfl, hsz, hP, hK, hD0, hn⟩ := hv
  have hts := atoms_spec (ws := Cond.code y cc nL (some .int) :: gtbl) B.pre
  have hown : s.vm.findClass y.cls = some m.cls := findClass_of_methodNamed B.named
  subst hsz
  have hD := hD0.self (sz := s.heap.size)
  have hA : ∀ q : Nat, s.heap.size ≤ q → va_A (wld sh g cA u) s.heap.size q := fun q h => Or.inr h
  rw [lg_entry_eq]
  refine hw (p, l, e, _, s, m, _, below, meth, c, _) (g, dC, dI, cA, va_A (wld sh g cA u) s.heap.size) ⟨B.exec, B.bytes, hml, hown, fun w h => hts w (List.mem_cons_of_mem _ h), hn, hK, hA, rfl⟩ ?_ s.heap [] _ hP hD va_S.rf (en_lv g As hlen)
  intro pc L hd H locs ls hP hD hS hl
  exact W.iret (v := r) B.exec B.bytes B.returns (fun t ht hW => ⟨⟨r, (), rfl, rfl, by show va_P _ _ _ t.heap; rw [ht]; exact hP⟩, hS.F ht⟩) hS.2.2 hd
theorem ct_Z {sh : Sh} {y : MethodName} {cc : ByteArray} {nL : Nat} {rm : Room} {As : List Vl} {u : St} {r : Int32} {u' : St} (hpl : plainName y.cls = true) (hlen : As.length ≤ nL) (hw : ∀ (K : Kx) (E : Ex), Ok sh K E y.cls cc nL rm → RetZ sh K E cc nL r u' → Vd sh K E nL 0 (As.map some ++ List.replicate (nL - As.length) none) [] u) : CtI sh y cc nL (some .boolean) rm As u r u' := by
  intro l g dC dI cA sz
  refine Met.ofW (cc := cc) (maxL := nL) (ret := some .boolean) hpl rfl ?_
  intro p e s m args below meth c s₁ B hml hv
  obtain ⟨rfl, hsz, hP, hK, hD0, hn⟩ := hv
  have hts := atoms_spec (ws := Cond.code y cc nL (some .boolean) :: gtbl) B.pre
  have hown : s.vm.findClass y.cls = some m.cls := findClass_of_methodNamed B.named
  subst hsz
  have hD := hD0.self (sz := s.heap.size)
  have hA : ∀ q : Nat, s.heap.size ≤ q → va_A (wld sh g cA u) s.heap.size q := fun q h => Or.inr h
  rw [lg_entry_eq]
  refine hw (p, l, e, _, s, m, _, below, meth, c, _) (g, dC, dI, cA, va_A (wld sh g cA u) s.heap.size) ⟨B.exec, B.bytes, hml, hown, fun w h => hts w (List.mem_cons_of_mem _ h), hn, hK, hA, rfl⟩ ?_ s.heap [] _ hP hD va_S.rf (en_lv g As hlen)
  intro pc L hd hz H locs ls hP hD hS hl
  exact W.zret (v := r) (ty := .boolean) B.exec B.bytes B.returns hz (fun t ht hW => ⟨⟨r, (), rfl, rfl, by show va_P _ _ _ t.heap; rw [ht]; exact hP⟩, hS.F ht⟩) hS.2.2 hd
theorem ct_V {sh : Sh} {y : MethodName} {cc : ByteArray} {nL : Nat} {rm : Room} {As : List Vl} {u : St} {u' : St} (hpl : plainName y.cls = true) (hlen : As.length ≤ nL) (hw : ∀ (K : Kx) (E : Ex), Ok sh K E y.cls cc nL rm → RetV sh K E cc nL u' → Vd sh K E nL 0 (As.map some ++ List.replicate (nL - As.length) none) [] u) : CtV sh y cc nL none rm As u u' := by
  intro l g dC dI cA sz
  refine Met.ofW (cc := cc) (maxL := nL) (ret := none) hpl rfl ?_
  intro p e s m args below meth c s₁ B hml hv
  obtain ⟨rfl, hsz, hP, hK, hD0, hn⟩ := hv
  have hts := atoms_spec (ws := Cond.code y cc nL none :: gtbl) B.pre
  have hown : s.vm.findClass y.cls = some m.cls := findClass_of_methodNamed B.named
  subst hsz
  have hD := hD0.self (sz := s.heap.size)
  have hA : ∀ q : Nat, s.heap.size ≤ q → va_A (wld sh g cA u) s.heap.size q := fun q h => Or.inr h
  rw [lg_entry_eq]
  refine hw (p, l, e, _, s, m, _, below, meth, c, _) (g, dC, dI, cA, va_A (wld sh g cA u) s.heap.size) ⟨B.exec, B.bytes, hml, hown, fun w h => hts w (List.mem_cons_of_mem _ h), hn, hK, hA, rfl⟩ ?_ s.heap [] _ hP hD va_S.rf (en_lv g As hlen)
  intro pc L hd H locs ls hP hD hS hl
  exact W.vret B.exec B.bytes B.returns (fun t ht hW => ⟨⟨(), rfl, trivial, by show va_P _ _ _ t.heap; rw [ht]; exact hP⟩, hS.F ht⟩) hS.2.2 hd
theorem good_in {ws : List Cond} (h : ∀ w ∈ ws, w ∈ gtbl) : GoodIn gtbl ws := fun w hw => ⟨h w hw, good_of_word (List.mem_filter.mp (h w hw)).2⟩
theorem st_sum (g : Nat → Nat) : ∀ st : List Vl, ((st.map (tv g)).map fun v => v.category).sum = st.length
  | [] => rfl
  | a :: st => by simp only [List.map_cons, List.sum_cons, tv_cat, List.length_cons, st_sum g st]; omega
theorem pc_blind (sh : Sh) (g : Nat → Nat) (dC : Nat → ClassId) (dI : Nat → Nat → Nat) (cA : Nat → ClassId) (u : St) (sz : Nat) (av : List Value) : FrameBlind (va_Pc av (PcB sh g dC dI cA u sz)) := by
  intro a U gf mk q
  obtain ⟨q0, q1, q2, q3, q4, q5⟩ := q
  exact ⟨q0, q1, q2, va_K.moved (u := U) (U := U.calling gf mk a) (Vm.Alike.refl U.vm) q3, q4, nst_same (s := U) (U := U.calling gf mk a) rfl q5⟩
theorem pc_at {sh : Sh} {g : Nat → Nat} {dC : Nat → ClassId} {dI : Nat → Nat → Nat} {cA : Nat → ClassId} {u : St} {A : Nat → Prop} {s : State} {H : Heap} (hP : va_P (dC, dI) vwCl (wld sh g cA u) H) (hK : va_K (dC, dI) vwCl (tys sh cA) s) (hD : va_D A (wld sh g cA u)) (hn : ∀ w ∈ nst, va_Nw w s) (U : State) (hU : U.heap = H) (hW : s.WarmedH U.vm) : PcB sh g dC dI cA u H.size U := ⟨by rw [hU], by rw [hU]; exact hP, va_K.moved hW.alike hK, hD.weaken (fun _ _ _ _ => trivial), nst_moves hW hn⟩
theorem va_ok {sh : Sh} {g : Nat → Nat} {cA : Nat → ClassId} {u : St} {A : Nat → Prop} {H0 H : Heap} {locs : List Loc} (hD : va_D A (wld sh g cA u)) (hS : va_S A H0 H locs) (hA : ∀ q, H0.size ≤ q → A q) (q : Nat) (h : va_A (wld sh g cA u) H.size q) : A q := by
  rcases h with ⟨k, e, h⟩ | h
  · exact hD.2 k _ h
  · exact hA q (Nat.le_trans hS.1 h)
section RC
variable {sh : Sh} {K : Kx} {E : Ex} {own : String} {cc : ByteArray} {nL pc : Nat} {rm : Room} {L : List (Option Vl)} {st : List Vl} {u : St}
variable {y : MethodName} {bytes : ByteArray} {maxL : Nat} {ret : Option FieldType} {rm2 : Room} {idx : Nat} {r : Int32} {u' : St}
theorem r_cVi (h : Ok sh K E own cc nL rm) {k ci : Nat} {fl : List (Option Nat)} {q : vw_C} (As : List Vl) (hc : CalV y bytes maxL ret As.length) (hl : Cond.methodLink own idx y ∈ gtbl) (hM : CtI sh y bytes maxL ret rm2 (.inr k :: As) u r u') (hR : rm2.cells = 0 ∧ rm2.slots = 0 ∧ rm2.frames + 1 ≤ rm.frames ∧ 8 + (maxL + 11) + rm2.locals ≤ rm.locals) (hs : sh[k]? = some (.inl (ci, fl))) (hq : vwCl[ci]? = some q) (hqc : q.1 = y.cls) (hst : st.length ≤ 8) (hd : decode cc pc = .ok (.invokevirtual idx, 3)) (kk : Vd sh K E nL (pc + 3) L (.inl r :: st) u') : Vd sh K E nL pc L (As.reverse ++ .inr k :: st) u := by
  obtain ⟨p, l, e, R, s, m, args, below, meth, c, Q⟩ := K
  obtain ⟨g, dC, dI, cA, A⟩ := E
  intro H locs ls hP hD hS hls
  obtain ⟨hx, hb, hml, hown, hts, hn, hK, hA, hRm⟩ := h
  obtain ⟨c1, c2, c3, c4, c5⟩ := hc
  obtain ⟨f1, f2, f3, f4⟩ := hR
  subst hRm
  have hG : GoodIn gtbl (wsV own idx y.cls y (Cond.code y bytes maxL ret :: gtbl)) := good_in (fun w hw => by
    simp only [wsV, List.cons_append, List.nil_append, List.mem_cons] at hw
    rcases hw with rfl | rfl | rfl | rfl | rfl | hw
    · exact hl
    · exact c2
    · exact c3
    · exact c4
    · exact c1
    · exact hw)
  have hrv := va_recv hK hP hq (wld_get hs)
  rw [hqc] at hrv
  refine va_calli (va_runV (C := y.cls) (b := g k) (As := As.map (tv g)) (rest := st.map (tv g)) ⟨hx, hb, hml, hown, hts⟩ (hM l g dC dI cA H.size) (cwV As.length hts hG rfl f1 f2 ⟨rfl, c5⟩ ⟨f3, f4⟩) ⟨pc_blind sh g dC dI cA u H.size _, hrv, fun U hU hW => ⟨rfl, pc_at hP hK hD hn U hU hW⟩⟩ rfl (by simp) hls.1 (by simp [F0, List.map_append, List.map_reverse, tv]) (lv_room (by rw [st_sum]; exact hst)) hd ⟨Nat.zero_le _, Nat.zero_le _⟩) hS (fun q _ h => va_ok hD hS hA q h) (fun q h => va_ok hD hS hA q h) (fun r' _ t H1 locs1 ht hvm hw hB hz1 hk1 hS1 => ?_)
  subst hw
  subst ht
  exact kk _ locs1 ls hB (wld_D hD) hS1 hls
theorem r_cVv (h : Ok sh K E own cc nL rm) {k ci : Nat} {fl : List (Option Nat)} {q : vw_C} (As : List Vl) (hc : CalV y bytes maxL ret As.length) (hl : Cond.methodLink own idx y ∈ gtbl) (hM : CtV sh y bytes maxL ret rm2 (.inr k :: As) u u') (hR : rm2.cells = 0 ∧ rm2.slots = 0 ∧ rm2.frames + 1 ≤ rm.frames ∧ 8 + (maxL + 11) + rm2.locals ≤ rm.locals) (hs : sh[k]? = some (.inl (ci, fl))) (hq : vwCl[ci]? = some q) (hqc : q.1 = y.cls) (hst : st.length ≤ 8) (hd : decode cc pc = .ok (.invokevirtual idx, 3)) (kk : Vd sh K E nL (pc + 3) L st u') : Vd sh K E nL pc L (As.reverse ++ .inr k :: st) u := by
  obtain ⟨p, l, e, R, s, m, args, below, meth, c, Q⟩ := K
  obtain ⟨g, dC, dI, cA, A⟩ := E
  intro H locs ls hP hD hS hls
  obtain ⟨hx, hb, hml, hown, hts, hn, hK, hA, hRm⟩ := h
  obtain ⟨c1, c2, c3, c4, c5⟩ := hc
  obtain ⟨f1, f2, f3, f4⟩ := hR
  subst hRm
  have hG : GoodIn gtbl (wsV own idx y.cls y (Cond.code y bytes maxL ret :: gtbl)) := good_in (fun w hw => by
    simp only [wsV, List.cons_append, List.nil_append, List.mem_cons] at hw
    rcases hw with rfl | rfl | rfl | rfl | rfl | hw
    · exact hl
    · exact c2
    · exact c3
    · exact c4
    · exact c1
    · exact hw)
  have hrv := va_recv hK hP hq (wld_get hs)
  rw [hqc] at hrv
  refine va_callv (va_runV (C := y.cls) (b := g k) (As := As.map (tv g)) (rest := st.map (tv g)) ⟨hx, hb, hml, hown, hts⟩ (hM l g dC dI cA H.size) (cwV As.length hts hG rfl f1 f2 ⟨rfl, c5⟩ ⟨f3, f4⟩) ⟨pc_blind sh g dC dI cA u H.size _, hrv, fun U hU hW => ⟨rfl, pc_at hP hK hD hn U hU hW⟩⟩ rfl (by simp) hls.1 (by simp [F0, List.map_append, List.map_reverse, tv]) (lv_room (by rw [st_sum]; exact hst)) hd ⟨Nat.zero_le _, Nat.zero_le _⟩) hS (fun q _ h => va_ok hD hS hA q h) (fun q h => va_ok hD hS hA q h) (fun _ t H1 locs1 ht hvm hw hB hz1 hk1 hS1 => ?_)
  subst ht
  exact kk _ locs1 ls hB (wld_D hD) hS1 hls
theorem r_cSi (h : Ok sh K E own cc nL rm) (As : List Vl) (hc : CalS y bytes maxL ret As.length) (hl : Cond.methodLink own idx y ∈ gtbl) (hM : CtI sh y bytes maxL ret rm2 As u r u') (hR : rm2.cells = 0 ∧ rm2.slots = 0 ∧ rm2.frames + 1 ≤ rm.frames ∧ 8 + (maxL + 11) + rm2.locals ≤ rm.locals) (hst : st.length ≤ 8) (hd : decode cc pc = .ok (.invokestatic idx, 3)) (kk : Vd sh K E nL (pc + 3) L (.inl r :: st) u') : Vd sh K E nL pc L (As.reverse ++ st) u := by
  obtain ⟨p, l, e, R, s, m, args, below, meth, c, Q⟩ := K
  obtain ⟨g, dC, dI, cA, A⟩ := E
  intro H locs ls hP hD hS hls
  obtain ⟨hx, hb, hml, hown, hts, hn, hK, hA, hRm⟩ := h
  obtain ⟨c1, c2, c3, c4⟩ := hc
  obtain ⟨f1, f2, f3, f4⟩ := hR
  subst hRm
  have hG : GoodIn gtbl (va_wsS own idx y (Cond.code y bytes maxL ret :: gtbl)) := good_in (fun w hw => by
    simp only [va_wsS, List.cons_append, List.nil_append, List.mem_cons] at hw
    rcases hw with rfl | rfl | rfl | rfl | hw
    · exact hl
    · exact c2
    · exact c3
    · exact c1
    · exact hw)
  refine va_calli (va_runS (As := As.map (tv g)) (rest := st.map (tv g)) ⟨hx, hb, hml, hown, hts⟩ (hM l g dC dI cA H.size) (va_cwS As.length hts hG rfl f1 f2 c4 ⟨f3, f4⟩) ⟨pc_blind sh g dC dI cA u H.size _, fun U hU hW => ⟨rfl, pc_at hP hK hD hn U hU hW⟩⟩ rfl (by simp) hls.1 (by simp [F0, List.map_append, List.map_reverse, tv]) (lv_room (by rw [st_sum]; exact hst)) hd ⟨Nat.zero_le _, Nat.zero_le _⟩) hS (fun q _ h => va_ok hD hS hA q h) (fun q h => va_ok hD hS hA q h) (fun r' _ t H1 locs1 ht hvm hw hB hz1 hk1 hS1 => ?_)
  subst hw
  subst ht
  exact kk _ locs1 ls hB (wld_D hD) hS1 hls
theorem r_cSv (h : Ok sh K E own cc nL rm) (As : List Vl) (hc : CalS y bytes maxL ret As.length) (hl : Cond.methodLink own idx y ∈ gtbl) (hM : CtV sh y bytes maxL ret rm2 As u u') (hR : rm2.cells = 0 ∧ rm2.slots = 0 ∧ rm2.frames + 1 ≤ rm.frames ∧ 8 + (maxL + 11) + rm2.locals ≤ rm.locals) (hst : st.length ≤ 8) (hd : decode cc pc = .ok (.invokestatic idx, 3)) (kk : Vd sh K E nL (pc + 3) L st u') : Vd sh K E nL pc L (As.reverse ++ st) u := by
  obtain ⟨p, l, e, R, s, m, args, below, meth, c, Q⟩ := K
  obtain ⟨g, dC, dI, cA, A⟩ := E
  intro H locs ls hP hD hS hls
  obtain ⟨hx, hb, hml, hown, hts, hn, hK, hA, hRm⟩ := h
  obtain ⟨c1, c2, c3, c4⟩ := hc
  obtain ⟨f1, f2, f3, f4⟩ := hR
  subst hRm
  have hG : GoodIn gtbl (va_wsS own idx y (Cond.code y bytes maxL ret :: gtbl)) := good_in (fun w hw => by
    simp only [va_wsS, List.cons_append, List.nil_append, List.mem_cons] at hw
    rcases hw with rfl | rfl | rfl | rfl | hw
    · exact hl
    · exact c2
    · exact c3
    · exact c1
    · exact hw)
  refine va_callv (va_runS (As := As.map (tv g)) (rest := st.map (tv g)) ⟨hx, hb, hml, hown, hts⟩ (hM l g dC dI cA H.size) (va_cwS As.length hts hG rfl f1 f2 c4 ⟨f3, f4⟩) ⟨pc_blind sh g dC dI cA u H.size _, fun U hU hW => ⟨rfl, pc_at hP hK hD hn U hU hW⟩⟩ rfl (by simp) hls.1 (by simp [F0, List.map_append, List.map_reverse, tv]) (lv_room (by rw [st_sum]; exact hst)) hd ⟨Nat.zero_le _, Nat.zero_le _⟩) hS (fun q _ h => va_ok hD hS hA q h) (fun q h => va_ok hD hS hA q h) (fun _ t H1 locs1 ht hvm hw hB hz1 hk1 hS1 => ?_)
  subst ht
  exact kk _ locs1 ls hB (wld_D hD) hS1 hls
theorem r_cNi (h : Ok sh K E own cc nL rm) {host : String} (As : List Vl) (hc : CalS y bytes maxL ret As.length) (hl : Cond.methodLinkNest own idx y host ∈ nst) (hM : CtI sh y bytes maxL ret rm2 As u r u') (hR : rm2.cells = 0 ∧ rm2.slots = 0 ∧ rm2.frames + 1 ≤ rm.frames ∧ 8 + (maxL + 11) + rm2.locals ≤ rm.locals) (hst : st.length ≤ 8) (hd : decode cc pc = .ok (.invokestatic idx, 3)) (kk : Vd sh K E nL (pc + 3) L (.inl r :: st) u') : Vd sh K E nL pc L (As.reverse ++ st) u := by
  obtain ⟨p, l, e, R, s, m, args, below, meth, c, Q⟩ := K
  obtain ⟨g, dC, dI, cA, A⟩ := E
  intro H locs ls hP hD hS hls
  obtain ⟨hx, hb, hml, hown, hts, hn, hK, hA, hRm⟩ := h
  obtain ⟨c1, c2, c3, c4⟩ := hc
  obtain ⟨f1, f2, f3, f4⟩ := hR
  subst hRm
  have hG : GoodIn gtbl (Cond.code y bytes maxL ret :: gtbl) := good_in (fun w hw => by
    rcases List.mem_cons.mp hw with rfl | hw
    · exact c1
    · exact hw)
  refine va_calli (va_runSN (host := host) (As := As.map (tv g)) (rest := st.map (tv g)) ⟨hx, hb, hml, hown, hts⟩ (hM l g dC dI cA H.size) ⟨va_cnB As.length hts hG rfl f1 f2 (hn _ hl) (hts _ c3) c4 ⟨f3, f4⟩, hts _ c2, trivial⟩ ⟨pc_blind sh g dC dI cA u H.size _, fun U hU hW => ⟨rfl, pc_at hP hK hD hn U hU hW⟩⟩ rfl (by simp) hls.1 (by simp [F0, List.map_append, List.map_reverse, tv]) (lv_room (by rw [st_sum]; exact hst)) hd ⟨Nat.zero_le _, Nat.zero_le _⟩) hS (fun q _ h => va_ok hD hS hA q h) (fun q h => va_ok hD hS hA q h) (fun r' _ t H1 locs1 ht hvm hw hB hz1 hk1 hS1 => ?_)
  subst hw
  subst ht
  exact kk _ locs1 ls hB (wld_D hD) hS1 hls
end RC
/-! ===== reading what a pure run says ===== -/
theorem p_ite {α : Type} {c : Prop} [Decidable c] {X Y : Option α} {r : α} {P : Prop} (h : (if c then X else Y) = some r) (k1 : c → X = some r → P) (k2 : ¬ c → Y = some r → P) : P := by
  by_cases hc : c
  · rw [if_pos hc] at h; exact k1 hc h
  · rw [if_neg hc] at h; exact k2 hc h
theorem p_g {α : Type} {b : Bool} {X : Option α} {r : α} {P : Prop} (h : (if b = true then X else none) = some r) (k : b = true → X = some r → P) : P := p_ite h k (fun _ h => by cases h)
theorem p_gp {α : Type} {c : Prop} [Decidable c] {X : Option α} {r : α} {P : Prop} (h : (if c then X else none) = some r) (k : c → X = some r → P) : P := p_ite h k (fun _ h => by cases h)
theorem p_b {α β : Type} {x : Option β} {f : β → Option α} {r : α} {P : Prop} (h : x.bind f = some r) (k : ∀ a, x = some a → f a = some r → P) : P := by
  cases x with
  | none => cases h
  | some a => exact k a rfl h
theorem p_s {α : Type} {x r : α} {P : Prop} (h : some x = some r) (k : x = r → P) : P := k (Option.some.inj h)
end
